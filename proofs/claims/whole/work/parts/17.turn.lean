/-! to turn, to hold -/
def s_less (a b : Nat) : Bool := decide (s_pc a < s_pc b) || (decide (s_pc a = s_pc b) && decide (a < b))
def s_bst (f : Nat → Nat) (b : Nat) : Nat → Nat
  | 0 => b
  | k + 1 => if s_less (f k) (s_bst f b k) then f k else s_bst f b k
def s_arg (g : Nat → Nat) : Nat → Nat
  | 0 => 0
  | k + 1 => if g k < g (s_arg g k) then k else s_arg g k
theorem s_less_top : ∀ n, n < 11 → ∀ x, x < 2 ^ n → s_less x (2 ^ n - 1) = false → x = 2 ^ n - 1 := by decide +kernel
theorem s_less_irr (a : Nat) : s_less a a = false := by simp [s_less]
theorem s_bst_lt {f : Nat → Nat} {b N : Nat} (hb : b < N) (hf : ∀ k, f k < N) : ∀ k, s_bst f b k < N
  | 0 => hb
  | k + 1 => by
    unfold s_bst
    by_cases h : s_less (f k) (s_bst f b k) = true
    · rw [if_pos h]; exact hf k
    · rw [if_neg h]; exact s_bst_lt hb hf k
theorem s_bst_start {f : Nat → Nat} {n : Nat} (hn : n < 11) (hf : ∀ k, f k < 2 ^ n) : ∀ k, s_bst f (2 ^ n - 1) (k + 1) = s_bst f (f 0) (k + 1)
  | 0 => by
    show (if s_less (f 0) (2 ^ n - 1) then f 0 else 2 ^ n - 1) = if s_less (f 0) (f 0) then f 0 else f 0
    by_cases h : s_less (f 0) (2 ^ n - 1) = true
    · rw [if_pos h]; simp
    · rw [if_neg h]
      have := s_less_top n hn (f 0) (hf 0) (by simpa using h)
      rw [this]; simp
  | k + 1 => by
    have ih := s_bst_start hn hf k
    show (if s_less (f (k + 1)) (s_bst f (2 ^ n - 1) (k + 1)) then f (k + 1) else s_bst f (2 ^ n - 1) (k + 1)) = if s_less (f (k + 1)) (s_bst f (f 0) (k + 1)) then f (k + 1) else s_bst f (f 0) (k + 1)
    rw [ih]
theorem s_arg_lt (g : Nat → Nat) : ∀ k, s_arg g (k + 1) ≤ k
  | 0 => by simp [s_arg]
  | k + 1 => by
    have ih := s_arg_lt g k
    show (if g (k + 1) < g (s_arg g (k + 1)) then k + 1 else s_arg g (k + 1)) ≤ k + 1
    by_cases h : g (k + 1) < g (s_arg g (k + 1))
    · rw [if_pos h]; exact Nat.le_refl _
    · rw [if_neg h]; omega
theorem s_pcK_cong {x y : Nat} : ∀ k, (∀ i, i < k → x.testBit i = y.testBit i) → s_pcK x k = s_pcK y k
  | 0, _ => rfl
  | k + 1, h => by
    unfold s_pcK
    rw [s_pcK_cong k (fun i hi => h i (by omega)), h k (by omega)]
theorem s_pc_add {T : TW} (h10 : T.1 ≤ 10) (d : Nat) : s_pc (s_cm T d) + s_pc (s_rl T d) = T.1 := by
  have key : ∀ k, k ≤ 10 → s_pcK (s_cm T d) k + s_pcK (s_rl T d) k = if k ≤ T.1 then k else T.1 := by
    intro k
    induction k with
    | zero => intro _; simp [s_pcK]
    | succ k ih =>
      intro hk
      have ih := ih (by omega)
      unfold s_pcK
      rw [s_cm_bit T h10, s_rl_bit]
      by_cases h1 : k < T.1
      · rw [if_pos (by omega)] at ih
        rw [if_pos (show k + 1 ≤ T.1 by omega)]
        cases hc : s_calm T k d <;> simp [h1] <;> omega
      · rw [if_neg (show ¬ k + 1 ≤ T.1 by omega)]
        simp [h1]
        by_cases h2 : k ≤ T.1
        · rw [if_pos h2] at ih; omega
        · rw [if_neg h2] at ih; omega
  have := key 10 (by omega)
  unfold s_pc
  rw [this]
  by_cases h : 10 ≤ T.1
  · rw [if_pos h]; omega
  · rw [if_neg h]
theorem h_subneg {a b : Nat} (ha : a < 1024) (hb : b < 1024) : (nI a - nI b < 0 ↔ a < b) ∧ (nI a - nI b = 0 ↔ a = b) := by
  have h := pk_sub_toInt (a := a) (b := b) (by omega) (by omega)
  constructor
  · rw [Int32.lt_iff_toInt_lt, h]
    show (a : Int) - b < 0 ↔ _
    omega
  · constructor
    · intro e
      rw [e] at h
      have : (0 : Int) = (a : Int) - b := h
      omega
    · intro e
      subst e
      rw [pk_sub (Nat.le_refl _), Nat.sub_self]
      rfl
theorem s_rl_of_cm {T : TW} (h10 : T.1 ≤ 10) (d : Nat) : (2 ^ T.1 - 1) &&& (1023 ^^^ s_cm T d) = s_rl T d := by
  apply Nat.eq_of_testBit_eq
  intro i
  rw [Nat.testBit_and, Nat.testBit_two_pow_sub_one, Nat.testBit_xor, h_1023, s_cm_bit T h10, s_rl_bit]
  by_cases hi : i < T.1
  · simp [hi, show i < 10 by omega]
  · simp [hi]
section TurnC
variable {E F : ET} {M MX MM : Mem} {T : TW} {P : PW} {v : Nat}
theorem n_ones {x : Nat} (hx : x < 1024) : CX10_ones E [.int (nI x)] M (z_is (some (.int (nI (s_pc x)))) M) := by
  refine EX10_ones (fun X hE hK => ?_)
  refine h_down (P := fun i => LX10_ones_4 X (z_is (some (.int (nI (s_pc x)))) M) (nI x) (nI (s_pcK x i)) (nI i) M) 10 ?_ ?_
  · exact BX10_ones_4 hK ⟨fun _ => zi rfl, fun c => absurd (h_le (a := 10) (b := 10) (by decide) (Nat.le_refl _)) c⟩
  · intro i hi ih
    refine BX10_ones_4 hK ⟨fun c => absurd c (h_nle (b := 10) (by decide) hi), fun _ => ?_⟩
    rw [h_bit (by omega) (by omega), nI_1]
    have e : nI (s_pcK x i) + s_bit (x.testBit i) = nI (s_pcK x (i + 1)) := by
      show _ = nI (s_pcK x i + (if x.testBit i then 1 else 0))
      cases hb : x.testBit i with
      | true => exact nI_add _ _
      | false => exact Int32.add_zero _
    rw [e]; exact ih
theorem c_fewest (hX : InvX M T P v) : CX3_fewestRestless E [.ref (E.2.1 3)] M (z_pI (fun r M1 => r = nI (s_bst (s_rl T) (2 ^ T.1 - 1) (2 ^ T.1)) ∧ InvX M1 T P v)) := by
  have hR := hX.1
  have h10 := hR.2.1.2
  have hp2 := hR.p2
  have hpos := Nat.two_pow_pos T.1
  have e0 : s_bst (s_rl T) (2 ^ T.1 - 1) (2 ^ T.1) = s_bst (s_rl T) (s_rl T 0) (2 ^ T.1) := by
    rw [show 2 ^ T.1 = (2 ^ T.1 - 1) + 1 by omega]
    have := s_bst_start (f := s_rl T) (n := T.1) (by omega) (fun k => s_rl_lt T k) (2 ^ T.1 - 1)
    exact this
  rw [e0]
  refine EX3_fewestRestless (fun X hE hK => ⟨_, c_restless hR hX.2.2.1, fun M1 hq => ⟨_, c_dresses (hq.1.rep hR), h_inK (a := 0) (by decide), ?_⟩⟩)
  have hI := hX.fr hq.1 hq.2.1 hq.2.2
  have es : M1.1 24 (0 : Int32).toNatClampNeg = nI (s_bst (s_rl T) (s_rl T 0) 1) := by
    show M1.1 24 0 = nI (if s_less (s_rl T 0) (s_rl T 0) then s_rl T 0 else s_rl T 0)
    rw [hq.2.2 0 hpos]; simp
  rw [es]
  have hl : ∀ k, s_bst (s_rl T) (s_rl T 0) k < 2 ^ T.1 := s_bst_lt (s_rl_lt T 0) (fun k => s_rl_lt T k)
  refine h_downF (P := fun i => LX3_fewestRestless_23 X (z_pI (fun r M1 => r = nI (s_bst (s_rl T) (s_rl T 0) (2 ^ T.1)) ∧ InvX M1 T P v)) (nI (2 ^ T.1)) (nI (s_bst (s_rl T) (s_rl T 0) i)) (nI i) M1) 1 (2 ^ T.1) hpos ?_ ?_
  · exact BX3_fewestRestless_23 hK ⟨fun _ => okX0 hI, fun c => absurd (h_le (by omega) (Nat.le_refl _)) c⟩
  · intro i _ hi ih
    have hi1 := hl i
    have hr := s_rl_lt T i
    have p1 := s_pc_le (s_rl T i)
    have p2 := s_pc_le (s_bst (s_rl T) (s_rl T 0) i)
    have ih' : LX3_fewestRestless_23 X (z_pI (fun r M1 => r = nI (s_bst (s_rl T) (s_rl T 0) (2 ^ T.1)) ∧ InvX M1 T P v)) (nI (2 ^ T.1)) (nI (if s_less (s_rl T i) (s_bst (s_rl T) (s_rl T 0) i) then s_rl T i else s_bst (s_rl T) (s_rl T 0) i)) (nI (i + 1)) M1 := ih
    have sn := h_subneg (a := s_pc (s_rl T i)) (b := s_pc (s_bst (s_rl T) (s_rl T 0) i)) (by omega) (by omega)
    refine BX3_fewestRestless_23 hK ⟨fun c => absurd c (h_nle (by omega) hi), fun _ => ⟨h_inK (by omega), ?_⟩⟩
    rw [h_clK (by omega), hq.2.2 i hi, nI_1]
    refine ⟨_, c_bitCount (by omega), _, c_bitCount (by omega), ?_⟩
    rw [sn.1, sn.2, nI_leI (by omega) (by omega)]
    refine ⟨fun c => ⟨h_inK (by omega), ?_⟩, fun c => ⟨fun c2 => ?_, fun c2 => ⟨h_inK (by omega), fun c3 => ?_, fun c3 => ⟨h_inK (by omega), ?_⟩⟩⟩⟩
    · rw [if_pos (by simp [s_less, c])] at ih'; exact ih'
    · rw [if_neg (by simp [s_less, c, c2])] at ih'; exact ih'
    · rw [if_neg (by simp [s_less, c2]; omega)] at ih'; exact ih'
    · rw [if_pos (by simp [s_less, c2]; omega)] at ih'; exact ih'
theorem n_turned (h : RepM M T) (hw : s_WF T) (h3 : ∀ p, p < T.1 → T.2.2.1 p ≠ 3) : CX10_turnedNow E [.ref (E.2.1 0)] M (z_is (some (.int (nI (s_bst (s_rl T) (2 ^ T.1 - 1) (2 ^ T.1))))) M) := by
  have h10 := hw.1.2
  have hp2 : 2 ^ T.1 ≤ 1024 := Nat.pow_le_pow_right (n := 2) (by decide) h10
  have hpos := Nat.two_pow_pos T.1
  have hl : ∀ k, s_bst (s_rl T) (2 ^ T.1 - 1) k < 2 ^ T.1 := s_bst_lt (by omega) (fun k => s_rl_lt T k)
  refine EX10_turnedNow (fun X hE hK => ?_)
  refine h_down (P := fun i => LX10_turnedNow_2 X (z_is (some (.int (nI (s_bst (s_rl T) (2 ^ T.1 - 1) (2 ^ T.1))))) M) (nI i) M) T.1 ?_ ?_
  · refine BX10_turnedNow_2 hK ⟨fun _ => ⟨_, n_all h hw, ?_⟩, fun c => absurd (by rw [h.1]; exact h_le (by omega) (Nat.le_refl _)) c⟩
    refine h_down (P := fun i => LX10_turnedNow_36 X (z_is (some (.int (nI (s_bst (s_rl T) (2 ^ T.1 - 1) (2 ^ T.1))))) M) (nI (s_bst (s_rl T) (2 ^ T.1 - 1) i)) (nI i) M) (2 ^ T.1) ?_ ?_
    · exact BX10_turnedNow_36 hK ⟨_, n_all h hw, fun _ => zi rfl, fun c => absurd (nI_lt (by omega) (by omega)) c⟩
    · intro i hi ih
      have hi1 := hl i
      have hr := s_rl_lt T i
      have hcm := s_cm_lt T i
      have p1 := s_pc_le (s_rl T i)
      have p2 := s_pc_le (s_bst (s_rl T) (2 ^ T.1 - 1) i)
      have ih' : LX10_turnedNow_36 X (z_is (some (.int (nI (s_bst (s_rl T) (2 ^ T.1 - 1) (2 ^ T.1))))) M) (nI (if s_less (s_rl T i) (s_bst (s_rl T) (2 ^ T.1 - 1) i) then s_rl T i else s_bst (s_rl T) (2 ^ T.1 - 1) i)) (nI (i + 1)) M := ih
      refine BX10_turnedNow_36 hK ⟨_, n_all h hw, fun c => absurd c (nI_nlt (by omega) (by omega)), fun _ => ⟨_, n_all h hw, _, n_calmOf h hw (by omega), ?_⟩⟩
      rw [h_andnot (by omega) (by omega), s_rl_of_cm h10, nI_1]
      refine ⟨_, n_ones (by omega), _, n_ones (by omega), fun c => ?_, fun c => ⟨_, n_ones (by omega), _, n_ones (by omega), fun c2 => ?_, fun c2 => ⟨fun c3 => ?_, fun c3 => ?_⟩⟩⟩
      · rw [nI_ltI (by omega) (by omega)] at c
        rw [if_pos (by simp [s_less, c])] at ih'; exact ih'
      · rw [nI_ltI (by omega) (by omega)] at c
        rw [nI_eq (by omega) (by omega)] at c2
        rw [if_neg (by simp [s_less, c, c2])] at ih'; exact ih'
      · rw [nI_eq (by omega) (by omega)] at c2
        rw [nI_leI (by omega) (by omega)] at c3
        rw [if_neg (by simp [s_less, c2]; omega)] at ih'; exact ih'
      · rw [nI_eq (by omega) (by omega)] at c2
        rw [nI_leI (by omega) (by omega)] at c3
        rw [if_pos (by simp [s_less, c2]; omega)] at ih'; exact ih'
  · intro i hi ih
    have hi10 : i < 10 := by omega
    refine BX10_turnedNow_2 hK ⟨fun c => absurd c (by rw [h.1]; exact h_nle (by omega) hi), fun _ => ⟨h_in10 hi10, ?_⟩⟩
    rw [h_cl10 hi10, h.2.2.1 i hi10, nI_1]
    exact ⟨fun _ => ih, fun c => absurd c (h3 i hi)⟩
theorem n_turned3 (h : RepM M T) (hw : s_WF T) (h3 : ∃ p, p < T.1 ∧ T.2.2.1 p = 3) : CX10_turnedNow E [.ref (E.2.1 0)] M (z_is (some (.int (-9))) M) := by
  have h10 := hw.1.2
  obtain ⟨p, ⟨hp, hp3⟩, hmin⟩ := pk_least (fun p => p < T.1 ∧ T.2.2.1 p = 3) h3
  refine EX10_turnedNow (fun X hE hK => ?_)
  refine h_down (P := fun i => LX10_turnedNow_2 X (z_is (some (.int (-9))) M) (nI i) M) p ?_ ?_
  · have hp10 : p < 10 := by omega
    refine BX10_turnedNow_2 hK ⟨fun c => absurd c (by rw [h.1]; exact h_nle (by omega) hp), fun _ => ⟨h_in10 hp10, ?_⟩⟩
    rw [h_cl10 hp10, h.2.2.1 p hp10]
    exact ⟨fun c => absurd hp3 c, fun _ => zi rfl⟩
  · intro i hi ih
    have hi10 : i < 10 := by omega
    refine BX10_turnedNow_2 hK ⟨fun c => absurd c (by rw [h.1]; exact h_nle (by omega) (by omega)), fun _ => ⟨h_in10 hi10, ?_⟩⟩
    rw [h_cl10 hi10, h.2.2.1 i hi10, nI_1]
    exact ⟨fun _ => ih, fun c => absurd ⟨by omega, c⟩ (hmin i hi)⟩
theorem s_ct_zero {f : Nat → Bool} : ∀ {n : Nat}, s_ct f n = 0 ↔ ∀ k, k < n → f k = false
  | 0 => ⟨fun _ k hk => absurd hk (Nat.not_lt_zero k), fun _ => rfl⟩
  | n + 1 => by
    have ih := s_ct_zero (f := f) (n := n)
    cases hf : f n with
    | true =>
      rw [s_ct_succ_yes hf]
      refine ⟨fun h => absurd h (Nat.succ_ne_zero _), fun h => ?_⟩
      rw [h n (Nat.lt_succ_self n)] at hf
      exact absurd hf (by decide)
    | false =>
      rw [s_ct_succ_no hf, ih]
      refine ⟨fun h k hk => ?_, fun h k hk => h k (by omega)⟩
      by_cases e : k = n
      · rw [e]; exact hf
      · exact h k (by omega)
theorem s_cnt_pos {f : Nat → Bool} {n : Nat} (hn : n < 1024) : s_cnt f n ≤ 0 ↔ ∀ k, k < n → f k = false := by
  have h1 := s_ct_le f n
  rw [s_cnt_ct, h_lit0, nI_leI (by omega) (by omega), ← s_ct_zero]
  omega
theorem tt_turned (hX : InvX MX T P v) (hM : InvM MM T P) : TopI (CX9_turned E [.ref (E.2.1 9)] MX) (CX10_turned F [.ref (F.2.1 0)] MM) (v + 10) := by
  have hR := hX.1
  have hw := hX.2.1
  have h10 := hR.2.1.2
  by_cases h3 : ∃ p, p < T.1 ∧ T.2.2.1 p = 3
  · refine ⟨-9, T, P, EX9_turned ⟨_, c_countKind hR 3, fun c => ?_, fun _ => okX hX⟩, EX10_turned ⟨_, n_turned3 hM.1 hw h3, okM hM⟩⟩
    rw [s_cnt_pos (by omega)] at c
    obtain ⟨p, hp, hp3⟩ := h3
    exact absurd (c p hp) (by simp [hp3])
  · have h3' : ∀ p, p < T.1 → T.2.2.1 p ≠ 3 := fun p hp e => h3 ⟨p, hp, e⟩
    refine ⟨_, T, P, EX9_turned ⟨_, c_countKind hR 3, fun _ => ⟨_, c_fewest hX, fun r M2 hq => okXr hq.2 (by omega) hq.1⟩, fun c => ?_⟩, EX10_turned ⟨_, n_turned hM.1 hw h3', okM hM⟩⟩
    exact absurd ((s_cnt_pos (by omega)).mpr (fun p hp => by simp [h3' p hp])) c
theorem tt_turn (hX : InvX MX T P v) (hM : InvM MM T P) : TopI (CX9_turn E [.ref (E.2.1 9)] MX) (CX10_turn F [.ref (F.2.1 0)] MM) (v + 10) := by
  have hR := hX.1
  have hw := hX.2.1
  have h10 := hR.2.1.2
  have hp2 := hR.p2
  have hpos := Nat.two_pow_pos T.1
  by_cases h3 : ∃ p, p < T.1 ∧ T.2.2.1 p = 3
  · refine ⟨-9, T, P, EX9_turn ⟨_, c_countKind hR 3, fun c => ?_, fun _ => okX hX⟩, EX10_turn ⟨_, n_turned3 hM.1 hw h3, fun c => absurd rfl c, fun _ => okM hM⟩⟩
    rw [s_cnt_pos (by omega)] at c
    obtain ⟨p, hp, hp3⟩ := h3
    exact absurd (c p hp) (by simp [hp3])
  · have h3' : ∀ p, p < T.1 → T.2.2.1 p ≠ 3 := fun p hp e => h3 ⟨p, hp, e⟩
    have hl : s_bst (s_rl T) (2 ^ T.1 - 1) (2 ^ T.1) < 2 ^ T.1 := s_bst_lt (by omega) (fun k => s_rl_lt T k) _
    refine ⟨nI (s_pc (s_bst (s_rl T) (2 ^ T.1 - 1) (2 ^ T.1))), T, P, EX9_turn ⟨_, c_countKind hR 3, fun _ => ⟨_, c_fewest hX, fun r M2 hq => ?_⟩, fun c => ?_⟩, EX10_turn ⟨_, n_turned hM.1 hw h3', fun _ => ⟨_, n_ones (by omega), okM hM⟩, fun c => ?_⟩⟩
    · rw [hq.1]
      exact ⟨_, c_bitCount (by omega), okXr hq.2 (by omega) rfl⟩
    · exact absurd ((s_cnt_pos (by omega)).mpr (fun p hp => by simp [h3' p hp])) c
    · exact absurd (show (-9 : Int32) < 0 by decide) (by rw [← c]; exact nI_pos (by omega))
theorem c_leastOf (hX : InvX M T P v) : CX3_leastOfFewestRestless E [.ref (E.2.1 3)] M (z_pI (fun r M1 => r = nI (s_arg (fun d => s_pc (s_rl T d)) (2 ^ T.1)) ∧ InvX M1 T P v)) := by
  have hR := hX.1
  have h10 := hR.2.1.2
  have hp2 := hR.p2
  have hpos := Nat.two_pow_pos T.1
  refine EX3_leastOfFewestRestless (fun X hE hK => ⟨_, c_restless hR hX.2.2.1, fun M1 hq => ⟨_, c_dresses (hq.1.rep hR), ?_⟩⟩)
  have hI := hX.fr hq.1 hq.2.1 hq.2.2
  have es : (0 : Int32) = nI (s_arg (fun d => s_pc (s_rl T d)) 1) := by simp [s_arg]; rfl
  rw [es]
  refine h_downF (P := fun i => LX3_leastOfFewestRestless_21 X (z_pI (fun r M1 => r = nI (s_arg (fun d => s_pc (s_rl T d)) (2 ^ T.1)) ∧ InvX M1 T P v)) (nI (2 ^ T.1)) (nI (s_arg (fun d => s_pc (s_rl T d)) i)) (nI i) M1) 1 (2 ^ T.1) hpos ?_ ?_
  · exact BX3_leastOfFewestRestless_21 hK ⟨fun _ => okX0 hI, fun c => absurd (h_le (by omega) (Nat.le_refl _)) c⟩
  · intro i i1 hi ih
    have ha : s_arg (fun d => s_pc (s_rl T d)) i ≤ i - 1 := by
      have := s_arg_lt (fun d => s_pc (s_rl T d)) (i - 1)
      rwa [show i - 1 + 1 = i by omega] at this
    have ih' : LX3_leastOfFewestRestless_21 X (z_pI (fun r M1 => r = nI (s_arg (fun d => s_pc (s_rl T d)) (2 ^ T.1)) ∧ InvX M1 T P v)) (nI (2 ^ T.1)) (nI (if s_pc (s_rl T i) < s_pc (s_rl T (s_arg (fun d => s_pc (s_rl T d)) i)) then i else s_arg (fun d => s_pc (s_rl T d)) i)) (nI (i + 1)) M1 := ih
    generalize s_arg (fun d => s_pc (s_rl T d)) i = a at ha ih' ⊢
    have r1 := s_rl_lt T i
    have r2 := s_rl_lt T a
    have p1 := s_pc_le (s_rl T i)
    have p2 := s_pc_le (s_rl T a)
    refine BX3_leastOfFewestRestless_21 hK ⟨fun c => absurd c (h_nle (by omega) hi), fun _ => ⟨h_inK (by omega), ?_⟩⟩
    rw [h_clK (a := i) (by omega), h_clK (a := a) (by omega), hq.2.2 i hi, hq.2.2 a (by omega), nI_1]
    refine ⟨_, c_bitCount (by omega), h_inK (by omega), _, c_bitCount (by omega), ?_⟩
    rw [nI_leI (by omega) (by omega)]
    refine ⟨fun c => ?_, fun c => ?_⟩
    · rw [if_neg (by omega)] at ih'; exact ih'
    · rw [if_pos (by omega)] at ih'; exact ih'
theorem tt_hold (hX : InvX MX T P v) (hM : InvM MM T P) (x : Int32) : TopI (CX9_hold E [.ref (E.2.1 9), .int x] MX) (CX10_hold F [.ref (F.2.1 0), .int x] MM) (v + 10) := by
  have hR := hX.1
  have hRM := hM.1
  have hw := hX.2.1
  have h10 := hR.2.1.2
  have hp2 := hR.p2
  have hpos := Nat.two_pow_pos T.1
  have hal : s_arg (fun d => s_pc (s_rl T d)) (2 ^ T.1) ≤ 2 ^ T.1 - 1 := by
    have := s_arg_lt (fun d => s_pc (s_rl T d)) (2 ^ T.1 - 1)
    rwa [show 2 ^ T.1 - 1 + 1 = 2 ^ T.1 by omega] at this
  have mod : ∀ res, (x = 0 → nI (s_pc (s_rl T (s_arg (fun d => s_pc (s_rl T d)) (2 ^ T.1)))) = res) → (¬ x = 0 → nI (s_arg (fun d => s_pc (s_rl T d)) (2 ^ T.1)) = res) → CX10_hold F [.ref (F.2.1 0), .int x] MM (z_pI (fun r M1 => r = res ∧ InvM M1 T P)) := by
    intro res e1 e2
    refine EX10_hold (fun X hE hK => ?_)
    have es : (0 : Int32) = nI (s_arg (fun d => s_pc (s_rl T d)) 1) := by simp [s_arg]; rfl
    rw [es]
    refine h_downF (P := fun i => LX10_hold_4 X (z_pI (fun r M1 => r = res ∧ InvM M1 T P)) x (nI (s_arg (fun d => s_pc (s_rl T d)) i)) (nI i) MM) 1 (2 ^ T.1) hpos ?_ ?_
    · refine BX10_hold_4 hK ⟨_, n_all hRM hw, fun _ => ⟨fun c => ?_, fun c => okMr hM (e2 c)⟩, fun c => absurd (nI_lt (by omega) (by omega)) c⟩
      generalize s_arg (fun d => s_pc (s_rl T d)) (2 ^ T.1) = a at hal e1 ⊢
      have hcm := s_cm_lt T a
      have hadd := s_pc_add h10 a
      refine ⟨_, n_calmOf hRM hw (by omega), _, n_ones (by omega), okMr hM ?_⟩
      rw [hRM.1, pk_sub (by omega), ← e1 c]
      exact h_eqN (by omega)
    · intro i i1 hi ih
      have ha : s_arg (fun d => s_pc (s_rl T d)) i ≤ i - 1 := by
        have := s_arg_lt (fun d => s_pc (s_rl T d)) (i - 1)
        rwa [show i - 1 + 1 = i by omega] at this
      have ih' : LX10_hold_4 X (z_pI (fun r M1 => r = res ∧ InvM M1 T P)) x (nI (if s_pc (s_rl T i) < s_pc (s_rl T (s_arg (fun d => s_pc (s_rl T d)) i)) then i else s_arg (fun d => s_pc (s_rl T d)) i)) (nI (i + 1)) MM := ih
      generalize s_arg (fun d => s_pc (s_rl T d)) i = a at ha ih' ⊢
      have c1 := s_cm_lt T i
      have c2 := s_cm_lt T a
      have a1 := s_pc_add h10 i
      have a2 := s_pc_add h10 a
      refine BX10_hold_4 hK ⟨_, n_all hRM hw, fun c => absurd c (nI_nlt (by omega) (by omega)), fun _ => ⟨_, n_calmOf hRM hw (by omega), _, n_ones (by omega), _, n_calmOf hRM hw (by omega), _, n_ones (by omega), ?_⟩⟩
      rw [nI_leI (by omega) (by omega), nI_1]
      refine ⟨fun c => ?_, fun c => ?_⟩
      · rw [if_neg (by omega)] at ih'; exact ih'
      · rw [if_pos (by omega)] at ih'; exact ih'
  by_cases hx : x = 0
  · refine ⟨_, T, P, EX9_hold ⟨_, c_leastOf hX, fun r M1 hq => ⟨fun _ => ?_, fun c => absurd hx c⟩⟩, mod _ (fun _ => rfl) (fun c => absurd hx c)⟩
    rw [hq.1]
    have r1 := s_rl_lt T (s_arg (fun d => s_pc (s_rl T d)) (2 ^ T.1))
    exact ⟨_, c_restlessIn hq.2.1 (by omega), _, c_bitCount (by omega), okXr hq.2 (by omega) rfl⟩
  · exact ⟨_, T, P, EX9_hold ⟨_, c_leastOf hX, fun r M1 hq => ⟨fun c => absurd c hx, fun _ => okXr hq.2 (by omega) hq.1⟩⟩, mod _ (fun c => absurd c hx) (fun _ => rfl)⟩
end TurnC
