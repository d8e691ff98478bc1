/-! counts of bits, rests -/
def s_pcK (x : Nat) : Nat → Nat
  | 0 => 0
  | k + 1 => s_pcK x k + (if x.testBit k then 1 else 0)
def s_pc (x : Nat) : Nat := s_pcK x 10
def h_bc (x0 : Int32) : Int32 :=
  let v1 := x0 - (((x0.toUInt32 >>> ((1 : Int32).toUInt32 &&& Int32.toUInt32 31)).toInt32) &&& (1431655765 : Int32))
  let v2 := (v1 &&& (858993459 : Int32)) + (((v1.toUInt32 >>> ((2 : Int32).toUInt32 &&& Int32.toUInt32 31)).toInt32) &&& (858993459 : Int32))
  let v3 := (v2 + ((v2.toUInt32 >>> ((4 : Int32).toUInt32 &&& Int32.toUInt32 31)).toInt32)) &&& (252645135 : Int32)
  let v4 := v3 + ((v3.toUInt32 >>> ((8 : Int32).toUInt32 &&& Int32.toUInt32 31)).toInt32)
  let v5 := v4 + ((v4.toUInt32 >>> ((16 : Int32).toUInt32 &&& Int32.toUInt32 31)).toInt32)
  v5 &&& (63 : Int32)
theorem h_bc_ok : ∀ x, x < 1024 → h_bc (nI x) = nI (s_pc x) := by decide +kernel
theorem c_bitCount {S : ST} {E : ET} {M : Mem} {x : Nat} (hx : x < 1024) : CJ6_bitCount S E [.int (nI x)] M (z_is (some (.int (nI (s_pc x)))) M) := by
  refine EJ6_bitCount_0f7a4 (fun v1 e1 v2 e2 v3 e3 v4 e4 v5 e5 => zi ?_)
  rw [← h_bc_ok x hx]
  subst e5; subst e4; subst e3; subst e2; subst e1
  rfl
theorem s_pcK_le (x : Nat) : ∀ k, s_pcK x k ≤ k
  | 0 => Nat.le_refl 0
  | k + 1 => by
    have := s_pcK_le x k
    unfold s_pcK
    by_cases h : x.testBit k = true
    · rw [if_pos h]; omega
    · rw [if_neg h]; omega
theorem s_pc_le (x : Nat) : s_pc x ≤ 10 := s_pcK_le x 10
def s_ct (f : Nat → Bool) : Nat → Nat
  | 0 => 0
  | k + 1 => if f k then s_ct f k + 1 else s_ct f k
theorem s_cnt_ct (f : Nat → Bool) : ∀ n, s_cnt f n = nI (s_ct f n)
  | 0 => rfl
  | n + 1 => by
    unfold s_cnt s_ct
    rw [s_cnt_ct f n]
    by_cases h : f n = true
    · rw [if_pos h, if_pos h, nI_1]
    · rw [if_neg h, if_neg h]
theorem s_ct_le (f : Nat → Bool) : ∀ n, s_ct f n ≤ n
  | 0 => Nat.le_refl 0
  | n + 1 => by
    have := s_ct_le f n
    unfold s_ct
    by_cases h : f n = true
    · rw [if_pos h]; omega
    · rw [if_neg h]; omega
theorem s_ct_mono (f : Nat → Bool) (a : Nat) : ∀ k, s_ct f a ≤ s_ct f (a + k)
  | 0 => Nat.le_refl _
  | k + 1 => by
    have := s_ct_mono f a k
    show _ ≤ if f (a + k) then s_ct f (a + k) + 1 else s_ct f (a + k)
    by_cases h : f (a + k) = true
    · rw [if_pos h]; omega
    · rw [if_neg h]; omega
theorem s_ct_mono' {f : Nat → Bool} {a b : Nat} (h : a ≤ b) : s_ct f a ≤ s_ct f b := by
  have := s_ct_mono f a (b - a)
  rwa [show a + (b - a) = b by omega] at this
theorem s_ct_succ_yes {f : Nat → Bool} {k : Nat} (h : f k = true) : s_ct f (k + 1) = s_ct f k + 1 := if_pos h
theorem s_ct_succ_no {f : Nat → Bool} {k : Nat} (h : f k = false) : s_ct f (k + 1) = s_ct f k := if_neg (by rw [h]; decide)
theorem s_ct_none {f : Nat → Bool} {N k : Nat} (h : ∀ d, d < N → f d = true → s_ct f d ≠ k) : ∀ i, i ≤ N → s_ct f i ≤ k
  | 0, _ => Nat.zero_le _
  | i + 1, hi => by
    have ih := s_ct_none h i (by omega)
    cases hf : f i with
    | true =>
      rw [s_ct_succ_yes hf]
      have := h i (by omega) hf
      omega
    | false => rw [s_ct_succ_no hf]; exact ih
def s_rest (T : TW) (d : Nat) : Bool := decide (s_rl T d = 0)
theorem s_cm_rest {T : TW} (h10 : T.1 ≤ 10) {d : Nat} : s_cm T d = 2 ^ T.1 - 1 ↔ s_rl T d = 0 := by
  constructor
  · intro h
    apply Nat.eq_of_testBit_eq
    intro i
    rw [Nat.zero_testBit, s_rl_bit]
    have h1 := s_cm_bit T h10 d i
    rw [h, Nat.testBit_two_pow_sub_one] at h1
    by_cases hi : i < T.1
    · simp [hi] at h1 ⊢; exact h1
    · simp [hi]
  · intro h
    apply Nat.eq_of_testBit_eq
    intro i
    rw [s_cm_bit T h10, Nat.testBit_two_pow_sub_one]
    have h1 := s_rl_bit T d i
    rw [h, Nat.zero_testBit] at h1
    by_cases hi : i < T.1
    · simp [hi] at h1 ⊢; exact h1
    · simp [hi]
section RestsC
variable {E F : ET} {M MX MM : Mem} {T : TW} {P : PW} {v : Nat}
theorem n_isRest (h : RepM M T) (hw : s_WF T) {d : Nat} (hd : d < 2 ^ 31) : CX10_isRest E [.ref (E.2.1 0), .int (nI d)] M (z_is (some (.int (s_bit (s_rest T d)))) M) := by
  have h10 := hw.1.2
  have hp2 : 2 ^ T.1 ≤ 1024 := Nat.pow_le_pow_right (n := 2) (by decide) h10
  have hcm := s_cm_lt T d
  refine EX10_isRest ⟨_, n_calmOf h hw hd, _, n_all h hw, ?_⟩
  rw [nI_eq (by omega) (by omega), s_cm_rest h10]
  exact ⟨fun c => zi (by simp [s_rest, c, s_bit]), fun c => zi (by simp [s_rest, c, s_bit])⟩
theorem h_rest0 (hf : FreshR M T) (h10 : T.1 ≤ 10) {d : Nat} (hd : d < 2 ^ T.1) : M.1 24 d = 0 ↔ s_rest T d = true := by
  have hr := s_rl_lt T d
  have hp2 : 2 ^ T.1 ≤ 1024 := Nat.pow_le_pow_right (n := 2) (by decide) h10
  rw [hf d hd, h_lit0, nI_eq (by omega) (by omega)]
  simp [s_rest]
theorem tt_rests (hX : InvX MX T P v) (hM : InvM MM T P) : TopI (CX9_rests E [.ref (E.2.1 9)] MX) (CX10_rests F [.ref (F.2.1 0)] MM) (v + 10) := by
  have hR := hX.1
  have hRM := hM.1
  have hw := hX.2.1
  have h10 := hR.2.1.2
  have hp2 := hR.p2
  have hpos := Nat.two_pow_pos T.1
  refine ⟨s_cnt (s_rest T) (2 ^ T.1), T, P, EX9_rests ⟨fun r M1 => r = s_cnt (s_rest T) (2 ^ T.1) ∧ InvX M1 T P v, ?_, fun r M1 hq => okXr hq.2 (by omega) hq.1⟩, ?_⟩
  · refine EX3_howMany (fun X hE hK => ⟨_, c_restless hR hX.2.2.1, fun M1 hq => ⟨_, c_dresses (hq.1.rep hR), ?_⟩⟩)
    have hI := hX.fr hq.1 hq.2.1 hq.2.2
    refine h_down (P := fun i => LX3_howMany_21 X (z_pI (fun r M1 => r = s_cnt (s_rest T) (2 ^ T.1) ∧ InvX M1 T P v)) (nI (2 ^ T.1)) (s_cnt (s_rest T) i) (nI i) M1) (2 ^ T.1) ?_ ?_
    · exact BX3_howMany_21 hK ⟨fun _ => okX0 hI, fun c => absurd (h_le (by omega) (Nat.le_refl _)) c⟩
    · intro i hi ih
      refine BX3_howMany_21 hK ⟨fun c => absurd c (h_nle (by omega) hi), fun _ => ⟨h_inK (by omega), ?_⟩⟩
      rw [h_clK (by omega), h_rest0 hq.2.2 h10 hi, nI_1]
      exact ⟨fun c => by simpa [s_cnt, c] using ih, fun c => by simpa [s_cnt, c] using ih⟩
  · refine EX10_rests (fun X hE hK => ?_)
    refine h_down (P := fun i => LX10_rests_4 X (z_pI (fun r M1 => r = s_cnt (s_rest T) (2 ^ T.1) ∧ InvM M1 T P)) (s_cnt (s_rest T) i) (nI i) MM) (2 ^ T.1) ?_ ?_
    · exact BX10_rests_4 hK ⟨_, n_all hRM hw, fun _ => okM hM, fun c => absurd (nI_lt (by omega) (by omega)) c⟩
    · intro i hi ih
      refine BX10_rests_4 hK ⟨_, n_all hRM hw, fun c => absurd c (nI_nlt (by omega) (by omega)), fun _ => ⟨_, n_isRest hRM hw (by omega), ?_⟩⟩
      rw [nI_1, Int32.add_zero, s_bit_0]
      exact ⟨fun c => by simpa [s_cnt, c] using ih, fun c => by
        have c : s_rest T i = true := by simpa using c
        simpa [s_cnt, c] using ih⟩
/-- the dress of a rest, on both sides -/
theorem c_dressOf_neg (hX : InvX M T P v) {x : Int32} (hx : x < 0) : CX3_dressOf E [.ref (E.2.1 3), .int x] M (z_pI (fun r M1 => r = -1 ∧ InvX M1 T P v)) := by
  have hR := hX.1
  have hp2 := hR.p2
  refine EX3_dressOf (fun X hE hK => ⟨_, c_restless hR hX.2.2.1, fun M1 hq => ⟨_, c_dresses (hq.1.rep hR), ?_⟩⟩)
  have hI := hX.fr hq.1 hq.2.1 hq.2.2
  exact BX3_dressOf_22 hK ⟨fun _ => okX0 hI, fun _ => ⟨fun _ => okX0 hI, fun c => absurd hx c⟩⟩
theorem c_dressOf_yes (hX : InvX M T P v) {k d : Nat} (hk : k < 2 ^ 31) (hd : d < 2 ^ T.1) (hf : s_rest T d = true) (hc : s_ct (s_rest T) d = k) : CX3_dressOf E [.ref (E.2.1 3), .int (nI k)] M (z_pI (fun r M1 => r = nI d ∧ InvX M1 T P v)) := by
  have hR := hX.1
  have h10 := hR.2.1.2
  have hp2 := hR.p2
  refine EX3_dressOf (fun X hE hK => ⟨_, c_restless hR hX.2.2.1, fun M1 hq => ⟨_, c_dresses (hq.1.rep hR), ?_⟩⟩)
  have hI := hX.fr hq.1 hq.2.1 hq.2.2
  refine h_down (P := fun i => LX3_dressOf_22 X (z_pI (fun r M1 => r = nI d ∧ InvX M1 T P v)) (nI (2 ^ T.1)) (nI (k - s_ct (s_rest T) i)) (nI i) M1) d ?_ ?_
  · refine BX3_dressOf_22 hK ⟨fun c => absurd c (h_nle (by omega) hd), fun _ => ⟨fun c => absurd c (nI_pos (by omega)), fun _ => ⟨h_inK (by omega), ?_⟩⟩⟩
    rw [h_clK (by omega), h_rest0 hq.2.2 h10 hd, hc, Nat.sub_self]
    exact ⟨fun c => absurd hf c, fun _ => ⟨fun c => absurd rfl c, fun _ => okX0 hI⟩⟩
  · intro i hi ih
    have hm : s_ct (s_rest T) (i + 1) ≤ k := by rw [← hc]; exact s_ct_mono' hi
    refine BX3_dressOf_22 hK ⟨fun c => absurd c (h_nle (by omega) (by omega)), fun _ => ⟨fun c => absurd c (nI_pos (by omega)), fun _ => ⟨h_inK (by omega), ?_⟩⟩⟩
    rw [h_clK (by omega), h_rest0 hq.2.2 h10 (by omega), nI_1]
    cases hfi : s_rest T i with
    | true =>
      rw [s_ct_succ_yes hfi] at ih hm
      refine ⟨fun c => absurd rfl c, fun _ => ⟨fun _ => ?_, fun c => absurd c (nI_ne0 (by omega) (by omega))⟩⟩
      rw [show k - s_ct (s_rest T) i = (k - (s_ct (s_rest T) i + 1)) + 1 by omega, pk_m1]
      exact ih
    | false =>
      rw [s_ct_succ_no hfi] at ih
      exact ⟨fun _ => ih, fun c => absurd c (by decide)⟩
theorem c_dressOf_no (hX : InvX M T P v) {k : Nat} (hk : k < 2 ^ 31) (hn : ∀ d, d < 2 ^ T.1 → s_rest T d = true → s_ct (s_rest T) d ≠ k) : CX3_dressOf E [.ref (E.2.1 3), .int (nI k)] M (z_pI (fun r M1 => r = -1 ∧ InvX M1 T P v)) := by
  have hR := hX.1
  have h10 := hR.2.1.2
  have hp2 := hR.p2
  refine EX3_dressOf (fun X hE hK => ⟨_, c_restless hR hX.2.2.1, fun M1 hq => ⟨_, c_dresses (hq.1.rep hR), ?_⟩⟩)
  have hI := hX.fr hq.1 hq.2.1 hq.2.2
  refine h_down (P := fun i => LX3_dressOf_22 X (z_pI (fun r M1 => r = -1 ∧ InvX M1 T P v)) (nI (2 ^ T.1)) (nI (k - s_ct (s_rest T) i)) (nI i) M1) (2 ^ T.1) ?_ ?_
  · exact BX3_dressOf_22 hK ⟨fun _ => okX0 hI, fun c => absurd (h_le (by omega) (Nat.le_refl _)) c⟩
  · intro i hi ih
    have hm := s_ct_none hn (i + 1) hi
    refine BX3_dressOf_22 hK ⟨fun c => absurd c (h_nle (by omega) (by omega)), fun _ => ⟨fun c => absurd c (nI_pos (by omega)), fun _ => ⟨h_inK (by omega), ?_⟩⟩⟩
    rw [h_clK (by omega), h_rest0 hq.2.2 h10 (by omega), nI_1]
    cases hfi : s_rest T i with
    | true =>
      rw [s_ct_succ_yes hfi] at ih hm
      refine ⟨fun c => absurd rfl c, fun _ => ⟨fun _ => ?_, fun c => absurd c (nI_ne0 (by omega) (by omega))⟩⟩
      rw [show k - s_ct (s_rest T) i = (k - (s_ct (s_rest T) i + 1)) + 1 by omega, pk_m1]
      exact ih
    | false =>
      rw [s_ct_succ_no hfi] at ih
      exact ⟨fun _ => ih, fun c => absurd c (by decide)⟩
theorem n_restOf_neg (h : RepM M T) (hw : s_WF T) {x : Int32} (hx : x < 0) : CX10_restOf E [.ref (E.2.1 0), .int x] M (z_is (some (.int (-1))) M) :=
  EX10_restOf (fun X hE hK => BX10_restOf_4 hK ⟨_, n_all h hw, fun _ => zi rfl, fun _ => ⟨fun _ => zi rfl, fun c => absurd hx c⟩⟩)
theorem n_restOf_yes (h : RepM M T) (hw : s_WF T) {k d : Nat} (hk : k < 2 ^ 31) (hd : d < 2 ^ T.1) (hf : s_rest T d = true) (hc : s_ct (s_rest T) d = k) : CX10_restOf E [.ref (E.2.1 0), .int (nI k)] M (z_is (some (.int (nI d))) M) := by
  have h10 := hw.1.2
  have hp2 : 2 ^ T.1 ≤ 1024 := Nat.pow_le_pow_right (n := 2) (by decide) h10
  refine EX10_restOf (fun X hE hK => ?_)
  refine h_down (P := fun i => LX10_restOf_4 X (z_is (some (.int (nI d))) M) (nI k) (nI (s_ct (s_rest T) i)) (nI i) M) d ?_ ?_
  · refine BX10_restOf_4 hK ⟨_, n_all h hw, fun c => absurd c (nI_nlt (by omega) (by omega)), fun _ => ⟨fun c => absurd c (nI_pos hk), fun _ => ⟨_, n_isRest h hw (by omega), ?_⟩⟩⟩
    rw [hf, hc]
    exact ⟨fun c => absurd c (by decide), fun _ => ⟨fun c => absurd rfl c, fun _ => zi rfl⟩⟩
  · intro i hi ih
    have hm : s_ct (s_rest T) (i + 1) ≤ k := by rw [← hc]; exact s_ct_mono' hi
    refine BX10_restOf_4 hK ⟨_, n_all h hw, fun c => absurd c (nI_nlt (by omega) (by omega)), fun _ => ⟨fun c => absurd c (nI_pos hk), fun _ => ⟨_, n_isRest h hw (by omega), ?_⟩⟩⟩
    rw [nI_1]
    cases hfi : s_rest T i with
    | true =>
      rw [s_ct_succ_yes hfi] at ih hm
      refine ⟨fun c => absurd c (by decide), fun _ => ⟨fun _ => ?_, fun c => ?_⟩⟩
      · rw [nI_1]; exact ih
      · rw [nI_eq (by omega) hk] at c; omega
    | false =>
      rw [s_ct_succ_no hfi] at ih
      exact ⟨fun _ => ih, fun c => absurd rfl c⟩
theorem n_restOf_no (h : RepM M T) (hw : s_WF T) {k : Nat} (hk : k < 2 ^ 31) (hn : ∀ d, d < 2 ^ T.1 → s_rest T d = true → s_ct (s_rest T) d ≠ k) : CX10_restOf E [.ref (E.2.1 0), .int (nI k)] M (z_is (some (.int (-1))) M) := by
  have h10 := hw.1.2
  have hp2 : 2 ^ T.1 ≤ 1024 := Nat.pow_le_pow_right (n := 2) (by decide) h10
  have hpos := Nat.two_pow_pos T.1
  refine EX10_restOf (fun X hE hK => ?_)
  refine h_down (P := fun i => LX10_restOf_4 X (z_is (some (.int (-1))) M) (nI k) (nI (s_ct (s_rest T) i)) (nI i) M) (2 ^ T.1) ?_ ?_
  · exact BX10_restOf_4 hK ⟨_, n_all h hw, fun _ => zi rfl, fun c => absurd (nI_lt (by omega) (by omega)) c⟩
  · intro i hi ih
    have hm := s_ct_none hn (i + 1) hi
    refine BX10_restOf_4 hK ⟨_, n_all h hw, fun c => absurd c (nI_nlt (by omega) (by omega)), fun _ => ⟨fun c => absurd c (nI_pos hk), fun _ => ⟨_, n_isRest h hw (by omega), ?_⟩⟩⟩
    rw [nI_1]
    cases hfi : s_rest T i with
    | true =>
      rw [s_ct_succ_yes hfi] at ih hm
      refine ⟨fun c => absurd c (by decide), fun _ => ⟨fun _ => ?_, fun c => ?_⟩⟩
      · rw [nI_1]; exact ih
      · rw [nI_eq (by omega) hk] at c; omega
    | false =>
      rw [s_ct_succ_no hfi] at ih
      exact ⟨fun _ => ih, fun c => absurd rfl c⟩
/-- which rest a number names, if any -/
theorem s_rest_cases (T : TW) (x : Int32) : x < 0 ∨ (∃ k d, k < 2 ^ 31 ∧ x = nI k ∧ d < 2 ^ T.1 ∧ s_rest T d = true ∧ s_ct (s_rest T) d = k) ∨ (∃ k, k < 2 ^ 31 ∧ x = nI k ∧ ∀ d, d < 2 ^ T.1 → s_rest T d = true → s_ct (s_rest T) d ≠ k) := by
  by_cases hx : x < 0
  · exact Or.inl hx
  · obtain ⟨k, hk, rfl⟩ := nI_of hx
    by_cases hd : ∃ d, d < 2 ^ T.1 ∧ s_rest T d = true ∧ s_ct (s_rest T) d = k
    · obtain ⟨d, h1, h2, h3⟩ := hd
      exact Or.inr (Or.inl ⟨k, d, hk, rfl, h1, h2, h3⟩)
    · exact Or.inr (Or.inr ⟨k, hk, rfl, fun d h1 h2 h3 => hd ⟨d, h1, h2, h3⟩⟩)
theorem tt_rest (hX : InvX MX T P v) (hM : InvM MM T P) (x : Int32) : TopI (CX9_rest E [.ref (E.2.1 9), .int x] MX) (CX10_rest F [.ref (F.2.1 0), .int x] MM) (v + 10) := by
  have hRM := hM.1
  have hw := hX.2.1
  have hp2 := hX.1.p2
  rcases s_rest_cases T x with h | ⟨k, d, hk, rfl, hd, hf, hc⟩ | ⟨k, hk, rfl, hn⟩
  · refine ⟨-1, T, P, EX9_rest ⟨_, c_dressOf_neg hX h, fun r M1 hq => ?_⟩, EX10_rest ⟨_, n_restOf_neg hRM hw h, okM hM⟩⟩
    rw [hq.1]
    exact ⟨fun _ => okXr hq.2 (by omega) rfl, fun _ => okXr hq.2 (by omega) rfl⟩
  · refine ⟨nI d, T, P, EX9_rest ⟨_, c_dressOf_yes hX hk hd hf hc, fun r M1 hq => ?_⟩, EX10_rest ⟨_, n_restOf_yes hRM hw hk hd hf hc, okM hM⟩⟩
    rw [hq.1]
    exact ⟨fun _ => okXr hq.2 (by omega) rfl, fun c => absurd (nI_pos' (by omega)) c⟩
  · refine ⟨-1, T, P, EX9_rest ⟨_, c_dressOf_no hX hk hn, fun r M1 hq => ?_⟩, EX10_rest ⟨_, n_restOf_no hRM hw hk hn, okM hM⟩⟩
    rw [hq.1]
    exact ⟨fun _ => okXr hq.2 (by omega) rfl, fun _ => okXr hq.2 (by omega) rfl⟩
end RestsC
