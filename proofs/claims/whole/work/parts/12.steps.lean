/-! steps on both sides -/
theorem s_ordK_lt (T : TW) {d n : Nat} (hd : d < 2 ^ n) : ∀ k, k ≤ n → s_ordK T d k < 2 ^ n
  | 0, _ => hd
  | k + 1, h => by
    have ih := s_ordK_lt T hd k (by omega)
    unfold s_ordK
    by_cases hc : s_calm T k (s_ordK T d k) = true
    · rw [if_pos hc]; exact ih
    · rw [if_neg hc]; exact Nat.xor_lt_two_pow ih (Nat.pow_lt_pow_right (by decide) (by omega))
theorem s_step_lt (T : TW) (y : Nat) {d : Nat} (hd : d < 2 ^ T.1) : s_step T y d < 2 ^ T.1 := by
  unfold s_step
  by_cases hy : y = 0
  · rw [if_pos hy]; exact Nat.xor_lt_two_pow hd (s_rl_lt T d)
  · rw [if_neg hy]; exact s_ordK_lt T hd T.1 (Nat.le_refl _)
def s_with (d p : Nat) (w : Bool) : Nat := if w then d ||| 2 ^ p else d &&& (1023 ^^^ 2 ^ p)
theorem h_1023 (q : Nat) : (1023 : Nat).testBit q = decide (q < 10) := by rw [show (1023 : Nat) = 2 ^ 10 - 1 from rfl, Nat.testBit_two_pow_sub_one]
theorem h_high {d q : Nat} (hd : d < 1024) (hq : 10 ≤ q) : d.testBit q = false := Nat.testBit_lt_two_pow (Nat.lt_of_lt_of_le hd (show 1024 ≤ 2 ^ q from Nat.pow_le_pow_right (n := 2) (by decide) hq))
theorem s_with_same {d p : Nat} {w : Bool} (hd : d < 1024) (hw : w = d.testBit p) : s_with d p w = d := by
  apply Nat.eq_of_testBit_eq
  intro i
  unfold s_with
  cases w with
  | true =>
    rw [if_pos rfl, Nat.testBit_or, Nat.testBit_two_pow]
    by_cases e : p = i
    · subst e; rw [← hw]; rfl
    · simp [e]
  | false =>
    rw [if_neg (by decide), Nat.testBit_and, Nat.testBit_xor, Nat.testBit_two_pow, h_1023]
    by_cases e : p = i
    · subst e; rw [← hw]; rfl
    · by_cases hi : i < 10
      · simp [e, hi]
      · rw [h_high hd (by omega)]; rfl
theorem s_with_flip {d p : Nat} {w : Bool} (hd : d < 1024) (hp : p < 10) (hw : ¬ w = d.testBit p) : s_with d p w = d ^^^ 2 ^ p := by
  apply Nat.eq_of_testBit_eq
  intro i
  rw [Nat.testBit_xor, Nat.testBit_two_pow]
  unfold s_with
  cases w with
  | true =>
    have hb : d.testBit p = false := by cases hb : d.testBit p <;> simp [hb] at hw ⊢
    rw [if_pos rfl, Nat.testBit_or, Nat.testBit_two_pow]
    by_cases e : p = i
    · subst e; rw [hb]; simp
    · simp [e]
  | false =>
    have hb : d.testBit p = true := by cases hb : d.testBit p <;> simp [hb] at hw ⊢
    rw [if_neg (by decide), Nat.testBit_and, Nat.testBit_xor, Nat.testBit_two_pow, h_1023]
    by_cases e : p = i
    · subst e; rw [hb]; simp [hp]
    · by_cases hi : i < 10
      · simp [e, hi]
      · rw [h_high hd (by omega)]; simp [e]
def s_cm (T : TW) (d : Nat) : Nat := (2 ^ T.1 - 1) &&& (1023 ^^^ s_rl T d)
def s_cmK (T : TW) (d : Nat) : Nat → Nat
  | 0 => 0
  | k + 1 => if s_calm T k d then s_cmK T d k ||| 2 ^ k else s_cmK T d k
theorem s_cmK_bit (T : TW) (d : Nat) : ∀ k p, (s_cmK T d k).testBit p = (decide (p < k) && s_calm T p d)
  | 0, p => by simp [s_cmK]
  | k + 1, p => by
    have ih := s_cmK_bit T d k p
    unfold s_cmK
    by_cases hc : s_calm T k d = true
    · rw [if_pos hc, Nat.testBit_or, ih, Nat.testBit_two_pow]
      by_cases hp : p = k
      · subst hp; simp [hc]
      · have : decide (p < k + 1) = decide (p < k) := decide_eq_decide.mpr (by omega)
        rw [this]; simp [show ¬ k = p from fun e => hp e.symm]
    · rw [if_neg hc, ih]
      by_cases hp : p = k
      · subst hp; simp [hc]
      · have : decide (p < k + 1) = decide (p < k) := decide_eq_decide.mpr (by omega)
        rw [this]
theorem s_cm_bit (T : TW) (h10 : T.1 ≤ 10) (d p : Nat) : (s_cm T d).testBit p = (decide (p < T.1) && s_calm T p d) := by
  unfold s_cm
  rw [Nat.testBit_and, Nat.testBit_two_pow_sub_one, Nat.testBit_xor, h_1023, s_rl_bit]
  by_cases hp : p < T.1
  · simp [hp, show p < 10 by omega]
  · simp [hp]
theorem s_cmK_eq (T : TW) (h10 : T.1 ≤ 10) (d : Nat) : s_cmK T d T.1 = s_cm T d := by
  apply Nat.eq_of_testBit_eq
  intro i
  rw [s_cmK_bit, s_cm_bit T h10]
theorem s_cm_lt (T : TW) (d : Nat) : s_cm T d < 2 ^ T.1 := by
  have h := Nat.two_pow_pos T.1
  exact Nat.lt_of_le_of_lt Nat.and_le_left (by omega)
theorem h_and2 (x i : Nat) : x &&& 2 ^ i = if x.testBit i then 2 ^ i else 0 := by
  apply Nat.eq_of_testBit_eq
  intro j
  rw [Nat.testBit_and, Nat.testBit_two_pow]
  by_cases e : i = j
  · subst e
    cases hb : x.testBit i <;> simp
  · cases hb : x.testBit i <;> simp [e, Nat.testBit_two_pow]
theorem s_calm_iff {T : TW} {p d : Nat} : s_next (T.2.2.1 p) (s_sum T p d) (d.testBit p) = d.testBit p ↔ s_calm T p d = true := by simp [s_calm]
section Steps
variable {E : ET} {M : Mem} {T : TW}
theorem n_calmOf (h : RepM M T) (hw : s_WF T) {d : Nat} (hd : d < 2 ^ 31) : CX10_calmOf E [.ref (E.2.1 0), .int (nI d)] M (z_is (some (.int (nI (s_cm T d)))) M) := by
  have h10 := hw.1.2
  rw [← s_cmK_eq T h10]
  refine EX10_calmOf (fun X hE hX => ?_)
  refine h_down (P := fun i => LX10_calmOf_4 X _ (nI d) (nI (s_cmK T d i)) (nI i) M) T.1 ?_ ?_
  · refine BX10_calmOf_4 hX ⟨fun _ => zi rfl, fun c => absurd ?_ c⟩
    rw [h.1]; exact h_le (by omega) (Nat.le_refl _)
  · intro i hi ih
    have hi10 : i < 10 := by omega
    refine BX10_calmOf_4 hX ⟨fun c => absurd c ?_, fun _ => ⟨h_in10 hi10, ?_⟩⟩
    · rw [h.1]; exact h_nle (by omega) hi
    · rw [h_cl10 hi10, h.2.2.1 i hi10]
      refine ⟨_, n_nextOf h hw (hw.2.2.2 i hi10) hi10 hd, ?_⟩
      rw [h_bit hd (by omega), s_bit_inj, nI_1, h_shl (by omega), h_or, s_calm_iff]
      refine ⟨fun c => ?_, fun c => ?_⟩
      · rw [h_lit0, h_or, Nat.or_zero]
        simpa [s_cmK, c] using ih
      · simpa [s_cmK, c] using ih
theorem n_with {d p : Nat} {w : Bool} (hd : d < 1024) (hp : p < 10) : CX10_with E [.ref (E.2.1 0), .int (nI d), .int (nI p), .int (s_bit w)] M (z_is (some (.int (nI (s_with d p w)))) M) := by
  have pK : 2 ^ p < 1024 := by have := Nat.pow_lt_pow_right (a := 2) (by decide) hp; omega
  refine EX10_with ?_
  rw [h_shl (by omega), h_or, h_andnot hd pK]
  refine ⟨fun c => zi ?_, fun c => zi ?_⟩
  · cases w with
    | true => exact absurd rfl c
    | false => rfl
  · rw [s_bit_1] at c; subst c; rfl
theorem n_stepFrom (h : RepM M T) (hw : s_WF T) {d y : Nat} (hd : d < 2 ^ T.1) (hy : y < 2) : CX10_stepFrom E [.ref (E.2.1 0), .int (nI d), .int (nI y)] M (z_is (some (.int (nI (s_step T y d)))) M) := by
  have h10 := hw.1.2
  have hp2 : 2 ^ T.1 ≤ 1024 := Nat.pow_le_pow_right (n := 2) (by decide) h10
  refine EX10_stepFrom (fun X hE hX => ?_)
  by_cases hy0 : y = 0
  · subst hy0
    suffices hs : ∀ e, e = d ^^^ s_rlK T d 0 → LX10_stepFrom_5 X (z_is (some (Value.int (nI (s_step T 0 d)))) M) (nI d) (nI 0) (nI e) 0 M from hs d (by simp [s_rlK])
    intro e he
    subst he
    refine h_down (P := fun i => LX10_stepFrom_5 X (z_is (some (Value.int (nI (s_step T 0 d)))) M) (nI d) (nI 0) (nI (d ^^^ s_rlK T d i)) (nI i) M) T.1 ?_ ?_
    · refine BX10_stepFrom_5 hX ⟨fun _ => zi rfl, fun c => absurd ?_ c⟩
      rw [h.1]; exact h_le (by omega) (Nat.le_refl _)
    · intro i hi ih
      have hi10 : i < 10 := by omega
      have hlt : d ^^^ s_rlK T d i < 1024 := Nat.lt_of_lt_of_le (Nat.xor_lt_two_pow hd (Nat.lt_of_lt_of_le (s_rlK_lt T d i) (Nat.pow_le_pow_right (by decide) (by omega)))) hp2
      refine BX10_stepFrom_5 hX ⟨fun c => absurd c ?_, fun _ => ⟨h_in10 hi10, fun c => absurd rfl c, fun _ => ?_⟩⟩
      · rw [h.1]; exact h_nle (by omega) hi
      · rw [h_cl10 hi10, h.2.2.1 i hi10, nI_1]
        refine ⟨_, n_nextOf h hw (hw.2.2.2 i hi10) hi10 (by omega), _, n_with hlt hi10, ?_⟩
        have hb : (d ^^^ s_rlK T d i).testBit i = d.testBit i := by
          rw [Nat.testBit_xor, s_rlK_bit]; simp
        by_cases hc : s_calm T i d = true
        · rw [s_with_same hlt (by rw [hb]; exact s_calm_iff.mpr hc)]
          simpa [s_rlK, hc] using ih
        · rw [s_with_flip hlt hi10 (by rw [hb]; exact fun e => hc (s_calm_iff.mp e))]
          have e : d ^^^ s_rlK T d i ^^^ 2 ^ i = d ^^^ s_rlK T d (i + 1) := by
            have e1 : s_rlK T d (i + 1) = s_rlK T d i ||| 2 ^ i := if_neg hc
            rw [e1, Nat.xor_assoc]
            congr 1
            apply Nat.eq_of_testBit_eq
            intro j
            rw [Nat.testBit_xor, Nat.testBit_or, Nat.testBit_two_pow]
            by_cases e : i = j
            · subst e; rw [s_rlK_bit]; simp
            · simp [e]
          rw [e]; exact ih
  · have hy1 : y = 1 := by omega
    subst hy1
    refine h_down (P := fun i => LX10_stepFrom_5 X _ (nI d) (nI 1) (nI (s_ordK T d i)) (nI i) M) T.1 ?_ ?_
    · refine BX10_stepFrom_5 hX ⟨fun _ => zi rfl, fun c => absurd ?_ c⟩
      rw [h.1]; exact h_le (by omega) (Nat.le_refl _)
    · intro i hi ih
      have hi10 : i < 10 := by omega
      have hlt0 := s_ordK_lt T hd i (by omega)
      have hlt : s_ordK T d i < 1024 := by omega
      refine BX10_stepFrom_5 hX ⟨fun c => absurd c ?_, fun _ => ⟨h_in10 hi10, fun _ => ?_, fun c => absurd c (by decide)⟩⟩
      · rw [h.1]; exact h_nle (by omega) hi
      · rw [h_cl10 hi10, h.2.2.1 i hi10, nI_1]
        refine ⟨_, n_nextOf h hw (hw.2.2.2 i hi10) hi10 (by omega), _, n_with hlt hi10, ?_⟩
        by_cases hc : s_calm T i (s_ordK T d i) = true
        · rw [s_with_same hlt (s_calm_iff.mpr hc)]
          simpa [s_ordK, hc] using ih
        · rw [s_with_flip hlt hi10 (fun e => hc (s_calm_iff.mp e))]
          simpa [s_ordK, hc] using ih
/-! the class -/
theorem c_oneByOne (h : RepX M T) (hf : FreshR M T) {d : Nat} (hd : d < 2 ^ T.1) : CX8_oneByOne E [.ref (E.2.1 8), .ref (E.2.1 24), .int (nI d)] M (z_is (some (.int (nI (s_ordK T d T.1)))) M) := by
  have h10 := h.2.1.2
  have hp2 := h.p2
  refine EX8_oneByOne (fun X hE hX => ⟨_, c_size h, ?_⟩)
  refine h_down (P := fun i => LX8_oneByOne_14 X _ (nI T.1) (nI (s_ordK T d i)) (nI i) M) T.1 ?_ ?_
  · exact BX8_oneByOne_14 hX ⟨fun _ => zi rfl, fun c => absurd (h_le h.lt31 (Nat.le_refl _)) c⟩
  · intro i hi ih
    have hlt := s_ordK_lt T hd i (by omega)
    refine BX8_oneByOne_14 hX ⟨fun c => absurd c (h_nle h.lt31 hi), fun _ => ⟨h_inK (by omega), ?_⟩⟩
    rw [h_clK (by omega), hf _ hlt, h_shl (by omega), h_and, h_xor, nI_1]
    have e : s_ordK T d i ^^^ (s_rl T (s_ordK T d i) &&& 2 ^ i) = s_ordK T d (i + 1) := by
      rw [h_and2, s_rl_bit]
      show _ = if s_calm T i (s_ordK T d i) then s_ordK T d i else s_ordK T d i ^^^ 2 ^ i
      by_cases hc : s_calm T i (s_ordK T d i) = true
      · simp [hc]
      · simp [hc, hi]
    rw [e]; exact ih
def StepOK (M : Mem) (T : TW) (y : Nat) : Prop := M.1 8 5 = nI y ∧ M.1 8 6 = M.1 7 7 ∧ ∀ d, d < 2 ^ T.1 → M.1 25 d = nI (s_step T y d)
theorem InvX.frW {M3 : Mem} {P : PW} {v y : Nat} (h : InvX M T P v) (hy : y < 2) (hc : ∀ k, k ≠ 8 → k ≠ 25 → M3.1 k = M.1 k) (h7 : M3.1 8 7 = M.1 8 7) (h8 : M3.1 8 8 = M.1 8 8) (hs : StepOK M3 T y) : InvX M3 T P v := by
  obtain ⟨a1, a2, a3, a4, a5, a6, a7⟩ := h
  have c7 : M3.1 7 = M.1 7 := hc 7 (by decide) (by decide)
  refine ⟨a1.frame (by rw [c7]) (fun k _ _ => hc k (by omega) (by omega)), a2, ?_, ?_, fun _ => ⟨y, hy, hs.1, hs.2.2⟩, ?_, ?_⟩
  · obtain ⟨s, s1, s2, s3⟩ := a3
    exact ⟨s, s1, by rw [c7]; exact s2, fun d hd => by rw [hc 24 (by decide) (by decide)]; exact s3 d hd⟩
  · obtain ⟨w, w1, w2, w3, w4⟩ := a4
    exact ⟨w, w1, by rw [c7]; exact w2, Or.inr ⟨w, Nat.le_refl _, by rw [hs.2.1, c7]; exact w2⟩, by rw [h8]; exact w4⟩
  · intro e
    rw [h8, c7] at e
    obtain ⟨z, z1, z2, z3⟩ := a6 e
    exact ⟨z, z1, by rw [h7]; exact z2, by rw [hc 26 (by decide) (by decide), hc 27 (by decide) (by decide)]; exact z3⟩
  · rw [hc 2 (by decide) (by decide), hc 36 (by decide) (by decide)]; exact a7
theorem c_stepsBy {P : PW} {v y : Nat} (h : InvX M T P v) (hy : y < 2) : CX8_stepsBy E [.ref (E.2.1 8), .int (nI y)] M (z_pR (E.2.1 25) (fun M1 => InvX M1 T P v ∧ StepOK M1 T y)) := by
  have hR := h.1
  have h10 := hR.2.1.2
  have hp2 := hR.p2
  refine EX8_stepsBy (fun X hE hX => ?_)
  subst hE
  have main : ∀ M1, (FrR M M1 ∧ M1.1 7 6 = nI 0 ∧ FreshR M1 T) → LX8_stepsBy_41 X (z_pR (X.1.2.1 25) (fun M1 => InvX M1 T P v ∧ StepOK M1 T y)) (nI y) (nI (2 ^ T.1)) 0 M1 := by
    intro M1 ⟨f1, f2, f3⟩
    have hI := h.fr f1 f2 f3
    refine h_down (P := fun i => ∀ M2, (∀ k, k ≠ 25 → M2.1 k = M1.1 k) → (∀ d, d < i → M2.1 25 d = nI (s_step T y d)) → LX8_stepsBy_41 X (z_pR (X.1.2.1 25) (fun M1 => InvX M1 T P v ∧ StepOK M1 T y)) (nI y) (nI (2 ^ T.1)) (nI i) M2) (2 ^ T.1) ?_ ?_ M1 (fun _ _ => rfl) (fun d hd => absurd hd (Nat.not_lt_zero d))
    · intro M2 g1 g2
      refine BX8_stepsBy_41 hX ⟨fun _ M3 e3 => ⟨_, c_version, fun M4 e4 => zpR ?_⟩, fun c => absurd (h_le (by omega) (Nat.le_refl _)) c⟩
      have hs : StepOK M4 T y := by
        subst e4; subst e3
        refine ⟨?_, ?_, fun d hd => ?_⟩
        · rw [m_ne _ _ (by decide), m_same]
        · rw [m_same, m_ne _ _ (by decide), m_ne _ _ (by decide), m_ne _ _ (by decide)]
        · rw [m_ne _ _ (by omega), m_ne _ _ (by omega)]; exact g2 d hd
      refine ⟨hI.frW hy (fun k k1 k2 => ?_) ?_ ?_ hs, hs⟩
      · rw [e4, m_cell _ _ k1, e3, m_cell _ _ k1]; exact g1 k k2
      · rw [e4, m_ne _ _ (by decide), e3, m_ne _ _ (by decide), g1 8 (by decide)]
      · rw [e4, m_ne _ _ (by decide), e3, m_ne _ _ (by decide), g1 8 (by decide)]
    · intro i hi ih M2 g1 g2
      have hR2 := hI.1.frame (M' := M2) (by rw [g1 7 (by decide)]) (fun k _ _ => g1 k (by omega))
      have hF2 : FreshR M2 T := fun d hd => by rw [g1 24 (by decide)]; exact f3 d hd
      have put : ∀ M3, M3 = z_st M2 25 i (nI (s_step T y i)) → LX8_stepsBy_41 X (z_pR (X.1.2.1 25) (fun M1 => InvX M1 T P v ∧ StepOK M1 T y)) (nI y) (nI (2 ^ T.1)) (nI (i + 1)) M3 := by
        intro M3 e3
        refine ih M3 (fun k hk => by rw [e3, m_cell _ _ hk]; exact g1 k hk) (fun d hd => ?_)
        by_cases hdi : d = i
        · subst hdi; rw [e3, m_same]
        · rw [e3, m_ne _ _ (by omega)]; exact g2 d (by omega)
      refine BX8_stepsBy_41 hX ⟨fun c => absurd c (h_nle (by omega) hi), fun _ => ⟨fun c => ⟨_, c_oneByOne hR2 hF2 hi, h_inK (by omega), fun M3 e3 => ?_⟩, fun c => ⟨h_inK (by omega), h_inK (by omega), fun M3 e3 => ?_⟩⟩⟩
      · rw [nI_1]
        refine put M3 ?_
        rw [h_clK (by omega)] at e3
        have : ¬ y = 0 := fun e => c (by rw [e]; rfl)
        rw [e3, s_step, if_neg this]
      · rw [nI_1]
        refine put M3 ?_
        rw [h_clK (by omega), hF2 i hi, h_xor] at e3
        have : y = 0 := (nI_eq (by omega) (by omega)).mp c
        rw [e3, s_step, if_pos this]
  refine ⟨fun _ => ⟨_, c_restless hR h.2.2.1, fun M1 hq => ⟨_, c_dresses (hq.1.rep hR), main M1 hq⟩⟩, fun c => ⟨_, c_version, fun c2 => zpR ?_, fun _ => ⟨_, c_restless hR h.2.2.1, fun M1 hq => ⟨_, c_dresses (hq.1.rep hR), main M1 hq⟩⟩⟩⟩
  obtain ⟨y', y1, y2, y3⟩ := h.2.2.2.2.1 c2
  have : y' = y := (nI_eq (by omega) (by omega)).mp (y2.symm.trans c)
  subst this
  exact ⟨h, y2, c2, y3⟩
theorem it_lt {f : Nat → Nat} {N : Nat} (hf : ∀ x, x < N → f x < N) {x : Nat} (hx : x < N) : ∀ k, it f k x < N
  | 0 => hx
  | k + 1 => hf _ (it_lt hf hx k)
theorem c_behind {P : PW} {v y d n : Nat} (h : InvX M T P v) (hy : y < 2) (hd : d < 2 ^ T.1) (hn : n < 2 ^ 31) : CX8_behind E [.ref (E.2.1 8), .int (nI d), .int (nI y), .int (nI n)] M (z_pI (fun r M1 => r = nI (it (s_step T y) n d) ∧ InvX M1 T P v)) := by
  have hp2 := h.1.p2
  refine EX8_behind (fun X hE hX => ⟨_, c_stepsBy h hy, fun M1 hq => ?_⟩)
  refine h_down (P := fun i => LX8_behind_12 X _ (nI n) (nI (it (s_step T y) i d)) (nI i) M1) n ?_ ?_
  · exact BX8_behind_12 hX ⟨fun _ => zpI ⟨rfl, hq.1⟩, fun c => absurd (h_le hn (Nat.le_refl _)) c⟩
  · intro i hi ih
    have hlt := it_lt (f := s_step T y) (fun x hx => s_step_lt T y hx) hd i
    refine BX8_behind_12 hX ⟨fun c => absurd c (h_nle hn hi), fun _ => ⟨h_inK (by omega), ?_⟩⟩
    rw [h_clK (by omega), hq.2.2.2 _ hlt, nI_1]
    exact ih
end Steps
