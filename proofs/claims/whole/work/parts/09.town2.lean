theorem zpI {q : Int32 → Mem → Prop} {r : Int32} {M : Mem} (h : q r M) : z_pI q (some (.int r)) M := ⟨r, rfl, h⟩
theorem zpL {q : Int64 → Mem → Prop} {r : Int64} {M : Mem} (h : q r M) : z_pL q (some (.long r)) M := ⟨r, rfl, h⟩
theorem zpV {q : Mem → Prop} {M : Mem} (h : q M) : z_pV q none M := ⟨rfl, h⟩
theorem zpR {q : Mem → Prop} {a : Nat} {M : Mem} (h : q M) : z_pR a q (some (.ref a)) M := ⟨rfl, h⟩
def x_chg (M : Mem) (p : Nat) : Mem := z_st (z_st M 7 6 (M.1 7 6 ||| nI (2 ^ p))) 7 7 (M.1 7 7 + 1)
section Town2
variable {E : ET} {M : Mem} {T : TW}
theorem c_changed {p : Nat} (hp : p < 31) : CX7_changed E [.ref (E.2.1 7), .int (nI p)] M (z_pV (fun M1 => M1 = x_chg M p)) := by
  refine EX7_changed (fun M1 e1 M2 e2 => zpV ?_)
  rw [e2, e1, h_shl hp, m_ne _ _ (by decide)]
  rfl
theorem c_setWeight {p o : Nat} (v : Int32) (hp : p < 10) (ho : o < 10) : CX7_setWeight E [.ref (E.2.1 7), .int (nI p), .int (nI o), .int v] M (z_pV (fun M1 => M1 = x_chg (z_st M (10 + p) o v) p)) := by
  refine EX7_setWeight ⟨h_in10 hp, h_in10 hp, h_in10 ho, fun M1 e1 => ⟨_, c_changed (by omega), fun M2 e2 => zpV ?_⟩⟩
  rw [e2, e1, h_cl10 hp, h_cl10 ho]
theorem c_setKind {p : Nat} (v : Int32) (hp : p < 10) : CX7_setKind E [.ref (E.2.1 7), .int (nI p), .int v] M (z_pV (fun M1 => M1 = x_chg (z_st M 21 p v) p)) := by
  refine EX7_setKind ⟨h_in10 hp, fun M1 e1 => ⟨_, c_changed (by omega), fun M2 e2 => zpV ?_⟩⟩
  rw [e2, e1, h_cl10 hp]
theorem c_setLean {p : Nat} (v : Int32) (hp : p < 10) : CX7_setLean E [.ref (E.2.1 7), .int (nI p), .int v] M (z_pV (fun M1 => M1 = x_chg (z_st M 22 p v) p)) := by
  refine EX7_setLean ⟨h_in10 hp, fun M1 e1 => ⟨_, c_changed (by omega), fun M2 e2 => zpV ?_⟩⟩
  rw [e2, e1, h_cl10 hp]
theorem x_chg_6 (M : Mem) (p : Nat) : (x_chg M p).1 7 6 = (M.1 7 6 ||| nI (2 ^ p)) := by
  unfold x_chg; rw [m_ne _ _ (by decide), m_same]
theorem x_chg_7 (M : Mem) (p : Nat) : (x_chg M p).1 7 7 = M.1 7 7 + 1 := by
  unfold x_chg; rw [m_same]
theorem x_chg_ne (M : Mem) (p : Nat) {k j : Nat} (h6 : ¬ (k = 7 ∧ j = 6)) (h7 : ¬ (k = 7 ∧ j = 7)) : (x_chg M p).1 k j = M.1 k j := by
  unfold x_chg; rw [m_ne _ _ h7, m_ne _ _ h6]
theorem x_chg_cell (M : Mem) (p : Nat) {k : Nat} (h : ¬ k = 7) : (x_chg M p).1 k = M.1 k := by
  unfold x_chg; rw [m_cell _ _ h, m_cell _ _ h]
theorem x_chg_2 (M : Mem) (p : Nat) : (x_chg M p).2 = M.2 := rfl
/-- the town begun anew: so far done -/
def x_New (n : Nat) (M0 : Mem) (i j : Nat) (M' : Mem) : Prop :=
  M'.1 7 5 = nI n ∧ (∀ p o, p < 10 → o < 10 → (p < i ∨ (p = i ∧ o < j)) → M'.1 (10 + p) o = 0) ∧ (∀ p, p < i → M'.1 21 p = 0 ∧ M'.1 22 p = 0) ∧ (∃ s, s < 1024 ∧ M'.1 7 6 = nI s ∧ ∀ p, p < i → s.testBit p = true) ∧ M'.1 7 7 = M0.1 7 7 + nI i ∧ M'.2 = M0.2 ∧ (∀ k, k ≠ 7 → ¬ (10 ≤ k ∧ k < 20) → k ≠ 21 → k ≠ 22 → k ≠ 24 → M'.1 k = M0.1 k)
theorem c_startAnew {n : Nat} (hs : ∃ s, s < 1024 ∧ M.1 7 6 = nI s) : CX7_startAnew E [.ref (E.2.1 7), .int (nI n)] M (z_pV (fun M1 => x_New n M 10 0 M1 ∧ ∀ d, d < 1024 → M1.1 24 d = 0)) := by
  refine EX7_startAnew (fun X hE hX M1 e1 => ?_)
  have h63 : ∀ M', x_New n M 10 0 M' → LX7_startAnew_63 X (z_pV (fun M1 => x_New n M 10 0 M1 ∧ ∀ d, d < 1024 → M1.1 24 d = 0)) 0 M' := by
    intro M' h'
    refine h_down (P := fun i => ∀ M', x_New n M 10 0 M' → (∀ d, d < i → M'.1 24 d = 0) → LX7_startAnew_63 X _ (nI i) M') 1024 ?_ ?_ M' h' (fun d hd => absurd hd (Nat.not_lt_zero d))
    · intro M' h1 h2
      exact BX7_startAnew_63 hX ⟨fun _ => zpV ⟨h1, h2⟩, fun c => absurd (h_le (a := 1024) (b := 1024) (by decide) (Nat.le_refl _)) c⟩
    · intro i hi ih M' h1 h2
      refine BX7_startAnew_63 hX ⟨fun c => absurd c (h_nle (b := 1024) (by decide) hi), fun _ => ⟨h_inK hi, fun M2 e2 => ?_⟩⟩
      rw [h_clK hi] at e2
      rw [nI_1]
      refine ih M2 ?_ ?_
      · obtain ⟨a1, a2, a3, a4, a5, a6, a7⟩ := h1
        subst e2
        refine ⟨by rw [m_ne _ _ (by omega)]; exact a1, fun p o hp ho h => by rw [m_ne _ _ (by omega)]; exact a2 p o hp ho h, fun p hp => ?_, ?_, by rw [m_ne _ _ (by omega)]; exact a5, a6, fun k k1 k2 k3 k4 k5 => by rw [m_cell _ _ k5]; exact a7 k k1 k2 k3 k4 k5⟩
        · rw [m_ne _ _ (by omega), m_ne _ _ (by omega)]; exact a3 p hp
        · rw [m_ne _ _ (by omega)]; exact a4
      · intro d hd
        subst e2
        by_cases hdi : d = i
        · subst hdi; rw [m_same]
        · rw [m_ne _ _ (by omega)]; exact h2 d (by omega)
  have h7 : x_New n M 0 0 M1 := by
    subst e1
    refine ⟨m_same _ _ _ _, fun p o _ _ h => by omega, fun p hp => absurd hp (Nat.not_lt_zero p), ?_, ?_, rfl, fun k k1 _ _ _ _ => by rw [m_cell _ _ k1]⟩
    · obtain ⟨s, s1, s2⟩ := hs
      exact ⟨s, s1, by rw [m_ne _ _ (by decide)]; exact s2, fun p hp => absurd hp (Nat.not_lt_zero p)⟩
    · rw [m_ne _ _ (by decide), nI_0, Int32.add_zero]
  refine h_down (P := fun i => ∀ M', x_New n M i 0 M' → LX7_startAnew_7 X _ (nI i) M') 10 ?_ ?_ M1 h7
  · intro M' h1
    exact BX7_startAnew_7 hX ⟨fun _ => h63 M' h1, fun c => absurd (h_le (a := 10) (b := 10) (by decide) (Nat.le_refl _)) c⟩
  · intro i hi ih M' h1
    refine BX7_startAnew_7 hX ⟨fun c => absurd c (h_nle (b := 10) (by decide) hi), fun _ => ?_⟩
    refine h_down (P := fun j => ∀ M', x_New n M i j M' → LX7_startAnew_15 X _ (nI i) (nI j) M') 10 ?_ ?_ M' h1
    · intro M2 h2
      refine BX7_startAnew_15 hX ⟨fun _ => ⟨h_in10 hi, fun M3 e3 => ⟨h_in10 hi, fun M4 e4 => ⟨_, c_changed (by omega), fun M5 e5 => ?_⟩⟩⟩, fun c => absurd (h_le (a := 10) (b := 10) (by decide) (Nat.le_refl _)) c⟩
      rw [nI_1]
      refine ih M5 ?_
      obtain ⟨a1, a2, a3, a4, a5, a6, a7⟩ := h2
      rw [h_cl10 hi] at e3 e4
      have c5 : ∀ {k j : Nat}, ¬ k = 7 → ¬ (k = 21 ∧ j = i) → ¬ (k = 22 ∧ j = i) → M5.1 k j = M2.1 k j := by
        intro k j k1 k2 k3
        rw [e5, x_chg_cell _ _ k1, e4, m_ne _ _ k3, e3, m_ne _ _ k2]
      have c6 : ∀ j, M4.1 7 j = M2.1 7 j := by
        intro j
        rw [e4, m_ne _ _ (by omega), e3, m_ne _ _ (by omega)]
      refine ⟨?_, fun p o hp ho h => ?_, fun p hp => ?_, ?_, ?_, ?_, fun k k1 k2 k3 k4 k5 => ?_⟩
      · rw [e5, x_chg_ne _ _ (by decide) (by decide), c6]; exact a1
      · rw [c5 (by omega) (by omega) (by omega)]
        exact a2 p o hp ho (by omega)
      · by_cases hpi : p = i
        · subst hpi
          refine ⟨?_, ?_⟩
          · rw [e5, x_chg_cell _ _ (by decide), e4, m_ne _ _ (by omega), e3, m_same]
          · rw [e5, x_chg_cell _ _ (by decide), e4, m_same]
        · rw [c5 (by omega) (by omega) (by omega), c5 (by omega) (by omega) (by omega)]
          exact a3 p (by omega)
      · obtain ⟨s, s1, s2, s3⟩ := a4
        refine ⟨s ||| 2 ^ i, Nat.or_lt_two_pow (n := 10) s1 (Nat.pow_lt_pow_right (by decide) hi), ?_, fun p hp => ?_⟩
        · rw [e5, x_chg_6, c6, s2, h_or]
        · rw [Nat.testBit_or, Nat.testBit_two_pow]
          by_cases hpi : i = p
          · simp [hpi]
          · rw [s3 p (by omega)]; rfl
      · rw [e5, x_chg_7, c6, a5, Int32.add_assoc, nI_1]
      · rw [e5, x_chg_2, e4, m_2, e3, m_2]; exact a6
      · rw [e5, x_chg_cell _ _ k1, e4, m_cell _ _ k4, e3, m_cell _ _ k3]
        exact a7 k k1 k2 k3 k4 k5
    · intro j hj ih2 M2 h2
      refine BX7_startAnew_15 hX ⟨fun c => absurd c (h_nle (b := 10) (by decide) hj), fun _ => ⟨h_in10 hi, h_in10 hi, h_in10 hj, fun M3 e3 => ?_⟩⟩
      rw [nI_1]
      refine ih2 M3 ?_
      rw [h_cl10 hi, h_cl10 hj] at e3
      obtain ⟨a1, a2, a3, a4, a5, a6, a7⟩ := h2
      subst e3
      refine ⟨by rw [m_ne _ _ (by omega)]; exact a1, fun p o hp ho h => ?_, fun p hp => ?_, ?_, by rw [m_ne _ _ (by omega)]; exact a5, a6, fun k k1 k2 k3 k4 k5 => by rw [m_cell _ _ (by omega)]; exact a7 k k1 k2 k3 k4 k5⟩
      · by_cases e : p = i ∧ o = j
        · obtain ⟨rfl, rfl⟩ := e
          rw [m_same]
        · rw [m_ne _ _ (by omega)]
          exact a2 p o hp ho (by omega)
      · rw [m_ne _ _ (by omega), m_ne _ _ (by omega)]; exact a3 p hp
      · rw [m_ne _ _ (by omega)]; exact a4
/-- the sums' table of one person -/
def s_lb (T : TW) (p : Nat) : Nat → Int32
  | 0 => T.2.2.2 p
  | k + 1 => s_lb T p k - T.2.1 p k
def s_tw (T : TW) (p d : Nat) : Nat → Int32
  | 0 => 0
  | k + 1 => s_tw T p d k + (if d.testBit k then 2 * T.2.1 p k else 0)
theorem s_sum_split (T : TW) (p d : Nat) : ∀ k, s_sumK T p d k = s_lb T p k + s_tw T p d k
  | 0 => by simp [s_sumK, s_lb, s_tw]
  | k + 1 => by
    have ih := s_sum_split T p d k
    unfold s_sumK s_lb s_tw
    rw [ih]
    by_cases hb : d.testBit k = true
    · rw [if_pos hb, if_pos hb]; grind
    · rw [if_neg hb, if_neg hb]; grind
theorem s_tw_low (T : TW) (p d e : Nat) : ∀ k, (∀ i, i < k → d.testBit i = e.testBit i) → s_tw T p d k = s_tw T p e k
  | 0, _ => rfl
  | k + 1, h => by
    unfold s_tw
    rw [s_tw_low T p d e k (fun i hi => h i (by omega)), h k (by omega)]
theorem c_fillSums (h : RepX M T) {p : Nat} (hp : p < 10) : CX7_fillSums E [.ref (E.2.1 7), .int (nI p)] M (z_pV (fun M1 => M1.2 = M.2 ∧ (∀ k, k ≠ 23 → M1.1 k = M.1 k) ∧ ∀ d, d < 2 ^ T.1 → M1.1 23 d = s_sum T p d)) := by
  have h31 := h.lt31
  have hn10 := h.2.1.2
  have hp2 := h.p2
  refine EX7_fillSums (fun X hE hX => ⟨h_in10 hp, h_in10 hp, ?_⟩)
  rw [h_cl10 hp, h.2.2.2.2 p hp]
  have h49 : ∀ M', M'.2 = M.2 → (∀ k, k ≠ 23 → M'.1 k = M.1 k) → M'.1 23 0 = s_lb T p T.1 → LX7_fillSums_49 X (z_pV (fun M1 => M1.2 = M.2 ∧ (∀ k, k ≠ 23 → M1.1 k = M.1 k) ∧ ∀ d, d < 2 ^ T.1 → M1.1 23 d = s_sum T p d)) (nI p) 0 M' := by
    intro M' f1 f2 f3
    refine h_down (P := fun i => ∀ M', M'.2 = M.2 → (∀ k, k ≠ 23 → M'.1 k = M.1 k) → (∀ d, d < 2 ^ i → M'.1 23 d = s_lb T p T.1 + s_tw T p d i) → LX7_fillSums_49 X _ (nI p) (nI i) M') T.1 ?_ ?_ M' f1 f2 ?_
    · intro M' g1 g2 g3
      have hR := h.frame (M' := M') (by rw [g2 7 (by decide)]) (fun k _ _ => g2 k (by omega))
      refine BX7_fillSums_49 hX ⟨fun _ => zpV ⟨g1, g2, fun d hd => ?_⟩, fun c => absurd ?_ c⟩
      · rw [g3 d hd]; exact (s_sum_split T p d T.1).symm
      · rw [hR.1]; exact h_le h31 (Nat.le_refl _)
    · intro i hi ih M' g1 g2 g3
      have hi10 : i < 10 := by omega
      have hR := h.frame (M' := M') (by rw [g2 7 (by decide)]) (fun k _ _ => g2 k (by omega))
      have hpi : 2 ^ (i + 1) ≤ 2 ^ T.1 := Nat.pow_le_pow_right (by decide) hi
      have hpp : 2 ^ (i + 1) = 2 ^ i + 2 ^ i := by rw [Nat.pow_succ]; omega
      refine BX7_fillSums_49 hX ⟨fun c => absurd c ?_, fun _ => ⟨h_in10 hp, h_in10 hi10, ?_⟩⟩
      · rw [hR.1]; exact h_nle h31 hi
      · rw [h_cl10 hp, h_cl10 hi10, h_shl (by omega), hR.2.2.1 p i hp hi10]
        refine h_down (P := fun j => ∀ M', M'.2 = M.2 → (∀ k, k ≠ 23 → M'.1 k = M.1 k) → (∀ d, d < 2 ^ i + j → M'.1 23 d = s_lb T p T.1 + s_tw T p d (i + 1)) → LX7_fillSums_75 X _ (nI p) (nI i) (nI (2 ^ i)) (2 * T.2.1 p i) (nI j) M') (2 ^ i) ?_ ?_ M' g1 g2 ?_
        · intro M2 k1 k2 k3
          refine BX7_fillSums_75 hX ⟨fun _ => ?_, fun c => absurd (h_le (by omega) (Nat.le_refl _)) c⟩
          rw [nI_1]
          exact ih M2 k1 k2 (fun d hd => k3 d (by omega))
        · intro j hj ih2 M2 k1 k2 k3
          refine BX7_fillSums_75 hX ⟨fun c => absurd c (h_nle (by omega) hj), fun _ => ?_⟩
          rw [nI_add, h_cl (show j < 2 ^ 31 by omega), h_cl (show j + 2 ^ i < 2 ^ 31 by omega)]
          refine ⟨h_in (by omega) (by decide), h_in (by omega) (by decide), fun M3 e3 => ?_⟩
          rw [nI_1]
          refine ih2 M3 (by rw [e3]; exact k1) (fun k hk => by rw [e3, m_cell _ _ hk]; exact k2 k hk) (fun d hd => ?_)
          by_cases hdj : d = j + 2 ^ i
          · subst hdj
            rw [e3, m_same, k3 j (by omega)]
            have b1 : (j + 2 ^ i).testBit i = true := by
              rw [Nat.add_comm, Nat.testBit_two_pow_add_eq, Nat.testBit_lt_two_pow hj]; rfl
            have b0 : j.testBit i = false := Nat.testBit_lt_two_pow hj
            have bl : ∀ a, a < i → (j + 2 ^ i).testBit a = j.testBit a := fun a ha => by
              rw [Nat.add_comm, Nat.testBit_two_pow_add_gt ha]
            unfold s_tw
            rw [if_pos b1, if_neg (by rw [b0]; decide), s_tw_low T p (j + 2 ^ i) j i bl, Int32.add_zero, Int32.add_assoc]
          · rw [e3, m_ne _ _ (by omega)]
            exact k3 d (by omega)
        · intro d hd
          rw [g3 d (by omega)]
          have b0 : d.testBit i = false := Nat.testBit_lt_two_pow (by omega)
          show _ = s_lb T p T.1 + (s_tw T p d i + _)
          rw [if_neg (by rw [b0]; decide), Int32.add_zero]
    · intro d hd
      have : d = 0 := by have : (2 : Nat) ^ 0 = 1 := rfl; omega
      subst this
      rw [f3]; simp [s_tw]
  refine h_down (P := fun i => LX7_fillSums_17 X _ (nI p) (s_lb T p i) (nI i) M) T.1 ?_ ?_
  · refine BX7_fillSums_17 hX ⟨fun _ => ⟨h_inK (a := 0) (by decide), fun M1 e1 => ?_⟩, fun c => absurd ?_ c⟩
    · have e1 : M1 = z_st M 23 0 (s_lb T p T.1) := e1
      refine h49 M1 (by rw [e1]; rfl) (fun k hk => by rw [e1, m_cell _ _ hk]) (by rw [e1, m_same])
    · rw [h.1]; exact h_le h31 (Nat.le_refl _)
  · intro i hi ih
    have hi10 : i < 10 := by omega
    refine BX7_fillSums_17 hX ⟨fun c => absurd c ?_, fun _ => ⟨h_in10 hp, h_in10 hi10, ?_⟩⟩
    · rw [h.1]; exact h_nle h31 hi
    · rw [h_cl10 hp, h_cl10 hi10, h.2.2.1 p i hp hi10, nI_1]; exact ih
end Town2
