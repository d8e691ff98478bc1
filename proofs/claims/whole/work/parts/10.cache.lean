/-! the table of those who are not calm -/
/-- what restless() and what it calls may change: sums (23), restless (24), the town's 'stale' (7, 6) -/
def FrR (M M1 : Mem) : Prop := M1.2 = M.2 ∧ (∀ k, k ≠ 7 → k ≠ 23 → k ≠ 24 → M1.1 k = M.1 k) ∧ (∀ j, j ≠ 6 → M1.1 7 j = M.1 7 j)
theorem FrR.rfl' (M : Mem) : FrR M M := ⟨rfl, fun _ _ _ _ => rfl, fun _ _ => rfl⟩
theorem FrR.trans {M M1 M2 : Mem} (h : FrR M M1) (h2 : FrR M1 M2) : FrR M M2 :=
  ⟨h2.1.trans h.1, fun k a b c => (h2.2.1 k a b c).trans (h.2.1 k a b c), fun j a => (h2.2.2 j a).trans (h.2.2 j a)⟩
theorem FrR.rep {M M1 : Mem} {T : TW} (h : FrR M M1) (hR : RepX M T) : RepX M1 T := hR.frame (h.2.2 5 (by decide)) (fun k _ _ => h.2.1 k (by omega) (by omega) (by omega))
/-- the table is right in the bits of those that 'ok' names -/
def CacheR (M : Mem) (T : TW) (ok : Nat → Prop) : Prop := ∀ d, d < 2 ^ T.1 → ∃ r, r < 2 ^ T.1 ∧ M.1 24 d = nI r ∧ ∀ p, p < T.1 → ok p → r.testBit p = !s_calm T p d
def CacheT (M : Mem) (T : TW) : Prop := ∃ s, s < 1024 ∧ M.1 7 6 = nI s ∧ CacheR M T (fun p => s.testBit p = false)
def FreshR (M : Mem) (T : TW) : Prop := ∀ d, d < 2 ^ T.1 → M.1 24 d = nI (s_rl T d)
section CacheC
variable {E : ET} {M : Mem} {T : TW}
theorem c_renew (h : RepX M T) {p : Nat} (hp : p < T.1) {ok : Nat → Prop} (hc : CacheR M T ok) : CX7_renew E [.ref (E.2.1 7), .int (nI p)] M (z_pV (fun M1 => FrR M M1 ∧ M1.1 7 6 = M.1 7 6 ∧ CacheR M1 T (fun q => q = p ∨ ok q))) := by
  have h31 := h.lt31
  have hn10 := h.2.1.2
  have hp2 := h.p2
  have hp10 : p < 10 := by omega
  have hpow : 2 ^ p < 2 ^ T.1 := Nat.pow_lt_pow_right (by decide) hp
  refine EX7_renew (fun X hE hX => ⟨_, c_fillSums h hp10, fun M1 hf => ?_⟩)
  obtain ⟨f1, f2, f3⟩ := hf
  have hR := h.frame (M' := M1) (by rw [f2 7 (by decide)]) (fun k _ _ => f2 k (by omega))
  refine ⟨h_in10 hp10, _, c_dresses hR, ?_⟩
  rw [h_cl10 hp10, h_shl (by omega), hR.2.2.2.1 p hp10]
  refine h_down (P := fun i => ∀ M2, (∀ k, k ≠ 24 → M2.1 k = M1.1 k) → M2.2 = M1.2 → (∀ d, d < 2 ^ T.1 → ∃ r, r < 2 ^ T.1 ∧ M2.1 24 d = nI r ∧ ∀ q, q < T.1 → ((q = p ∧ d < i) ∨ (q ≠ p ∧ ok q)) → r.testBit q = !s_calm T q d) → (∀ d, d < 2 ^ T.1 → i ≤ d → M2.1 24 d = M1.1 24 d) → LX7_renew_25 X _ (nI p) (T.2.2.1 p) (nI (2 ^ p)) (nI (2 ^ T.1)) (nI i) M2) (2 ^ T.1) ?_ ?_ M1 (fun _ _ => rfl) rfl ?_ (fun _ _ _ => rfl)
  · intro M2 g1 g2 g3 g4
    refine BX7_renew_25 hX ⟨fun _ => zpV ⟨⟨g2.trans f1, fun k a b c => (g1 k c).trans (f2 k b), fun j _ => by rw [g1 7 (by decide), f2 7 (by decide)]⟩, by rw [g1 7 (by decide), f2 7 (by decide)], fun d hd => ?_⟩, fun c => absurd (h_le (by omega) (Nat.le_refl _)) c⟩
    obtain ⟨r, r1, r2, r3⟩ := g3 d hd
    refine ⟨r, r1, r2, fun q hq hk => r3 q hq ?_⟩
    by_cases e : q = p
    · exact Or.inl ⟨e, hd⟩
    · exact Or.inr ⟨e, hk.resolve_left e⟩
  · intro i hi ih M2 g1 g2 g3 g4
    have hi31 : i < 2 ^ 31 := by omega
    have hiK : i < 1024 := by omega
    have e23 : M2.1 23 i = s_sum T p i := by rw [g1 23 (by decide)]; exact f3 i hi
    refine BX7_renew_25 hX ⟨fun c => absurd c (h_nle (by omega) hi), fun _ => ⟨_, c_worn hi31 (by omega), h_inK hiK, ?_⟩⟩
    rw [h_clK hiK, e23, nI_1]
    obtain ⟨r, r1, r2, r3⟩ := g3 i hi
    have rK : r < 1024 := by omega
    have pK : 2 ^ p < 1024 := by omega
    have put : ∀ (M3 : Mem) (r' : Nat), r' < 2 ^ T.1 → M3 = z_st M2 24 i (nI r') → r'.testBit p = !s_calm T p i → (∀ q, q ≠ p → r'.testBit q = r.testBit q) → LX7_renew_25 X (z_pV (fun M1 => FrR M M1 ∧ M1.1 7 6 = M.1 7 6 ∧ CacheR M1 T (fun q => q = p ∨ ok q))) (nI p) (T.2.2.1 p) (nI (2 ^ p)) (nI (2 ^ T.1)) (nI (i + 1)) M3 := by
      intro M3 r' a1 e3 a2 a3
      refine ih M3 (fun k hk => by rw [e3, m_cell _ _ hk]; exact g1 k hk) (by rw [e3]; exact g2) (fun d hd => ?_) (fun d hd hid => by rw [e3, m_ne _ _ (by omega)]; exact g4 d hd (by omega))
      by_cases hdi : d = i
      · subst hdi
        refine ⟨r', a1, by rw [e3, m_same], fun q hq hk => ?_⟩
        rcases hk with ⟨rfl, -⟩ | ⟨k1, k2⟩
        · exact a2
        · rw [a3 q k1]; exact r3 q hq (Or.inr ⟨k1, k2⟩)
      · obtain ⟨r0, b1, b2, b3⟩ := g3 d hd
        refine ⟨r0, b1, by rw [e3, m_ne _ _ (by omega)]; exact b2, fun q hq hk => b3 q hq ?_⟩
        rcases hk with ⟨k1, k2⟩ | hk
        · exact Or.inl ⟨k1, by omega⟩
        · exact Or.inr hk
    have hor : (M2.1 24 i) ||| nI (2 ^ p) = nI (r ||| 2 ^ p) := by rw [r2, h_or]
    have hand : (M2.1 24 i) &&& (nI (2 ^ p) ^^^ (-1)) = nI (r &&& (1023 ^^^ 2 ^ p)) := by rw [r2, h_andnot rK pK]
    have calmT : s_next (T.2.2.1 p) (s_sum T p i) (i.testBit p) = i.testBit p → s_calm T p i = true := fun e => by simp [s_calm, e]
    have calmF : ¬ s_next (T.2.2.1 p) (s_sum T p i) (i.testBit p) = i.testBit p → s_calm T p i = false := fun e => by simp [s_calm, e]
    refine ⟨_, c_nextOf, fun c => ?_, fun c => ?_⟩
    · rw [s_bit_inj] at c
      refine ⟨fun _ => ⟨h_inK hiK, h_inK hiK, fun M3 e3 => ?_⟩, fun c => absurd rfl c⟩
      rw [hor] at e3
      refine put M3 _ (Nat.or_lt_two_pow r1 hpow) e3 ?_ (fun q hq => ?_)
      · rw [calmF c, Nat.testBit_or, Nat.testBit_two_pow]; simp
      · rw [Nat.testBit_or, Nat.testBit_two_pow]; simp [show ¬ p = q from fun e => hq e.symm]
    · rw [s_bit_inj] at c
      refine ⟨fun c => absurd c (by decide), fun _ => ⟨h_inK hiK, h_inK hiK, fun M3 e3 => ?_⟩⟩
      rw [hand] at e3
      have t1023 : ∀ q, (1023 : Nat).testBit q = decide (q < 10) := fun q => by rw [show (1023 : Nat) = 2 ^ 10 - 1 from rfl, Nat.testBit_two_pow_sub_one]
      refine put M3 _ (Nat.lt_of_le_of_lt Nat.and_le_left r1) e3 ?_ (fun q hq => ?_)
      · rw [calmT c, Nat.testBit_and, Nat.testBit_xor, Nat.testBit_two_pow, t1023]; simp [hp10]
      · rw [Nat.testBit_and, Nat.testBit_xor, Nat.testBit_two_pow, t1023]
        by_cases hq10 : q < 10
        · simp [show ¬ p = q from fun e => hq e.symm, hq10]
        · have : r.testBit q = false := Nat.testBit_lt_two_pow (Nat.lt_of_lt_of_le rK (show 1024 ≤ 2 ^ q from Nat.pow_le_pow_right (n := 2) (by decide) (show 10 ≤ q by omega)))
          rw [this]; rfl
  · intro d hd
    obtain ⟨r, r1, r2, r3⟩ := hc d hd
    refine ⟨r, r1, by rw [f2 24 (by decide)]; exact r2, fun q hq hk => ?_⟩
    rcases hk with ⟨-, k⟩ | ⟨k1, k2⟩
    · exact absurd k (Nat.not_lt_zero d)
    · exact r3 q hq k2
theorem s_rl_eq {r d : Nat} (hr : r < 2 ^ T.1) (h : ∀ p, p < T.1 → r.testBit p = !s_calm T p d) : r = s_rl T d := by
  apply Nat.eq_of_testBit_eq
  intro i
  rw [s_rl_bit]
  by_cases hi : i < T.1
  · rw [h i hi]; simp [hi]
  · rw [Nat.testBit_lt_two_pow (Nat.lt_of_lt_of_le hr (Nat.pow_le_pow_right (by decide) (by omega)))]; simp [hi]
theorem c_restless (h : RepX M T) (hc : CacheT M T) : CX7_restless E [.ref (E.2.1 7)] M (z_pR (E.2.1 24) (fun M1 => FrR M M1 ∧ M1.1 7 6 = nI 0 ∧ FreshR M1 T)) := by
  obtain ⟨s, s1, s2, s3⟩ := hc
  have h31 := h.lt31
  have hn10 := h.2.1.2
  refine EX7_restless (fun X hE hX => ?_)
  subst hE
  refine h_down (P := fun i => ∀ M1, FrR M M1 → M1.1 7 6 = nI s → CacheR M1 T (fun p => p < i ∨ s.testBit p = false) → LX7_restless_2 X _ (nI i) M1) T.1 ?_ ?_ M (FrR.rfl' M) s2 ?_
  · intro M1 f1 f2 f3
    have hR := f1.rep h
    refine BX7_restless_2 hX ⟨fun _ M2 e2 => zpR ⟨?_, ?_, fun d hd => ?_⟩, fun c => absurd ?_ c⟩
    · refine f1.trans ?_
      subst e2
      exact ⟨rfl, fun k k1 _ _ => m_cell _ _ k1, fun j hj => m_ne _ _ (by omega)⟩
    · rw [e2, m_same]; rfl
    · rw [e2, m_ne _ _ (by omega)]
      obtain ⟨r, r1, r2, r3⟩ := f3 d hd
      rw [r2, s_rl_eq r1 (fun p hp => r3 p hp (Or.inl hp))]
    · rw [hR.1]; exact h_le h31 (Nat.le_refl _)
  · intro i hi ih M1 f1 f2 f3
    have hR := f1.rep h
    refine BX7_restless_2 hX ⟨fun c => absurd c ?_, fun _ => ?_⟩
    · rw [hR.1]; exact h_nle h31 hi
    · rw [f2]
      refine ⟨_, c_worn (by omega) (by omega), fun c => ?_, fun c => ⟨_, c_renew hR hi f3, fun M2 hq => ?_⟩⟩
      · have hb : s.testBit i = false := by cases hb : s.testBit i <;> simp [hb, s_bit] at c ⊢
        rw [nI_1]
        refine ih M1 f1 f2 (fun d hd => ?_)
        obtain ⟨r, r1, r2, r3⟩ := f3 d hd
        refine ⟨r, r1, r2, fun p hp hk => r3 p hp ?_⟩
        by_cases e : p = i
        · exact Or.inr (by rw [e]; exact hb)
        · exact hk.imp (fun h => by omega) id
      · rw [nI_1]
        refine ih M2 (f1.trans hq.1) (hq.2.1.trans f2) (fun d hd => ?_)
        obtain ⟨r, r1, r2, r3⟩ := hq.2.2 d hd
        refine ⟨r, r1, r2, fun p hp hk => r3 p hp ?_⟩
        by_cases e : p = i
        · exact Or.inl e
        · exact Or.inr (hk.imp (fun h => by omega) id)
  · intro d hd
    obtain ⟨r, r1, r2, r3⟩ := s3 d hd
    exact ⟨r, r1, r2, fun p hp hk => r3 p hp (hk.resolve_left (Nat.not_lt_zero p))⟩
end CacheC
