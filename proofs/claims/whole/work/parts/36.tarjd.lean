section TarjD
variable {E F' : ET} {M MX MM : Mem} {T : TW} {P : PW} {v : Nat} {c ps os : Nat} {F L q o lf : Nat → Nat}
/-- what close pops: all from k0 on -/
def kt_pop (o : Nat → Nat) (j os x : Nat) : Prop := ∃ k, j ≤ k ∧ k < os ∧ o k = x
theorem c_close {N f0 k0 : Nat} (hN : N ≤ 1024) (hM : kt_M M N c F L ps q os o lf) (hf : f0 < N) (hk : k0 < os) (hos : os ≤ 1024) (ho : ∀ k, k < os → o k < N ∧ F (o k) ≠ 0) (hk0 : o k0 = f0) (hne : ∀ k, k0 < k → k < os → o k ≠ f0) : CX4_close E [.ref (E.2.1 4), .int (nI f0), .int (nI N)] M (z_pI (fun r M1 => FrT M M1 ∧ ∃ R L', r = nI R ∧ (∀ x, x < N → kt_pop o k0 os x → L' x = 1025) ∧ (∀ x, x < N → ¬ kt_pop o k0 os x → L' x = L x) ∧ kt_M M1 N c F L' ps q k0 o lf ∧ ((os - k0 ≤ 1 ∧ R = N) ∨ (1 < os - k0 ∧ R < N ∧ kt_pop o k0 os R ∧ ∀ k, k0 ≤ k → k < os → R ≤ o k)))) := by
  generalize hQ : (z_pI (fun r M1 => FrT M M1 ∧ ∃ R L', r = nI R ∧ (∀ x, x < N → kt_pop o k0 os x → L' x = 1025) ∧ (∀ x, x < N → ¬ kt_pop o k0 os x → L' x = L x) ∧ kt_M M1 N c F L' ps q k0 o lf ∧ ((os - k0 ≤ 1 ∧ R = N) ∨ (1 < os - k0 ∧ R < N ∧ kt_pop o k0 os R ∧ ∀ k, k0 ≤ k → k < os → R ≤ o k)))) = Q
  refine EX4_close (fun X hE hX => ?_)
  have main : ∀ d, k0 + d ≤ os → ∀ M1 m x5 L1, FrT M M1 → kt_M M1 N c F L1 ps q (k0 + d) o lf → (∀ x, x < N → kt_pop o (k0 + d) os x → L1 x = 1025) → (∀ x, x < N → ¬ kt_pop o (k0 + d) os x → L1 x = L x) → m < N → kt_pop o k0 os m → (∀ k, k0 + d ≤ k → k < os → m ≤ o k) → ((k0 + d = os ∧ x5 = -1) ∨ (k0 + d < os ∧ x5 = nI (o (k0 + d)))) → LX4_close_8 X Q (nI f0) (nI N) (nI m) (nI (os - (k0 + d))) x5 M1 := by
    intro d
    induction d with
    | zero =>
      intro hd M1 m x5 L1 g1 g2 g3 g4 g5 g6 g7 g8
      have e5 : x5 = nI f0 := by
        rcases g8 with h | h
        · omega
        · rw [h.2, Nat.add_zero, hk0]
      have fin : (nI (os - (k0 + 0)) ≤ 1 → Q (some (.int (nI N))) M1) ∧ (¬ nI (os - (k0 + 0)) ≤ 1 → Q (some (.int (nI m))) M1) := by
        refine ⟨fun c1 => ?_, fun c1 => ?_⟩
        · have : os - k0 ≤ 1 := Nat.le_of_not_lt (fun h => h_nle (a := 1) (by omega) (show 1 < os - (k0 + 0) by omega) c1)
          rw [← hQ]
          exact zpI ⟨g1, N, L1, rfl, g3, g4, g2, Or.inl ⟨this, rfl⟩⟩
        · have : 1 < os - k0 := Nat.lt_of_not_le (fun h => c1 (h_le (b := 1) (by decide) (show os - (k0 + 0) ≤ 1 by omega)))
          rw [← hQ]
          exact zpI ⟨g1, m, L1, rfl, g3, g4, g2, Or.inr ⟨this, g5, g6, g7⟩⟩
      exact BX4_close_8 hX ⟨fun _ => fin, fun _ => ⟨fun _ => fin, fun c1 => absurd e5 c1⟩⟩
    | succ d ih =>
      intro hd M1 m x5 L1 g1 g2 g3 g4 g5 g6 g7 g8
      obtain ⟨b1, b2, b3, b4, b5, b6, b7, b8⟩ := g2
      have hod := ho (k0 + d) (by omega)
      have n5 : ¬ x5 = nI f0 := by
        rcases g8 with h | h
        · rw [h.2]; exact fun e => nI_pos (n := f0) (by omega) (by rw [← e]; decide)
        · rw [h.2]
          have := (ho (k0 + (d + 1)) h.1).1
          rw [nI_eq (by omega) (by omega)]
          exact hne _ (by omega) h.1
      refine BX4_close_8 hX ⟨fun c1 => absurd c1 ?_, fun _ => ⟨fun c1 => absurd c1 n5, fun _ M2 e2 => ?_⟩⟩
      · rw [b3]; exact h_nle (a := 0) (by omega) (by omega)
      · have es : nI (k0 + (d + 1)) - 1 = nI (k0 + d) := by rw [h_lit1, pk_sub (by omega)]; rfl
        rw [b3, es] at e2
        rw [b3, es, h_clK (by omega)]
        have e32 : M2.1 32 (k0 + d) = nI (o (k0 + d)) := by rw [e2, m_ne _ _ (by omega)]; exact b7 _ (by omega)
        rw [e32, h_clK (show o (k0 + d) < 1024 by omega)]
        refine ⟨h_inK (by omega), h_inK (by omega), fun M3 e3 v3 ev => ?_⟩
        rw [show nI (os - (k0 + (d + 1))) + 1 = nI (os - (k0 + d)) by rw [nI_1]; congr 1; omega]
        have popd : ∀ x, kt_pop o (k0 + d) os x ↔ x = o (k0 + d) ∨ kt_pop o (k0 + (d + 1)) os x := fun x => by
          constructor
          · rintro ⟨k, k1, k2, k3⟩
            by_cases e : k = k0 + d
            · rw [e] at k3; exact Or.inl k3.symm
            · exact Or.inr ⟨k, by omega, k2, k3⟩
          · rintro (h | ⟨k, k1, k2, k3⟩)
            · exact ⟨k0 + d, Nat.le_refl _, by omega, h.symm⟩
            · exact ⟨k, by omega, k2, k3⟩
        have hM3 : kt_M M3 N c F (va_up L1 (o (k0 + d)) 1025) ps q (k0 + d) o lf := by
          refine ⟨by rw [e3, m_ne _ _ (by omega), e2, m_ne _ _ (by omega)]; exact b1, by rw [e3, m_ne _ _ (by omega), e2, m_ne _ _ (by omega)]; exact b2, by rw [e3, m_ne _ _ (by omega), e2, m_same], fun x hx => by rw [e3, m_ne _ _ (by omega), e2, m_ne _ _ (by omega)]; exact b4 x hx, fun x hx h => ?_, fun k hk => by rw [e3, m_ne _ _ (by omega), e2, m_ne _ _ (by omega)]; exact b6 k hk, fun k hk => by rw [e3, m_ne _ _ (by omega), e2, m_ne _ _ (by omega)]; exact b7 k (by omega), fun x hx => by rw [e3, m_ne _ _ (by omega), e2, m_ne _ _ (by omega)]; exact b8 x hx⟩
          by_cases e : x = o (k0 + d)
          · rw [e, up_same, e3, m_same]; rfl
          · rw [up_ne _ _ e, e3, m_ne _ _ (by omega), e2, m_ne _ _ (by omega)]; exact b5 x hx h
        have f3 : FrT M M3 := g1.trans (FrT.trans (M1 := M2) (by rw [e2]; exact FrT.st4) (by rw [e3]; exact FrT.st (by decide)))
        have go : ∀ m', m' < N → kt_pop o k0 os m' → m' ≤ o (k0 + d) → m' ≤ m → LX4_close_8 X Q (nI f0) (nI N) (nI m') (nI (os - (k0 + d))) (nI (o (k0 + d))) M3 := by
          intro m' a1 a2 a3 a4
          refine ih (by omega) M3 m' _ _ f3 hM3 (fun x hx hp => ?_) (fun x hx hp => ?_) a1 a2 (fun k k1 k2 => ?_) (Or.inr ⟨by omega, rfl⟩)
          · by_cases e : x = o (k0 + d)
            · rw [e, up_same]
            · rw [up_ne _ _ e]; exact g3 x hx (((popd x).mp hp).resolve_left e)
          · have e : x ≠ o (k0 + d) := fun e => hp ((popd x).mpr (Or.inl e))
            rw [up_ne _ _ e]; exact g4 x hx (fun h => hp ((popd x).mpr (Or.inr h)))
          · by_cases e : k = k0 + d
            · rw [e]; exact a3
            · exact Nat.le_trans a4 (g7 k (by omega) k2)
        by_cases cm : o (k0 + d) < m
        · rw [if_pos (nI_lt cm (by omega))] at ev
          rw [ev]
          exact go _ hod.1 ⟨k0 + d, by omega, by omega, rfl⟩ (Nat.le_refl _) (by omega)
        · rw [if_neg (nI_nlt (by omega) (by omega))] at ev
          rw [ev]
          exact go _ g5 g6 (by omega) (Nat.le_refl _)
  have h0 := main (os - k0) (by omega) M f0 (-1) L (FrT.rfl' M) (by rw [show k0 + (os - k0) = os by omega]; exact hM) (fun x hx ⟨k, k1, k2, _⟩ => by omega) (fun x hx _ => rfl) hf ⟨k0, Nat.le_refl _, hk, hk0⟩ (fun k k1 k2 => by omega) (Or.inl ⟨by omega, rfl⟩)
  rw [show os - (k0 + (os - k0)) = 0 by omega] at h0
  exact h0
theorem c_goBack {i φ : Nat} {K : Nat → Prop} (hN : 2 ^ T.1 ≤ 1024) (hV : kt_V (2 ^ T.1) c F L ps q os o) (hG : kt_G T F L ps q lf) (hM : kt_M M (2 ^ T.1) c F L ps q os o lf) (hφ : kt_b lf (10 * 2 ^ T.1) + ps + (2 ^ T.1 - c) ≤ φ + 1) (hi : ∀ x, x < i → x < 2 ^ T.1 → F x ≠ 0) (hK : ∀ x, x < 2 ^ T.1 → F x ≠ 0 → L x = 1025 → s_cyc T x → K x) (hps : 1 ≤ ps) (h0 : lf (q (ps - 1)) = 0) : CX4_goBack E [.ref (E.2.1 4), .int (nI (q (ps - 1))), .int (nI (2 ^ T.1))] M (z_pI (fun r M1 => FrT M M1 ∧ ∃ R, r = nI R ∧ R ≤ 2 ^ T.1 ∧ (R < 2 ^ T.1 → s_cyc T R) ∧ kt_S M1 T i φ (fun x => K x ∨ R ≤ x))) := by
  have hV' := hV
  obtain ⟨v1, v2, v3, v4, v5, v6, v7, v8, v9⟩ := hV'
  obtain ⟨t1, t2⟩ := v7 (ps - 1) (by omega)
  have hcN := kt_cN v2
  obtain ⟨pc, oc⟩ := kt_psle hV
  have hlk := v9 _ t1 t2
  have hck := v1 _ t1
  refine EX4_goBack (fun M1 e1 => ?_)
  obtain ⟨b1, b2, b3, b4, b5, b6, b7, b8⟩ := hM
  rw [b2, h_lit1, pk_sub (by omega)] at e1
  have a7 : M1.1 4 7 = nI (ps - 1) := by rw [e1, m_same]
  have f1 : FrT M M1 := by rw [e1]; exact FrT.st4
  have hM1 : kt_M M1 (2 ^ T.1) c F L (ps - 1) q os o lf := ⟨by rw [e1, m_ne _ _ (by omega)]; exact b1, a7, by rw [e1, m_ne _ _ (by omega)]; exact b3, fun x hx => by rw [e1, m_ne _ _ (by omega)]; exact b4 x hx, fun x hx h => by rw [e1, m_ne _ _ (by omega)]; exact b5 x hx h, fun k hk => by rw [e1, m_ne _ _ (by omega)]; exact b6 k (by omega), fun k hk => by rw [e1, m_ne _ _ (by omega)]; exact b7 k hk, fun x hx => by rw [e1, m_ne _ _ (by omega)]; exact b8 x hx⟩
  rw [h_clK (by omega), hM1.2.2.2.2.1 _ t1 t2.1, hM1.2.2.2.1 _ t1, a7]
  refine ⟨h_inK (by omega), h_inK (by omega), fun cn => ?_, fun ce => ?_⟩
  · have hne : L (q (ps - 1)) ≠ F (q (ps - 1)) := fun e => cn (by rw [e])
    have hps2 : 2 ≤ ps := Classical.byContradiction (fun h => by
      have h1 := (kt_min hV hG t1 t2).2.1
      rw [show ps - 1 = 0 by omega] at hne
      exact hne h1)
    obtain ⟨u1, u2⟩ := v7 (ps - 2) (by omega)
    have ulk := v9 _ u1 u2
    have uck := v1 _ u1
    have es : nI (ps - 1) - 1 = nI (ps - 2) := by rw [h_lit1, pk_sub (by omega)]; rfl
    have e31 : M1.1 31 (ps - 2) = nI (q (ps - 2)) := hM1.2.2.2.2.2.1 _ (by omega)
    refine ⟨fun c1 => absurd c1 (h_nle (a := 0) (by omega) (by omega)), fun _ => ?_⟩
    rw [es, h_clK (show ps - 2 < 1024 by omega), e31, h_clK (show q (ps - 2) < 1024 by omega), hM1.2.2.2.2.1 _ u1 u2.1]
    refine ⟨h_inK (by omega), h_inK (by omega), h_inK (by omega), h_inK (by omega), fun M2 e2 => ?_⟩
    have fin : ∀ m, M2 = z_st M1 30 (q (ps - 2)) (nI m) → m ≤ L (q (ps - 2)) → m ≤ L (q (ps - 1)) → (m = L (q (ps - 2)) ∨ m = L (q (ps - 1))) → z_pI (fun r M1 => FrT M M1 ∧ ∃ R, r = nI R ∧ R ≤ 2 ^ T.1 ∧ (R < 2 ^ T.1 → s_cyc T R) ∧ kt_S M1 T i φ (fun x => K x ∨ R ≤ x)) (some (.int (nI (2 ^ T.1)))) M2 := by
      intro m e3 m1 m2 m3
      obtain ⟨w1, w2⟩ := kt_back hN hV hG hps2 h0 hne m1 m2 m3
      refine zpI ⟨f1.trans (by rw [e3]; exact FrT.st (by decide)), 2 ^ T.1, rfl, Nat.le_refl _, fun h => absurd h (Nat.lt_irrefl _), c, F, _, ps - 1, q, os, o, lf, w1, w2, ?_, by omega, hi, fun x hx hx0 hxl hxc => Or.inl ?_⟩
      · obtain ⟨b1, b2, b3, b4, b5, b6, b7, b8⟩ := hM1
        refine ⟨by rw [e3, m_ne _ _ (by omega)]; exact b1, by rw [e3, m_ne _ _ (by omega)]; exact b2, by rw [e3, m_ne _ _ (by omega)]; exact b3, fun x hx => by rw [e3, m_ne _ _ (by omega)]; exact b4 x hx, fun x hx h => ?_, fun k hk => by rw [e3, m_ne _ _ (by omega)]; exact b6 k hk, fun k hk => by rw [e3, m_ne _ _ (by omega)]; exact b7 k hk, fun x hx => by rw [e3, m_ne _ _ (by omega)]; exact b8 x hx⟩
        by_cases e : x = q (ps - 2)
        · rw [e, up_same, e3, m_same]
        · rw [up_ne _ _ e, e3, m_ne _ _ (by omega)]; exact b5 x hx h
      · have : x ≠ q (ps - 2) := fun e => by rw [e, up_same] at hxl; omega
        rw [up_ne _ _ this] at hxl
        exact hK x hx hx0 hxl hxc
    by_cases cm : L (q (ps - 1)) < L (q (ps - 2))
    · rw [if_pos (nI_lt cm (by omega))] at e2
      exact fin _ e2 (by omega) (Nat.le_refl _) (Or.inr rfl)
    · rw [if_neg (nI_nlt (by omega) (by omega))] at e2
      exact fin _ e2 (Nat.le_refl _) (by omega) (Or.inl rfl)
  · have heq : L (q (ps - 1)) = F (q (ps - 1)) := (nI_eq (by omega) (by omega)).mp ce
    obtain ⟨k0, k1, k2⟩ := v5 _ t1 t2
    have oinj : ∀ k, k0 < k → k < os → o k ≠ q (ps - 1) := fun k h1 h2 e => by
      have := v6 k0 k h1 h2
      rw [k2, e] at this; omega
    have popi : ∀ x, x < 2 ^ T.1 → (kt_pop o k0 os x ↔ kt_op F L x ∧ F (q (ps - 1)) ≤ F x) := fun x hx => by
      constructor
      · rintro ⟨k, a1, a2, a3⟩
        rw [← a3]
        refine ⟨(v4 k a2).2, ?_⟩
        by_cases e : k = k0
        · rw [e, k2]; exact Nat.le_refl _
        · have := v6 k0 k (by omega) a2
          rw [k2] at this; omega
      · rintro ⟨a1, a2⟩
        obtain ⟨k, b1, b2⟩ := v5 x hx a1
        refine ⟨k, Nat.le_of_not_lt (fun h => ?_), b1, b2⟩
        have := v6 k k0 h k1
        rw [k2, b2] at this; omega
    refine ⟨_, c_close hN hM1 t1 k1 (by omega) (fun k hk => ⟨(v4 k hk).1, (v4 k hk).2.1⟩) k2 oinj, fun r4 M3 hq => ?_⟩
    obtain ⟨f3, R, L', er, p1, p2, hM3, hR⟩ := hq
    obtain ⟨w1, w2⟩ := kt_close hV hG hps h0 heq k1 k2 (fun x hx h1 h2 => p1 x hx ((popi x hx).mpr ⟨h1, h2⟩)) (fun x hx h1 => p2 x hx (fun h => h1 ((popi x hx).mp h)))
    have hold : ∀ x, x < 2 ^ T.1 → F x ≠ 0 → L' x = 1025 → kt_pop o k0 os x ∨ L x = 1025 := fun x hx hx0 hxl => by
      by_cases h : kt_pop o k0 os x
      · exact Or.inl h
      · rw [p2 x hx h] at hxl; exact Or.inr hxl
    rw [er]
    have hos0 := os - k0
    rcases hR with ⟨s1, rfl⟩ | ⟨s1, s2, s3, s4⟩
    · refine zpI ⟨f1.trans f3, _, rfl, Nat.le_refl _, fun h => absurd h (Nat.lt_irrefl _), c, F, L', ps - 1, q, k0, o, lf, w1, w2, hM3, by omega, hi, fun x hx hx0 hxl hxc => ?_⟩
      rcases hold x hx hx0 hxl with h | h
      · have ns := kt_single hV hG hps h0 heq (fun z hz z1 z2 => by
          obtain ⟨k, a1, a2, a3⟩ := (popi z hz).mpr ⟨z1, z2⟩
          rw [← a3, show k = k0 by omega, k2])
        obtain ⟨k, a1, a2, a3⟩ := h
        rw [← a3, show k = k0 by omega, k2] at hxc
        exact absurd hxc ns
      · exact Or.inl (hK x hx hx0 h hxc)
    · have hcyc : s_cyc T R := by
        have h1 := (popi R s2).mp s3
        have hs1 := kt_scc hV hG hps heq s2 h1.1 h1.2
        by_cases e : q (ps - 1) = R
        · obtain ⟨z1, z2⟩ := v4 (k0 + 1) (by omega)
          have hpz : kt_pop o k0 os (o (k0 + 1)) := ⟨k0 + 1, by omega, by omega, rfl⟩
          have h2 := (popi _ z1).mp hpz
          have hs2 := kt_scc hV hG hps heq z1 h2.1 h2.2
          have hne := oinj (k0 + 1) (by omega) (by omega)
          rw [← e]
          exact s_cyc_of hne hs2.2 hs2.1
        · exact s_cyc_of e hs1.1 hs1.2
      refine zpI ⟨f1.trans f3, _, rfl, by omega, fun _ => hcyc, c, F, L', ps - 1, q, k0, o, lf, w1, w2, hM3, by omega, hi, fun x hx hx0 hxl hxc => ?_⟩
      rcases hold x hx hx0 hxl with ⟨k, a1, a2, a3⟩ | h
      · exact Or.inr (by rw [← a3]; exact s4 k a1 a2)
      · exact Or.inl (hK x hx hx0 h hxc)
theorem c_searchFrom {i B0 : Nat} (h10 : T.1 ≤ 10) (hN : 2 ^ T.1 ≤ 1024) (hi : i < 2 ^ T.1) (hZ : kt_Z M T i (fun x => B0 ≤ x)) (h29 : M.1 29 i = 0) : CX4_searchFrom E [.ref (E.2.1 4), .int (nI i), .int (nI (2 ^ T.1))] M (z_pI (fun r M1 => FrT M M1 ∧ ∃ B, r = nI B ∧ B ≤ 2 ^ T.1 ∧ (B < 2 ^ T.1 → s_cyc T B) ∧ kt_Z M1 T (i + 1) (fun x => B0 ≤ x ∨ B ≤ x))) := by
  generalize hQ : (z_pI (fun r M1 => FrT M M1 ∧ ∃ B, r = nI B ∧ B ≤ 2 ^ T.1 ∧ (B < 2 ^ T.1 → s_cyc T B) ∧ kt_Z M1 T (i + 1) (fun x => B0 ≤ x ∨ B ≤ x))) = Q
  obtain ⟨c, F, L, q, o, lf, hV, hG, hM, hfi, hK⟩ := hZ
  refine EX4_searchFrom (fun X hE hX => ?_)
  intro M1 e1
  rw [show z_st M 4 7 (nI 0) = M1 from e1.symm] at hM
  have f1 : FrT M M1 := by rw [e1]; exact FrT.st4
  have hF0 : F i = 0 := by
    have h1 := hM.2.2.2.1 i hi
    rw [e1, m_ne _ _ (by omega), h29, h_lit0] at h1
    have := hV.1 i hi
    have := kt_cN hV.2.1
    exact ((nI_eq (by decide) (by omega)).mp h1).symm
  have hc1 := kt_cN2 hV.2.1 hi hF0
  refine ⟨_, c_enter hN hM hi (by omega) (by omega) (by omega), fun M2 hq => ?_⟩
  obtain ⟨w1, w2⟩ := kt_enter hN hV hG hi hF0 (fun x hx => (hG.2.1 x hx).1) (fun _ _ _ h => h) (fun x _ p h1 h2 => by rw [h1] at h2; exact absurd h2 (by decide)) (fun h => by omega)
  have hb := s_ct_le (fun j => (lf (j / 10)).testBit (j % 10)) (10 * 2 ^ T.1)
  have start : kt_S M2 T (i + 1) (11264 - 0) (fun x => B0 ≤ x ∨ 2 ^ T.1 ≤ x) := by
    refine ⟨c + 1, _, _, 0 + 1, _, 0 + 1, _, lf, w1, w2, hq.2, ?_, fun x hx hx2 => ?_, fun x hx hx0 hxl hxc => ?_⟩
    · have : kt_b lf (10 * 2 ^ T.1) ≤ 10 * 2 ^ T.1 := hb
      omega
    · by_cases e : x = i
      · rw [e, up_same]; omega
      · rw [up_ne _ _ e]; exact hfi x (by omega) hx2
    · have e : x ≠ i := fun e => by rw [e, up_same] at hxl; omega
      rw [up_ne _ _ e] at hx0
      exact Or.inl ((hK x hx hx0).resolve_right (fun h => h hxc))
  refine h_down (P := fun t => ∀ M3 B, FrT M M3 → B ≤ 2 ^ T.1 → (B < 2 ^ T.1 → s_cyc T B) → kt_S M3 T (i + 1) (11264 - t) (fun x => B0 ≤ x ∨ B ≤ x) → LX4_searchFrom_20 X Q (nI (2 ^ T.1)) (11264 : Int32) (nI B) (nI t) M3) 11264 ?_ ?_ M2 (2 ^ T.1) (f1.trans hq.1) (Nat.le_refl _) (fun h => absurd h (Nat.lt_irrefl _)) start
  all_goals
    have fin : ∀ M3 B, FrT M M3 → B ≤ 2 ^ T.1 → (B < 2 ^ T.1 → s_cyc T B) → (∃ c F L q os o lf, kt_V (2 ^ T.1) c F L 0 q os o ∧ kt_G T F L 0 q lf ∧ kt_M M3 (2 ^ T.1) c F L 0 q os o lf ∧ (∀ x, x < i + 1 → x < 2 ^ T.1 → F x ≠ 0) ∧ (∀ x, x < 2 ^ T.1 → F x ≠ 0 → L x = 1025 → s_cyc T x → B0 ≤ x ∨ B ≤ x)) → Q (some (.int (nI B))) M3 := by
      intro M3 B g1 g2 g3 ⟨c, F, L, q, os, o, lf, hV, hG, hM, hfi, hK⟩
      have noop : ∀ x, x < 2 ^ T.1 → ¬ kt_op F L x := fun x hx hop => by
        have := (kt_min hV hG hx hop).1; omega
      have hos : os = 0 := by
        rcases Nat.eq_zero_or_pos os with e | e
        · exact e
        · have := hV.2.2.2.1 0 e
          exact absurd this.2 (noop _ this.1)
      subst hos
      rw [← hQ]
      refine zpI ⟨g1, B, rfl, g2, g3, c, F, L, q, o, lf, hV, hG, ?_, hfi, fun x hx hx0 => ?_⟩
      · obtain ⟨b1, b2, b3, b4, b5, b6, b7, b8⟩ := hM
        exact ⟨by rw [m_ne _ _ (by omega)]; exact b1, m_same _ _ _ _, by rw [m_ne _ _ (by omega)]; exact b3, fun x hx => by rw [m_ne _ _ (by omega)]; exact b4 x hx, fun x hx h => by rw [m_ne _ _ (by omega)]; exact b5 x hx h, fun k hk => absurd hk (Nat.not_lt_zero k), fun k hk => absurd hk (Nat.not_lt_zero k), fun x hx => by rw [m_ne _ _ (by omega)]; exact b8 x hx⟩
      · by_cases hc : s_cyc T x
        · exact Or.inl (hK x hx hx0 (Classical.byContradiction (fun h => noop x hx ⟨hx0, h⟩)) hc)
        · exact Or.inr hc
  · intro M3 B g1 g2 g3 ⟨c, F, L, ps, q, os, o, lf, hV, hG, hM, hφ, hfi, hK⟩
    have hps : ps = 0 := by omega
    subst hps
    exact BX4_searchFrom_20 hX ⟨fun _ => fin M3 B g1 g2 g3 ⟨c, F, L, q, os, o, lf, hV, hG, hM, hfi, hK⟩, fun c1 => absurd (Int32.le_refl _) c1⟩
  · intro t ht ih M3 B g1 g2 g3 ⟨c, F, L, ps, q, os, o, lf, hV, hG, hM, hφ, hfi, hK⟩
    obtain ⟨pc, oc⟩ := kt_psle hV
    have hcN := kt_cN hV.2.1
    refine BX4_searchFrom_20 hX ⟨fun c1 => absurd c1 (h_nle (b := 11264) (by decide) ht), fun _ => ?_⟩
    rw [hM.2.1]
    rcases Nat.eq_zero_or_pos ps with e | hps
    · subst e
      exact ⟨fun _ => fin M3 B g1 g2 g3 ⟨c, F, L, q, os, o, lf, hV, hG, hM, hfi, hK⟩, fun c1 => absurd (Int32.le_refl _) c1⟩
    · obtain ⟨t1, t2⟩ := hV.2.2.2.2.2.2.1 (ps - 1) (by omega)
      have lfl := (hG.2.1 _ t1).1
      refine ⟨fun c1 => absurd c1 (h_nle (a := 0) (by omega) (by omega)), fun _ => ?_⟩
      rw [h_lit1, pk_sub (by omega), h_clK (show ps - 1 < 1024 by omega), hM.2.2.2.2.2.1 _ (by omega), h_clK (show q (ps - 1) < 1024 by omega), hM.2.2.2.2.2.2.2 _ t1]
      refine ⟨h_inK (by omega), h_inK (by omega), fun c0 => ?_, fun c0 => ?_⟩
      · have hl0 : lf (q (ps - 1)) = 0 := by rw [h_lit0, nI_eq (by omega) (by decide)] at c0; exact c0
        refine ⟨_, c_goBack (φ := 11264 - (t + 1)) hN hV hG hM (by omega) hfi hK hps hl0, fun r2 M4 hq4 => ?_⟩
        obtain ⟨f4, R, er, r1, r2, hS⟩ := hq4
        rw [er, ← h_lit1, nI_1]
        by_cases cm : R < B
        · rw [if_pos (nI_lt cm (by omega))]
          refine ih M4 R (g1.trans f4) r1 r2 ?_
          obtain ⟨c, F, L, ps, q, os, o, lf, a1, a2, a3, a4, a5, a6⟩ := hS
          refine ⟨c, F, L, ps, q, os, o, lf, a1, a2, a3, a4, a5, fun x hx hx0 hxl hxc => ?_⟩
          rcases a6 x hx hx0 hxl hxc with (h | h) | h
          · exact Or.inl h
          · exact Or.inr (by omega)
          · exact Or.inr h
        · rw [if_neg (nI_nlt (by omega) (by omega))]
          refine ih M4 B (g1.trans f4) g2 g3 ?_
          obtain ⟨c, F, L, ps, q, os, o, lf, a1, a2, a3, a4, a5, a6⟩ := hS
          refine ⟨c, F, L, ps, q, os, o, lf, a1, a2, a3, a4, a5, fun x hx hx0 hxl hxc => ?_⟩
          rcases a6 x hx hx0 hxl hxc with h | h
          · exact h
          · exact Or.inr (by omega)
      · have hl0 : lf (q (ps - 1)) ≠ 0 := fun e => c0 (by rw [e]; rfl)
        refine ⟨_, c_followOne (φ := 11264 - (t + 1)) h10 hN hV hG hM (by omega) hfi hK hps hl0, fun M4 hq4 => ?_⟩
        rw [← h_lit1, nI_1]
        exact ih M4 B (g1.trans hq4.1) g2 g3 hq4.2
theorem c_leastDress (h : InvX M T P v) : CX4_leastDress E [.ref (E.2.1 4)] M (z_pI (fun r M1 => InvX M1 T P v ∧ ∃ B, B ≤ 2 ^ T.1 ∧ (B < 2 ^ T.1 → s_cyc T B) ∧ (∀ x, x < B → ¬ s_cyc T x) ∧ r = if B < 2 ^ T.1 then nI B else -1)) := by
  have hR := h.1
  have h10 := hR.2.1.2
  have hp2 := hR.p2
  generalize hQ : (z_pI (fun r M1 => InvX M1 T P v ∧ ∃ B, B ≤ 2 ^ T.1 ∧ (B < 2 ^ T.1 → s_cyc T B) ∧ (∀ x, x < B → ¬ s_cyc T x) ∧ r = if B < 2 ^ T.1 then nI B else -1)) = Q
  refine EX4_leastDress (fun X hE hX => ⟨_, c_restless hR h.2.2.1, fun M1 hq => ⟨_, c_dresses (hq.1.rep hR), ?_⟩⟩)
  have hI := h.fr hq.1 hq.2.1 hq.2.2
  have l60 : ∀ M2 B, FrT M1 M2 → B ≤ 2 ^ T.1 → (B < 2 ^ T.1 → s_cyc T B) → kt_Z M2 T 0 (fun x => B ≤ x) → LX4_leastDress_60 X Q (nI (2 ^ T.1)) (nI B) (nI 0) M2 := by
    have fin : ∀ M3 B i, B ≤ i → FrT M1 M3 → B ≤ 2 ^ T.1 → (B < 2 ^ T.1 → s_cyc T B) → kt_Z M3 T i (fun x => B ≤ x) → (nI (2 ^ T.1) ≤ nI B → Q (some (.int (-1))) M3) ∧ (¬ nI (2 ^ T.1) ≤ nI B → Q (some (.int (nI B))) M3) := by
      intro M3 B i hBi g1 g2 g3 g4
      have hno : ∀ x, x < B → ¬ s_cyc T x := fun x hx hc => by
        obtain ⟨c, F, L, q, o, lf, _, _, _, a1, a2⟩ := g4
        have := (a2 x (by omega) (a1 x (by omega) (by omega))).resolve_right (fun h => h hc)
        omega
      rw [← hQ]
      refine ⟨fun c1 => zpI ⟨hI.scr4 g1, B, g2, g3, hno, ?_⟩, fun c1 => zpI ⟨hI.scr4 g1, B, g2, g3, hno, ?_⟩⟩
      · rw [if_neg (fun h => h_nle (by omega) h c1)]
      · rw [if_pos (Nat.lt_of_not_le (fun h => c1 (h_le (by omega) h)))]
    refine h_down (P := fun i => ∀ M2 B, FrT M1 M2 → B ≤ 2 ^ T.1 → (B < 2 ^ T.1 → s_cyc T B) → kt_Z M2 T i (fun x => B ≤ x) → LX4_leastDress_60 X Q (nI (2 ^ T.1)) (nI B) (nI i) M2) (2 ^ T.1) ?_ ?_
    · intro M2 B g1 g2 g3 g4
      exact BX4_leastDress_60 hX ⟨fun _ => fin M2 B _ g2 g1 g2 g3 g4, fun c1 => absurd (h_le (by omega) g2) c1⟩
    · intro i hi ih M2 B g1 g2 g3 g4
      by_cases hBi : B ≤ i
      · exact BX4_leastDress_60 hX ⟨fun _ => fin M2 B i hBi g1 g2 g3 g4, fun c1 => absurd (h_le (by omega) hBi) c1⟩
      · refine BX4_leastDress_60 hX ⟨fun c1 => absurd c1 (h_nle (by omega) (by omega)), fun _ => ⟨h_inK (by omega), ?_⟩⟩
        rw [h_clK (by omega), nI_1]
        refine ⟨fun c0 => ih M2 B g1 g2 g3 ?_, fun c0 => ⟨_, c_searchFrom h10 hp2 hi g4 c0, fun r2 M3 hq3 => ?_⟩⟩
        · obtain ⟨c, F, L, q, o, lf, a1, a2, a3, a4, a5⟩ := g4
          refine ⟨c, F, L, q, o, lf, a1, a2, a3, fun x hx hx2 => ?_, a5⟩
          by_cases e : x = i
          · rw [e]
            intro e0
            have h1 := a3.2.2.2.1 i hi
            rw [m_ne _ _ (by omega), e0] at h1
            exact c0 h1
          · exact a4 x (by omega) hx2
        · obtain ⟨f3, B', er, r1, r2, hZ⟩ := hq3
          rw [er]
          by_cases cm : B' < B
          · rw [if_pos (nI_lt cm (by omega))]
            refine ih M3 B' (g1.trans f3) r1 r2 ?_
            obtain ⟨c, F, L, q, o, lf, a1, a2, a3, a4, a5⟩ := hZ
            exact ⟨c, F, L, q, o, lf, a1, a2, a3, a4, fun x hx hx0 => (a5 x hx hx0).imp (fun h => by omega) id⟩
          · rw [if_neg (nI_nlt (by omega) (by omega))]
            refine ih M3 B (g1.trans f3) g2 g3 ?_
            obtain ⟨c, F, L, q, o, lf, a1, a2, a3, a4, a5⟩ := hZ
            exact ⟨c, F, L, q, o, lf, a1, a2, a3, a4, fun x hx hx0 => (a5 x hx hx0).imp (fun h => by omega) id⟩
  refine h_down (P := fun i => ∀ M2, FrT M1 M2 → (∀ x, x < i → M2.1 29 x = 0 ∧ M2.1 33 x = nI (s_rl T x)) → LX4_leastDress_18 X Q (nI (2 ^ T.1)) (nI i) M2) (2 ^ T.1) ?_ ?_ M1 (FrT.rfl' M1) (fun x hx => absurd hx (Nat.not_lt_zero x))
  · intro M2 g1 g2
    refine BX4_leastDress_18 hX ⟨fun _ M3 e3 M4 e4 => l60 M4 (2 ^ T.1) (g1.trans (FrT.trans (M1 := M3) (by rw [e3]; exact FrT.st4) (by rw [e4]; exact FrT.st4))) (Nat.le_refl _) (fun h => absurd h (Nat.lt_irrefl _)) ?_, fun c1 => absurd (h_le (by omega) (Nat.le_refl _)) c1⟩
    have nop : ∀ x, ¬ kt_op (fun _ => 0) (fun _ => 0) x := fun x h => h.1 rfl
    refine ⟨0, fun _ => 0, fun _ => 0, fun _ => 0, fun _ => 0, fun x => s_rl T x, ⟨fun _ _ => Nat.le_refl _, fun k k1 k2 => by omega, fun _ _ _ _ h _ => absurd rfl h, fun k hk => absurd hk (Nat.not_lt_zero k), fun x _ h => absurd h (nop x), fun _ k _ hk => absurd hk (Nat.not_lt_zero k), fun k hk => absurd hk (Nat.not_lt_zero k), fun _ k _ hk => absurd hk (Nat.not_lt_zero k), fun x _ h => absurd h (nop x)⟩, ⟨fun _ _ _ => rfl, fun x hx => ⟨s_rl_lt T x, fun _ h => h⟩, fun _ _ h => absurd rfl h, fun x _ h => absurd h (nop x), fun _ _ h => absurd rfl h, fun _ _ h => absurd rfl h, fun k hk => absurd hk (Nat.not_lt_zero k), fun k hk => absurd hk (Nat.not_lt_zero k), fun x _ h => absurd h (nop x), fun x _ h => absurd h (nop x)⟩, ⟨?_, m_same _ _ _ _, ?_, fun x hx => ?_, fun x hx h => absurd rfl h, fun k hk => absurd hk (Nat.not_lt_zero k), fun k hk => absurd hk (Nat.not_lt_zero k), fun x hx => ?_⟩, fun x hx => absurd hx (Nat.not_lt_zero x), fun x hx h => absurd rfl h⟩
    · rw [m_ne _ _ (by omega), e4, m_ne _ _ (by omega), e3, m_same]; rfl
    · rw [m_ne _ _ (by omega), e4, m_same]; rfl
    · rw [m_ne _ _ (by omega), e4, m_ne _ _ (by omega), e3, m_ne _ _ (by omega), (g2 x hx).1]; rfl
    · rw [m_ne _ _ (by omega), e4, m_ne _ _ (by omega), e3, m_ne _ _ (by omega), (g2 x hx).2]
  · intro i hi ih M2 g1 g2
    refine BX4_leastDress_18 hX ⟨fun c1 => absurd c1 (h_nle (by omega) hi), fun _ => ⟨h_inK (by omega), fun M3 e3 => ⟨h_inK (by omega), h_inK (by omega), fun M4 e4 => ?_⟩⟩⟩
    rw [h_clK (by omega)] at e3 e4
    have e24 : M3.1 24 i = nI (s_rl T i) := by rw [e3, m_ne _ _ (by omega), g1 24 (by decide) (by decide)]; exact hq.2.2 i hi
    rw [e24] at e4
    rw [nI_1]
    refine ih M4 (g1.trans (FrT.trans (M1 := M3) (by rw [e3]; exact FrT.st (by decide)) (by rw [e4]; exact FrT.st (by decide)))) (fun x hx => ?_)
    by_cases e : x = i
    · rw [e, e4, m_same, m_ne _ _ (by omega), e3, m_same]; exact ⟨rfl, rfl⟩
    · rw [e4, m_ne _ _ (by omega), m_ne _ _ (by omega), e3, m_ne _ _ (by omega), m_ne _ _ (by omega)]; exact g2 x (by omega)
theorem tt_settled (hX : InvX MX T P v) (hM : InvM MM T P) : TopI (CX9_settled E [.ref (E.2.1 9)] MX) (CX10_settled F' [.ref (F'.2.1 0)] MM) (v + 10) := by
  have hp2 := hX.1.p2
  rcases s_wit T with ⟨d, d1, d2, d3⟩ | hn
  · refine ⟨0, T, P, EX9_settled ⟨_, c_leastDress hX, fun r M1 hq => ?_⟩, EX10_settled ⟨_, n_witness_yes hM d1 d2 d3, fun r M1 hq => ?_⟩⟩
    · obtain ⟨hI, B, b1, b2, b3, b4⟩ := hq
      have : B ≤ d := Nat.le_of_not_lt (fun h => b3 d h d2)
      rw [b4, if_pos (by omega)]
      exact ⟨fun _ => okXr hI (by omega) rfl, fun c => absurd (nI_pos' (by omega)) c⟩
    · rw [hq.1]
      exact ⟨fun _ => okM hq.2, fun c => absurd c (nI_neg9 (by omega))⟩
  · refine ⟨1, T, P, EX9_settled ⟨_, c_leastDress hX, fun r M1 hq => ?_⟩, EX10_settled ⟨_, n_witness_no hM hn, fun r M1 hq => ?_⟩⟩
    · obtain ⟨hI, B, b1, b2, b3, b4⟩ := hq
      rw [b4, if_neg (fun h => hn B h (b2 h))]
      exact ⟨fun c => absurd c (by decide), fun _ => okXr hI (by omega) rfl⟩
    · rw [hq.1]
      exact ⟨fun c => absurd rfl c, fun _ => okM hq.2⟩
theorem tt_witness (hX : InvX MX T P v) (hM : InvM MM T P) : TopI (CX9_witness E [.ref (E.2.1 9)] MX) (CX10_witness F' [.ref (F'.2.1 0)] MM) (v + 10) := by
  have hp2 := hX.1.p2
  rcases s_wit T with ⟨d, d1, d2, d3⟩ | hn
  · refine ⟨nI d, T, P, EX9_witness ⟨_, c_leastDress hX, fun r M1 hq => ?_⟩, EX10_witness ⟨_, n_witness_yes hM d1 d2 d3, fun r M1 hq => okMr hq.2 hq.1⟩⟩
    obtain ⟨hI, B, b1, b2, b3, b4⟩ := hq
    have h1 : B ≤ d := Nat.le_of_not_lt (fun h => b3 d h d2)
    have h2 : d ≤ B := Nat.le_of_not_lt (fun h => d3 B h (b2 (by omega)))
    rw [b4, if_pos (by omega), show B = d by omega]
    exact ⟨fun _ => okXr hI (by omega) rfl, fun c => absurd (nI_pos' (by omega)) c⟩
  · refine ⟨-9, T, P, EX9_witness ⟨_, c_leastDress hX, fun r M1 hq => ?_⟩, EX10_witness ⟨_, n_witness_no hM hn, fun r M1 hq => okMr hq.2 hq.1⟩⟩
    obtain ⟨hI, B, b1, b2, b3, b4⟩ := hq
    rw [b4, if_neg (fun h => hn B h (b2 h))]
    exact ⟨fun c => absurd c (by decide), fun _ => okXr hI (by omega) rfl⟩
end TarjD
