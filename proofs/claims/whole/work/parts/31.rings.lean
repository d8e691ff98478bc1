/-! the class's rings -/
section RingC1
variable {E : ET} {M : Mem} {T : TW} {f : Nat → Nat} {N : Nat}
theorem c_takeOff (hN : N ≤ 1024) (hf : ∀ x, x < N → f x < N) (hS : ∀ d, d < N → M.1 25 d = nI (f d)) : CX8_takeOff E [.ref (E.2.1 8), .int (nI N)] M (z_pI (fun r M1 => (∀ k, k ≠ 27 → k ≠ 28 → M1.1 k = M.1 k) ∧ ∃ m q, k_K f N m m q ∧ r = nI m ∧ (∀ k, k < m → M1.1 28 k = nI (q k)) ∧ ∀ d, d < N → M1.1 27 d = nI (k_c f N q m d))) := by
  generalize hQ : (z_pI (fun r M1 => (∀ k, k ≠ 27 → k ≠ 28 → M1.1 k = M.1 k) ∧ ∃ m q, k_K f N m m q ∧ r = nI m ∧ (∀ k, k < m → M1.1 28 k = nI (q k)) ∧ ∀ d, d < N → M1.1 27 d = nI (k_c f N q m d))) = Q
  refine EX8_takeOff (fun X hE hX => ?_)
  have l84 : ∀ M2 m q, k_K f N 0 m q → (∀ k, k ≠ 27 → k ≠ 28 → M2.1 k = M.1 k) → (∀ k, k < m → M2.1 28 k = nI (q k)) → (∀ d, d < N → M2.1 27 d = nI (k_c f N q 0 d)) → LX8_takeOff_84 X Q (nI N) (nI m) (nI 0) M2 := by
    refine h_down (P := fun i => ∀ M2 m q, k_K f N i m q → (∀ k, k ≠ 27 → k ≠ 28 → M2.1 k = M.1 k) → (∀ k, k < m → M2.1 28 k = nI (q k)) → (∀ d, d < N → M2.1 27 d = nI (k_c f N q i d)) → LX8_takeOff_84 X Q (nI N) (nI m) (nI i) M2) N ?_ ?_
    · intro M2 m q hk g1 g2 g3
      have h1 := hk.le
      have h2 := hk.1
      have e : m = N := by omega
      subst e
      refine BX8_takeOff_84 hX ⟨fun _ => ?_, fun c => absurd (h_le (by omega) (Nat.le_refl _)) c⟩
      rw [← hQ]
      exact zpI ⟨g1, m, q, hk, rfl, g2, g3⟩
    · intro i hi ih M2 m q hk g1 g2 g3
      have h1 := hk.le
      have h2 := hk.1
      by_cases him : m ≤ i
      · have e : m = i := by omega
        subst e
        refine BX8_takeOff_84 hX ⟨fun _ => ?_, fun c => absurd (h_le (by omega) (Nat.le_refl _)) c⟩
        rw [← hQ]
        exact zpI ⟨g1, m, q, hk, rfl, g2, g3⟩
      · have him : i < m := by omega
        have hq := hk.2.1 i him
        have hz := hf _ hq
        have hpos := k_c_pos hk him
        have hstep := k_c_step hk him
        have hcle : k_c f N q i (f (q i)) ≤ N := s_ct_le _ _
        refine BX8_takeOff_84 hX ⟨fun c => absurd c (h_nle (by omega) him), fun _ => ⟨fun c => absurd c (h_nle (by omega) hi), fun _ => ⟨h_inK (by omega), ?_⟩⟩⟩
        rw [h_clK (show i < 1024 by omega), g2 i him, h_clK (show q i < 1024 by omega), g1 25 (by decide) (by decide), hS _ hq, h_clK (show f (q i) < 1024 by omega), g3 _ hz]
        refine ⟨h_inK (by omega), h_inK (by omega), h_inK (by omega), fun M3 e3 => ⟨h_inK (by omega), ?_⟩⟩
        have e1 : nI (k_c f N q i (f (q i))) - 1 = nI (k_c f N q (i + 1) (f (q i))) := by
          have := hstep (f (q i))
          rw [if_pos rfl] at this
          rw [h_lit1, pk_sub (by omega)]
          congr 1; omega
        rw [e1] at e3
        have t27 : ∀ d, d < N → M3.1 27 d = nI (k_c f N q (i + 1) d) := by
          intro d hd
          by_cases e : d = f (q i)
          · rw [e3, e, m_same]
          · rw [e3, m_ne _ _ (by omega), g3 d hd]
            have := hstep d
            rw [if_neg (fun c => e c.symm)] at this
            congr 1
        have c1 : ∀ k, k ≠ 27 → k ≠ 28 → M3.1 k = M.1 k := fun k a b => by rw [e3, m_cell _ _ a]; exact g1 k a b
        have c28 : ∀ k, k < m → M3.1 28 k = nI (q k) := fun k hk2 => by rw [e3, m_ne _ _ (by omega)]; exact g2 k hk2
        rw [t27 _ hz]
        have hle1 : k_c f N q (i + 1) (f (q i)) ≤ N := s_ct_le _ _
        rw [h_lit0, nI_eq (by omega) (by omega), nI_1, nI_1]
        refine ⟨fun c => ih M3 m q (k_step_out hf hk him c) c1 c28 t27, fun c => ?_⟩
        have hk1 := k_step_in hf hk him c
        have hm1 := hk1.le
        refine ⟨h_inK (by omega), fun M4 e4 => ?_⟩
        rw [h_clK (show m < 1024 by omega)] at e4
        refine ih M4 (m + 1) _ hk1 (fun k a b => by rw [e4, m_cell _ _ b]; exact c1 k a b) (fun k hk2 => ?_) (fun d hd => ?_)
        · by_cases e : k = m
          · rw [e4, e, m_same, up_same]
          · rw [e4, m_ne _ _ (by omega), up_ne _ _ e]; exact c28 k (by omega)
        · rw [e4, m_ne _ _ (by omega), t27 d hd]
          congr 1
          unfold k_c
          congr 1
          funext x
          rw [prc_up (by omega)]
  have l52 : ∀ M2, (∀ k, k ≠ 27 → M2.1 k = M.1 k) → (∀ d, d < N → M2.1 27 d = nI (s_ct (fun x => decide (f x = d)) N)) → LX8_takeOff_52 X Q (nI N) (nI 0) (nI 0) M2 := by
    intro M2 g1 g3
    refine h_down (P := fun i => ∀ M3 m q, m ≤ i → (∀ k, k ≠ 27 → k ≠ 28 → M3.1 k = M.1 k) → (∀ k, k < m → M3.1 28 k = nI (q k) ∧ q k < i) → (∀ j k, j < m → k < m → q j = q k → j = k) → (∀ d, d < i → (s_ct (fun x => decide (f x = d)) N = 0 ↔ ∃ k, k < m ∧ q k = d)) → (∀ d, d < N → M3.1 27 d = nI (s_ct (fun x => decide (f x = d)) N)) → LX8_takeOff_52 X Q (nI N) (nI m) (nI i) M3) N ?_ ?_ M2 0 (fun _ => 0) (Nat.le_refl _) (fun k a _ => g1 k a) (fun k hk => absurd hk (Nat.not_lt_zero k)) (fun j k hj => absurd hj (Nat.not_lt_zero j)) (fun d hd => absurd hd (Nat.not_lt_zero d)) g3
    · intro M3 m q hm a1 a2 a3 a4 a5
      have ce : ∀ d, k_c f N q 0 d = s_ct (fun x => decide (f x = d)) N := fun d => by
        unfold k_c
        congr 1
        funext x
        simp [prc]
      refine BX8_takeOff_52 hX ⟨fun _ => l84 M3 m q ⟨Nat.zero_le _, fun k hk => (a2 k hk).2, a3, fun d hd => by rw [ce]; exact a4 d hd, fun k hk x hx e => ?_⟩ a1 (fun k hk => (a2 k hk).1) (fun d hd => by rw [ce]; exact a5 d hd), fun c => absurd (h_le (by omega) (Nat.le_refl _)) c⟩
      have := s_ct_zero.mp ((a4 _ (a2 k hk).2).mpr ⟨k, hk, rfl⟩) x hx
      simp [e] at this
    · intro i hi ih M3 m q hm a1 a2 a3 a4 a5
      have hle : s_ct (fun x => decide (f x = i)) N ≤ N := s_ct_le _ _
      refine BX8_takeOff_52 hX ⟨fun c => absurd c (h_nle (by omega) hi), fun _ => ⟨h_inK (by omega), ?_⟩⟩
      rw [h_clK (show i < 1024 by omega), a5 i hi, h_lit0, nI_eq (by omega) (by omega), nI_1, nI_1]
      refine ⟨fun c => ih M3 m q (by omega) a1 (fun k hk => ⟨(a2 k hk).1, by have := (a2 k hk).2; omega⟩) a3 (fun d hd => ?_) a5, fun c => ⟨h_inK (by omega), fun M4 e4 => ?_⟩⟩
      · by_cases e : d = i
        · subst e
          exact ⟨fun c2 => absurd c2 c, fun ⟨k, k1, k2⟩ => by have := (a2 k k1).2; omega⟩
        · exact a4 d (by omega)
      · rw [h_clK (show m < 1024 by omega)] at e4
        refine ih M4 (m + 1) (va_up q m i) (by omega) (fun k a b => by rw [e4, m_cell _ _ b]; exact a1 k a b) (fun k hk => ?_) (fun j k hj hk e => ?_) (fun d hd => ?_) (fun d hd => by rw [e4, m_ne _ _ (by omega)]; exact a5 d hd)
        · by_cases e : k = m
          · rw [e4, e, m_same, up_same]; exact ⟨rfl, by omega⟩
          · rw [e4, m_ne _ _ (by omega), up_ne _ _ e]; exact ⟨(a2 k (by omega)).1, by have := (a2 k (by omega)).2; omega⟩
        · by_cases ej : j = m
          · by_cases ek : k = m
            · omega
            · rw [ej, up_same, up_ne _ _ ek] at e
              have := (a2 k (by omega)).2; omega
          · by_cases ek : k = m
            · rw [ek, up_same, up_ne _ _ ej] at e
              have := (a2 j (by omega)).2; omega
            · rw [up_ne _ _ ej, up_ne _ _ ek] at e
              exact a3 j k (by omega) (by omega) e
        · by_cases ed : d = i
          · rw [ed]
            exact ⟨fun _ => ⟨m, by omega, up_same _ _ _⟩, fun _ => c⟩
          · rw [a4 d (by omega)]
            constructor
            · rintro ⟨k, k1, k2⟩; exact ⟨k, by omega, by rw [up_ne _ _ (by omega)]; exact k2⟩
            · rintro ⟨k, k1, k2⟩
              by_cases ek : k = m
              · rw [ek, up_same] at k2; exact absurd k2.symm ed
              · rw [up_ne _ _ ek] at k2; exact ⟨k, by omega, k2⟩
  have l22 : ∀ M2, (∀ k, k ≠ 27 → M2.1 k = M.1 k) → (∀ d, d < N → M2.1 27 d = 0) → LX8_takeOff_22 X Q (nI N) (nI 0) M2 := by
    intro M2 g1 g2
    refine h_down (P := fun i => ∀ M3, (∀ k, k ≠ 27 → M3.1 k = M.1 k) → (∀ d, d < N → M3.1 27 d = nI (s_ct (fun x => decide (f x = d)) i)) → LX8_takeOff_22 X Q (nI N) (nI i) M3) N ?_ ?_ M2 g1 (fun d hd => g2 d hd)
    · intro M3 a1 a2
      exact BX8_takeOff_22 hX ⟨fun _ => l52 M3 a1 a2, fun c => absurd (h_le (by omega) (Nat.le_refl _)) c⟩
    · intro i hi ih M3 a1 a2
      have hz := hf i hi
      refine BX8_takeOff_22 hX ⟨fun c => absurd c (h_nle (by omega) hi), fun _ => ⟨h_inK (by omega), ?_⟩⟩
      rw [h_clK (show i < 1024 by omega), a1 25 (by decide), hS i hi, h_clK (show f i < 1024 by omega), a2 _ hz, nI_1, nI_1]
      refine ⟨h_inK (by omega), h_inK (by omega), fun M4 e4 => ih M4 (fun k a => by rw [e4, m_cell _ _ a]; exact a1 k a) (fun d hd => ?_)⟩
      by_cases e : d = f i
      · rw [e4, e, m_same, s_ct_succ_yes (by simp)]
      · rw [e4, m_ne _ _ (by omega), a2 d hd, s_ct_succ_no (by simp; omega)]
  refine h_down (P := fun i => ∀ M3, (∀ k, k ≠ 27 → M3.1 k = M.1 k) → (∀ d, d < i → M3.1 27 d = 0) → LX8_takeOff_2 X Q (nI N) (nI i) M3) N ?_ ?_ M (fun _ _ => rfl) (fun d hd => absurd hd (Nat.not_lt_zero d))
  · intro M3 a1 a2
    exact BX8_takeOff_2 hX ⟨fun _ => l22 M3 a1 a2, fun c => absurd (h_le (by omega) (Nat.le_refl _)) c⟩
  · intro i hi ih M3 a1 a2
    refine BX8_takeOff_2 hX ⟨fun c => absurd c (h_nle (by omega) hi), fun _ => ⟨h_inK (by omega), ?_⟩⟩
    rw [h_clK (show i < 1024 by omega), nI_1]
    refine fun M4 e4 => ih M4 (fun k a => by rw [e4, m_cell _ _ a]; exact a1 k a) (fun d hd => ?_)
    by_cases e : d = i
    · rw [e4, e, m_same]
    · rw [e4, m_ne _ _ (by omega)]; exact a2 d (by omega)
theorem c_goRound (hN : N ≤ 1024) (hf : ∀ x, x < N → f x < N) (hS : ∀ d, d < N → M.1 25 d = nI (f d)) {d0 l : Nat} (hd : d0 < N) (hl : IsLen f d0 l) (ht : ∀ i, i < l → ¬ M.1 27 (it f i d0) ≤ 0) : CX8_goRound E [.ref (E.2.1 8), .int (nI d0), .int (nI N)] M (z_pV (fun M1 => (∀ k, k ≠ 26 → k ≠ 27 → M1.1 k = M.1 k) ∧ (∀ d, (∃ i, i < l ∧ it f i d0 = d) → M1.1 26 d = nI d0 ∧ M1.1 27 d = 0) ∧ (∀ d, (¬ ∃ i, i < l ∧ it f i d0 = d) → M1.1 26 d = M.1 26 d ∧ M1.1 27 d = M.1 27 d))) := by
  generalize hQ : (z_pV (fun M1 => (∀ k, k ≠ 26 → k ≠ 27 → M1.1 k = M.1 k) ∧ (∀ d, (∃ i, i < l ∧ it f i d0 = d) → M1.1 26 d = nI d0 ∧ M1.1 27 d = 0) ∧ (∀ d, (¬ ∃ i, i < l ∧ it f i d0 = d) → M1.1 26 d = M.1 26 d ∧ M1.1 27 d = M.1 27 d))) = Q
  have hlN := hl.le hf hd
  refine EX8_goRound (fun X hE hX => ?_)
  refine h_down (P := fun i => ∀ M1, (∀ k, k ≠ 26 → k ≠ 27 → M1.1 k = M.1 k) → (∀ d, (∃ j, j < i ∧ it f j d0 = d) → M1.1 26 d = nI d0 ∧ M1.1 27 d = 0) → (∀ d, (¬ ∃ j, j < i ∧ it f j d0 = d) → M1.1 26 d = M.1 26 d ∧ M1.1 27 d = M.1 27 d) → LX8_goRound_5 X Q (nI d0) (nI N) (nI (it f i d0)) (nI i) M1) l ?_ ?_ M (fun _ _ _ => rfl) (fun d ⟨j, hj, _⟩ => absurd hj (Nat.not_lt_zero j)) (fun _ _ => ⟨rfl, rfl⟩)
  · intro M1 g1 g2 g3
    have fin : Q none M1 := by rw [← hQ]; exact zpV ⟨g1, g2, g3⟩
    refine BX8_goRound_5 hX ⟨fun _ => fin, fun _ => ?_⟩
    rw [hl.2.1, h_clK (show d0 < 1024 by omega)]
    refine ⟨h_inK (by omega), fun _ => fin, fun c => absurd ?_ c⟩
    rw [(g2 d0 ⟨0, hl.1, rfl⟩).2]
    exact Int32.le_refl 0
  · intro i hi ih M1 g1 g2 g3
    have hlt := it_lt hf hd i
    have hnew : ¬ ∃ j, j < i ∧ it f j d0 = it f i d0 := fun ⟨j, j1, j2⟩ => by have := hl.inj (by omega) hi j2; omega
    refine BX8_goRound_5 hX ⟨fun c => absurd c (h_nle (by omega) (by omega)), fun _ => ⟨h_inK (by omega), ?_⟩⟩
    rw [h_clK (show it f i d0 < 1024 by omega), (g3 _ hnew).2]
    refine ⟨fun c => absurd c (ht i hi), fun _ => ⟨h_inK (by omega), fun M2 e2 => ⟨h_inK (by omega), fun M3 e3 => ⟨h_inK (by omega), ?_⟩⟩⟩⟩
    have e25 : M3.1 25 (it f i d0) = nI (it f (i + 1) d0) := by
      rw [e3, m_ne _ _ (by omega), e2, m_ne _ _ (by omega), g1 25 (by decide) (by decide), hS _ hlt]; rfl
    rw [e25, nI_1]
    refine ih M3 (fun k a b => by rw [e3, m_cell _ _ b, e2, m_cell _ _ a]; exact g1 k a b) (fun d hx => ?_) (fun d hx => ?_)
    · by_cases e : d = it f i d0
      · subst e
        rw [e3, m_ne _ _ (by omega), m_same, e2, m_same]; exact ⟨rfl, rfl⟩
      · obtain ⟨j, j1, j2⟩ := hx
        have : j ≠ i := fun c => e (by rw [← j2, c])
        rw [e3, m_ne _ _ (by omega), m_ne _ _ (by omega), e2, m_ne _ _ (by omega), m_ne _ _ (by omega)]
        exact g2 d ⟨j, by omega, j2⟩
    · have e : d ≠ it f i d0 := fun c => hx ⟨i, by omega, c.symm⟩
      rw [e3, m_ne _ _ (by omega), m_ne _ _ (by omega), e2, m_ne _ _ (by omega), m_ne _ _ (by omega)]
      exact g3 d (fun ⟨j, j1, j2⟩ => hx ⟨j, by omega, j2⟩)
theorem ring_mem {d i k l : Nat} (hon : s_on f d) (hk : it f k d = i) (hl : IsLen f i l) : ∃ j, j < l ∧ it f j i = d := by
  obtain ⟨p, p1, p2⟩ := hon
  have h1 : k ≤ k * p := Nat.le_mul_of_pos_right k (by omega)
  have h2 : it f (k * p - k) i = d := by rw [← hk, ← it_add, show k + (k * p - k) = k * p by omega, it_per p2]
  refine ⟨(k * p - k) % l, Nat.mod_lt _ hl.1, ?_⟩
  rw [← it_mod hl.1 hl.2.1]; exact h2
end RingC1
section RingC2
variable {E : ET} {M : Mem} {T : TW} {P : PW} {v : Nat}
theorem InvX.frG {M1 : Mem} {y : Nat} (h : InvX M T P v) (hy : y < 2) (hs : StepOK M T y) (hc : ∀ k, k ≠ 8 → k ≠ 26 → k ≠ 27 → k ≠ 28 → M1.1 k = M.1 k) (h5 : M1.1 8 5 = M.1 8 5) (h6 : M1.1 8 6 = M.1 8 6) (h7 : M1.1 8 7 = nI y) (h8 : M1.1 8 8 = M.1 7 7) (hr : RingsOK (s_step T y) (2 ^ T.1) (M1.1 26) (M1.1 27)) : InvX M1 T P v ∧ StepOK M1 T y := by
  obtain ⟨a1, a2, a3, a4, a5, a6, a7⟩ := h
  have c7 : M1.1 7 = M.1 7 := hc 7 (by decide) (by decide) (by decide) (by decide)
  have c25 : M1.1 25 = M.1 25 := hc 25 (by decide) (by decide) (by decide) (by decide)
  refine ⟨⟨a1.frame (by rw [c7]) (fun k _ _ => hc k (by omega) (by omega) (by omega) (by omega)), a2, ?_, ?_, ?_, ?_, ?_⟩, ?_⟩
  · obtain ⟨s, s1, s2, s3⟩ := a3
    exact ⟨s, s1, by rw [c7]; exact s2, fun d hd => by rw [hc 24 (by decide) (by decide) (by decide) (by decide)]; exact s3 d hd⟩
  · obtain ⟨w, w1, w2, w3, w4⟩ := a4
    exact ⟨w, w1, by rw [c7]; exact w2, by rw [h6]; exact w3, Or.inr ⟨w, Nat.le_refl _, by rw [h8]; exact w2⟩⟩
  · intro e
    rw [h6, c7] at e
    obtain ⟨z, z1, z2, z3⟩ := a5 e
    exact ⟨z, z1, by rw [h5]; exact z2, by rw [c25]; exact z3⟩
  · exact fun _ => ⟨y, hy, h7, hr⟩
  · rw [hc 2 (by decide) (by decide) (by decide) (by decide), hc 36 (by decide) (by decide) (by decide) (by decide)]; exact a7
  · exact ⟨by rw [h5]; exact hs.1, by rw [h6, c7]; exact hs.2.1, by rw [c25]; exact hs.2.2⟩
def RingP (M : Mem) (T : TW) (y : Nat) : Prop := StepOK M T y ∧ RingsOK (s_step T y) (2 ^ T.1) (M.1 26) (M.1 27)
theorem c_findRings {y : Nat} (h : InvX M T P v) (hy : y < 2) : CX8_findRings E [.ref (E.2.1 8), .int (nI y)] M (z_pV (fun M1 => InvX M1 T P v ∧ RingP M1 T y)) := by
  have hp2 := h.1.p2
  have hf : ∀ x, x < 2 ^ T.1 → s_step T y x < 2 ^ T.1 := fun x hx => s_step_lt T y hx
  generalize hff : s_step T y = f at hf
  generalize hNN : 2 ^ T.1 = N at hf hp2
  refine EX8_findRings (fun X hE hX => ⟨_, c_stepsBy h hy, fun M1 hq => ?_⟩)
  subst hE
  obtain ⟨hI, hs⟩ := hq
  have hS : ∀ d, d < N → M1.1 25 d = nI (f d) := fun d hd => by rw [← hff]; exact hs.2.2 d (by omega)
  generalize hQ : (z_pV (fun M1 => InvX M1 T P v ∧ RingP M1 T y)) = Q
  have main : ∀ r4 M3, ((∀ k, k ≠ 27 → k ≠ 28 → M3.1 k = M1.1 k) ∧ ∃ m q, k_K f N m m q ∧ r4 = nI m ∧ (∀ k, k < m → M3.1 28 k = nI (q k)) ∧ ∀ d, d < N → M3.1 27 d = nI (k_c f N q m d)) → LX8_findRings_46 X Q (nI y) (nI N) r4 (nI 0) M3 := by
    rintro r4 M3 ⟨b1, m, q, hk, rfl, b2, b3⟩
    have hm := hk.le
    have kend := fun {d} (hd : d < N) => k_end hf hk hd
    have l80 : ∀ i, i ≤ m → ∀ M4, (∀ k, k ≠ 26 → k ≠ 27 → M4.1 k = M3.1 k) → (∀ d, d < N → (∀ k, k < i → q k ≠ d) → M4.1 26 d = nI (r_m f d) ∧ M4.1 27 d = nI (r_t f d)) → LX8_findRings_80 X Q (nI y) (nI i - 1) M4 := by
      intro i
      induction i with
      | zero =>
        intro _ M4 a1 a2
        refine BX8_findRings_80 hX ⟨fun _ M5 e5 => ⟨_, c_version, fun M6 e6 => ?_⟩, fun c => absurd (by decide) c⟩
        rw [← hQ]
        have e57 : M5.1 7 = M1.1 7 := by rw [e5, m_cell _ _ (by decide), a1 7 (by decide) (by decide), b1 7 (by decide) (by decide)]
        have hr : RingsOK (s_step T y) (2 ^ T.1) (M6.1 26) (M6.1 27) := by
          rw [hff, hNN, e6, m_cell _ _ (by decide), m_cell _ _ (by decide), e5, m_cell _ _ (by decide), m_cell _ _ (by decide)]
          exact RingsOK.of hf (fun d hd => (a2 d hd (fun k hk => absurd hk (Nat.not_lt_zero k))).symm)
        have c8 : ∀ j, j ≠ 7 → j ≠ 8 → M6.1 8 j = M1.1 8 j := fun j j1 j2 => by rw [e6, m_ne _ _ (by omega), e5, m_ne _ _ (by omega), a1 8 (by decide) (by decide), b1 8 (by decide) (by decide)]
        have hres := hI.frG hy hs (M1 := M6) (fun k k1 k2 k3 k4 => by rw [e6, m_cell _ _ k1, e5, m_cell _ _ k1, a1 k k2 k3, b1 k k3 k4]) (c8 5 (by decide) (by decide)) (c8 6 (by decide) (by decide)) (by rw [e6, m_ne _ _ (by decide), e5, m_same]) (by rw [e6, m_same, e57]) hr
        exact zpV ⟨hres.1, hres.2, hr⟩
      | succ i ih =>
        intro hi M4 a1 a2
        have hq := hk.2.1 i (by omega)
        have hz := hf _ hq
        have e1 : nI (i + 1) - 1 = nI i := by rw [h_lit1, pk_sub (by omega), Nat.add_sub_cancel]
        have hnot : ∀ k, k < i + 1 → q k ≠ f (q i) := fun k hk2 e => by
          obtain ⟨j, j1, j2⟩ := hk.2.2.2.2 k (by omega) (q i) hq e.symm
          have := hk.2.2.1 j i (by omega) (by omega) j2
          omega
        obtain ⟨z1, z2⟩ := a2 _ hz hnot
        have hoff : ¬ s_on f (q i) := (kend hq).1.mp (prc_iff.mpr ⟨i, by omega, rfl⟩)
        obtain ⟨o1, o2⟩ := r_off hf hq hoff
        have e28 : M4.1 28 i = nI (q i) := by rw [a1 28 (by decide) (by decide)]; exact b2 i (by omega)
        have e25 : M4.1 25 (q i) = nI (f (q i)) := by rw [a1 25 (by decide) (by decide), b1 25 (by decide) (by decide)]; exact hS _ hq
        refine BX8_findRings_80 hX ⟨fun c => absurd c (by rw [e1]; exact nI_pos (by omega)), fun _ => ?_⟩
        rw [e1, h_clK (show i < 1024 by omega), e28, h_clK (show q i < 1024 by omega), e25, h_clK (show f (q i) < 1024 by omega), z1]
        refine ⟨h_inK (by omega), h_inK (by omega), h_inK (by omega), h_inK (by omega), fun M5 e5 => ⟨h_inK (by omega), ?_⟩⟩
        have e255 : M5.1 25 (q i) = nI (f (q i)) := by rw [e5, m_ne _ _ (by omega)]; exact e25
        rw [e255, h_clK (show f (q i) < 1024 by omega)]
        refine ⟨h_inK (by omega), h_inK (by omega), fun M6 e6 => ?_⟩
        have e275 : M5.1 27 (f (q i)) = nI (r_t f (f (q i))) := by rw [e5, m_ne _ _ (by omega)]; exact z2
        rw [e275, nI_1, ← o1] at e6
        rw [show nI i + (-1) = nI i - 1 by grind]
        refine ih (by omega) M6 (fun k k1 k2 => by rw [e6, m_cell _ _ k2, e5, m_cell _ _ k1]; exact a1 k k1 k2) (fun d hd hx => ?_)
        by_cases e : d = q i
        · subst e
          rw [e6, m_same, m_ne _ _ (by omega), e5, m_same, o2]; exact ⟨rfl, rfl⟩
        · rw [e6, m_ne _ _ (by omega), m_ne _ _ (by omega), e5, m_ne _ _ (by omega), m_ne _ _ (by omega)]
          refine a2 d hd (fun k hk2 => ?_)
          by_cases ek : k = i
          · subst ek; exact fun c => e c.symm
          · exact hx k (by omega)
    refine h_down (P := fun i => ∀ M4, (∀ k, k ≠ 26 → k ≠ 27 → M4.1 k = M3.1 k) → (∀ d, d < N → s_on f d → r_m f d < i → M4.1 26 d = nI (r_m f d) ∧ M4.1 27 d = 0) → (∀ d, d < N → s_on f d → i ≤ r_m f d → ¬ M4.1 27 d ≤ 0) → (∀ d, d < N → ¬ s_on f d → M4.1 27 d = 0) → LX8_findRings_46 X Q (nI y) (nI N) (nI m) (nI i) M4) N ?_ ?_ M3 (fun _ _ _ => rfl) (fun d _ _ hx => absurd hx (Nat.not_lt_zero _)) (fun d hd hon _ => ?_) (fun d hd hon => ?_)
    · intro M4 a1 a2 a3 a4
      refine BX8_findRings_46 hX ⟨fun _ => l80 m (Nat.le_refl _) M4 a1 (fun d hd hx => ?_), fun c => absurd (h_le (by omega) (Nat.le_refl _)) c⟩
      have hon : s_on f d := Classical.byContradiction (fun c => by
        obtain ⟨k, k1, k2⟩ := prc_iff.mp ((kend hd).1.mpr c)
        exact hx k k1 k2)
      obtain ⟨_, _, _, _, r5, _⟩ := r_all hf hd
      have := a2 d hd hon r5
      rw [this.1, this.2, (r_on hf hd hon).1]
      exact ⟨rfl, rfl⟩
    · intro i hi ih M4 a1 a2 a3 a4
      refine BX8_findRings_46 hX ⟨fun c => absurd c (h_nle (by omega) hi), fun _ => ⟨h_inK (by omega), ?_⟩⟩
      rw [h_clK (show i < 1024 by omega), nI_1]
      refine ⟨fun c => ih M4 a1 (fun d hd hon hlt => ?_) (fun d hd hon hle => a3 d hd hon (by omega)) a4, fun c => ?_⟩
      · by_cases e : r_m f d < i
        · exact a2 d hd hon e
        · have e : r_m f d = i := by omega
          obtain ⟨s1, s2, _⟩ := r_m_self hf hd
          rw [e] at s1 s2
          exact absurd c (a3 i hi s1 (by omega))
      · have hon : s_on f i := Classical.byContradiction (fun c2 => c (by rw [a4 i hi c2]; exact Int32.le_refl 0))
        have hself : r_m f i = i := by
          have h1 := r_m_le hf hi hon
          by_cases e : r_m f i < i
          · exact absurd (by rw [(a2 i hi hon e).2]; exact Int32.le_refl 0) c
          · omega
        obtain ⟨o1, o2, o3⟩ := r_on hf hi hon
        rw [hself] at o3
        have onring : ∀ j, s_on f (it f j i) ∧ r_m f (it f j i) = i := fun j => by
          have h1 := s_on_it hon j
          exact ⟨h1, (r_on hf (it_lt hf hi j) h1).2.2.uniq (o3.shift hon j)⟩
        refine ⟨_, c_goRound hp2 hf (fun d hd => by rw [a1 25 (by decide) (by decide), b1 25 (by decide) (by decide)]; exact hS d hd) hi o2 (fun j _ => a3 _ (it_lt hf hi j) (onring j).1 (by rw [(onring j).2]; exact Nat.le_refl _)), fun M5 hq => ?_⟩
        obtain ⟨g1, g2, g3⟩ := hq
        refine ih M5 (fun k k1 k2 => by rw [g1 k k1 k2]; exact a1 k k1 k2) (fun d hd hon2 hlt => ?_) (fun d hd hon2 hle => ?_) (fun d hd hon2 => ?_)
        · by_cases e : r_m f d = i
          · obtain ⟨k, hk2⟩ := (r_on hf hd hon2).2.2.1
            rw [e] at hk2
            rw [e]
            exact g2 d (ring_mem hon2 hk2 o2)
          · have := g3 d (fun ⟨j, _, j2⟩ => e (by rw [← j2]; exact (onring j).2))
            rw [this.1, this.2]
            exact a2 d hd hon2 (by omega)
        · rw [(g3 d (fun ⟨j, _, j2⟩ => by have := (onring j).2; rw [j2] at this; omega)).2]
          exact a3 d hd hon2 (by omega)
        · rw [(g3 d (fun ⟨j, _, j2⟩ => hon2 (by rw [← j2]; exact (onring j).1))).2]
          exact a4 d hd hon2
    · rw [b3 d hd]
      have h1 : k_c f N q m d ≠ 0 := fun e => (kend hd).1.mp ((kend hd).2.mp e) hon
      have h2 : k_c f N q m d ≤ N := s_ct_le _ _
      exact h_nle (a := 0) (by omega) (Nat.pos_of_ne_zero h1)
    · rw [b3 d hd, (kend hd).2.mpr ((kend hd).1.mpr hon)]; rfl
  have dr : CX7_dresses X.1 [.ref (X.1.2.1 7)] M1 (z_is (some (.int (nI N))) M1) := by rw [← hNN]; exact c_dresses hI.1
  refine ⟨fun _ => ⟨_, dr, _, c_takeOff hp2 hf hS, main⟩, fun c => ⟨_, c_version, fun _ => ⟨_, dr, _, c_takeOff hp2 hf hS, main⟩, fun c2 => ?_⟩⟩
  obtain ⟨y', y1, y2, y3⟩ := hI.2.2.2.2.2.1 c2
  have e : y' = y := (nI_eq (by omega) (by omega)).mp (y2.symm.trans c)
  subst e
  rw [← hQ]
  exact zpV ⟨hI, hs, y3⟩
end RingC2
