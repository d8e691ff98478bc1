section Top2
variable {E F : ET} {MX MM : Mem} {T : TW} {P : PW} {v : Nat}
theorem tt_people (hX : InvX MX T P v) (hM : InvM MM T P) (hv : v < 1000000) (x : Int32) : TopI (CX9_people E [.ref (E.2.1 9), .int x] MX) (CX10_people F [.ref (F.2.1 0), .int x] MM) (v + 10) := by
  by_cases hx : s_in x 1 10 = true
  · obtain ⟨n, hn, rfl⟩ : ∃ n, (1 ≤ n ∧ n ≤ 10) ∧ x = nI n := by
      simp [s_in] at hx
      obtain ⟨j, j1, j2⟩ := nI_of2 (x := x) (M := 10) (n := 10) (by decide) (fun h => by have := Int32.lt_of_lt_of_le h (by decide : (0 : Int32) ≤ 1); exact absurd (Int32.lt_of_le_of_lt hx.1 this) Int32.lt_irrefl) hx.2
      refine ⟨j, ⟨?_, j1⟩, j2⟩
      rcases Nat.eq_zero_or_pos j with h0 | h0
      · subst h0; rw [j2] at hx; exact absurd hx.1 (by decide)
      · exact h0
    refine ⟨nI T.1, t0 n, (0, fun _ => 0), ?_, ?_⟩
    · refine EX9_people ⟨_, c_within, fun _ => ⟨_, c_size hX.1, _, c_startAnew (by obtain ⟨s, s1, s2, _⟩ := hX.2.2.1; exact ⟨s, s1, s2⟩), fun M3 h3 => ⟨fun M4 => M4 = z_st M3 2 2 0, EX2_clear (fun M1 e1 => zpV e1), fun M4 e4 => zpI ⟨rfl, hX.anew hv hn h3.1 h3.2 e4⟩⟩⟩, fun c => ?_⟩
      rw [hx] at c; exact absurd c (by decide)
    · refine EX10_people (fun X hE hK => ⟨_, c_in (a := 1) (b := 10), fun _ M2 e2 M3 e3 => ?_, fun c => ?_⟩)
      · rw [hM.1.1]
        have q1 : M3.1 0 0 = nI n := by rw [e3, m_ne _ _ (by decide), e2, m_same]
        have q2 : M3.1 0 18 = 0 := by rw [e3, m_same]
        have h53 : ∀ M4, M4.1 0 0 = nI n → M4.1 0 18 = 0 → (∀ k, k < 100 → M4.1 1 k = 0) → LX10_people_53 X (z_pI (fun r M1 => r = nI T.1 ∧ InvM M1 (t0 n) (0, fun _ => 0))) (nI T.1) 0 M4 := by
          intro M4 g1 g2 g3
          refine h_down (P := fun i => ∀ M4, M4.1 0 0 = nI n → M4.1 0 18 = 0 → (∀ k, k < 100 → M4.1 1 k = 0) → (∀ k, k < i → M4.1 2 k = 0 ∧ M4.1 3 k = 0) → LX10_people_53 X (z_pI (fun r M1 => r = nI T.1 ∧ InvM M1 (t0 n) (0, fun _ => 0))) (nI T.1) (nI i) M4) 10 ?_ ?_ M4 g1 g2 g3 (fun k hk => absurd hk (Nat.not_lt_zero k))
          · intro M4 g1 g2 g3 g4
            refine BX10_people_53 hK ⟨fun _ => zpI ⟨rfl, ⟨g1, fun p o hp ho => g3 _ (by omega), fun p hp => (g4 p hp).1, fun p hp => (g4 p hp).2⟩, WF_t0 hn, ?_⟩, fun c => absurd (h_le (a := 10) (b := 10) (by decide) (Nat.le_refl _)) c⟩
            exact ⟨by rw [g2]; rfl, Nat.zero_le _, fun i hi => absurd hi (Nat.not_lt_zero i)⟩
          · intro i hi ih M4 g1 g2 g3 g4
            refine BX10_people_53 hK ⟨fun c => absurd c (h_nle (b := 10) (by decide) hi), fun _ => ⟨h_in10 hi, fun M5 e5 => ⟨h_in10 hi, fun M6 e6 => ?_⟩⟩⟩
            rw [h_cl10 hi] at e5 e6
            rw [nI_1]
            refine ih M6 ?_ ?_ (fun k hk => ?_) (fun k hk => ?_)
            · rw [e6, m_ne _ _ (by omega), e5, m_ne _ _ (by omega)]; exact g1
            · rw [e6, m_ne _ _ (by omega), e5, m_ne _ _ (by omega)]; exact g2
            · rw [e6, m_ne _ _ (by omega), e5, m_ne _ _ (by omega)]; exact g3 k hk
            · by_cases e : k = i
              · subst e
                rw [e6, m_same, m_ne _ _ (by omega), e5, m_same]; exact ⟨rfl, rfl⟩
              · rw [e6, m_ne _ _ (by omega), m_ne _ _ (by omega), e5, m_ne _ _ (by omega), m_ne _ _ (by omega)]; exact g4 k (by omega)
        refine h_down (P := fun i => ∀ M4, M4.1 0 0 = nI n → M4.1 0 18 = 0 → (∀ k, k < i → M4.1 1 k = 0) → LX10_people_32 X (z_pI (fun r M1 => r = nI T.1 ∧ InvM M1 (t0 n) (0, fun _ => 0))) (nI T.1) (nI i) M4) 100 ?_ ?_ M3 q1 q2 (fun k hk => absurd hk (Nat.not_lt_zero k))
        · intro M4 g1 g2 g3
          exact BX10_people_32 hK ⟨fun _ => h53 M4 g1 g2 g3, fun c => absurd (h_le (a := 100) (b := 100) (by decide) (Nat.le_refl _)) c⟩
        · intro i hi ih M4 g1 g2 g3
          refine BX10_people_32 hK ⟨fun c => absurd c (h_nle (b := 100) (by decide) hi), fun _ => ⟨h_in hi (by decide), fun M5 e5 => ?_⟩⟩
          rw [h_cl (by omega)] at e5
          rw [nI_1]
          refine ih M5 (by rw [e5, m_ne _ _ (by omega)]; exact g1) (by rw [e5, m_ne _ _ (by omega)]; exact g2) (fun k hk => ?_)
          by_cases e : k = i
          · subst e; rw [e5, m_same]
          · rw [e5, m_ne _ _ (by omega)]; exact g3 k (by omega)
      · rw [hx] at c; exact absurd c (by decide)
  · have hx : s_in x 1 10 = false := by simpa using hx
    refine ⟨-2, T, P, EX9_people ⟨_, c_within, fun c => ?_, fun _ => okX hX⟩, EX10_people (fun X hE hK => ⟨_, c_in (a := 1) (b := 10), fun c => ?_, fun _ => okM hM⟩)⟩
    · rw [hx] at c; exact absurd rfl c
    · rw [hx] at c; exact absurd rfl c
theorem tt_tie (hX : InvX MX T P v) (hM : InvM MM T P) (hv : v < 1000000) (x1 x2 x3 : Int32) : TopI (CX9_tie E [.ref (E.2.1 9), .int x1, .int x2, .int x3] MX) (CX10_tie F [.ref (F.2.1 0), .int x1, .int x2, .int x3] MM) (v + 10) := by
  have hR := hX.1
  have hRM := hM.1
  have hw := hX.2.1
  have h31 := hR.lt31
  have h10 := hR.2.1.2
  rcases h_ix x1 h31 with h1 | ⟨p, hp, rfl⟩
  · exact ⟨-1, T, P, EX9_tie ⟨_, c_has_no hR h1, fun _ => okX hX, fun c => absurd rfl c⟩, EX10_tie ⟨_, n_isPerson_no hRM hw h1, fun _ => okM hM, fun c => absurd rfl c⟩⟩
  · rcases h_ix x2 h31 with h2 | ⟨o, ho, rfl⟩
    · exact ⟨-1, T, P, EX9_tie ⟨_, c_has_yes hR hp, fun c => absurd c (by decide), fun _ => ⟨_, c_has_no hR h2, fun c => absurd rfl c, fun _ => okX hX⟩⟩, EX10_tie ⟨_, n_isPerson_yes hRM hw hp, fun c => absurd c (by decide), fun _ => ⟨_, n_isPerson_no hRM hw h2, fun c => absurd rfl c, fun _ => okM hM⟩⟩⟩
    · by_cases h3 : s_in x3 0 9 = true
      · have hx3 : ¬ x3 < 0 := by simp [s_in] at h3; exact fun h => absurd (Int32.lt_of_le_of_lt h3.1 h) Int32.lt_irrefl
        by_cases he : nI p = nI o
        · refine ⟨-3, T, P, EX9_tie ⟨_, c_has_yes hR hp, fun c => absurd c (by decide), fun _ => ⟨_, c_has_yes hR ho, fun _ => ⟨_, c_within, fun _ => ⟨fun c => absurd he c, fun _ => okX hX⟩, fun c => ?_⟩, fun c => absurd c (by decide)⟩⟩, EX10_tie ⟨_, n_isPerson_yes hRM hw hp, fun c => absurd c (by decide), fun _ => ⟨_, n_isPerson_yes hRM hw ho, fun _ => ⟨_, c_in (a := 0) (b := 9), fun _ => ⟨fun c => absurd he c, fun _ => okM hM⟩, fun c => ?_⟩, fun c => absurd c (by decide)⟩⟩⟩
          · rw [h3] at c; exact absurd c (by decide)
          · rw [h3] at c; exact absurd c (by decide)
        · refine ⟨T.2.1 p o, tW T p o x3, P, EX9_tie ⟨_, c_has_yes hR hp, fun c => absurd c (by decide), fun _ => ⟨_, c_has_yes hR ho, fun _ => ⟨_, c_within, fun _ => ⟨fun _ => ⟨_, c_weight hR (by omega) (by omega), _, c_setWeight x3 (by omega) (by omega), fun M5 e5 => ?_⟩, fun c => absurd c he⟩, fun c => ?_⟩, fun c => absurd c (by decide)⟩⟩, EX10_tie ⟨_, n_isPerson_yes hRM hw hp, fun c => absurd c (by decide), fun _ => ⟨_, n_isPerson_yes hRM hw ho, fun _ => ⟨_, c_in (a := 0) (b := 9), fun _ => ⟨fun _ => ?_, fun c => absurd c he⟩, fun c => ?_⟩, fun c => absurd c (by decide)⟩⟩⟩
          · subst e5; exact zpI ⟨rfl, (hX.tie hv hp ho hx3).up (by omega)⟩
          · rw [h3] at c; exact absurd c (by decide)
          · have hpo := h_w (p := p) (o := o) (by omega) (by omega)
            rw [hpo.2]
            refine ⟨hpo.1, hpo.1, fun M4 e4 => ?_⟩
            subst e4
            rw [hRM.2.1 p o (by omega) (by omega)]
            exact zpI ⟨rfl, hM.tie hp ho hx3⟩
          · rw [h3] at c; exact absurd c (by decide)
      · have h3 : s_in x3 0 9 = false := by simpa using h3
        refine ⟨-2, T, P, EX9_tie ⟨_, c_has_yes hR hp, fun c => absurd c (by decide), fun _ => ⟨_, c_has_yes hR ho, fun _ => ⟨_, c_within, fun c => ?_, fun _ => okX hX⟩, fun c => absurd c (by decide)⟩⟩, EX10_tie ⟨_, n_isPerson_yes hRM hw hp, fun c => absurd c (by decide), fun _ => ⟨_, n_isPerson_yes hRM hw ho, fun _ => ⟨_, c_in (a := 0) (b := 9), fun c => ?_, fun _ => okM hM⟩, fun c => absurd c (by decide)⟩⟩⟩
        · rw [h3] at c; exact absurd rfl c
        · rw [h3] at c; exact absurd rfl c
theorem tt_sees (hX : InvX MX T P v) (hM : InvM MM T P) (x1 x2 : Int32) : TopI (CX9_sees E [.ref (E.2.1 9), .int x1, .int x2] MX) (CX10_sees F [.ref (F.2.1 0), .int x1, .int x2] MM) (v + 10) := by
  have hR := hX.1
  have hRM := hM.1
  have hw := hX.2.1
  have h31 := hR.lt31
  have h10 := hR.2.1.2
  rcases h_ix x1 h31 with h1 | ⟨p, hp, rfl⟩
  · exact ⟨-1, T, P, EX9_sees ⟨_, c_has_no hR h1, fun _ => okX hX, fun c => absurd rfl c⟩, EX10_sees ⟨_, n_isPerson_no hRM hw h1, fun _ => okM hM, fun c => absurd rfl c⟩⟩
  · rcases h_ix x2 h31 with h2 | ⟨o, ho, rfl⟩
    · exact ⟨-1, T, P, EX9_sees ⟨_, c_has_yes hR hp, fun c => absurd c (by decide), fun _ => ⟨_, c_has_no hR h2, fun c => absurd rfl c, fun _ => okX hX⟩⟩, EX10_sees ⟨_, n_isPerson_yes hRM hw hp, fun c => absurd c (by decide), fun _ => ⟨_, n_isPerson_no hRM hw h2, fun c => absurd rfl c, fun _ => okM hM⟩⟩⟩
    · by_cases he : nI p = nI o
      · exact ⟨-3, T, P, EX9_sees ⟨_, c_has_yes hR hp, fun c => absurd c (by decide), fun _ => ⟨_, c_has_yes hR ho, fun _ => ⟨fun c => absurd he c, fun _ => okX hX⟩, fun c => absurd c (by decide)⟩⟩, EX10_sees ⟨_, n_isPerson_yes hRM hw hp, fun c => absurd c (by decide), fun _ => ⟨_, n_isPerson_yes hRM hw ho, fun _ => ⟨fun c => absurd he c, fun _ => okM hM⟩, fun c => absurd c (by decide)⟩⟩⟩
      · refine ⟨T.2.1 p o, T, P, EX9_sees ⟨_, c_has_yes hR hp, fun c => absurd c (by decide), fun _ => ⟨_, c_has_yes hR ho, fun _ => ⟨fun _ => ⟨_, c_weight hR (by omega) (by omega), okX hX⟩, fun c => absurd c he⟩, fun c => absurd c (by decide)⟩⟩, EX10_sees ⟨_, n_isPerson_yes hRM hw hp, fun c => absurd c (by decide), fun _ => ⟨_, n_isPerson_yes hRM hw ho, fun _ => ⟨fun _ => ?_, fun c => absurd c he⟩, fun c => absurd c (by decide)⟩⟩⟩
        have hpo := h_w (p := p) (o := o) (by omega) (by omega)
        rw [hpo.2, hRM.2.1 p o (by omega) (by omega)]
        exact ⟨hpo.1, okM hM⟩
theorem tt_sum (hX : InvX MX T P v) (hM : InvM MM T P) (x1 x2 : Int32) : TopI (CX9_sum E [.ref (E.2.1 9), .int x1, .int x2] MX) (CX10_sum F [.ref (F.2.1 0), .int x1, .int x2] MM) (v + 10) := by
  have hR := hX.1
  have hRM := hM.1
  have hw := hX.2.1
  have h31 := hR.lt31
  have h10 := hR.2.1.2
  have hp2 := hR.p2
  rcases h_ix x1 h31 with h1 | ⟨p, hp, rfl⟩
  · exact ⟨-1, T, P, EX9_sum ⟨_, c_has_no hR h1, fun c => absurd rfl c, fun _ => okX hX⟩, EX10_sum ⟨_, n_isPerson_no hRM hw h1, fun c => absurd rfl c, fun _ => okM hM⟩⟩
  · rcases h_ix x2 (show 2 ^ T.1 < 2 ^ 31 by omega) with h2 | ⟨d, hd, rfl⟩
    · exact ⟨-2, T, P, EX9_sum ⟨_, c_has_yes hR hp, fun _ => ⟨_, c_isDress_no hR h2, fun c => absurd rfl c, fun _ => okX hX⟩, fun c => absurd c (by decide)⟩, EX10_sum ⟨_, n_isPerson_yes hRM hw hp, fun _ => ⟨_, n_isDress_no hRM hw h2, fun _ => okM hM, fun c => absurd rfl c⟩, fun c => absurd c (by decide)⟩⟩
    · exact ⟨s_sum T p d, T, P, EX9_sum ⟨_, c_has_yes hR hp, fun _ => ⟨_, c_isDress_yes hR hd, fun _ => ⟨_, c_sumOf hR (by omega) (by omega), okX hX⟩, fun c => absurd c (by decide)⟩, fun c => absurd c (by decide)⟩, EX10_sum ⟨_, n_isPerson_yes hRM hw hp, fun _ => ⟨_, n_isDress_yes hRM hw hd, fun c => absurd c (by decide), fun _ => ⟨_, n_sumOf hRM hw (by omega) (by omega), okM hM⟩⟩, fun c => absurd c (by decide)⟩⟩
theorem tt_calm (hX : InvX MX T P v) (hM : InvM MM T P) (x1 : Int32) : TopI (CX9_calm E [.ref (E.2.1 9), .int x1] MX) (CX10_calm F [.ref (F.2.1 0), .int x1] MM) (v + 10) := by
  have hR := hX.1
  have hRM := hM.1
  have hw := hX.2.1
  have h10 := hR.2.1.2
  have hp2 := hR.p2
  have hpos := Nat.two_pow_pos T.1
  rcases h_ix x1 (show 2 ^ T.1 < 2 ^ 31 by omega) with h2 | ⟨d, hd, rfl⟩
  · exact ⟨-2, T, P, EX9_calm ⟨_, c_isDress_no hR h2, fun c => absurd rfl c, fun _ => okX hX⟩, EX10_calm ⟨_, n_isDress_no hRM hw h2, fun _ => okM hM, fun c => absurd rfl c⟩⟩
  · refine ⟨nI (s_cm T d), T, P, EX9_calm ⟨_, c_isDress_yes hR hd, fun _ => ⟨_, c_dresses hR, _, c_restlessIn hR (by omega), ?_⟩, fun c => absurd c (by decide)⟩, EX10_calm ⟨_, n_isDress_yes hRM hw hd, fun c => absurd c (by decide), fun _ => ⟨_, n_calmOf hRM hw (by omega), okM hM⟩⟩⟩
    have hr := s_rl_lt T d
    refine okXr hX (by omega) ?_
    have e1 : nI (2 ^ T.1) - 1 = nI (2 ^ T.1 - 1) := pk_sub (b := 1) hpos
    rw [e1, h_andnot (by omega) (by omega)]
    rfl
theorem tt_lone (hX : InvX MX T P v) (hM : InvM MM T P) (x1 x2 : Int32) : TopI (CX9_lone E [.ref (E.2.1 9), .int x1, .int x2] MX) (CX10_lone F [.ref (F.2.1 0), .int x1, .int x2] MM) (v + 10) := by
  have hR := hX.1
  have hRM := hM.1
  have hw := hX.2.1
  have h31 := hR.lt31
  have h10 := hR.2.1.2
  have hp2 := hR.p2
  rcases h_ix x1 h31 with h1 | ⟨p, hp, rfl⟩
  · exact ⟨-1, T, P, EX9_lone ⟨_, c_has_no hR h1, fun c => absurd rfl c, fun _ => okX hX⟩, EX10_lone ⟨_, n_isPerson_no hRM hw h1, fun c => absurd rfl c, fun _ => okM hM⟩⟩
  · rcases h_ix x2 (show 2 ^ T.1 < 2 ^ 31 by omega) with h2 | ⟨d, hd, rfl⟩
    · exact ⟨-2, T, P, EX9_lone ⟨_, c_has_yes hR hp, fun _ => ⟨_, c_isDress_no hR h2, fun c => absurd rfl c, fun _ => okX hX⟩, fun c => absurd c (by decide)⟩, EX10_lone ⟨_, n_isPerson_yes hRM hw hp, fun _ => ⟨_, n_isDress_no hRM hw h2, fun c => absurd rfl c, fun _ => okM hM⟩, fun c => absurd c (by decide)⟩⟩
    · have hcm := s_cm_lt T d
      have hbit : (nI (s_cm T d) >>> (nI p &&& 31)) &&& 1 = s_bit (s_calm T p d) := by
        rw [h_bit (by omega) (by omega), s_cm_bit T h10]; simp [hp]
      by_cases hc : s_calm T p d = true
      · refine ⟨-3, T, P, EX9_lone ⟨_, c_has_yes hR hp, fun _ => ⟨_, c_isDress_yes hR hd, fun _ => ⟨_, c_isCalm hR (by omega) (by omega), fun c => ?_, fun _ => okX hX⟩, fun c => absurd c (by decide)⟩, fun c => absurd c (by decide)⟩, EX10_lone ⟨_, n_isPerson_yes hRM hw hp, fun _ => ⟨_, n_isDress_yes hRM hw hd, fun _ => ⟨_, n_calmOf hRM hw (by omega), fun c => ?_, fun _ => okM hM⟩, fun c => absurd c (by decide)⟩, fun c => absurd c (by decide)⟩⟩
        · rw [hc] at c; exact absurd c (by decide)
        · rw [hbit, hc] at c; exact absurd rfl c
      · have hc : s_calm T p d = false := by simpa using hc
        refine ⟨nI d ^^^ ((1 : Int32) <<< (nI p &&& 31)), T, P, EX9_lone ⟨_, c_has_yes hR hp, fun _ => ⟨_, c_isDress_yes hR hd, fun _ => ⟨_, c_isCalm hR (by omega) (by omega), fun _ => okX hX, fun c => ?_⟩, fun c => absurd c (by decide)⟩, fun c => absurd c (by decide)⟩, EX10_lone ⟨_, n_isPerson_yes hRM hw hp, fun _ => ⟨_, n_isDress_yes hRM hw hd, fun _ => ⟨_, n_calmOf hRM hw (by omega), fun _ => ⟨_, EX10_loneOf (zi rfl), okM hM⟩, fun c => ?_⟩, fun c => absurd c (by decide)⟩, fun c => absurd c (by decide)⟩⟩
        · rw [hc] at c; exact absurd rfl c
        · rw [hbit, hc] at c; exact absurd c (by decide)
end Top2
