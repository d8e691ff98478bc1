section RingTop
variable {E F : ET} {MX MM : Mem} {T : TW} {P : PW} {v : Nat}
theorem s_in_tab {x : Int32} {n : Nat} (hn : n < 2 ^ 31) : s_in x 0 (nI n) = true ↔ ¬ (x.toInt < 0 ∨ (n : Int) < x.toInt) := by
  have e : (nI n).toInt = n := nI_toInt (by omega)
  simp only [s_in, decide_eq_true_eq, Int32.lt_iff_toInt_lt, e, not_or]
  rfl
theorem tt_run (hX : InvX MX T P v) (hM : InvM MM T P) (x1 x2 x3 : Int32) : TopI (CX9_run E [.ref (E.2.1 9), .int x1, .int x2, .int x3] MX) (CX10_run F [.ref (F.2.1 0), .int x1, .int x2, .int x3] MM) (v + 10) := by
  have hR := hX.1
  have hRM := hM.1
  have hw := hX.2.1
  have h10 := hR.2.1.2
  have hp2 := hR.p2
  rcases h_ix x1 (show 2 ^ T.1 < 2 ^ 31 by omega) with h1 | ⟨d, hd, rfl⟩
  · exact ⟨-2, T, P, EX9_run ⟨_, c_isDress_no hR h1, fun _ => okX hX, fun c => absurd rfl c⟩, EX10_run ⟨_, n_isDress_no hRM hw h1, fun _ => okM hM, fun c => absurd rfl c⟩⟩
  · rcases h_ix x2 (show 2 < 2 ^ 31 by decide) with h2 | ⟨y, hy, rfl⟩
    · exact ⟨-2, T, P, EX9_run ⟨_, c_isDress_yes hR hd, fun c => absurd c (by decide), fun _ => ⟨_, c_isWay_no h2, fun c => absurd rfl c, fun _ => okX hX⟩⟩, EX10_run ⟨_, n_isDress_yes hRM hw hd, fun c => absurd c (by decide), fun _ => ⟨_, n_isWay_no h2, fun _ => okM hM, fun c => absurd rfl c⟩⟩⟩
    · have hin := s_in_tab (x := x3) (n := 2) (by decide)
      by_cases c0 : (x3.toInt < 0 ∨ 2 < x3.toInt)
      · have h3 : s_in x3 0 2 = false := by
          cases h : s_in x3 0 2 with
          | false => rfl
          | true => exact absurd c0 (hin.mp h)
        refine ⟨-2, T, P, EX9_run ⟨_, c_isDress_yes hR hd, fun c => absurd c (by decide), fun _ => ⟨_, c_isWay_yes hy, fun _ => ⟨fun _ => okX hX, ?_, ?_, ?_⟩, fun c => absurd c (by decide)⟩⟩, EX10_run ⟨_, n_isDress_yes hRM hw hd, fun c => absurd c (by decide), fun _ => ⟨_, n_isWay_yes hy, fun c => absurd c (by decide), fun _ => ⟨_, c_in (a := 0) (b := 2), fun c => ?_, fun _ => okM hM⟩⟩⟩⟩
        · intro c; subst c; exact absurd c0 (by decide)
        · intro c; subst c; exact absurd c0 (by decide)
        · intro c; subst c; exact absurd c0 (by decide)
        · rw [h3] at c; exact absurd rfl c
      · have h3 : s_in x3 0 2 = true := hin.mpr c0
        have mod : ∀ res, (x3 = 0 → res = nI (r_t (s_step T y) d)) → (x3 = 1 → res = nI (it (s_step T y) (r_t (s_step T y) d) d)) → (x3 = 2 → res = nI (r_l (s_step T y) d)) → CX10_run F [.ref (F.2.1 0), .int (nI d), .int (nI y), .int x3] MM (z_pI (fun r M1 => r = res ∧ InvM M1 T P)) := by
          intro res e0 e1 e2
          refine EX10_run ⟨_, n_isDress_yes hRM hw hd, fun c => absurd c (by decide), fun _ => ⟨_, n_isWay_yes hy, fun c => absurd c (by decide), fun _ => ⟨_, c_in (a := 0) (b := 2), fun _ => ⟨_, n_layLeads hM hy, fun M4 hq => ⟨_, n_layRun (hM.fr hq.1) hq.2.2.2 hd, fun M5 hq5 => ?_⟩⟩, fun c => ?_⟩⟩⟩
          · have hI := (hM.fr hq.1).fr hq5.1
            refine ⟨fun d0 => ⟨fun d1 => okMr hI ?_, fun d1 => okMr hI ?_⟩, fun d0 => okMr hI ?_⟩
            · rw [hq5.2.2.2.2, e2 ?_]
              rcases z_tab3 c0 with c | c | c
              · exact absurd c d0
              · exact absurd c d1
              · exact c
            · rw [hq5.2.2.1, e1 d1]
            · rw [hq5.2.2.2.1, e0 d0]
          · rw [h3] at c; exact absurd c (by decide)
        have hra := r_all (s_stepN T y) hd
        rcases z_tab3 c0 with c1 | c1 | c1 <;> subst c1
        · exact ⟨_, T, P, EX9_run ⟨_, c_isDress_yes hR hd, fun c => absurd c (by decide), fun _ => ⟨_, c_isWay_yes hy, fun _ => ⟨fun c => absurd c c0, fun _ => ⟨_, c_stepsToRing hX hy hd, fun r M1 hq => okXr hq.2 (by omega) hq.1⟩, fun c => absurd c (by decide), fun c => absurd c (by decide)⟩, fun c => absurd c (by decide)⟩⟩, mod _ (fun _ => rfl) (fun c => absurd c (by decide)) (fun c => absurd c (by decide))⟩
        · exact ⟨_, T, P, EX9_run ⟨_, c_isDress_yes hR hd, fun c => absurd c (by decide), fun _ => ⟨_, c_isWay_yes hy, fun _ => ⟨fun c => absurd c c0, fun c => absurd c (by decide), fun _ => ⟨_, c_entered hX hy hd, fun r M1 hq => okXr hq.2 (by omega) hq.1⟩, fun c => absurd c (by decide)⟩, fun c => absurd c (by decide)⟩⟩, mod _ (fun c => absurd c (by decide)) (fun _ => rfl) (fun c => absurd c (by decide))⟩
        · refine ⟨_, T, P, EX9_run ⟨_, c_isDress_yes hR hd, fun c => absurd c (by decide), fun _ => ⟨_, c_isWay_yes hy, fun _ => ⟨fun c => absurd c c0, fun c => absurd c (by decide), fun c => absurd c (by decide), fun _ => ⟨_, c_entered hX hy hd, fun r M1 hq => ?_⟩⟩, fun c => absurd c (by decide)⟩⟩, mod (nI (r_l (s_step T y) d)) (fun c => absurd c (by decide)) (fun c => absurd c (by decide)) (fun _ => rfl)⟩
          rw [hq.1]
          exact ⟨_, c_lengthOf hq.2 hy (it_lt (s_stepN T y) hd _) hra.2.1, fun r M1 hq => okXr hq.2 (by omega) hq.1⟩
theorem tt_rings (hX : InvX MX T P v) (hM : InvM MM T P) (x1 : Int32) : TopI (CX9_rings E [.ref (E.2.1 9), .int x1] MX) (CX10_rings F [.ref (F.2.1 0), .int x1] MM) (v + 10) := by
  have hp2 := hX.1.p2
  have hpos := Nat.two_pow_pos T.1
  rcases h_ix x1 (show 2 < 2 ^ 31 by decide) with h2 | ⟨y, hy, rfl⟩
  · exact ⟨-2, T, P, EX9_rings ⟨_, c_isWay_no h2, fun c => absurd rfl c, fun _ => okX hX⟩, EX10_rings (fun X hE hK => ⟨_, n_isWay_no h2, fun c => absurd rfl c, fun _ => okM hM⟩)⟩
  · refine ⟨_, T, P, EX9_rings ⟨_, c_isWay_yes hy, fun _ => ⟨_, c_ringCount hX hy, fun r M1 hq => okXr hq.2 (by omega) hq.1⟩, fun c => absurd c (by decide)⟩, EX10_rings (fun X hE hK => ⟨_, n_isWay_yes hy, fun _ => ⟨_, n_layRings hM hy, fun M1 hq => ?_⟩, fun c => absurd c (by decide)⟩)⟩
    have hI := hM.fr hq.1
    refine h_down (P := fun i => LX10_rings_19 X _ (nI (s_ct (s_rg (s_step T y)) i)) (nI i) M1) (2 ^ T.1) ?_ ?_
    · exact BX10_rings_19 hK ⟨_, n_all hI.1 hI.2.1, fun _ => okM hI, fun c => absurd (nI_lt (by omega) (by omega)) c⟩
    · intro i hi ih
      refine BX10_rings_19 hK ⟨_, n_all hI.1 hI.2.1, fun c => absurd c (nI_nlt (by omega) (by omega)), fun _ => ⟨h_inK (by omega), ?_⟩⟩
      rw [h_clK (by omega), hq.2.pos hp2 (s_stepN T y) hi, Int32.add_zero, nI_1, nI_1]
      cases hg : s_rg (s_step T y) i with
      | true => rw [s_ct_succ_yes hg] at ih; exact ⟨fun c => absurd c (by decide), fun _ => ih⟩
      | false => rw [s_ct_succ_no hg] at ih; exact ⟨fun _ => ih, fun c => absurd rfl c⟩
theorem tt_longest (hX : InvX MX T P v) (hM : InvM MM T P) (x1 : Int32) : TopI (CX9_longest E [.ref (E.2.1 9), .int x1] MX) (CX10_longest F [.ref (F.2.1 0), .int x1] MM) (v + 10) := by
  have hp2 := hX.1.p2
  have hpos := Nat.two_pow_pos T.1
  rcases h_ix x1 (show 2 < 2 ^ 31 by decide) with h2 | ⟨y, hy, rfl⟩
  · exact ⟨-2, T, P, EX9_longest ⟨_, c_isWay_no h2, fun c => absurd rfl c, fun _ => okX hX⟩, EX10_longest (fun X hE hK => ⟨_, n_isWay_no h2, fun c => absurd rfl c, fun _ => okM hM⟩)⟩
  · refine ⟨_, T, P, EX9_longest ⟨_, c_isWay_yes hy, fun _ => ⟨_, c_greatestLength hX hy, fun r M1 hq => okXr hq.2 (by omega) hq.1⟩, fun c => absurd c (by decide)⟩, EX10_longest (fun X hE hK => ⟨_, n_isWay_yes hy, fun _ => ⟨_, n_layRings hM hy, fun M1 hq => ?_⟩, fun c => absurd c (by decide)⟩)⟩
    have hI := hM.fr hq.1
    refine h_down (P := fun i => LX10_longest_19 X _ (nI (s_mx (s_rg (s_step T y)) (r_l (s_step T y)) i)) (nI i) M1) (2 ^ T.1) ?_ ?_
    · exact BX10_longest_19 hK ⟨_, n_all hI.1 hI.2.1, fun _ => okM hI, fun c => absurd (nI_lt (by omega) (by omega)) c⟩
    · intro i hi ih
      have hra := r_all (s_stepN T y) hi
      have hmx : s_mx (s_rg (s_step T y)) (r_l (s_step T y)) i < 2 ^ T.1 + 1 := s_mx_lt (by omega) (fun k hk => by have := (r_all (s_stepN T y) (show k < 2 ^ T.1 by omega)).2.2.2.2.2; omega)
      refine BX10_longest_19 hK ⟨_, n_all hI.1 hI.2.1, fun c => absurd c (nI_nlt (by omega) (by omega)), fun _ => ⟨h_inK (by omega), ?_⟩⟩
      rw [h_clK (by omega), hq.2.pos hp2 (s_stepN T y) hi, nI_1]
      cases hg : s_rg (s_step T y) i with
      | true =>
        refine ⟨fun c => absurd c (by decide), fun _ => ⟨h_inK (by omega), ?_⟩⟩
        rw [hq.2.len hi hg]
        refine ⟨fun c => ?_, fun c => ⟨h_inK (by omega), ?_⟩⟩
        · rw [s_mx_keep (fun c2 => h_nle (by omega) c2 c)] at ih; exact ih
        · rw [s_mx_up hg (Nat.lt_of_not_le (fun c2 => c (h_le (by omega) c2)))] at ih; exact ih
      | false => rw [s_mx_no (by rw [hg]; decide)] at ih; exact ⟨fun _ => ih, fun c => absurd rfl c⟩
theorem tt_ring (hX : InvX MX T P v) (hM : InvM MM T P) (x1 x2 x3 : Int32) : TopI (CX9_ring E [.ref (E.2.1 9), .int x1, .int x2, .int x3] MX) (CX10_ring F [.ref (F.2.1 0), .int x1, .int x2, .int x3] MM) (v + 10) := by
  have hp2 := hX.1.p2
  have hpos := Nat.two_pow_pos T.1
  rcases h_ix x1 (show 2 < 2 ^ 31 by decide) with h2 | ⟨y, hy, rfl⟩
  · exact ⟨-2, T, P, EX9_ring ⟨_, c_isWay_no h2, fun c => absurd rfl c, fun _ => okX hX⟩, EX10_ring (fun X hE hK => ⟨_, n_isWay_no h2, fun c => absurd rfl c, fun _ => okM hM⟩)⟩
  · have none : (∀ d, d < 2 ^ T.1 → s_rg (s_step T y) d = true → nI (s_ct (s_rg (s_step T y)) d) ≠ x2) → CX10_ring F [.ref (F.2.1 0), .int (nI y), .int x2, .int x3] MM (z_pI (fun r M1 => r = -1 ∧ InvM M1 T P)) := by
      intro hn
      refine EX10_ring (fun X hE hK => ⟨_, n_isWay_yes hy, fun _ => ⟨_, n_layRings hM hy, fun M1 hq => ?_⟩, fun c => absurd c (by decide)⟩)
      have hI := hM.fr hq.1
      refine h_down (P := fun i => LX10_ring_21 X (z_pI (fun r M1 => r = -1 ∧ InvM M1 T P)) x2 x3 (nI (s_ct (s_rg (s_step T y)) i)) (nI i) M1) (2 ^ T.1) ?_ ?_
      · exact BX10_ring_21 hK ⟨_, n_all hI.1 hI.2.1, fun _ => okM hI, fun c => absurd (nI_lt (by omega) (by omega)) c⟩
      · intro i hi ih
        refine BX10_ring_21 hK ⟨_, n_all hI.1 hI.2.1, fun c => absurd c (nI_nlt (by omega) (by omega)), fun _ => ⟨h_inK (by omega), ?_⟩⟩
        rw [h_clK (by omega), hq.2.pos hp2 (s_stepN T y) hi, Int32.add_zero, nI_1, nI_1]
        cases hg : s_rg (s_step T y) i with
        | true =>
          rw [s_ct_succ_yes hg] at ih
          exact ⟨fun c => absurd c (by decide), fun _ => ⟨fun _ => ⟨h_inK (by omega), fun c => absurd c (by decide), fun _ => ih⟩, fun c => absurd c (hn i hi hg)⟩⟩
        | false =>
          rw [s_ct_succ_no hg] at ih
          exact ⟨fun _ => ⟨h_inK (by omega), fun _ => ih, fun c => absurd rfl c⟩, fun c => absurd rfl c⟩
    rcases s_kth_cases (s_rg (s_step T y)) (2 ^ T.1) x2 with hx | ⟨k, d, hk, rfl, hd, hg, hc⟩ | ⟨k, hk, rfl, hn⟩
    · refine ⟨-1, T, P, EX9_ring ⟨_, c_isWay_yes hy, fun _ => ⟨_, c_leastOfRing_neg hX hy hx, fun r M1 hq => ?_⟩, fun c => absurd c (by decide)⟩, none (fun d hd hg c => ?_)⟩
      · rw [hq.1]
        exact ⟨fun c => absurd c (by decide), fun _ => okXr hq.2 (by omega) rfl⟩
      · have := s_ct_le (s_rg (s_step T y)) d
        exact nI_pos (n := s_ct (s_rg (s_step T y)) d) (by omega) (by rw [c]; exact hx)
    · have mod : ∀ res, (x3 = 0 → res = nI d) → (x3 = 1 → res = nI (r_l (s_step T y) d)) → (x3 = 2 → res = nI (s_ct (s_to (s_step T y) d) (2 ^ T.1))) → (x3 = 3 → res = nI (s_mx (s_to (s_step T y) d) (r_t (s_step T y)) (2 ^ T.1))) → ((x3.toInt < 0 ∨ 3 < x3.toInt) → res = -2) → CX10_ring F [.ref (F.2.1 0), .int (nI y), .int (nI k), .int x3] MM (z_pI (fun r M1 => r = res ∧ InvM M1 T P)) := by
        intro res e0 e1 e2 e3 e4
        refine EX10_ring (fun X hE hK => ⟨_, n_isWay_yes hy, fun _ => ⟨_, n_layRings hM hy, fun M1 hq => ?_⟩, fun c => absurd c (by decide)⟩)
        have hI := hM.fr hq.1
        refine h_down (P := fun i => LX10_ring_21 X (z_pI (fun r M1 => r = res ∧ InvM M1 T P)) (nI k) x3 (nI (s_ct (s_rg (s_step T y)) i)) (nI i) M1) d ?_ ?_
        · refine BX10_ring_21 hK ⟨_, n_all hI.1 hI.2.1, fun c => absurd c (nI_nlt (by omega) (by omega)), fun _ => ⟨h_inK (by omega), ?_⟩⟩
          rw [h_clK (by omega), hq.2.pos hp2 (s_stepN T y) hd, hg, hc]
          refine ⟨fun c => absurd c (by decide), fun _ => ⟨fun c => absurd rfl c, fun _ => ⟨fun d0 => ⟨fun d1 => ⟨fun d2 => ⟨fun d3 => okMr hI ?_, fun d3 => ⟨h_inK (by omega), okMr hI ?_⟩⟩, fun d2 => ⟨h_inK (by omega), okMr hI ?_⟩⟩, fun d1 => ⟨h_inK (by omega), okMr hI ?_⟩⟩, fun d0 => okMr hI ?_⟩⟩⟩
          · refine (e4 (Classical.byContradiction (fun c => ?_))).symm
            rcases z_tab4 c with c | c | c | c
            · exact d0 c
            · exact d1 c
            · exact d2 c
            · exact d3 c
          · rw [e3 d3]; exact hq.2.2.1 d hd
          · rw [e2 d2]; exact hq.2.1 d hd
          · rw [e1 d1]; exact hq.2.len hd hg
          · rw [e0 d0]
        · intro i hi ih
          have hm : s_ct (s_rg (s_step T y)) (i + 1) ≤ k := by rw [← hc]; exact s_ct_mono' hi
          refine BX10_ring_21 hK ⟨_, n_all hI.1 hI.2.1, fun c => absurd c (nI_nlt (by omega) (by omega)), fun _ => ⟨h_inK (by omega), ?_⟩⟩
          rw [h_clK (by omega), hq.2.pos hp2 (s_stepN T y) (by omega), Int32.add_zero, nI_1, nI_1]
          cases hgi : s_rg (s_step T y) i with
          | true =>
            rw [s_ct_succ_yes hgi] at ih hm
            refine ⟨fun c => absurd c (by decide), fun _ => ⟨fun _ => ⟨h_inK (by omega), fun c => absurd c (by decide), fun _ => ih⟩, fun c => ?_⟩⟩
            rw [nI_eq (by omega) hk] at c; omega
          | false =>
            rw [s_ct_succ_no hgi] at ih
            exact ⟨fun _ => ⟨h_inK (by omega), fun _ => ih, fun c => absurd rfl c⟩, fun c => absurd rfl c⟩
      have hon : s_on (s_step T y) d := by
        have := (r_m_self (s_stepN T y) hd).1
        simp [s_rg] at hg
        rw [hg] at this; exact this
      have hlen := (r_on (s_stepN T y) hd hon).2.1
      have cls : ∀ res, (x3 = 0 → res = nI d) → (x3 = 1 → res = nI (r_l (s_step T y) d)) → (x3 = 2 → res = nI (s_ct (s_to (s_step T y) d) (2 ^ T.1))) → (x3 = 3 → res = nI (s_mx (s_to (s_step T y) d) (r_t (s_step T y)) (2 ^ T.1))) → ((x3.toInt < 0 ∨ 3 < x3.toInt) → res = -2) → CX9_ring E [.ref (E.2.1 9), .int (nI y), .int (nI k), .int x3] MX (z_pI (fun r M1 => r = res ∧ InvX M1 T P (v + 10))) := by
        intro res e0 e1 e2 e3 e4
        refine EX9_ring ⟨_, c_isWay_yes hy, fun _ => ⟨_, c_leastOfRing_yes hX hy hk hd hg hc, fun r M1 hq => ?_⟩, fun c => absurd c (by decide)⟩
        rw [hq.1]
        refine ⟨fun _ => ⟨fun c => okXr hq.2 (by omega) (e4 c).symm, fun c => okXr hq.2 (by omega) (e0 c).symm, fun c => ?_, fun c => ?_, fun c => ?_⟩, fun c => absurd (nI_pos' (by omega)) c⟩
        · rw [e1 c]; exact ⟨_, c_lengthOf hq.2 hy hd hlen, fun r M1 hq => okXr hq.2 (by omega) hq.1⟩
        · rw [e2 c]; exact ⟨_, c_drawnTo hq.2 hy hd, fun r M1 hq => okXr hq.2 (by omega) hq.1⟩
        · rw [e3 c]; exact ⟨_, c_farthestFrom hq.2 hy hd, fun r M1 hq => okXr hq.2 (by omega) hq.1⟩
      by_cases c0 : (x3.toInt < 0 ∨ 3 < x3.toInt)
      · have n0 : ∀ z : Int32, ¬ (z.toInt < 0 ∨ 3 < z.toInt) → x3 = z → False := fun z hz e => hz (by rw [← e]; exact c0)
        exact ⟨-2, T, P, cls _ (fun c => (n0 0 (by decide) c).elim) (fun c => (n0 1 (by decide) c).elim) (fun c => (n0 2 (by decide) c).elim) (fun c => (n0 3 (by decide) c).elim) (fun _ => rfl), mod _ (fun c => (n0 0 (by decide) c).elim) (fun c => (n0 1 (by decide) c).elim) (fun c => (n0 2 (by decide) c).elim) (fun c => (n0 3 (by decide) c).elim) (fun _ => rfl)⟩
      · rcases z_tab4 c0 with c1 | c1 | c1 | c1 <;> subst c1
        · exact ⟨_, T, P, cls _ (fun _ => rfl) (fun c => absurd c (by decide)) (fun c => absurd c (by decide)) (fun c => absurd c (by decide)) (fun c => absurd c c0), mod _ (fun _ => rfl) (fun c => absurd c (by decide)) (fun c => absurd c (by decide)) (fun c => absurd c (by decide)) (fun c => absurd c c0)⟩
        · exact ⟨_, T, P, cls _ (fun c => absurd c (by decide)) (fun _ => rfl) (fun c => absurd c (by decide)) (fun c => absurd c (by decide)) (fun c => absurd c c0), mod _ (fun c => absurd c (by decide)) (fun _ => rfl) (fun c => absurd c (by decide)) (fun c => absurd c (by decide)) (fun c => absurd c c0)⟩
        · exact ⟨_, T, P, cls _ (fun c => absurd c (by decide)) (fun c => absurd c (by decide)) (fun _ => rfl) (fun c => absurd c (by decide)) (fun c => absurd c c0), mod _ (fun c => absurd c (by decide)) (fun c => absurd c (by decide)) (fun _ => rfl) (fun c => absurd c (by decide)) (fun c => absurd c c0)⟩
        · exact ⟨_, T, P, cls _ (fun c => absurd c (by decide)) (fun c => absurd c (by decide)) (fun c => absurd c (by decide)) (fun _ => rfl) (fun c => absurd c c0), mod _ (fun c => absurd c (by decide)) (fun c => absurd c (by decide)) (fun c => absurd c (by decide)) (fun _ => rfl) (fun c => absurd c c0)⟩
    · refine ⟨-1, T, P, EX9_ring ⟨_, c_isWay_yes hy, fun _ => ⟨_, c_leastOfRing_no hX hy hk hn, fun r M1 hq => ?_⟩, fun c => absurd c (by decide)⟩, none (fun d hd hg c => ?_)⟩
      · rw [hq.1]
        exact ⟨fun c => absurd c (by decide), fun _ => okXr hq.2 (by omega) rfl⟩
      · have := s_ct_le (s_rg (s_step T y)) d
        exact hn d hd hg ((nI_eq (by omega) hk).mp c)
end RingTop
