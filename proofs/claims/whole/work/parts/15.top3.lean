section Top3
variable {E F : ET} {MX MM : Mem} {T : TW} {P : PW} {v : Nat}
theorem s_in_iff {x a b : Int32} : s_in x a b = true ↔ ¬ x < a ∧ ¬ b < x := by simp only [s_in, decide_eq_true_eq]
theorem h_03 {x : Int32} (h : s_in x 0 3 = true) : x = 0 ∨ x = 1 ∨ x = 2 ∨ x = 3 := by
  rw [s_in_iff] at h
  obtain ⟨j, j1, j2⟩ := nI_of2 (x := x) (M := 3) (n := 3) (by decide) h.1 (Int32.not_lt.mp h.2)
  subst j2
  rcases (show j = 0 ∨ j = 1 ∨ j = 2 ∨ j = 3 by omega) with rfl | rfl | rfl | rfl
  · exact Or.inl rfl
  · exact Or.inr (Or.inl rfl)
  · exact Or.inr (Or.inr (Or.inl rfl))
  · exact Or.inr (Or.inr (Or.inr rfl))
theorem tt_set (hX : InvX MX T P v) (hM : InvM MM T P) (hv : v < 1000000) (x1 x2 x3 : Int32) : TopI (CX9_set E [.ref (E.2.1 9), .int x1, .int x2, .int x3] MX) (CX10_set F [.ref (F.2.1 0), .int x1, .int x2, .int x3] MM) (v + 10) := by
  have hR := hX.1
  have hRM := hM.1
  have hw := hX.2.1
  have h31 := hR.lt31
  have h10 := hR.2.1.2
  rcases h_ix x1 h31 with h1 | ⟨p, hp, rfl⟩
  · exact ⟨-1, T, P, EX9_set ⟨_, c_has_no hR h1, fun c => absurd rfl c, fun _ => okX hX⟩, EX10_set ⟨_, n_isPerson_no hRM hw h1, fun c => absurd rfl c, fun _ => okM hM⟩⟩
  · have hp10 : p < 10 := by omega
    by_cases e0 : x2 = 0
    · subst e0
      by_cases h3 : s_in x3 0 3 = true
      · refine ⟨T.2.2.1 p, tK T p x3, P, EX9_set ⟨_, c_has_yes hR hp, fun _ => ⟨fun c => absurd rfl c, fun _ => ⟨_, c_within, fun c => ?_, fun _ => ⟨_, c_kind hR hp10, _, c_setKind x3 hp10, fun M1 e1 => ?_⟩⟩⟩, fun c => absurd c (by decide)⟩, EX10_set ⟨_, n_isPerson_yes hRM hw hp, fun _ => ⟨fun c => absurd rfl c, fun _ => ⟨_, c_in (a := 0) (b := 3), fun _ => ⟨fun c => absurd rfl c, fun _ => ⟨h_in10 hp10, fun c => absurd rfl c, fun _ => ⟨h_in10 hp10, fun M1 e1 => ⟨fun _ => ⟨h_in10 hp10, h_in10 hp10, fun M2 e2 => ?_⟩, fun c => absurd c (by decide)⟩⟩⟩⟩, fun c => ?_⟩⟩, fun c => absurd c (by decide)⟩⟩
        · rw [h3] at c; exact absurd c (by decide)
        · subst e1; exact zpI ⟨rfl, (hX.kind hv hp (h_03 h3)).up (by omega)⟩
        · rw [e2, z_st_id, e1, h_cl10 hp10, hRM.2.2.1 p hp10]
          exact zpI ⟨rfl, hM.kind (h_03 h3)⟩
        · rw [h3] at c; exact absurd c (by decide)
      · have h3 : s_in x3 0 3 = false := by simpa using h3
        refine ⟨-2, T, P, EX9_set ⟨_, c_has_yes hR hp, fun _ => ⟨fun c => absurd rfl c, fun _ => ⟨_, c_within, fun _ => ⟨fun _ => okX hX, fun c => absurd c (by decide)⟩, fun c => ?_⟩⟩, fun c => absurd c (by decide)⟩, EX10_set ⟨_, n_isPerson_yes hRM hw hp, fun _ => ⟨fun c => absurd rfl c, fun _ => ⟨_, c_in (a := 0) (b := 3), fun c => ?_, fun _ => ⟨fun _ => okM hM, fun c => absurd c (by decide)⟩⟩⟩, fun c => absurd c (by decide)⟩⟩
        · rw [h3] at c; exact absurd rfl c
        · rw [h3] at c; exact absurd rfl c
    · by_cases e1 : x2 = 1
      · subst e1
        by_cases h3 : s_in x3 (-9) 9 = true
        · refine ⟨T.2.2.2 p, tL T p x3, P, EX9_set ⟨_, c_has_yes hR hp, fun _ => ⟨fun _ => ⟨fun c => absurd rfl c, fun _ => ⟨_, c_within, fun c => ?_, fun _ => ⟨_, c_lean hR hp10, _, c_setLean x3 hp10, fun M1 e1 => ?_⟩⟩⟩, fun c => absurd c (by decide)⟩, fun c => absurd c (by decide)⟩, EX10_set ⟨_, n_isPerson_yes hRM hw hp, fun _ => ⟨fun _ => ⟨fun c => absurd rfl c, fun _ => ⟨_, c_in (a := -9) (b := 9), fun _ => ⟨fun _ => ⟨h_in10 hp10, fun _ => ⟨h_in10 hp10, h_in10 hp10, fun M1 e1 => ⟨fun c => absurd rfl c, fun _ => ⟨h_in10 hp10, fun M2 e2 => ?_⟩⟩⟩, fun c => absurd c (by decide)⟩, fun c => absurd c (by decide)⟩, fun c => ?_⟩⟩, fun c => absurd c (by decide)⟩, fun c => absurd c (by decide)⟩⟩
          · rw [h3] at c; exact absurd c (by decide)
          · subst e1; exact zpI ⟨rfl, (hX.lean hv hp).up (by omega)⟩
          · rw [e2, e1, z_st_id, h_cl10 hp10, hRM.2.2.2 p hp10]
            exact zpI ⟨rfl, hM.lean⟩
          · rw [h3] at c; exact absurd c (by decide)
        · have h3 : s_in x3 (-9) 9 = false := by simpa using h3
          refine ⟨-2, T, P, EX9_set ⟨_, c_has_yes hR hp, fun _ => ⟨fun _ => ⟨fun c => absurd rfl c, fun _ => ⟨_, c_within, fun _ => okX hX, fun c => ?_⟩⟩, fun c => absurd c (by decide)⟩, fun c => absurd c (by decide)⟩, EX10_set ⟨_, n_isPerson_yes hRM hw hp, fun _ => ⟨fun _ => ⟨fun c => absurd rfl c, fun _ => ⟨_, c_in (a := -9) (b := 9), fun c => ?_, fun _ => okM hM⟩⟩, fun c => absurd c (by decide)⟩, fun c => absurd c (by decide)⟩⟩
          · rw [h3] at c; exact absurd rfl c
          · rw [h3] at c; exact absurd rfl c
      · exact ⟨-2, T, P, EX9_set ⟨_, c_has_yes hR hp, fun _ => ⟨fun _ => ⟨fun _ => okX hX, fun c => absurd c e1⟩, fun c => absurd c e0⟩, fun c => absurd c (by decide)⟩, EX10_set ⟨_, n_isPerson_yes hRM hw hp, fun _ => ⟨fun _ => ⟨fun _ => okM hM, fun c => absurd c e1⟩, fun c => absurd c e0⟩, fun c => absurd c (by decide)⟩⟩
theorem tt_about (hX : InvX MX T P v) (hM : InvM MM T P) (x1 x2 : Int32) : TopI (CX9_about E [.ref (E.2.1 9), .int x1, .int x2] MX) (CX10_about F [.ref (F.2.1 0), .int x1, .int x2] MM) (v + 10) := by
  have hR := hX.1
  have hRM := hM.1
  have hw := hX.2.1
  have h31 := hR.lt31
  have h10 := hR.2.1.2
  rcases h_ix x1 h31 with h1 | ⟨p, hp, rfl⟩
  · exact ⟨-1, T, P, EX9_about ⟨_, c_has_no hR h1, fun c => absurd rfl c, fun _ => okX hX⟩, EX10_about (fun X hE hK => ⟨_, n_isPerson_no hRM hw h1, fun c => absurd rfl c, fun _ => okM hM⟩)⟩
  · have hp10 : p < 10 := by omega
    have mod : ∀ (res : Int32), ((x2.toInt < 0 ∨ 3 < x2.toInt) → (-2 : Int32) = res) → (x2 = 0 → T.2.2.1 p = res) → (x2 = 1 → T.2.2.2 p = res) → (x2 = 2 → s_cnt (fun o => decide (¬ T.2.1 p o ≤ 0)) T.1 = res) → (x2 = 3 → s_cnt (fun o => decide (¬ T.2.1 o p ≤ 0)) T.1 = res) → CX10_about F [.ref (F.2.1 0), .int (nI p), .int x2] MM (z_pI (fun r M1 => r = res ∧ InvM M1 T P)) := by
      intro res r0 r1 r2 r3 r4
      refine EX10_about (fun X hE hK => ⟨_, n_isPerson_yes hRM hw hp, fun _ => ?_, fun c => absurd c (by decide)⟩)
      refine h_down (P := fun i => LX10_about_18 X (z_pI (fun r M1 => r = res ∧ InvM M1 T P)) (nI p) x2 (s_cnt (fun o => decide (¬ T.2.1 p o ≤ 0)) i) (s_cnt (fun o => decide (¬ T.2.1 o p ≤ 0)) i) (nI i) MM) T.1 ?_ ?_
      · refine BX10_about_18 hK ⟨fun _ => ⟨fun c => okMr hM (r0 c), fun c => ⟨h_in10 hp10, ?_⟩, fun c => ⟨h_in10 hp10, ?_⟩, fun c => okMr hM (r3 c), fun c => okMr hM (r4 c)⟩, fun c => absurd ?_ c⟩
        · rw [h_cl10 hp10, hRM.2.2.1 p hp10]; exact okMr hM (r1 c)
        · rw [h_cl10 hp10, hRM.2.2.2 p hp10]; exact okMr hM (r2 c)
        · rw [hRM.1]; exact h_le h31 (Nat.le_refl _)
      · intro i hi ih
        have hi10 : i < 10 := by omega
        have a1 := h_w (p := p) (o := i) hp10 hi10
        have a2 := h_w (p := i) (o := p) hi10 hp10
        refine BX10_about_18 hK ⟨fun c => absurd c ?_, fun _ => ?_⟩
        · rw [hRM.1]; exact h_nle h31 hi
        · rw [a1.2, a2.2, hRM.2.1 p i hp10 hi10, hRM.2.1 i p hi10 hp10, nI_1, Int32.add_zero, Int32.add_zero]
          refine ⟨a1.1, fun c1 => ⟨a2.1, fun c2 => ?_, fun c2 => ?_⟩, fun c1 => ⟨a2.1, fun c2 => ?_, fun c2 => ?_⟩⟩ <;> simpa [s_cnt, c1, c2] using ih
    by_cases c0 : x2.toInt < 0 ∨ 3 < x2.toInt
    · have n0 : ¬ x2 = 0 := fun e => by subst e; exact absurd c0 (by decide)
      have n1 : ¬ x2 = 1 := fun e => by subst e; exact absurd c0 (by decide)
      have n2 : ¬ x2 = 2 := fun e => by subst e; exact absurd c0 (by decide)
      have n3 : ¬ x2 = 3 := fun e => by subst e; exact absurd c0 (by decide)
      exact ⟨-2, T, P, EX9_about ⟨_, c_has_yes hR hp, fun _ => ⟨fun _ => okX hX, fun c => absurd c n0, fun c => absurd c n1, fun c => absurd c n2, fun c => absurd c n3⟩, fun c => absurd c (by decide)⟩, mod (-2) (fun _ => rfl) (fun c => absurd c n0) (fun c => absurd c n1) (fun c => absurd c n2) (fun c => absurd c n3)⟩
    · rcases z_tab4 c0 with c1 | c1 | c1 | c1 <;> subst c1
      · exact ⟨T.2.2.1 p, T, P, EX9_about ⟨_, c_has_yes hR hp, fun _ => ⟨fun c => absurd c c0, fun _ => ⟨_, c_kind hR hp10, okX hX⟩, fun c => absurd c (by decide), fun c => absurd c (by decide), fun c => absurd c (by decide)⟩, fun c => absurd c (by decide)⟩, mod _ (fun c => absurd c c0) (fun _ => rfl) (fun c => absurd c (by decide)) (fun c => absurd c (by decide)) (fun c => absurd c (by decide))⟩
      · exact ⟨T.2.2.2 p, T, P, EX9_about ⟨_, c_has_yes hR hp, fun _ => ⟨fun c => absurd c c0, fun c => absurd c (by decide), fun _ => ⟨_, c_lean hR hp10, okX hX⟩, fun c => absurd c (by decide), fun c => absurd c (by decide)⟩, fun c => absurd c (by decide)⟩, mod _ (fun c => absurd c c0) (fun c => absurd c (by decide)) (fun _ => rfl) (fun c => absurd c (by decide)) (fun c => absurd c (by decide))⟩
      · exact ⟨_, T, P, EX9_about ⟨_, c_has_yes hR hp, fun _ => ⟨fun c => absurd c c0, fun c => absurd c (by decide), fun c => absurd c (by decide), fun _ => ⟨_, c_seenBy hR hp10, okX hX⟩, fun c => absurd c (by decide)⟩, fun c => absurd c (by decide)⟩, mod _ (fun c => absurd c c0) (fun c => absurd c (by decide)) (fun c => absurd c (by decide)) (fun _ => rfl) (fun c => absurd c (by decide))⟩
      · exact ⟨_, T, P, EX9_about ⟨_, c_has_yes hR hp, fun _ => ⟨fun c => absurd c c0, fun c => absurd c (by decide), fun c => absurd c (by decide), fun c => absurd c (by decide), fun _ => ⟨_, c_seeing hR hp10, okX hX⟩⟩, fun c => absurd c (by decide)⟩, mod _ (fun c => absurd c c0) (fun c => absurd c (by decide)) (fun c => absurd c (by decide)) (fun c => absurd c (by decide)) (fun _ => rfl)⟩
/-! ways, steps -/
theorem c_isWay_yes {M : Mem} {y : Nat} (hy : y < 2) : CX9_isWay E [.int (nI y)] M (z_is (some (.int 1)) M) := by
  rcases (show y = 0 ∨ y = 1 by omega) with rfl | rfl
  · exact EX9_isWay ⟨fun _ => zi rfl, fun c => absurd rfl c⟩
  · exact EX9_isWay ⟨fun c => absurd c (by decide), fun _ => ⟨fun c => absurd rfl c, fun _ => zi rfl⟩⟩
theorem c_isWay_no {M : Mem} {x : Int32} (hx : x < 0 ∨ nI 2 ≤ x) : CX9_isWay E [.int x] M (z_is (some (.int 0)) M) := by
  refine EX9_isWay ⟨fun c => ?_, fun _ => ⟨fun _ => zi rfl, fun c => ?_⟩⟩
  · subst c; exact absurd hx (by decide)
  · subst c; exact absurd hx (by decide)
theorem n_isWay_yes {M : Mem} {y : Nat} (hy : y < 2) : CX10_isWay E [.int (nI y)] M (z_is (some (.int 1)) M) := by
  refine EX10_isWay ⟨_, c_in (a := 0) (b := 1), s_bit_01 _, zi ?_⟩
  rcases (show y = 0 ∨ y = 1 by omega) with rfl | rfl <;> rfl
theorem n_isWay_no {M : Mem} {x : Int32} (hx : x < 0 ∨ nI 2 ≤ x) : CX10_isWay E [.int x] M (z_is (some (.int 0)) M) := by
  refine EX10_isWay ⟨_, c_in (a := 0) (b := 1), s_bit_01 _, zi ?_⟩
  have : s_in x 0 1 = false := s_in_nIf (n := 2) (by decide) (by decide) hx
  rw [this]; rfl
theorem tt_after (hX : InvX MX T P v) (hM : InvM MM T P) (x1 x2 x3 : Int32) : TopI (CX9_after E [.ref (E.2.1 9), .int x1, .int x2, .int x3] MX) (CX10_after F [.ref (F.2.1 0), .int x1, .int x2, .int x3] MM) (v + 10) := by
  have hR := hX.1
  have hRM := hM.1
  have hw := hX.2.1
  have h10 := hR.2.1.2
  have hp2 := hR.p2
  rcases h_ix x1 (show 2 ^ T.1 < 2 ^ 31 by omega) with h1 | ⟨d, hd, rfl⟩
  · exact ⟨-2, T, P, EX9_after ⟨_, c_isDress_no hR h1, fun _ => okX hX, fun c => absurd rfl c⟩, EX10_after (fun X hE hK => ⟨_, n_isDress_no hRM hw h1, fun _ => okM hM, fun c => absurd rfl c⟩)⟩
  · rcases h_ix x2 (show 2 < 2 ^ 31 by decide) with h2 | ⟨y, hy, rfl⟩
    · exact ⟨-2, T, P, EX9_after ⟨_, c_isDress_yes hR hd, fun c => absurd c (by decide), fun _ => ⟨_, c_isWay_no h2, fun _ => okX hX, fun c => absurd rfl c⟩⟩, EX10_after (fun X hE hK => ⟨_, n_isDress_yes hRM hw hd, fun c => absurd c (by decide), fun _ => ⟨_, n_isWay_no h2, fun _ => okM hM, fun c => absurd rfl c⟩⟩)⟩
    · by_cases h3 : s_in x3 0 10000 = true
      · obtain ⟨n, hn, rfl⟩ : ∃ n : Nat, n ≤ 10000 ∧ x3 = nI n := by
          rw [s_in_iff] at h3
          exact nI_of2 (by decide) h3.1 (Int32.not_lt.mp h3.2)
        refine ⟨nI (it (s_step T y) n d), T, P, EX9_after ⟨_, c_isDress_yes hR hd, fun c => absurd c (by decide), fun _ => ⟨_, c_isWay_yes hy, fun c => absurd c (by decide), fun _ => ⟨_, c_within, fun _ => ⟨_, c_behind hX hy hd (by omega), fun r M4 hq => okXr hq.2 (by omega) hq.1⟩, fun c => ?_⟩⟩⟩, EX10_after (fun X hE hK => ⟨_, n_isDress_yes hRM hw hd, fun c => absurd c (by decide), fun _ => ⟨_, n_isWay_yes hy, fun c => absurd c (by decide), fun _ => ⟨_, c_in (a := 0) (b := 10000), fun _ => ?_, fun c => ?_⟩⟩⟩)⟩
        · rw [h3] at c; exact absurd c (by decide)
        · refine h_down (P := fun i => LX10_after_36 X (z_pI (fun r M1 => r = nI (it (s_step T y) n d) ∧ InvM M1 T P)) (nI y) (nI n) (nI (it (s_step T y) i d)) (nI i) MM) n ?_ ?_
          · exact BX10_after_36 hK ⟨fun _ => okM hM, fun c => absurd (h_le (by omega) (Nat.le_refl _)) c⟩
          · intro i hi ih
            have hlt := it_lt (f := s_step T y) (fun x hx => s_step_lt T y hx) hd i
            refine BX10_after_36 hK ⟨fun c => absurd c (h_nle (by omega) hi), fun _ => ⟨_, n_stepFrom hRM hw hlt hy, ?_⟩⟩
            rw [nI_1]; exact ih
        · rw [h3] at c; exact absurd c (by decide)
      · have h3 : s_in x3 0 10000 = false := by simpa using h3
        refine ⟨-2, T, P, EX9_after ⟨_, c_isDress_yes hR hd, fun c => absurd c (by decide), fun _ => ⟨_, c_isWay_yes hy, fun c => absurd c (by decide), fun _ => ⟨_, c_within, fun c => ?_, fun _ => okX hX⟩⟩⟩, EX10_after (fun X hE hK => ⟨_, n_isDress_yes hRM hw hd, fun c => absurd c (by decide), fun _ => ⟨_, n_isWay_yes hy, fun c => absurd c (by decide), fun _ => ⟨_, c_in (a := 0) (b := 10000), fun c => ?_, fun _ => okM hM⟩⟩⟩)⟩
        · rw [h3] at c; exact absurd rfl c
        · rw [h3] at c; exact absurd rfl c
end Top3
