section May2
variable {E F : ET} {M MX MM : Mem} {T : TW} {P : PW} {v : Nat}
theorem c_canReach (hX : InvX M T P v) {d e : Nat} (hd : d < 2 ^ T.1) (he : e < 2 ^ T.1) : CX0_canReach E [.ref (E.2.1 0), .int (nI d), .int (nI e)] M (z_pI (fun r M1 => r = s_bit (decide ((b_all T d).2.2 e ≠ 0)) ∧ InvX M1 T P v)) := by
  have hR := hX.1
  have hp2 := hR.p2
  refine EX0_canReach ⟨_, c_restless hR hX.2.2.1, fun M1 h1 => ⟨_, c_search (h1.1.rep hR) h1.2.2 hd, fun r M2 hq => ⟨h_inK (by omega), ?_⟩⟩⟩
  have hI := (hX.fr h1.1 h1.2.1 h1.2.2).scr (M1 := M2) (fun k hk => hq.2.1 k (by omega) (by omega))
  have D1 := (b_all_I hd).2.2.2.2.1 e
  have hle := (b_all_I hd).le
  have dn := dX_neg (k := (b_all T d).2.2 e) (by omega)
  rw [h_clK (by omega), hq.2.2.1 e he]
  refine ⟨fun c => zpI ⟨?_, hI⟩, fun c => zpI ⟨?_, hI⟩⟩
  · have : ¬ (b_all T d).2.2 e ≠ 0 := fun h => absurd c (Int32.not_lt.mpr (dn.mpr h))
    simp [this, s_bit]
  · have : (b_all T d).2.2 e ≠ 0 := dn.mp (Int32.not_lt.mp c)
    simp [this, s_bit]
theorem tt_may (hX : InvX MX T P v) (hM : InvM MM T P) (x1 x2 : Int32) : TopI (CX9_may E [.ref (E.2.1 9), .int x1, .int x2] MX) (CX10_may F [.ref (F.2.1 0), .int x1, .int x2] MM) (v + 10) := by
  have hR := hX.1
  have hRM := hM.1
  have hw := hX.2.1
  have hp2 := hR.p2
  rcases h_ix x1 (show 2 ^ T.1 < 2 ^ 31 by omega) with h1 | ⟨d, hd, rfl⟩
  · exact ⟨-2, T, P, EX9_may ⟨_, c_isDress_no hR h1, fun c => absurd rfl c, fun _ => okX hX⟩, EX10_may ⟨_, n_isDress_no hRM hw h1, fun c => absurd rfl c, fun _ => okM hM⟩⟩
  · have neg : ∀ q3, CX3_dressOf E [.ref (E.2.1 3), .int x2] MX (z_pI (fun r M1 => r = -1 ∧ InvX M1 T P v)) → q3 = (-1 : Int32) → CX10_restOf F [.ref (F.2.1 0), .int x2] MM (z_is (some (.int q3)) MM) → TopI (CX9_may E [.ref (E.2.1 9), .int (nI d), .int x2] MX) (CX10_may F [.ref (F.2.1 0), .int (nI d), .int x2] MM) (v + 10) := by
      intro q3 a1 e3 a2
      refine ⟨-1, T, P, EX9_may ⟨_, c_isDress_yes hR hd, fun _ => ⟨_, a1, fun r M2 hq => ?_⟩, fun c => absurd c (by decide)⟩, EX10_may ⟨_, n_isDress_yes hRM hw hd, fun _ => ⟨_, a2, fun c => absurd e3 c, fun _ => okM hM⟩, fun c => absurd c (by decide)⟩⟩
      rw [hq.1]
      exact ⟨fun c => absurd c (by decide), fun _ => okXr hq.2 (by omega) rfl⟩
    rcases s_rest_cases T x2 with h | ⟨k, e, hk, rfl, he, hf, hc⟩ | ⟨k, hk, rfl, hn⟩
    · exact neg _ (c_dressOf_neg hX h) rfl (n_restOf_neg hRM hw h)
    · refine ⟨s_bit (decide ((b_all T d).2.2 e ≠ 0)), T, P, EX9_may ⟨_, c_isDress_yes hR hd, fun _ => ⟨_, c_dressOf_yes hX hk he hf hc, fun r M2 hq => ?_⟩, fun c => absurd c (by decide)⟩, EX10_may ⟨_, n_isDress_yes hRM hw hd, fun _ => ⟨_, n_restOf_yes hRM hw hk he hf hc, fun _ => ⟨_, n_layCalms hM, fun M3 h3 => ⟨_, n_layFar (hM.fr h3.1) h3.2 hd, fun M4 h4 => ⟨h_inK (by omega), ?_⟩⟩⟩, fun c => ?_⟩, fun c => absurd c (by decide)⟩⟩
      · rw [hq.1]
        refine ⟨fun _ => ⟨_, c_canReach hq.2 hd he, fun r5 M4 h4 => ?_⟩, fun c => absurd (nI_pos' (by omega)) c⟩
        rw [h4.1]
        refine ⟨fun c => okXr h4.2 (by omega) c.symm, fun c => okXr h4.2 (by omega) ((s_bit_01 _).resolve_left c).symm⟩
      · have D1 := (b_all_I hd).2.2.2.2.1 e
        have hle := (b_all_I hd).le
        have hI := (hM.fr h3.1).fr h4.1
        rw [h_clK (by omega), h4.2.2.1 e he, dM_neg (by omega)]
        exact ⟨fun c => okMr hI (by simp [c, s_bit]), fun c => okMr hI (by simp [c, s_bit])⟩
      · exact absurd (show (-1 : Int32) < 0 by decide) (by rw [← c]; exact nI_pos (by omega))
    · exact neg _ (c_dressOf_no hX hk hn) rfl (n_restOf_no hRM hw hk hn)
theorem tt_mays (hX : InvX MX T P v) (hM : InvM MM T P) (x1 : Int32) : TopI (CX9_mays E [.ref (E.2.1 9), .int x1] MX) (CX10_mays F [.ref (F.2.1 0), .int x1] MM) (v + 10) := by
  have hR := hX.1
  have hRM := hM.1
  have hw := hX.2.1
  have h10 := hR.2.1.2
  have hp2 := hR.p2
  have hpos := Nat.two_pow_pos T.1
  rcases h_ix x1 (show 2 ^ T.1 < 2 ^ 31 by omega) with h1 | ⟨d, hd, rfl⟩
  · exact ⟨-2, T, P, EX9_mays ⟨_, c_isDress_no hR h1, fun c => absurd rfl c, fun _ => okX hX⟩, EX10_mays (fun X hE hK => ⟨_, n_isDress_no hRM hw h1, fun c => absurd rfl c, fun _ => okM hM⟩)⟩
  · have hB := b_all_I hd
    have hle := hB.le
    have hcount := b_count hB (s_rest T)
    refine ⟨s_cnt (fun k => s_rest T ((b_all T d).1 k)) (b_all T d).2.1, T, P, EX9_mays ⟨_, c_isDress_yes hR hd, fun _ => ⟨fun r M1 => r = s_cnt (fun k => s_rest T ((b_all T d).1 k)) (b_all T d).2.1 ∧ InvX M1 T P v, ?_, fun r M2 hq => okXr hq.2 (by omega) hq.1⟩, fun c => absurd c (by decide)⟩, EX10_mays (fun X hE hK => ⟨_, n_isDress_yes hRM hw hd, fun _ => ⟨_, n_layCalms hM, fun M3 h3 => ⟨_, n_layFar (hM.fr h3.1) h3.2 hd, fun M4 h4 => ?_⟩⟩, fun c => absurd c (by decide)⟩)⟩
    · refine EX0_restsFrom (fun X hE hK => ⟨_, c_restless hR hX.2.2.1, fun M1 h1 => ⟨_, c_search (h1.1.rep hR) h1.2.2 hd, fun r M2 hq => ?_⟩⟩)
      have hI := (hX.fr h1.1 h1.2.1 h1.2.2).scr (M1 := M2) (fun k hk => hq.2.1 k (by omega) (by omega))
      have hF2 : FreshR M2 T := fun a ha => by rw [hq.2.1 24 (by decide) (by decide)]; exact h1.2.2 a ha
      rw [hq.1]
      refine h_down (P := fun i => LX0_restsFrom_21 X (z_pI (fun r M1 => r = s_cnt (fun k => s_rest T ((b_all T d).1 k)) (b_all T d).2.1 ∧ InvX M1 T P v)) (nI (b_all T d).2.1) (s_cnt (fun k => s_rest T ((b_all T d).1 k)) i) (nI i) M2) (b_all T d).2.1 ?_ ?_
      · exact BX0_restsFrom_21 hK ⟨fun _ => okX0 hI, fun c => absurd (h_le (by omega) (Nat.le_refl _)) c⟩
      · intro i hi ih
        have hqi := hB.2.1 i hi
        refine BX0_restsFrom_21 hK ⟨fun c => absurd c (h_nle (by omega) hi), fun _ => ⟨h_inK (by omega), ?_⟩⟩
        rw [h_clK (show i < 1024 by omega), hq.2.2.2 i hi, h_clK (show (b_all T d).1 i < 1024 by omega), h_rest0 hF2 h10 hqi.1, nI_1]
        exact ⟨h_inK (by omega), fun c => by simpa [s_cnt, c] using ih, fun c => by simpa [s_cnt, c] using ih⟩
    · have hI := (hM.fr h3.1).fr h4.1
      rw [s_cnt_ct, hcount, ← s_cnt_ct]
      refine h_down (P := fun i => LX10_mays_24 X (z_pI (fun r M1 => r = s_cnt (fun c => decide ((b_all T d).2.2 c ≠ 0) && s_rest T c) (2 ^ T.1) ∧ InvM M1 T P)) (s_cnt (fun c => decide ((b_all T d).2.2 c ≠ 0) && s_rest T c) i) (nI i) M4) (2 ^ T.1) ?_ ?_
      · exact BX10_mays_24 hK ⟨_, n_all hI.1 hw, fun _ => okM hI, fun c => absurd (nI_lt (by omega) (by omega)) c⟩
      · intro i hi ih
        have D1 := hB.2.2.2.2.1 i
        refine BX10_mays_24 hK ⟨_, n_all hI.1 hw, fun c => absurd c (nI_nlt (by omega) (by omega)), fun _ => ⟨h_inK (by omega), ?_⟩⟩
        rw [h_clK (by omega), h4.2.2.1 i hi, dM_neg (by omega), nI_1, Int32.add_zero]
        refine ⟨fun c => by simpa [s_cnt, c] using ih, fun c => ⟨_, n_isRest hI.1 hw (by omega), fun c2 => ?_, fun c2 => ?_⟩⟩
        · have c2 : s_rest T i = false := s_bit_0.mp c2
          simpa [s_cnt, c, c2] using ih
        · have c2 : s_rest T i = true := by
            rw [s_bit_0] at c2; simpa using c2
          simpa [s_cnt, c, c2] using ih
theorem tt_soon (hX : InvX MX T P v) (hM : InvM MM T P) (x1 : Int32) : TopI (CX9_soon E [.ref (E.2.1 9), .int x1] MX) (CX10_soon F [.ref (F.2.1 0), .int x1] MM) (v + 10) := by
  have hR := hX.1
  have hRM := hM.1
  have hw := hX.2.1
  have h10 := hR.2.1.2
  have hp2 := hR.p2
  have hpos := Nat.two_pow_pos T.1
  rcases h_ix x1 (show 2 ^ T.1 < 2 ^ 31 by omega) with h1 | ⟨d, hd, rfl⟩
  · exact ⟨-2, T, P, EX9_soon ⟨_, c_isDress_no hR h1, fun c => absurd rfl c, fun _ => okX hX⟩, EX10_soon (fun X hE hK => ⟨_, n_isDress_no hRM hw h1, fun c => absurd rfl c, fun _ => okM hM⟩)⟩
  · have hB := b_all_I hd
    have hle := hB.le
    -- the first rest in the row, if any: its number
    have key : ∃ (k : Nat) (resX res : Int32), k ≤ (b_all T d).2.1 ∧ (∀ i, i < k → s_rest T ((b_all T d).1 i) = false) ∧ ((k = (b_all T d).2.1 ∧ resX = -1 ∧ res = -9) ∨ (k < (b_all T d).2.1 ∧ s_rest T ((b_all T d).1 k) = true ∧ 0 ≤ resX ∧ res = resX ∧ resX = dX ((b_all T d).2.2 ((b_all T d).1 k)) ∧ res = dM ((b_all T d).2.2 ((b_all T d).1 k)))) := by
      by_cases h : ∃ k, k < (b_all T d).2.1 ∧ s_rest T ((b_all T d).1 k) = true
      · obtain ⟨k, ⟨k1, k2⟩, k3⟩ := pk_least _ h
        have hne := (hB.2.1 k k1).2
        have D1 := hB.2.2.2.2.1 ((b_all T d).1 k)
        refine ⟨k, _, _, by omega, fun i hi => ?_, Or.inr ⟨k1, k2, (dX_neg (k := (b_all T d).2.2 ((b_all T d).1 k)) (by omega)).mpr hne, ?_, rfl, rfl⟩⟩
        · have := k3 i hi
          cases hs : s_rest T ((b_all T d).1 i) with
          | false => rfl
          | true => exact absurd ⟨by omega, hs⟩ this
        · unfold dX dM; rw [if_neg hne, if_neg hne]
      · refine ⟨(b_all T d).2.1, -1, -9, Nat.le_refl _, fun i hi => ?_, Or.inl ⟨rfl, rfl, rfl⟩⟩
        cases hs : s_rest T ((b_all T d).1 i) with
        | false => rfl
        | true => exact absurd ⟨i, hi, hs⟩ h
    obtain ⟨k, resX, res, k1, k2, k3⟩ := key
    refine ⟨res, T, P, EX9_soon ⟨_, c_isDress_yes hR hd, fun _ => ⟨fun r M1 => r = resX ∧ InvX M1 T P v, ?_, fun r M2 hq => ?_⟩, fun c => absurd c (by decide)⟩, EX10_soon (fun X hE hK => ⟨_, n_isDress_yes hRM hw hd, fun _ => ⟨_, n_layCalms hM, fun M3 h3 => ⟨_, n_layFar (hM.fr h3.1) h3.2 hd, fun M4 h4 => ?_⟩⟩, fun c => absurd c (by decide)⟩)⟩
    · refine EX0_fewestDraws (fun X hE hK => ⟨_, c_restless hR hX.2.2.1, fun M1 h1 => ⟨_, c_search (h1.1.rep hR) h1.2.2 hd, fun r M2 hq => ?_⟩⟩)
      have hI := (hX.fr h1.1 h1.2.1 h1.2.2).scr (M1 := M2) (fun k hk => hq.2.1 k (by omega) (by omega))
      have hF2 : FreshR M2 T := fun a ha => by rw [hq.2.1 24 (by decide) (by decide)]; exact h1.2.2 a ha
      rw [hq.1]
      refine h_down (P := fun i => LX0_fewestDraws_18 X (z_pI (fun r M1 => r = resX ∧ InvX M1 T P v)) (nI (b_all T d).2.1) (nI i) M2) k ?_ ?_
      · rcases k3 with ⟨e1, e2, e3⟩ | ⟨e1, e2, e3, e4, e5, e6⟩
        · subst e1
          exact BX0_fewestDraws_18 hK ⟨fun _ => zpI ⟨e2.symm, hI⟩, fun c => absurd (h_le (by omega) (Nat.le_refl _)) c⟩
        · have hqi := hB.2.1 k e1
          refine BX0_fewestDraws_18 hK ⟨fun c => absurd c (h_nle (by omega) e1), fun _ => ⟨h_inK (by omega), ?_⟩⟩
          rw [h_clK (show k < 1024 by omega), hq.2.2.2 k e1, h_clK (show (b_all T d).1 k < 1024 by omega), h_rest0 hF2 h10 hqi.1, hq.2.2.1 _ hqi.1]
          exact ⟨h_inK (by omega), fun c => absurd e2 c, fun _ => ⟨h_inK (by omega), h_inK (by omega), zpI ⟨e5.symm, hI⟩⟩⟩
      · intro i hi ih
        have hqi := hB.2.1 i (by omega)
        refine BX0_fewestDraws_18 hK ⟨fun c => absurd c (h_nle (by omega) (by omega)), fun _ => ⟨h_inK (by omega), ?_⟩⟩
        rw [h_clK (show i < 1024 by omega), hq.2.2.2 i (by omega), h_clK (show (b_all T d).1 i < 1024 by omega), h_rest0 hF2 h10 hqi.1, nI_1, k2 i hi]
        exact ⟨h_inK (by omega), fun _ => ih, fun c => absurd c (by decide)⟩
    · rw [hq.1]
      rcases k3 with ⟨e1, e2, e3⟩ | ⟨e1, e2, e3, e4, e5, e6⟩
      · rw [e2, e3]; exact ⟨fun c => absurd c (by decide), fun _ => okXr hq.2 (by omega) rfl⟩
      · exact ⟨fun _ => okXr hq.2 (by omega) e4.symm, fun c => absurd e3 c⟩
    · have hI := (hM.fr h3.1).fr h4.1
      refine h_down (P := fun i => LX10_soon_22 X (z_pI (fun r M1 => r = res ∧ InvM M1 T P)) (nI i) M4) k ?_ ?_
      · rcases k3 with ⟨e1, e2, e3⟩ | ⟨e1, e2, e3, e4, e5, e6⟩
        · subst e1
          exact BX10_soon_22 hK ⟨fun _ => okMr hI e3.symm, fun c => absurd (by rw [h4.2.2.2.2]; exact h_le (by omega) (Nat.le_refl _)) c⟩
        · have hqi := hB.2.1 k e1
          refine BX10_soon_22 hK ⟨fun c => absurd c (by rw [h4.2.2.2.2]; exact h_nle (by omega) e1), fun _ => ⟨h_inK (by omega), ?_⟩⟩
          rw [h_clK (show k < 1024 by omega), h4.2.2.2.1 k e1, h_clK (show (b_all T d).1 k < 1024 by omega), h4.2.2.1 _ hqi.1]
          refine ⟨_, n_isRest hI.1 hw (by omega), fun c => ?_, fun _ => ⟨h_inK (by omega), h_inK (by omega), okMr hI e6.symm⟩⟩
          rw [e2] at c; exact absurd c (by decide)
      · intro i hi ih
        have hqi := hB.2.1 i (by omega)
        refine BX10_soon_22 hK ⟨fun c => absurd c (by rw [h4.2.2.2.2]; exact h_nle (by omega) (by omega)), fun _ => ⟨h_inK (by omega), ?_⟩⟩
        rw [h_clK (show i < 1024 by omega), h4.2.2.2.1 i (by omega), nI_1]
        refine ⟨_, n_isRest hI.1 hw (by omega), fun _ => ih, fun c => ?_⟩
        rw [k2 i hi] at c; exact absurd rfl c
/-! the reference's witness -/
def s_cyc (T : TW) (d : Nat) : Prop := ∃ x, Rch T d x ∧ Ed T x d
theorem n_comesBack (hM : InvM M T P) (hC : CalmOK M T) {d : Nat} (hd : d < 2 ^ T.1) (b : Bool) (hb : b = true ↔ s_cyc T d) : CX10_comesBack E [.ref (E.2.1 0), .int (nI d)] M (z_pI (fun r M1 => r = s_bit b ∧ FrM M M1 ∧ CalmOK M1 T)) := by
  have hw := hM.2.1
  have h10 := hw.1.2
  have hp2 : 2 ^ T.1 ≤ 1024 := Nat.pow_le_pow_right (n := 2) (by decide) h10
  have hB := b_all_I hd
  have hle := hB.le
  refine EX10_comesBack (fun X hE hK => ⟨_, n_layFar hM hC hd, fun M1 h1 => ?_⟩)
  obtain ⟨f1, c1, s1⟩ := h1
  have hI := hM.fr f1
  refine h_down (P := fun i => (∀ k, k < i → ¬ Ed T ((b_all T d).1 k) d) → LX10_comesBack_7 X (z_pI (fun r M1 => r = s_bit b ∧ FrM M M1 ∧ CalmOK M1 T)) (nI d) (nI i) M1) (b_all T d).2.1 ?_ ?_ (fun k hk => absurd hk (Nat.not_lt_zero k))
  · intro hn
    refine BX10_comesBack_7 hK ⟨fun _ => zpI ⟨?_, f1, c1⟩, fun c => absurd (by rw [s1.2.2]; exact h_le (by omega) (Nat.le_refl _)) c⟩
    have : b = false := by
      cases b with
      | false => rfl
      | true =>
        obtain ⟨x, x1, x2⟩ := hb.mp rfl
        obtain ⟨k, k1, k2⟩ := hB.2.2.1 x ((b_all_rch hd).mpr x1)
        exact absurd (by rw [k2]; exact x2) (hn k k1)
    rw [this]; rfl
  · intro i hi ih hn
    have hqi := hB.2.1 i hi
    refine BX10_comesBack_7 hK ⟨fun c => absurd c (by rw [s1.2.2]; exact h_nle (by omega) hi), fun _ => ⟨h_inK (by omega), ?_⟩⟩
    rw [h_clK (show i < 1024 by omega), s1.2.1 i hi, h_clK (show (b_all T d).1 i < 1024 by omega), c1 _ hqi.1]
    refine ⟨h_inK (by omega), ?_⟩
    have eqi := s1.2.1 i hi
    have hrch := (b_all_rch hd).mp hqi.2
    generalize hx : (b_all T d).1 i = x at hqi eqi hrch ⊢
    refine h_down (P := fun p => (∀ q, q < p → (s_rl T x).testBit q = true → x ^^^ 2 ^ q ≠ d) → LX10_comesBack_30 X (z_pI (fun r M1 => r = s_bit b ∧ FrM M M1 ∧ CalmOK M1 T)) (nI d) (nI i) (nI (s_cm T x)) (nI p) M1) T.1 ?_ ?_ (fun q hq => absurd hq (Nat.not_lt_zero q))
    · intro hq
      refine BX10_comesBack_30 hK ⟨fun _ => ?_, fun c => absurd (by rw [hI.1.1]; exact h_le (by omega) (Nat.le_refl _)) c⟩
      rw [nI_1]
      refine ih (fun k hk => ?_)
      by_cases ek : k = i
      · subst ek
        rw [hx]
        intro ⟨q, q1, q2, q3⟩
        exact hq q q1 q2 q3.symm
      · exact hn k (by omega)
    · intro p hp ih2 hq
      refine BX10_comesBack_30 hK ⟨fun c => absurd c (by rw [hI.1.1]; exact h_nle (by omega) hp), fun _ => ?_⟩
      rw [h_cmbit hw hp, s_bit_0, nI_1, h_clK (show i < 1024 by omega), eqi]
      cases hbit : (s_rl T x).testBit p with
      | false =>
        refine ⟨fun _ => ih2 (fun q hq1 hq2 => ?_), fun c => absurd c (by decide)⟩
        by_cases eq : q = p
        · rw [eq, hbit] at hq2; exact absurd hq2 (by decide)
        · exact hq q (by omega) hq2
      | true =>
        have hz : x ^^^ 2 ^ p < 2 ^ T.1 := Nat.xor_lt_two_pow hqi.1 (Nat.pow_lt_pow_right (by decide) hp)
        refine ⟨fun c => absurd rfl c, fun _ => ⟨h_inK (by omega), _, n_lone (by omega), fun c => ih2 (fun q hq1 hq2 => ?_), fun c => zpI ⟨?_, f1, c1⟩⟩⟩
        · by_cases eq : q = p
          · rw [eq]; exact fun e => c (by rw [e])
          · exact hq q (by omega) hq2
        · rw [nI_eq (by omega) (by omega)] at c
          rw [hb.mpr ⟨x, hrch, p, hp, hbit, c.symm⟩]; rfl
theorem s_cycb (T : TW) (d : Nat) : ∃ b : Bool, b = true ↔ s_cyc T d := by
  by_cases h : s_cyc T d
  · exact ⟨true, fun _ => h, fun _ => rfl⟩
  · exact ⟨false, fun e => absurd e (by decide), fun x => absurd x h⟩
theorem n_witness_no (hM : InvM M T P) (hn : ∀ d, d < 2 ^ T.1 → ¬ s_cyc T d) : CX10_witnessNow E [.ref (E.2.1 0)] M (z_pI (fun r M1 => r = -9 ∧ InvM M1 T P)) := by
  have hw := hM.2.1
  have h10 := hw.1.2
  have hp2 : 2 ^ T.1 ≤ 1024 := Nat.pow_le_pow_right (n := 2) (by decide) h10
  have hpos := Nat.two_pow_pos T.1
  refine EX10_witnessNow (fun X hE hK => ⟨_, n_layCalms hM, fun M1 h1 => ?_⟩)
  refine h_down (P := fun i => ∀ M1, FrM M M1 → CalmOK M1 T → LX10_witnessNow_6 X (z_pI (fun r M1 => r = -9 ∧ InvM M1 T P)) (nI i) M1) (2 ^ T.1) ?_ ?_ M1 h1.1 h1.2
  · intro M1 f1 c1
    exact BX10_witnessNow_6 hK ⟨_, n_all (hM.fr f1).1 hw, fun _ => okM (hM.fr f1), fun c => absurd (nI_lt (by omega) (by omega)) c⟩
  · intro i hi ih M1 f1 c1
    refine BX10_witnessNow_6 hK ⟨_, n_all (hM.fr f1).1 hw, fun c => absurd c (nI_nlt (by omega) (by omega)), fun _ => ⟨_, n_comesBack (hM.fr f1) c1 hi false ⟨fun e => absurd e (by decide), fun x => absurd x (hn i hi)⟩, fun r M2 hq => ?_⟩⟩
    rw [hq.1, nI_1]
    exact ⟨fun _ => ih M2 (f1.trans hq.2.1) hq.2.2, fun c => absurd rfl c⟩
theorem n_witness_yes (hM : InvM M T P) {d : Nat} (hd : d < 2 ^ T.1) (hc : s_cyc T d) (hl : ∀ e, e < d → ¬ s_cyc T e) : CX10_witnessNow E [.ref (E.2.1 0)] M (z_pI (fun r M1 => r = nI d ∧ InvM M1 T P)) := by
  have hw := hM.2.1
  have h10 := hw.1.2
  have hp2 : 2 ^ T.1 ≤ 1024 := Nat.pow_le_pow_right (n := 2) (by decide) h10
  have hpos := Nat.two_pow_pos T.1
  refine EX10_witnessNow (fun X hE hK => ⟨_, n_layCalms hM, fun M1 h1 => ?_⟩)
  refine h_down (P := fun i => ∀ M1, FrM M M1 → CalmOK M1 T → LX10_witnessNow_6 X (z_pI (fun r M1 => r = nI d ∧ InvM M1 T P)) (nI i) M1) d ?_ ?_ M1 h1.1 h1.2
  · intro M1 f1 c1
    refine BX10_witnessNow_6 hK ⟨_, n_all (hM.fr f1).1 hw, fun c => absurd c (nI_nlt (by omega) (by omega)), fun _ => ⟨_, n_comesBack (hM.fr f1) c1 hd true ⟨fun _ => hc, fun _ => rfl⟩, fun r M2 hq => ?_⟩⟩
    rw [hq.1]
    exact ⟨fun c => absurd c (by decide), fun _ => okM (hM.fr (f1.trans hq.2.1))⟩
  · intro i hi ih M1 f1 c1
    refine BX10_witnessNow_6 hK ⟨_, n_all (hM.fr f1).1 hw, fun c => absurd c (nI_nlt (by omega) (by omega)), fun _ => ⟨_, n_comesBack (hM.fr f1) c1 (by omega) false ⟨fun e => absurd e (by decide), fun x => absurd x (hl i hi)⟩, fun r M2 hq => ?_⟩⟩
    rw [hq.1, nI_1]
    exact ⟨fun _ => ih M2 (f1.trans hq.2.1) hq.2.2, fun c => absurd rfl c⟩
/-- the least dress that lone changes bring back to itself, if any -/
theorem s_wit (T : TW) : (∃ d, d < 2 ^ T.1 ∧ s_cyc T d ∧ ∀ e, e < d → ¬ s_cyc T e) ∨ ∀ d, d < 2 ^ T.1 → ¬ s_cyc T d := by
  by_cases h : ∃ d, d < 2 ^ T.1 ∧ s_cyc T d
  · obtain ⟨d, ⟨d1, d2⟩, d3⟩ := pk_least _ h
    exact Or.inl ⟨d, d1, d2, fun e he hc => d3 e he ⟨by omega, hc⟩⟩
  · exact Or.inr (fun d hd hc => h ⟨d, hd, hc⟩)
end May2
