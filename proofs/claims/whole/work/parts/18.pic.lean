/-! the picture, counts -/
section PicC
variable {E F : ET} {M MX MM : Mem} {T : TW} {P : PW} {v : Nat}
theorem InvX.pic (h : InvX M T P v) {M1 : Mem} {P1 : PW} (hc : ∀ k, k ≠ 2 → k ≠ 36 → M1.1 k = M.1 k) (hP : PicOK T P1 (M1.1 2 2) (M1.1 36)) : InvX M1 T P1 v := by
  obtain ⟨a1, a2, a3, a4, a5, a6, a7⟩ := h
  have c7 := hc 7 (by decide) (by decide)
  have c8 := hc 8 (by decide) (by decide)
  refine ⟨a1.frame (by rw [c7]) (fun k _ _ => hc k (by omega) (by omega)), a2, ?_, ?_, ?_, ?_, hP⟩
  · obtain ⟨s, s1, s2, s3⟩ := a3
    exact ⟨s, s1, by rw [c7]; exact s2, fun d hd => by rw [hc 24 (by decide) (by decide)]; exact s3 d hd⟩
  · obtain ⟨w, w1, w2, w3, w4⟩ := a4
    exact ⟨w, w1, by rw [c7]; exact w2, by rw [c8]; exact w3, by rw [c8]; exact w4⟩
  · intro e
    rw [c7, c8] at e
    obtain ⟨y, y1, y2, y3⟩ := a5 e
    exact ⟨y, y1, by rw [c8]; exact y2, fun d hd => by rw [hc 25 (by decide) (by decide)]; exact y3 d hd⟩
  · intro e
    rw [c7, c8] at e
    obtain ⟨y, y1, y2, y3⟩ := a6 e
    exact ⟨y, y1, by rw [c8]; exact y2, by rw [hc 26 (by decide) (by decide), hc 27 (by decide) (by decide)]; exact y3⟩
theorem InvM.pic (h : InvM M T P) {M1 : Mem} {P1 : PW} (hc : ∀ k, k = 1 ∨ k = 2 ∨ k = 3 → M1.1 k = M.1 k) (h0 : M1.1 0 0 = M.1 0 0) (hP : PicOK T P1 (M1.1 0 18) (M1.1 14)) : InvM M1 T P1 := by
  obtain ⟨⟨b1, b2, b3, b4⟩, b5, b6⟩ := h
  refine ⟨⟨by rw [h0]; exact b1, by rw [hc 1 (by omega)]; exact b2, by rw [hc 2 (by omega)]; exact b3, by rw [hc 3 (by omega)]; exact b4⟩, b5, hP⟩
def pAdd (P : PW) (d : Nat) : PW := (P.1 + 1, fun i => if i = P.1 then d else P.2 i)
theorem PicOK.add {x x' : Int32} {f f' : Nat → Int32} (h : PicOK T P x f) (h8 : P.1 < 8) {d : Nat} (hd : d < 2 ^ T.1) (hx : x' = x + 1) (hf : f' = upd f P.1 (nI d)) : PicOK T (pAdd P d) x' f' := by
  obtain ⟨a1, a2, a3⟩ := h
  refine ⟨by rw [hx, a1, nI_1]; rfl, h8, fun i hi => ?_⟩
  have hi : i < P.1 + 1 := hi
  show f' i = nI (if i = P.1 then d else P.2 i) ∧ (if i = P.1 then d else P.2 i) < 2 ^ T.1
  by_cases e : i = P.1
  · subst e; rw [if_pos rfl, hf]; exact ⟨by simp [upd], hd⟩
  · rw [if_neg e, hf]
    have := a3 i (by omega)
    exact ⟨by simp [upd, e]; exact this.1, this.2⟩
theorem PicOK.zero {x : Int32} {f : Nat → Int32} (hx : x = 0) : PicOK T (0, fun _ => 0) x f := ⟨by rw [hx]; rfl, Nat.zero_le _, fun i hi => absurd hi (Nat.not_lt_zero i)⟩
theorem tt_wipe (hX : InvX MX T P v) (hM : InvM MM T P) : TopI (CX9_wipe E [.ref (E.2.1 9)] MX) (CX10_wipe F [.ref (F.2.1 0)] MM) (v + 10) := by
  refine ⟨nI P.1, T, (0, fun _ => 0), EX9_wipe ⟨_, EX2_size (zi rfl), fun M2 => M2 = z_st MX 2 2 0, EX2_clear (fun M1 e1 => zpV e1), fun M2 e2 => ?_⟩, EX10_wipe (fun M1 e1 => ?_)⟩
  · refine zpI ⟨hX.2.2.2.2.2.2.1, (hX.pic (fun k k1 _ => by rw [e2, m_cell _ _ k1]) (PicOK.zero (by rw [e2, m_same]))).up (by omega)⟩
  · exact zpI ⟨hM.2.2.1, hM.pic (fun k hk => by rw [e1, m_cell _ _ (by omega)]) (by rw [e1, m_ne _ _ (by decide)]) (PicOK.zero (by rw [e1, m_same]))⟩
theorem tt_week (hX : InvX MX T P v) (hM : InvM MM T P) (x : Int32) : TopI (CX9_week E [.ref (E.2.1 9), .int x] MX) (CX10_week F [.ref (F.2.1 0), .int x] MM) (v + 10) := by
  have hR := hX.1
  have hRM := hM.1
  have hw := hX.2.1
  have hp2 := hR.p2
  have pX := hX.2.2.2.2.2.2
  have pM := hM.2.2
  rcases h_ix x (show 2 ^ T.1 < 2 ^ 31 by omega) with h1 | ⟨d, hd, rfl⟩
  · exact ⟨-2, T, P, EX9_week ⟨_, c_isDress_no hR h1, fun c => absurd rfl c, fun _ => okX hX⟩, EX10_week ⟨_, n_isDress_no hRM hw h1, fun c => absurd rfl c, fun _ => okM hM⟩⟩
  · by_cases h8 : P.1 < 8
    · have full : CX2_isFull E [.ref (E.2.1 2)] MX (z_is (some (.int 0)) MX) := EX2_isFull ⟨fun _ => zi rfl, fun c => absurd (by rw [pX.1]; exact nI_lt h8 (by decide)) c⟩
      refine ⟨nI (P.1 + 1), T, pAdd P d, EX9_week ⟨_, c_isDress_yes hR hd, fun _ => ⟨_, full, fun _ => ⟨fun M3 => M3 = z_st (z_st MX 36 P.1 (nI d)) 2 2 (nI (P.1 + 1)), ?_, fun M3 e3 => ⟨_, EX2_size (zi rfl), ?_⟩⟩, fun c => absurd rfl c⟩, fun c => absurd c (by decide)⟩, EX10_week ⟨_, n_isDress_yes hRM hw hd, fun _ => ⟨fun _ => ?_, fun c => ?_⟩, fun c => absurd c (by decide)⟩⟩
      · refine EX2_add ⟨_, full, fun _ => ?_, fun c => absurd rfl c⟩
        rw [pX.1]
        refine ⟨h_in h8 (by decide), fun M2 e2 M3 e3 => zpV ?_⟩
        rw [h_cl (by omega)] at e2
        rw [e3, e2, m_ne _ _ (by omega), pX.1, nI_1]
      · refine zpI ⟨by rw [e3, m_same], (hX.pic (fun k k1 k2 => by rw [e3, m_cell _ _ k1, m_cell _ _ k2]) ?_).up (by omega)⟩
        exact pX.add h8 hd (by rw [e3, m_same, pX.1, nI_1]) (by rw [e3, m_cell _ _ (by decide), z_st_at])
      · rw [pM.1]
        refine ⟨h_in h8 (by decide), fun M2 e2 M3 e3 => ?_⟩
        rw [h_cl (by omega)] at e2
        have e4 : M3.1 0 18 = nI (P.1 + 1) := by rw [e3, m_same, e2, m_ne _ _ (by omega), pM.1, nI_1]
        refine zpI ⟨e4, hM.pic (fun k hk => by rw [e3, m_cell _ _ (by omega), e2, m_cell _ _ (by omega)]) (by rw [e3, m_ne _ _ (by decide), e2, m_ne _ _ (by omega)]) ?_⟩
        exact pM.add h8 hd (by rw [e4, pM.1, nI_1]) (by rw [e3, m_cell _ _ (by decide), e2, z_st_at])
      · rw [pM.1] at c
        have := (nI_eq (a := P.1) (b := 8) (by omega) (by decide)).mp c
        omega
    · have h8e : P.1 = 8 := by have := pX.2.1; omega
      refine ⟨-4, T, P, EX9_week ⟨_, c_isDress_yes hR hd, fun _ => ⟨_, EX2_isFull ⟨fun c => ?_, fun _ => zi rfl⟩, fun c => absurd c (by decide), fun _ => okX hX⟩, fun c => absurd c (by decide)⟩, EX10_week ⟨_, n_isDress_yes hRM hw hd, fun _ => ⟨fun c => ?_, fun _ => okM hM⟩, fun c => absurd c (by decide)⟩⟩
      · rw [pX.1, h8e] at c; exact absurd c (by decide)
      · rw [pM.1, h8e] at c; exact absurd rfl c
/-! kinds that explain -/
def s_fit (T : TW) (P : PW) (p : Nat) (k : Int32) : Nat → Bool
  | 0 => true
  | i + 1 => s_fit T P p k i && (s_next k (s_sum T p (P.2 i)) ((P.2 i).testBit p) == (P.2 (i + 1)).testBit p)
def s_mb (T : TW) (P : PW) (p : Nat) : Nat := (if s_fit T P p 0 (P.1 - 1) then 1 else 0) + (if s_fit T P p 1 (P.1 - 1) then 2 else 0) + (if s_fit T P p 2 (P.1 - 1) then 4 else 0) + (if s_fit T P p 3 (P.1 - 1) then 8 else 0)
def s_mask (a b c d : Bool) : Nat := (if a then 1 else 0) + (if b then 2 else 0) + (if c then 4 else 0) + (if d then 8 else 0)
theorem s_mb_eq (T : TW) (P : PW) (p : Nat) : s_mb T P p = s_mask (s_fit T P p 0 (P.1 - 1)) (s_fit T P p 1 (P.1 - 1)) (s_fit T P p 2 (P.1 - 1)) (s_fit T P p 3 (P.1 - 1)) := rfl
theorem s_mask_lt (a b c d : Bool) : s_mask a b c d < 16 := by cases a <;> cases b <;> cases c <;> cases d <;> decide
theorem s_mask_clr0 (a b c d : Bool) : nI (s_mask a b c d) &&& (nI 1 ^^^ (-1)) = nI (s_mask false b c d) := by cases a <;> cases b <;> cases c <;> cases d <;> decide
theorem s_mask_clr1 (a b c d : Bool) : nI (s_mask a b c d) &&& (nI 2 ^^^ (-1)) = nI (s_mask a false c d) := by cases a <;> cases b <;> cases c <;> cases d <;> decide
theorem s_mask_clr2 (a b c d : Bool) : nI (s_mask a b c d) &&& (nI 4 ^^^ (-1)) = nI (s_mask a b false d) := by cases a <;> cases b <;> cases c <;> cases d <;> decide
theorem s_mask_clr3 (a b c d : Bool) : nI (s_mask a b c d) &&& (nI 8 ^^^ (-1)) = nI (s_mask a b c false) := by cases a <;> cases b <;> cases c <;> cases d <;> decide
theorem h_shl0 : (1 : Int32) <<< ((0 : Int32) &&& 31) = nI 1 := by decide
theorem h_shl1 : (1 : Int32) <<< ((1 : Int32) &&& 31) = nI 2 := by decide
theorem h_shl2 : (1 : Int32) <<< ((2 : Int32) &&& 31) = nI 4 := by decide
theorem h_shl3 : (1 : Int32) <<< ((3 : Int32) &&& 31) = nI 8 := by decide
theorem c_kindsOf (hX : InvX M T P v) {p : Nat} (hp : p < T.1) : CX2_kindsOf E [.ref (E.2.1 2), .int (nI p)] M (z_is (some (.int (nI (s_mb T P p)))) M) := by
  have hR := hX.1
  have h10 := hR.2.1.2
  have hp2 := hR.p2
  have pX := hX.2.2.2.2.2.2
  have h8 := pX.2.1
  rw [s_mb_eq]
  refine EX2_kindsOf (fun X hE hK => ?_)
  have ex : ∀ i, P.1 - 1 ≤ i → i = P.1 - 1 → LX2_kindsOf_5 X (z_is (some (.int (nI (s_mask (s_fit T P p 0 (P.1 - 1)) (s_fit T P p 1 (P.1 - 1)) (s_fit T P p 2 (P.1 - 1)) (s_fit T P p 3 (P.1 - 1)))))) M) (nI p) (nI (s_mask (s_fit T P p 0 i) (s_fit T P p 1 i) (s_fit T P p 2 i) (s_fit T P p 3 i))) (nI i) M := by
    intro i hi he
    subst he
    refine BX2_kindsOf_5 hK ⟨fun _ => zi rfl, fun c => absurd ?_ c⟩
    rw [pX.1, nI_1]; exact h_le (by omega) (by omega)
  refine h_down (P := fun i => LX2_kindsOf_5 X (z_is (some (.int (nI (s_mask (s_fit T P p 0 (P.1 - 1)) (s_fit T P p 1 (P.1 - 1)) (s_fit T P p 2 (P.1 - 1)) (s_fit T P p 3 (P.1 - 1)))))) M) (nI p) (nI (s_mask (s_fit T P p 0 i) (s_fit T P p 1 i) (s_fit T P p 2 i) (s_fit T P p 3 i))) (nI i) M) (P.1 - 1) (ex _ (Nat.le_refl _) rfl) ?_
  intro i hi ih
  have w1 := pX.2.2 i (by omega)
  have w2 := pX.2.2 (i + 1) (by omega)
  refine BX2_kindsOf_5 hK ⟨fun c => absurd c ?_, fun _ => ⟨h_in (by omega) (by decide), ?_⟩⟩
  · rw [pX.1, nI_1]; exact h_nle (by omega) (by omega)
  · rw [nI_1, h_cl (show i < 2 ^ 31 by omega), h_cl (show i + 1 < 2 ^ 31 by omega), w1.1, w2.1]
    refine ⟨_, c_sumOf hR (by omega) (by omega), h_in (by omega) (by decide), _, c_worn (by omega) (by omega), h_in (by omega) (by decide), _, c_worn (by omega) (by omega), ?_⟩
    have ih' : LX2_kindsOf_5 X (z_is (some (.int (nI (s_mask (s_fit T P p 0 (P.1 - 1)) (s_fit T P p 1 (P.1 - 1)) (s_fit T P p 2 (P.1 - 1)) (s_fit T P p 3 (P.1 - 1)))))) M) (nI p) (nI (s_mask (s_fit T P p 0 i && (s_next 0 (s_sum T p (P.2 i)) ((P.2 i).testBit p) == (P.2 (i + 1)).testBit p)) (s_fit T P p 1 i && (s_next 1 (s_sum T p (P.2 i)) ((P.2 i).testBit p) == (P.2 (i + 1)).testBit p)) (s_fit T P p 2 i && (s_next 2 (s_sum T p (P.2 i)) ((P.2 i).testBit p) == (P.2 (i + 1)).testBit p)) (s_fit T P p 3 i && (s_next 3 (s_sum T p (P.2 i)) ((P.2 i).testBit p) == (P.2 (i + 1)).testBit p)))) (nI (i + 1)) M := ih
    generalize s_fit T P p 0 i = f0 at ih' ⊢
    generalize s_fit T P p 1 i = f1 at ih' ⊢
    generalize s_fit T P p 2 i = f2 at ih' ⊢
    generalize s_fit T P p 3 i = f3 at ih' ⊢
    generalize s_sum T p (P.2 i) = sm at ih' ⊢
    generalize (P.2 i).testBit p = b1 at ih' ⊢
    generalize (P.2 (i + 1)).testBit p = b2 at ih' ⊢
    have g4 : ∀ a b c d, LX2_kindsOf_5 X (z_is (some (.int (nI (s_mask (s_fit T P p 0 (P.1 - 1)) (s_fit T P p 1 (P.1 - 1)) (s_fit T P p 2 (P.1 - 1)) (s_fit T P p 3 (P.1 - 1)))))) M) (nI p) (nI (s_mask a b c d)) (nI (i + 1)) M → LX2_kindsOf_60 X (z_is (some (.int (nI (s_mask (s_fit T P p 0 (P.1 - 1)) (s_fit T P p 1 (P.1 - 1)) (s_fit T P p 2 (P.1 - 1)) (s_fit T P p 3 (P.1 - 1)))))) M) (nI p) (nI (s_mask a b c d)) (nI i) sm (s_bit b1) (s_bit b2) 4 M := by
      intro a b c d hh
      refine BX2_kindsOf_60 hK ⟨fun _ => ?_, fun c => absurd (by decide : (4 : Int32) ≤ 4) c⟩
      rw [nI_1]; exact hh
    refine BX2_kindsOf_60 hK ⟨fun c => absurd c (by decide), fun _ => ⟨_, c_nextOf, ?_⟩⟩
    rw [s_bit_inj, h_shl0, s_mask_clr0]
    have g0 : LX2_kindsOf_60 X (z_is (some (.int (nI (s_mask (s_fit T P p 0 (P.1 - 1)) (s_fit T P p 1 (P.1 - 1)) (s_fit T P p 2 (P.1 - 1)) (s_fit T P p 3 (P.1 - 1)))))) M) (nI p) (nI (s_mask (f0 && (s_next 0 sm b1 == b2)) f1 f2 f3)) (nI i) sm (s_bit b1) (s_bit b2) ((0 : Int32) + 1) M := by
      generalize (f0 && (s_next 0 sm b1 == b2)) = f0 at ih' ⊢
      refine BX2_kindsOf_60 hK ⟨fun c => absurd c (by decide), fun _ => ⟨_, c_nextOf, ?_⟩⟩
      rw [s_bit_inj, show (0 : Int32) + 1 = 1 from rfl, h_shl1, s_mask_clr1]
      have g1 : LX2_kindsOf_60 X (z_is (some (.int (nI (s_mask (s_fit T P p 0 (P.1 - 1)) (s_fit T P p 1 (P.1 - 1)) (s_fit T P p 2 (P.1 - 1)) (s_fit T P p 3 (P.1 - 1)))))) M) (nI p) (nI (s_mask f0 (f1 && (s_next 1 sm b1 == b2)) f2 f3)) (nI i) sm (s_bit b1) (s_bit b2) ((1 : Int32) + 1) M := by
        generalize (f1 && (s_next 1 sm b1 == b2)) = f1 at ih' ⊢
        refine BX2_kindsOf_60 hK ⟨fun c => absurd c (by decide), fun _ => ⟨_, c_nextOf, ?_⟩⟩
        rw [s_bit_inj, show (1 : Int32) + 1 = 2 from rfl, h_shl2, s_mask_clr2]
        have g2 : LX2_kindsOf_60 X (z_is (some (.int (nI (s_mask (s_fit T P p 0 (P.1 - 1)) (s_fit T P p 1 (P.1 - 1)) (s_fit T P p 2 (P.1 - 1)) (s_fit T P p 3 (P.1 - 1)))))) M) (nI p) (nI (s_mask f0 f1 (f2 && (s_next 2 sm b1 == b2)) f3)) (nI i) sm (s_bit b1) (s_bit b2) ((2 : Int32) + 1) M := by
          generalize (f2 && (s_next 2 sm b1 == b2)) = f2 at ih' ⊢
          refine BX2_kindsOf_60 hK ⟨fun c => absurd c (by decide), fun _ => ⟨_, c_nextOf, ?_⟩⟩
          rw [s_bit_inj, show (2 : Int32) + 1 = 3 from rfl, h_shl3, s_mask_clr3]
          have g3 := g4 _ _ _ _ ih'
          refine ⟨fun c => ?_, fun c => ?_⟩
          · simpa [c] using g3
          · rw [show (s_next 3 sm b1 == b2) = false from beq_eq_false_iff_ne.mpr c, Bool.and_false] at g3; exact g3
        refine ⟨fun c => ?_, fun c => ?_⟩
        · simpa [c] using g2
        · rw [show (s_next 2 sm b1 == b2) = false from beq_eq_false_iff_ne.mpr c, Bool.and_false] at g2; exact g2
      refine ⟨fun c => ?_, fun c => ?_⟩
      · simpa [c] using g1
      · rw [show (s_next 1 sm b1 == b2) = false from beq_eq_false_iff_ne.mpr c, Bool.and_false] at g1; exact g1
    refine ⟨fun c => ?_, fun c => ?_⟩
    · simpa [c] using g0
    · rw [show (s_next 0 sm b1 == b2) = false from beq_eq_false_iff_ne.mpr c, Bool.and_false] at g0; exact g0
end PicC
