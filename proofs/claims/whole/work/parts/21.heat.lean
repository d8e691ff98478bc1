section HeatC
variable {E F : ET} {M MX MM : Mem} {T : TW} {P : PW} {v : Nat}
def s_hp (T : TW) (d p o : Nat) : Int32 := if T.2.2.1 p = 2 ∧ T.2.2.1 o = 2 then 0 else if d.testBit p = d.testBit o then (if T.2.2.1 p = 1 ∨ T.2.2.1 o = 1 then - T.2.1 p o else T.2.1 p o) else (if T.2.2.1 p = 1 ∨ T.2.2.1 o = 1 then T.2.1 p o else - T.2.1 p o)
def s_hl (T : TW) (d p : Nat) : Int32 := if T.2.2.1 p = 0 then (if d.testBit p then T.2.2.2 p else - T.2.2.2 p) else if T.2.2.1 p = 1 then (if d.testBit p then - T.2.2.2 p else T.2.2.2 p) else 0
def s_hI (T : TW) (d p : Nat) (a : Int32) : Nat → Int32
  | 0 => a
  | o + 1 => s_hI T d p a o + s_hp T d p o
def s_hO (T : TW) (d : Nat) (a : Int32) : Nat → Int32
  | 0 => a
  | p + 1 => s_hI T d p (s_hO T d a p + s_hl T d p) p
theorem s_hI_add (T : TW) (d p : Nat) (a b : Int32) : ∀ o, s_hI T d p (a + b) o = a + s_hI T d p b o
  | 0 => rfl
  | o + 1 => by unfold s_hI; rw [s_hI_add T d p a b o, Int32.add_assoc]
theorem s_hO_add (T : TW) (d : Nat) (a b : Int32) : ∀ p, s_hO T d (a + b) p = a + s_hO T d b p
  | 0 => rfl
  | p + 1 => by unfold s_hO; rw [s_hO_add T d a b p, Int32.add_assoc, s_hI_add]
theorem c_ofPair (h : RepX M T) {p o d : Nat} (hp : p < 10) (ho : o < 10) (hd : d < 2 ^ 31) : CX1_ofPair E [.ref (E.2.1 1), .int (nI p), .int (nI o), .int (nI d)] M (z_is (some (.int (s_hp T d p o))) M) := by
  have w1 := c_worn (E := E) (M := M) hd (show p < 31 by omega)
  have w2 := c_worn (E := E) (M := M) hd (show o < 31 by omega)
  have w3 := c_weight (E := E) h hp ho
  refine EX1_ofPair ⟨_, c_kind h hp, _, c_kind h ho, ?_⟩
  unfold s_hp
  generalize T.2.2.1 p = a
  generalize T.2.2.1 o = b
  generalize T.2.1 p o = w at w3 ⊢
  generalize d.testBit p = x at w1 ⊢
  generalize d.testBit o = y at w2 ⊢
  have e1 : s_bit x = s_bit y ↔ x = y := s_bit_inj
  repeat' first
    | exact ⟨_, w3, zi (by simp_all)⟩
    | refine ⟨_, w1, _, w2, ?_⟩
    | exact zi (by simp_all)
    | (refine ⟨?_, ?_⟩ <;> intro _)
theorem c_ofLean (h : RepX M T) {p d : Nat} (hp : p < 10) (hd : d < 2 ^ 31) : CX1_ofLean E [.ref (E.2.1 1), .int (nI p), .int (nI d)] M (z_is (some (.int (s_hl T d p))) M) := by
  have w1 := c_worn (E := E) (M := M) hd (show p < 31 by omega)
  have w3 := c_lean (E := E) h hp
  refine EX1_ofLean ⟨_, c_kind h hp, ?_⟩
  unfold s_hl
  generalize T.2.2.1 p = a
  generalize T.2.2.2 p = w at w3 ⊢
  generalize d.testBit p = x at w1 ⊢
  have e1 : s_bit x = 1 ↔ x = true := s_bit_1
  repeat' first
    | exact ⟨_, w3, zi (by simp_all)⟩
    | refine ⟨_, w1, ?_⟩
    | exact zi (by simp_all)
    | (refine ⟨?_, ?_⟩ <;> intro _)
theorem c_of (h : RepX M T) {d : Nat} (hd : d < 2 ^ 31) : CX1_of E [.ref (E.2.1 1), .int (nI d)] M (z_is (some (.int (s_hO T d 0 T.1))) M) := by
  have h10 := h.2.1.2
  have h31 := h.lt31
  refine EX1_of (fun X hE hK => ?_)
  refine h_down (P := fun i => LX1_of_4 X (z_is (some (.int (s_hO T d 0 T.1))) M) (nI d) (s_hO T d 0 i) (nI i) M) T.1 ?_ ?_
  · exact BX1_of_4 hK ⟨_, c_size h, fun _ => zi rfl, fun c => absurd (h_le h31 (Nat.le_refl _)) c⟩
  · intro i hi ih
    have hi10 : i < 10 := by omega
    refine BX1_of_4 hK ⟨_, c_size h, fun c => absurd c (h_nle h31 hi), fun _ => ⟨_, c_ofLean h hi10 hd, ?_⟩⟩
    refine h_down (P := fun j => LX1_of_27 X (z_is (some (.int (s_hO T d 0 T.1))) M) (nI d) (s_hI T d i (s_hO T d 0 i + s_hl T d i) j) (nI i) (nI j) M) i ?_ ?_
    · refine BX1_of_27 hK ⟨fun _ => ?_, fun c => absurd (h_le (by omega) (Nat.le_refl _)) c⟩
      rw [nI_1]; exact ih
    · intro j hj ih2
      refine BX1_of_27 hK ⟨fun c => absurd c (h_nle (by omega) hj), fun _ => ⟨_, c_ofPair h hi10 (by omega) hd, ?_⟩⟩
      rw [nI_1]; exact ih2
theorem n_heat (h : RepM M T) (hw : s_WF T) {d : Nat} (hd : d < 2 ^ 31) {X : XT} (hK : KX10_heat X) {Q : Option Value → Mem → Prop} (hq : Q (some (.int (s_hO T d 10000 T.1))) M) : LX10_heat_27 X Q (nI d) 10000 0 M := by
  have h10 := hw.1.2
  refine h_down (P := fun i => LX10_heat_27 X Q (nI d) (s_hO T d 10000 i) (nI i) M) T.1 ?_ ?_
  · exact BX10_heat_27 hK ⟨fun _ => hq, fun c => absurd (by rw [h.1]; exact h_le (by omega) (Nat.le_refl _)) c⟩
  · intro i hi ih
    have hi10 : i < 10 := by omega
    have inner : LX10_heat_103 X Q (nI d) (s_hO T d 10000 i + s_hl T d i) (nI i) (s_bit (d.testBit i)) 0 M := by
      refine h_down (P := fun j => LX10_heat_103 X Q (nI d) (s_hI T d i (s_hO T d 10000 i + s_hl T d i) j) (nI i) (s_bit (d.testBit i)) (nI j) M) i ?_ ?_
      · refine BX10_heat_103 hK ⟨fun _ => ?_, fun c => absurd (h_le (by omega) (Nat.le_refl _)) c⟩
        rw [nI_1]; exact ih
      · intro j hj ih2
        have hj10 : j < 10 := by omega
        have a1 := h_w (p := i) (o := j) hi10 hj10
        have b1 := h_in10 hi10
        have b2 := h_in10 hj10
        have b3 := a1.1
        have ih3 : LX10_heat_103 X Q (nI d) (s_hI T d i (s_hO T d 10000 i + s_hl T d i) j + s_hp T d i j) (nI i) (s_bit (d.testBit i)) (nI (j + 1)) M := ih2
        refine BX10_heat_103 hK ⟨fun c => absurd c (h_nle (by omega) hj), fun _ => ?_⟩
        rw [h_cl10 hi10, h_cl10 hj10, a1.2, h.2.1 i j hi10 hj10, h.2.2.1 i hi10, h.2.2.1 j hj10, nI_1, h_bit hd (by omega), s_bit_inj]
        clear ih2 ih
        unfold s_hp at ih3
        generalize s_hI T d i (s_hO T d 10000 i + s_hl T d i) j = acc at ih3 ⊢
        generalize T.2.2.1 i = a at ih3 ⊢
        generalize T.2.2.1 j = b at ih3 ⊢
        generalize T.2.1 i j = w at ih3 ⊢
        generalize d.testBit i = x at ih3 ⊢
        generalize d.testBit j = y at ih3 ⊢
        rw [show (y = x) = (x = y) from propext eq_comm]
        repeat' first
          | assumption
          | exact b1
          | exact b2
          | exact b3
          | (simp_all; done)
          | (refine ⟨?_, ?_⟩)
          | intro _
    have b1 := h_in10 hi10
    refine BX10_heat_27 hK ⟨fun c => absurd c (by rw [h.1]; exact h_nle (by omega) hi), fun _ => ?_⟩
    rw [h_cl10 hi10, h.2.2.1 i hi10, h.2.2.2 i hi10, h_bit hd (by omega), s_bit_1]
    clear ih
    unfold s_hl at inner
    generalize s_hO T d 10000 i = acc at inner ⊢
    generalize T.2.2.1 i = a at inner ⊢
    generalize T.2.2.2 i = w at inner ⊢
    generalize d.testBit i = x at inner ⊢
    repeat' first
      | assumption
      | exact b1
      | (simp_all; done)
      | (refine ⟨?_, ?_⟩)
      | intro _
theorem tt_heat (hX : InvX MX T P v) (hM : InvM MM T P) (x : Int32) : TopI (CX9_heat E [.ref (E.2.1 9), .int x] MX) (CX10_heat F [.ref (F.2.1 0), .int x] MM) (v + 10) := by
  have hR := hX.1
  have hp2 := hR.p2
  have hw := hX.2.1
  obtain ⟨b, hb⟩ := s_EVb T
  rcases h_ix x (show 2 ^ T.1 < 2 ^ 31 by omega) with h1 | ⟨d, hd, rfl⟩
  · exact ⟨-2, T, P, EX9_heat ⟨_, c_isDress_no hR h1, fun c => absurd rfl c, fun _ => okX hX⟩, EX10_heat (fun X hE hK => ⟨_, n_isDress_no hM.1 hw h1, fun c => absurd rfl c, fun _ => okM hM⟩)⟩
  · cases b with
    | false => exact ⟨-3, T, P, EX9_heat ⟨_, c_isDress_yes hR hd, fun _ => ⟨_, c_isDefined hR false hb, fun c => absurd rfl c, fun _ => okX hX⟩, fun c => absurd c (by decide)⟩, EX10_heat (fun X hE hK => ⟨_, n_isDress_yes hM.1 hw hd, fun _ => ⟨_, n_isEven hM.1 hw false hb, fun c => absurd rfl c, fun _ => okM hM⟩, fun c => absurd c (by decide)⟩)⟩
    | true =>
      refine ⟨s_hO T d 10000 T.1, T, P, EX9_heat ⟨_, c_isDress_yes hR hd, fun _ => ⟨_, c_isDefined hR true hb, fun _ => ⟨_, c_of hR (by omega), okXr hX (by omega) ?_⟩, fun c => absurd c (by decide)⟩, fun c => absurd c (by decide)⟩, EX10_heat (fun X hE hK => ⟨_, n_isDress_yes hM.1 hw hd, fun _ => ⟨_, n_isEven hM.1 hw true hb, fun _ => n_heat hM.1 hw (by omega) hK (okM hM), fun c => absurd c (by decide)⟩, fun c => absurd c (by decide)⟩)⟩
      have := s_hO_add T d 10000 0 T.1
      rw [Int32.add_zero] at this
      exact this.symm
end HeatC
