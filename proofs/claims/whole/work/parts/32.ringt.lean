/-! rings: what is asked of them -/
noncomputable def s_rg (f : Nat → Nat) (d : Nat) : Bool := decide (r_m f d = d)
noncomputable def s_to (f : Nat → Nat) (m d : Nat) : Bool := decide (r_m f d = m)
def s_mx (g : Nat → Bool) (h : Nat → Nat) : Nat → Nat
  | 0 => 0
  | k + 1 => if g k = true ∧ s_mx g h k < h k then h k else s_mx g h k
theorem s_mx_lt {g : Nat → Bool} {h : Nat → Nat} {B : Nat} (hB : 0 < B) : ∀ {n : Nat}, (∀ k, k < n → h k < B) → s_mx g h n < B
  | 0, _ => hB
  | n + 1, hh => by
    have ih := s_mx_lt (g := g) hB (n := n) (fun k hk => hh k (by omega))
    unfold s_mx
    by_cases c : g n = true ∧ s_mx g h n < h n
    · rw [if_pos c]; exact hh n (by omega)
    · rw [if_neg c]; exact ih
theorem s_mx_no {g : Nat → Bool} {h : Nat → Nat} {n : Nat} (c : ¬ g n = true) : s_mx g h (n + 1) = s_mx g h n := if_neg (fun x => c x.1)
theorem s_mx_up {g : Nat → Bool} {h : Nat → Nat} {n : Nat} (c : g n = true) (c2 : s_mx g h n < h n) : s_mx g h (n + 1) = h n := if_pos ⟨c, c2⟩
theorem s_mx_keep {g : Nat → Bool} {h : Nat → Nat} {n : Nat} (c2 : ¬ s_mx g h n < h n) : s_mx g h (n + 1) = s_mx g h n := if_neg (fun x => c2 x.2)
theorem s_mx_if {g : Nat → Bool} {h : Nat → Nat} {n : Nat} (c : g n = true) (h1 : h n < 2 ^ 31) (h2 : s_mx g h n < 2 ^ 31) : (if nI (s_mx g h n) < nI (h n) then nI (h n) else nI (s_mx g h n)) = nI (s_mx g h (n + 1)) := by
  by_cases c2 : s_mx g h n < h n
  · rw [if_pos (nI_lt c2 h1), s_mx_up c c2]
  · rw [if_neg (nI_nlt (by omega) h2), s_mx_keep c2]
theorem s_kth_cases (g : Nat → Bool) (N : Nat) (x : Int32) : x < 0 ∨ (∃ k d, k < 2 ^ 31 ∧ x = nI k ∧ d < N ∧ g d = true ∧ s_ct g d = k) ∨ (∃ k, k < 2 ^ 31 ∧ x = nI k ∧ ∀ d, d < N → g d = true → s_ct g d ≠ k) := by
  by_cases hx : x < 0
  · exact Or.inl hx
  · obtain ⟨k, hk, rfl⟩ := nI_of hx
    by_cases hd : ∃ d, d < N ∧ g d = true ∧ s_ct g d = k
    · obtain ⟨d, h1, h2, h3⟩ := hd
      exact Or.inr (Or.inl ⟨k, d, hk, rfl, h1, h2, h3⟩)
    · exact Or.inr (Or.inr ⟨k, hk, rfl, fun d h1 h2 h3 => hd ⟨d, h1, h2, h3⟩⟩)
section RingQ
variable {E : ET} {M : Mem} {T : TW} {P : PW} {v y : Nat}
theorem s_stepN (T : TW) (y : Nat) : ∀ x, x < 2 ^ T.1 → s_step T y x < 2 ^ T.1 := fun _ hx => s_step_lt T y hx
theorem RingP.get (h : RingP M T y) {d : Nat} (hd : d < 2 ^ T.1) : M.1 27 d = nI (r_t (s_step T y) d) ∧ M.1 26 d = nI (r_m (s_step T y) d) := h.2.get (s_stepN T y) hd
theorem c_stepsToRing (h : InvX M T P v) (hy : y < 2) {d : Nat} (hd : d < 2 ^ T.1) : CX8_stepsToRing E [.ref (E.2.1 8), .int (nI d), .int (nI y)] M (z_pI (fun r M1 => r = nI (r_t (s_step T y) d) ∧ InvX M1 T P v)) := by
  have hp2 := h.1.p2
  refine EX8_stepsToRing ⟨_, c_findRings h hy, fun M1 hq => ⟨h_inK (by omega), zpI ⟨?_, hq.1⟩⟩⟩
  rw [h_clK (by omega)]; exact (hq.2.get hd).1
theorem c_entered (h : InvX M T P v) (hy : y < 2) {d : Nat} (hd : d < 2 ^ T.1) : CX8_entered E [.ref (E.2.1 8), .int (nI d), .int (nI y)] M (z_pI (fun r M1 => r = nI (it (s_step T y) (r_t (s_step T y) d) d) ∧ InvX M1 T P v)) := by
  have hp2 := h.1.p2
  have hra := r_all (s_stepN T y) hd
  refine EX8_entered (fun X hE hK => ⟨_, c_findRings h hy, fun M1 hq => ?_⟩)
  have h27 := (hq.2.get hd).1
  refine h_down (P := fun i => LX8_entered_10 X _ (nI d) (nI (it (s_step T y) i d)) (nI i) M1) (r_t (s_step T y) d) ?_ ?_
  · refine BX8_entered_10 hK ⟨h_inK (by omega), ?_⟩
    rw [h_clK (show d < 1024 by omega), h27]
    exact ⟨fun _ => zpI ⟨rfl, hq.1⟩, fun c => absurd (h_le (by omega) (Nat.le_refl _)) c⟩
  · intro i hi ih
    have hlt := it_lt (s_stepN T y) hd i
    refine BX8_entered_10 hK ⟨h_inK (by omega), ?_⟩
    rw [h_clK (show d < 1024 by omega), h27, h_clK (show it (s_step T y) i d < 1024 by omega), hq.2.1.2.2 _ hlt, nI_1]
    exact ⟨fun c => absurd c (h_nle (by omega) hi), fun _ => ⟨h_inK (by omega), ih⟩⟩
theorem c_ringCount (h : InvX M T P v) (hy : y < 2) : CX8_ringCount E [.ref (E.2.1 8), .int (nI y)] M (z_pI (fun r M1 => r = nI (s_ct (s_rg (s_step T y)) (2 ^ T.1)) ∧ InvX M1 T P v)) := by
  have hp2 := h.1.p2
  refine EX8_ringCount (fun X hE hK => ⟨_, c_findRings h hy, fun M1 hq => ⟨_, c_dresses hq.1.1, ?_⟩⟩)
  refine h_down (P := fun i => LX8_ringCount_18 X _ (nI (2 ^ T.1)) (nI (s_ct (s_rg (s_step T y)) i)) (nI i) M1) (2 ^ T.1) ?_ ?_
  · exact BX8_ringCount_18 hK ⟨fun _ => zpI ⟨rfl, hq.1⟩, fun c => absurd (h_le (by omega) (Nat.le_refl _)) c⟩
  · intro i hi ih
    have hra := r_all (s_stepN T y) hi
    refine BX8_ringCount_18 hK ⟨fun c => absurd c (h_nle (by omega) hi), fun _ => ⟨h_inK (by omega), ?_⟩⟩
    rw [h_clK (show i < 1024 by omega), (hq.2.get hi).2, nI_eq (by omega) (by omega), nI_1, nI_1]
    refine ⟨fun c => ?_, fun c => ?_⟩
    · rw [s_ct_succ_no (by simp [s_rg, c])] at ih; exact ih
    · rw [s_ct_succ_yes (by simp [s_rg, c])] at ih; exact ih
theorem c_leastOfRing_neg (h : InvX M T P v) (hy : y < 2) {x : Int32} (hx : x < 0) : CX8_leastOfRing E [.ref (E.2.1 8), .int (nI y), .int x] M (z_pI (fun r M1 => r = -1 ∧ InvX M1 T P v)) := by
  refine EX8_leastOfRing (fun X hE hK => ⟨_, c_findRings h hy, fun M1 hq => ⟨_, c_dresses hq.1.1, ?_⟩⟩)
  exact BX8_leastOfRing_19 hK ⟨fun _ => okX0 hq.1, fun _ => ⟨fun _ => okX0 hq.1, fun c => absurd hx c⟩⟩
theorem c_leastOfRing_yes (h : InvX M T P v) (hy : y < 2) {k d : Nat} (hk : k < 2 ^ 31) (hd : d < 2 ^ T.1) (hf : s_rg (s_step T y) d = true) (hc : s_ct (s_rg (s_step T y)) d = k) : CX8_leastOfRing E [.ref (E.2.1 8), .int (nI y), .int (nI k)] M (z_pI (fun r M1 => r = nI d ∧ InvX M1 T P v)) := by
  have hp2 := h.1.p2
  refine EX8_leastOfRing (fun X hE hK => ⟨_, c_findRings h hy, fun M1 hq => ⟨_, c_dresses hq.1.1, ?_⟩⟩)
  have h26 : ∀ i, i < 2 ^ T.1 → (M1.1 26 i = nI i ↔ s_rg (s_step T y) i = true) := fun i hi => by
    have hra := r_all (s_stepN T y) hi
    rw [(hq.2.get hi).2, nI_eq (by omega) (by omega)]; simp [s_rg]
  refine h_down (P := fun i => LX8_leastOfRing_19 X (z_pI (fun r M1 => r = nI d ∧ InvX M1 T P v)) (nI (2 ^ T.1)) (nI (k - s_ct (s_rg (s_step T y)) i)) (nI i) M1) d ?_ ?_
  · refine BX8_leastOfRing_19 hK ⟨fun c => absurd c (h_nle (by omega) hd), fun _ => ⟨fun c => absurd c (nI_pos (by omega)), fun _ => ⟨h_inK (by omega), ?_⟩⟩⟩
    rw [h_clK (by omega), h26 d hd, hc, Nat.sub_self]
    exact ⟨fun c => absurd hf c, fun _ => ⟨fun c => absurd rfl c, fun _ => okX0 hq.1⟩⟩
  · intro i hi ih
    have hm : s_ct (s_rg (s_step T y)) (i + 1) ≤ k := by rw [← hc]; exact s_ct_mono' hi
    refine BX8_leastOfRing_19 hK ⟨fun c => absurd c (h_nle (by omega) (by omega)), fun _ => ⟨fun c => absurd c (nI_pos (by omega)), fun _ => ⟨h_inK (by omega), ?_⟩⟩⟩
    rw [h_clK (by omega), h26 i (by omega), nI_1]
    cases hfi : s_rg (s_step T y) i with
    | true =>
      rw [s_ct_succ_yes hfi] at ih hm
      refine ⟨fun c => absurd rfl c, fun _ => ⟨fun _ => ?_, fun c => absurd c (nI_ne0 (by omega) (by omega))⟩⟩
      rw [show k - s_ct (s_rg (s_step T y)) i = (k - (s_ct (s_rg (s_step T y)) i + 1)) + 1 by omega, pk_m1]
      exact ih
    | false =>
      rw [s_ct_succ_no hfi] at ih
      exact ⟨fun _ => ih, fun c => absurd c (by decide)⟩
theorem c_leastOfRing_no (h : InvX M T P v) (hy : y < 2) {k : Nat} (hk : k < 2 ^ 31) (hn : ∀ d, d < 2 ^ T.1 → s_rg (s_step T y) d = true → s_ct (s_rg (s_step T y)) d ≠ k) : CX8_leastOfRing E [.ref (E.2.1 8), .int (nI y), .int (nI k)] M (z_pI (fun r M1 => r = -1 ∧ InvX M1 T P v)) := by
  have hp2 := h.1.p2
  refine EX8_leastOfRing (fun X hE hK => ⟨_, c_findRings h hy, fun M1 hq => ⟨_, c_dresses hq.1.1, ?_⟩⟩)
  have h26 : ∀ i, i < 2 ^ T.1 → (M1.1 26 i = nI i ↔ s_rg (s_step T y) i = true) := fun i hi => by
    have hra := r_all (s_stepN T y) hi
    rw [(hq.2.get hi).2, nI_eq (by omega) (by omega)]; simp [s_rg]
  refine h_down (P := fun i => LX8_leastOfRing_19 X (z_pI (fun r M1 => r = -1 ∧ InvX M1 T P v)) (nI (2 ^ T.1)) (nI (k - s_ct (s_rg (s_step T y)) i)) (nI i) M1) (2 ^ T.1) ?_ ?_
  · exact BX8_leastOfRing_19 hK ⟨fun _ => okX0 hq.1, fun c => absurd (h_le (by omega) (Nat.le_refl _)) c⟩
  · intro i hi ih
    have hm := s_ct_none hn (i + 1) hi
    refine BX8_leastOfRing_19 hK ⟨fun c => absurd c (h_nle (by omega) (by omega)), fun _ => ⟨fun c => absurd c (nI_pos (by omega)), fun _ => ⟨h_inK (by omega), ?_⟩⟩⟩
    rw [h_clK (by omega), h26 i hi, nI_1]
    cases hfi : s_rg (s_step T y) i with
    | true =>
      rw [s_ct_succ_yes hfi] at ih hm
      refine ⟨fun c => absurd rfl c, fun _ => ⟨fun _ => ?_, fun c => absurd c (nI_ne0 (by omega) (by omega))⟩⟩
      rw [show k - s_ct (s_rg (s_step T y)) i = (k - (s_ct (s_rg (s_step T y)) i + 1)) + 1 by omega, pk_m1]
      exact ih
    | false =>
      rw [s_ct_succ_no hfi] at ih
      exact ⟨fun _ => ih, fun c => absurd c (by decide)⟩
theorem c_stepsBy_same (hs : StepOK M T y) : CX8_stepsBy E [.ref (E.2.1 8), .int (nI y)] M (z_pR (E.2.1 25) (fun M1 => M1 = M)) := by
  refine EX8_stepsBy (fun X hE hX => ?_)
  subst hE
  exact ⟨fun c => absurd hs.1 c, fun _ => ⟨_, c_version, fun _ => zpR rfl, fun c => absurd hs.2.1 c⟩⟩
theorem c_lengthL {M1 : Mem} {f : Nat → Nat} {N : Nat} {Q : Option Value → Mem → Prop} (hN : N ≤ 1024) (hf : ∀ x, x < N → f x < N) (hS : ∀ d, d < N → M1.1 25 d = nI (f d)) {d l : Nat} (hd : d < N) (hl : IsLen f d l) {X : XT} (hK : KX8_lengthOf X) (hQ : Q (some (.int (nI l))) M1) : LX8_lengthOf_16 X Q (nI d) (nI 1) (nI (f d)) M1 := by
  have hlN := hl.le hf hd
  refine h_downF (P := fun i => LX8_lengthOf_16 X Q (nI d) (nI i) (nI (it f i d)) M1) 1 l hl.1 ?_ ?_
  · refine BX8_lengthOf_16 hK ⟨fun _ => hQ, fun c => absurd ?_ c⟩
    rw [hl.2.1]
  · intro i h1 hi ih
    have hlt := it_lt hf hd i
    refine BX8_lengthOf_16 hK ⟨fun c => ?_, fun _ => ⟨fun c => absurd c (h_nle (b := 1024) (by decide) (by omega)), fun _ => ⟨h_inK (by omega), ?_⟩⟩⟩
    · exact absurd ((nI_eq (by omega) (by omega)).mp c) (hl.2.2 i h1 hi)
    · rw [h_clK (by omega), hS _ hlt, nI_1]; exact ih
theorem c_lengthOf (h : InvX M T P v) (hy : y < 2) {d l : Nat} (hd : d < 2 ^ T.1) (hl : IsLen (s_step T y) d l) : CX8_lengthOf E [.ref (E.2.1 8), .int (nI y), .int (nI d)] M (z_pI (fun r M1 => r = nI l ∧ InvX M1 T P v)) := by
  have hp2 := h.1.p2
  refine EX8_lengthOf (fun X hE hK => ⟨_, c_stepsBy h hy, fun M1 hq => ⟨h_inK (by omega), ?_⟩⟩)
  rw [h_clK (by omega), hq.2.2.2 d hd]
  exact c_lengthL hp2 (s_stepN T y) hq.2.2.2 hd hl hK (okX0 hq.1)
theorem c_lengthOf_same (h : InvX M T P v) (hs : StepOK M T y) {d l : Nat} (hd : d < 2 ^ T.1) (hl : IsLen (s_step T y) d l) : CX8_lengthOf E [.ref (E.2.1 8), .int (nI y), .int (nI d)] M (z_pI (fun r M1 => r = nI l ∧ M1 = M)) := by
  have hp2 := h.1.p2
  refine EX8_lengthOf (fun X hE hK => ⟨_, c_stepsBy_same hs, fun M1 hq => ⟨h_inK (by omega), ?_⟩⟩)
  subst hq
  rw [h_clK (by omega), hs.2.2 d hd]
  exact c_lengthL hp2 (s_stepN T y) hs.2.2 hd hl hK (zpI ⟨rfl, rfl⟩)
theorem c_drawnTo (h : InvX M T P v) (hy : y < 2) {m : Nat} (hm : m < 2 ^ T.1) : CX8_drawnTo E [.ref (E.2.1 8), .int (nI y), .int (nI m)] M (z_pI (fun r M1 => r = nI (s_ct (s_to (s_step T y) m) (2 ^ T.1)) ∧ InvX M1 T P v)) := by
  have hp2 := h.1.p2
  refine EX8_drawnTo (fun X hE hK => ⟨_, c_findRings h hy, fun M1 hq => ⟨_, c_dresses hq.1.1, ?_⟩⟩)
  refine h_down (P := fun i => LX8_drawnTo_19 X _ (nI m) (nI (2 ^ T.1)) (nI (s_ct (s_to (s_step T y) m) i)) (nI i) M1) (2 ^ T.1) ?_ ?_
  · exact BX8_drawnTo_19 hK ⟨fun _ => zpI ⟨rfl, hq.1⟩, fun c => absurd (h_le (by omega) (Nat.le_refl _)) c⟩
  · intro i hi ih
    have hra := r_all (s_stepN T y) hi
    refine BX8_drawnTo_19 hK ⟨fun c => absurd c (h_nle (by omega) hi), fun _ => ⟨h_inK (by omega), ?_⟩⟩
    rw [h_clK (show i < 1024 by omega), (hq.2.get hi).2, nI_eq (by omega) (by omega), nI_1, nI_1]
    refine ⟨fun c => ?_, fun c => ?_⟩
    · rw [s_ct_succ_no (by simp [s_to, c])] at ih; exact ih
    · rw [s_ct_succ_yes (by simp [s_to, c])] at ih; exact ih
theorem c_farthestFrom (h : InvX M T P v) (hy : y < 2) {m : Nat} (hm : m < 2 ^ T.1) : CX8_farthestFrom E [.ref (E.2.1 8), .int (nI y), .int (nI m)] M (z_pI (fun r M1 => r = nI (s_mx (s_to (s_step T y) m) (r_t (s_step T y)) (2 ^ T.1)) ∧ InvX M1 T P v)) := by
  have hp2 := h.1.p2
  refine EX8_farthestFrom (fun X hE hK => ⟨_, c_findRings h hy, fun M1 hq => ⟨_, c_dresses hq.1.1, ?_⟩⟩)
  refine h_down (P := fun i => LX8_farthestFrom_19 X _ (nI m) (nI (2 ^ T.1)) (nI (s_mx (s_to (s_step T y) m) (r_t (s_step T y)) i)) (nI i) M1) (2 ^ T.1) ?_ ?_
  · exact BX8_farthestFrom_19 hK ⟨fun _ => zpI ⟨rfl, hq.1⟩, fun c => absurd (h_le (by omega) (Nat.le_refl _)) c⟩
  · intro i hi ih
    have hra := r_all (s_stepN T y) hi
    have hmx : s_mx (s_to (s_step T y) m) (r_t (s_step T y)) i < 2 ^ T.1 := s_mx_lt (Nat.two_pow_pos _) (fun k hk => (r_all (s_stepN T y) (show k < 2 ^ T.1 by omega)).2.2.2.1)
    refine BX8_farthestFrom_19 hK ⟨fun c => absurd c (h_nle (by omega) hi), fun _ => ⟨h_inK (by omega), ?_⟩⟩
    rw [h_clK (show i < 1024 by omega), (hq.2.get hi).2, (hq.2.get hi).1, nI_eq (by omega) (by omega), nI_1]
    refine ⟨fun c => ?_, fun c => ⟨h_inK (by omega), fun v1 e1 => ?_⟩⟩
    · rw [s_mx_no (by simp [s_to, c])] at ih; exact ih
    · rw [s_mx_if (by simp [s_to, c]) (by omega) (by omega)] at e1
      rw [e1]; exact ih
theorem c_greatestLength (h : InvX M T P v) (hy : y < 2) : CX8_greatestLength E [.ref (E.2.1 8), .int (nI y)] M (z_pI (fun r M1 => r = nI (s_mx (s_rg (s_step T y)) (r_l (s_step T y)) (2 ^ T.1)) ∧ InvX M1 T P v)) := by
  have hp2 := h.1.p2
  refine EX8_greatestLength (fun X hE hK => ⟨_, c_findRings h hy, fun M1 hq => ⟨_, c_dresses hq.1.1, ?_⟩⟩)
  refine h_down (P := fun i => LX8_greatestLength_18 X _ (nI y) (nI (2 ^ T.1)) (nI (s_mx (s_rg (s_step T y)) (r_l (s_step T y)) i)) (nI i) M1) (2 ^ T.1) ?_ ?_
  · exact BX8_greatestLength_18 hK ⟨fun _ => zpI ⟨rfl, hq.1⟩, fun c => absurd (h_le (by omega) (Nat.le_refl _)) c⟩
  · intro i hi ih
    have hra := r_all (s_stepN T y) hi
    have hmx : s_mx (s_rg (s_step T y)) (r_l (s_step T y)) i < 2 ^ T.1 + 1 := s_mx_lt (by omega) (fun k hk => by have := (r_all (s_stepN T y) (show k < 2 ^ T.1 by omega)).2.2.2.2.2; omega)
    refine BX8_greatestLength_18 hK ⟨fun c => absurd c (h_nle (by omega) hi), fun _ => ⟨h_inK (by omega), ?_⟩⟩
    rw [h_clK (show i < 1024 by omega), (hq.2.get hi).2, nI_eq (by omega) (by omega), nI_1]
    refine ⟨fun c => ?_, fun c => ?_⟩
    · rw [s_mx_no (by simp [s_rg, c])] at ih; exact ih
    · have hon : s_on (s_step T y) i := by have := (r_m_self (s_stepN T y) hi).1; rw [c] at this; exact this
      refine ⟨_, c_lengthOf_same hq.1 hq.2.1 hi (r_on (s_stepN T y) hi hon).2.1, fun r2 M2 hq2 => ?_⟩
      obtain ⟨e1, e2⟩ := hq2
      subst e2
      rw [e1, s_mx_if (by simp [s_rg, c]) (by omega) (by omega)]
      exact ih
/-! the reference -/
theorem nI_neg9 {t : Nat} (ht : t < 2 ^ 31) : ¬ nI t = -9 := fun c => nI_pos ht (by rw [c]; decide)
def RunP (M : Mem) (f : Nat → Nat) (d : Nat) (M1 : Mem) : Prop := FrM M M1 ∧ (∀ k, k ≠ 0 → k ≠ 5 → M1.1 k = M.1 k) ∧ M1.1 0 6 = nI (it f (r_t f d) d) ∧ M1.1 0 7 = nI (r_t f d) ∧ M1.1 0 8 = nI (r_l f d)
theorem n_layRun (hM : InvM M T P) (hS : ∀ d, d < 2 ^ T.1 → M.1 4 d = nI (s_step T y d)) {d : Nat} (hd : d < 2 ^ T.1) : CX10_layRun E [.ref (E.2.1 0), .int (nI d)] M (z_pV (fun M1 => RunP M (s_step T y) d M1)) := by
  have h10 := hM.2.1.1.2
  have hp2 : 2 ^ T.1 ≤ 1024 := Nat.pow_le_pow_right (n := 2) (by decide) h10
  have hpos := Nat.two_pow_pos T.1
  have hf := s_stepN T y
  generalize s_step T y = f at *
  generalize hQ : (z_pV (fun M1 => RunP M f d M1)) = Q
  refine EX10_layRun (fun X hE hK => ?_)
  have l28 : ∀ M1, FrM M M1 → (∀ k, k ≠ 5 → M1.1 k = M.1 k) → (∀ x, x < 2 ^ T.1 → M1.1 5 x = -9) → LX10_layRun_28 X Q (nI d) (nI 0) M1 := by
    intro M1 f1 f2 f3
    obtain ⟨s, t, t1, s1, e, inj⟩ := run_first hf hd
    obtain ⟨h1, h2⟩ := run_tail t1 e inj
    have et : r_t f d = t := (r_all hf hd).1.uniq h1
    have el : r_l f d = s - t := by have := (r_all hf hd).2.1; rw [et] at this; exact this.uniq h2
    refine h_down (P := fun i => ∀ M2, FrM M M2 → (∀ k, k ≠ 5 → M2.1 k = M.1 k) → (∀ j, j < i → M2.1 5 (it f j d) = nI j) → (∀ x, x < 2 ^ T.1 → (∀ j, j < i → it f j d ≠ x) → M2.1 5 x = -9) → LX10_layRun_28 X Q (nI (it f i d)) (nI i) M2) s ?_ ?_ M1 f1 f2 (fun j hj => absurd hj (Nat.not_lt_zero j)) (fun x hx _ => f3 x hx)
    · intro M2 g1 g2 g3 g4
      have hlt := it_lt hf hd t
      rw [e]
      refine BX10_layRun_28 hK ⟨h_inK (by omega), ?_⟩
      rw [h_clK (by omega), g3 t t1]
      refine ⟨fun _ M3 e3 => ⟨h_inK (by omega), fun M4 e4 M5 e5 => ?_⟩, fun c => absurd c (nI_neg9 (by omega))⟩
      have e35 : M3.1 5 (it f t d) = nI t := by rw [e3, m_ne _ _ (by omega)]; exact g3 t t1
      rw [e35] at e4
      have e407 : M4.1 0 7 = nI t := by rw [e4, m_same]
      rw [e407, pk_sub (by omega)] at e5
      rw [← hQ]
      refine zpV ⟨?_, fun k k1 k2 => ?_, ?_, ?_, ?_⟩
      · refine g1.trans (FrM.trans (M1 := M3) ?_ (FrM.trans (M1 := M4) ?_ ?_))
        · rw [e3]; exact FrM.st0 (by decide) (by decide)
        · rw [e4]; exact FrM.st0 (by decide) (by decide)
        · rw [e5]; exact FrM.st0 (by decide) (by decide)
      · rw [e5, m_cell _ _ k1, e4, m_cell _ _ k1, e3, m_cell _ _ k1]; exact g2 k k2
      · rw [e5, m_ne _ _ (by decide), e4, m_ne _ _ (by decide), e3, m_same, et]
      · rw [e5, m_ne _ _ (by decide), e407, et]
      · rw [e5, m_same, el]
    · intro i hi ih M2 g1 g2 g3 g4
      have hlt := it_lt hf hd i
      have hnew : ∀ j, j < i → it f j d ≠ it f i d := fun j hj c => by have := inj j i (by omega) hi c; omega
      refine BX10_layRun_28 hK ⟨h_inK (by omega), ?_⟩
      rw [h_clK (by omega), g4 _ hlt hnew]
      refine ⟨fun c => absurd rfl c, fun _ => ⟨h_inK (by omega), fun M3 e3 => ⟨h_inK (by omega), ?_⟩⟩⟩
      have e34 : M3.1 4 (it f i d) = nI (it f (i + 1) d) := by rw [e3, m_ne _ _ (by omega), g2 4 (by decide)]; exact hS _ hlt
      rw [e34, nI_1]
      refine ih M3 (g1.trans (by rw [e3]; exact FrM.st (by decide) (by decide))) (fun k hk => by rw [e3, m_cell _ _ hk]; exact g2 k hk) (fun j hj => ?_) (fun x hx hne => ?_)
      · by_cases ej : j = i
        · rw [ej, e3, m_same]
        · have := hnew j (by omega)
          rw [e3, m_ne _ _ (by omega)]; exact g3 j (by omega)
      · have := hne i (by omega)
        rw [e3, m_ne _ _ (by omega)]; exact g4 x hx (fun j hj => hne j (by omega))
  refine h_down (P := fun i => ∀ M1, FrM M M1 → (∀ k, k ≠ 5 → M1.1 k = M.1 k) → (∀ x, x < i → M1.1 5 x = -9) → LX10_layRun_2 X Q (nI d) (nI i) M1) (2 ^ T.1) ?_ ?_ M (FrM.rfl' M) (fun _ _ => rfl) (fun d hd => absurd hd (Nat.not_lt_zero d))
  · intro M1 f1 f2 f3
    exact BX10_layRun_2 hK ⟨_, n_all (hM.fr f1).1 hM.2.1, fun _ => l28 M1 f1 f2 f3, fun c => absurd (nI_lt (by omega) (by omega)) c⟩
  · intro i hi ih M1 f1 f2 f3
    refine BX10_layRun_2 hK ⟨_, n_all (hM.fr f1).1 hM.2.1, fun c => absurd c (nI_nlt (by omega) (by omega)), fun _ => ⟨h_inK (by omega), fun M2 e2 => ?_⟩⟩
    rw [h_clK (by omega)] at e2
    rw [nI_1]
    refine ih M2 (f1.trans (by rw [e2]; exact FrM.st (by decide) (by decide))) (fun k hk => by rw [e2, m_cell _ _ hk]; exact f2 k hk) (fun x hx => ?_)
    by_cases ex : x = i
    · rw [ex, e2, m_same]
    · rw [e2, m_ne _ _ (by omega)]; exact f3 x (by omega)
theorem n_leastOfRing {f : Nat → Nat} {N : Nat} (hN : N ≤ 1024) (hf : ∀ x, x < N → f x < N) (hS : ∀ d, d < N → M.1 4 d = nI (f d)) {d : Nat} (hd : d < N) (h6 : M.1 0 6 = nI (it f (r_t f d) d)) : CX10_leastOfRing E [.ref (E.2.1 0)] M (z_is (some (.int (nI (r_m f d)))) M) := by
  obtain ⟨a1, a2, a3, a4, a5, a6⟩ := r_all hf hd
  have he := it_lt hf hd (r_t f d)
  generalize it f (r_t f d) d = e at *
  have em : r_m f d = s_lo f e (r_l f d - 1) := a3.uniq a2.least
  rw [em]
  have lolt : ∀ k, s_lo f e k < N := fun k => by
    obtain ⟨⟨i, _, hi⟩, _⟩ := s_lo_ok f e k
    rw [← hi]; exact it_lt hf he i
  refine EX10_leastOfRing (fun X hE hK => ?_)
  rw [h6, h_clK (by omega), hS e he]
  refine ⟨h_inK (by omega), ?_⟩
  refine h_down (P := fun i => LX10_leastOfRing_15 X (z_is (some (.int (nI (s_lo f e (r_l f d - 1))))) M) (nI (s_lo f e i)) (nI (it f (i + 1) e)) M) (r_l f d - 1) ?_ ?_
  · refine BX10_leastOfRing_15 hK ⟨fun _ => zi rfl, fun c => absurd ?_ c⟩
    have := a2.1
    rw [h6, show r_l f d - 1 + 1 = r_l f d by omega, a2.2.1]
  · intro i hi ih
    have hlt := it_lt hf he (i + 1)
    have hl := lolt i
    refine BX10_leastOfRing_15 hK ⟨fun c => ?_, fun _ => ?_⟩
    · rw [h6, nI_eq (by omega) (by omega)] at c
      exact absurd c (a2.2.2 (i + 1) (by omega) (by omega))
    · rw [h_clK (by omega), hS _ hlt]
      by_cases c : s_lo f e i ≤ it f (i + 1) e
      · rw [show s_lo f e (i + 1) = s_lo f e i from if_pos c] at ih
        exact ⟨fun _ => ⟨h_inK (by omega), ih⟩, fun c2 => absurd (h_le (by omega) c) c2⟩
      · rw [show s_lo f e (i + 1) = it f (i + 1) e from if_neg c] at ih
        exact ⟨fun c2 => absurd c2 (h_nle (by omega) (by omega)), fun _ => ⟨h_inK (by omega), ih⟩⟩
def RgP (M : Mem) (f : Nat → Nat) (N : Nat) : Prop := (∀ m, m < N → M.1 6 m = nI (s_ct (s_to f m) N)) ∧ (∀ m, m < N → M.1 8 m = nI (s_mx (s_to f m) (r_t f) N)) ∧ (∀ d, d < N → M.1 7 (r_m f d) = nI (r_l f d))
theorem n_layRings (hM : InvM M T P) (hy : y < 2) : CX10_layRings E [.ref (E.2.1 0), .int (nI y)] M (z_pV (fun M1 => FrM M M1 ∧ RgP M1 (s_step T y) (2 ^ T.1))) := by
  have h10 := hM.2.1.1.2
  have hp2 : 2 ^ T.1 ≤ 1024 := Nat.pow_le_pow_right (n := 2) (by decide) h10
  have hpos := Nat.two_pow_pos T.1
  have hf := s_stepN T y
  generalize hQ : (z_pV (fun M1 => FrM M M1 ∧ RgP M1 (s_step T y) (2 ^ T.1))) = Q
  refine EX10_layRings (fun X hE hK => ⟨_, n_layLeads hM hy, fun M1 hq => ?_⟩)
  obtain ⟨q1, q2, q3, q4⟩ := hq
  have l37 : ∀ M2, FrM M M2 → (∀ d, d < 2 ^ T.1 → M2.1 4 d = nI (s_step T y d)) → (∀ m, m < 2 ^ T.1 → M2.1 6 m = 0 ∧ M2.1 8 m = 0) → LX10_layRings_37 X Q (nI 0) M2 := by
    intro M2 f1 f2 f3
    refine h_down (P := fun i => ∀ M3, FrM M M3 → (∀ d, d < 2 ^ T.1 → M3.1 4 d = nI (s_step T y d)) → (∀ m, m < 2 ^ T.1 → M3.1 6 m = nI (s_ct (s_to (s_step T y) m) i)) → (∀ m, m < 2 ^ T.1 → M3.1 8 m = nI (s_mx (s_to (s_step T y) m) (r_t (s_step T y)) i)) → (∀ d, d < i → M3.1 7 (r_m (s_step T y) d) = nI (r_l (s_step T y) d)) → LX10_layRings_37 X Q (nI i) M3) (2 ^ T.1) ?_ ?_ M2 f1 f2 (fun m hm => (f3 m hm).1) (fun m hm => (f3 m hm).2) (fun d hd => absurd hd (Nat.not_lt_zero d))
    · intro M3 g1 g2 g3 g4 g5
      refine BX10_layRings_37 hK ⟨_, n_all (hM.fr g1).1 hM.2.1, fun _ => ?_, fun c => absurd (nI_lt (by omega) (by omega)) c⟩
      rw [← hQ]
      exact zpV ⟨g1, g3, g4, g5⟩
    · intro i hi ih M3 g1 g2 g3 g4 g5
      obtain ⟨a1, a2, a3, a4, a5, a6⟩ := r_all hf hi
      refine BX10_layRings_37 hK ⟨_, n_all (hM.fr g1).1 hM.2.1, fun c => absurd c (nI_nlt (by omega) (by omega)), fun _ => ⟨_, n_layRun (hM.fr g1) g2 hi, fun M4 hq4 => ?_⟩⟩
      obtain ⟨b1, b2, b3, b4, b5⟩ := hq4
      have hS4 : ∀ d, d < 2 ^ T.1 → M4.1 4 d = nI (s_step T y d) := fun d hd => by rw [b2 4 (by decide) (by decide)]; exact g2 d hd
      have hmxm : ∀ m, s_mx (s_to (s_step T y) m) (r_t (s_step T y)) i < 2 ^ T.1 := fun m => s_mx_lt hpos (fun k hk => (r_all hf (show k < 2 ^ T.1 by omega)).2.2.2.1)
      have hmx := hmxm (r_m (s_step T y) i)
      refine ⟨_, n_leastOfRing hp2 hf hS4 hi b3, ?_⟩
      rw [h_clK (by omega), b2 6 (by decide) (by decide), g3 _ a5, nI_1]
      refine ⟨h_inK (by omega), h_inK (by omega), fun M5 e5 => ⟨h_inK (by omega), fun M6 e6 => ⟨h_inK (by omega), ?_⟩⟩⟩
      have e508 : M5.1 0 8 = nI (r_l (s_step T y) i) := by rw [e5, m_ne _ _ (by omega)]; exact b5
      rw [e508] at e6
      have e607 : M6.1 0 7 = nI (r_t (s_step T y) i) := by rw [e6, m_ne _ _ (by omega), e5, m_ne _ _ (by omega)]; exact b4
      have e68 : ∀ m, m < 2 ^ T.1 → M6.1 8 m = nI (s_mx (s_to (s_step T y) m) (r_t (s_step T y)) i) := fun m hm => by rw [e6, m_ne _ _ (by omega), e5, m_ne _ _ (by omega), b2 8 (by decide) (by decide)]; exact g4 m hm
      have fin : ∀ (M7 : Mem) (w : Int32), M7 = z_st M6 8 (r_m (s_step T y) i) w → w = nI (s_mx (s_to (s_step T y) (r_m (s_step T y) i)) (r_t (s_step T y)) (i + 1)) → LX10_layRings_37 X Q (nI (i + 1)) M7 := by
        intro M7 w e7 hw
        refine ih M7 (g1.trans (b1.trans (FrM.trans (M1 := M5) ?_ (FrM.trans (M1 := M6) ?_ ?_)))) (fun d hd => ?_) (fun m hm => ?_) (fun m hm => ?_) (fun d hd => ?_)
        · rw [e5]; exact FrM.st (by decide) (by decide)
        · rw [e6]; exact FrM.st (by decide) (by decide)
        · rw [e7]; exact FrM.st (by decide) (by decide)
        · rw [e7, m_ne _ _ (by omega), e6, m_ne _ _ (by omega), e5, m_ne _ _ (by omega)]; exact hS4 d hd
        · rw [e7, m_ne _ _ (by omega), e6, m_ne _ _ (by omega), e5]
          by_cases c : m = r_m (s_step T y) i
          · rw [c, m_same, s_ct_succ_yes (by simp [s_to])]
          · rw [m_ne _ _ (by omega), b2 6 (by decide) (by decide), g3 m hm, s_ct_succ_no (by simp [s_to]; omega)]
        · by_cases c : m = r_m (s_step T y) i
          · rw [e7, c, m_same]; exact hw
          · rw [e7, m_ne _ _ (by omega), e68 m hm, s_mx_no (by simp [s_to]; omega)]
        · rw [e7, m_ne _ _ (by omega), e6]
          by_cases c : d = i
          · rw [c, m_same]
          · by_cases c2 : r_m (s_step T y) d = r_m (s_step T y) i
            · have h1 := (r_m_self hf (show d < 2 ^ T.1 by omega)).2.2.2
              have h2 := (r_m_self hf hi).2.2.2
              rw [c2, m_same, ← h1, c2, h2]
            · rw [m_ne _ _ (by omega), e5, m_ne _ _ (by omega), b2 7 (by decide) (by decide)]; exact g5 d (by omega)
      rw [e607, e68 _ a5, nI_1]
      refine ⟨fun c => ⟨h_inK (by omega), h_inK (by omega), fun M7 e7 => fin M7 _ e7 ?_⟩, fun c => ⟨h_inK (by omega), fun M7 e7 => fin M7 _ e7 ?_⟩⟩
      · rw [s_mx_keep (fun c2 => h_nle (by omega) c2 c)]
      · rw [s_mx_up (by simp [s_to]) (Nat.lt_of_not_le (fun c2 => c (h_le (by omega) c2)))]
  refine h_down (P := fun i => ∀ M2, FrM M M2 → (∀ d, d < 2 ^ T.1 → M2.1 4 d = nI (s_step T y d)) → (∀ m, m < i → M2.1 6 m = 0 ∧ M2.1 8 m = 0) → LX10_layRings_7 X Q (nI i) M2) (2 ^ T.1) ?_ ?_ M1 q1 q4 (fun d hd => absurd hd (Nat.not_lt_zero d))
  · intro M2 f1 f2 f3
    exact BX10_layRings_7 hK ⟨_, n_all (hM.fr f1).1 hM.2.1, fun _ => l37 M2 f1 f2 f3, fun c => absurd (nI_lt (by omega) (by omega)) c⟩
  · intro i hi ih M2 f1 f2 f3
    refine BX10_layRings_7 hK ⟨_, n_all (hM.fr f1).1 hM.2.1, fun c => absurd c (nI_nlt (by omega) (by omega)), fun _ => ⟨h_inK (by omega), fun M3 e3 => ⟨h_inK (by omega), fun M4 e4 => ?_⟩⟩⟩
    rw [h_clK (by omega)] at e3 e4
    rw [nI_1]
    refine ih M4 (f1.trans (FrM.trans (M1 := M3) ?_ ?_)) (fun d hd => ?_) (fun m hm => ?_)
    · rw [e3]; exact FrM.st (by decide) (by decide)
    · rw [e4]; exact FrM.st (by decide) (by decide)
    · rw [e4, m_ne _ _ (by omega), e3, m_ne _ _ (by omega)]; exact f2 d hd
    · by_cases em : m = i
      · rw [em, e4, m_same, m_ne _ _ (by omega), e3, m_same]; exact ⟨rfl, rfl⟩
      · rw [e4, m_ne _ _ (by omega), m_ne _ _ (by omega), e3, m_ne _ _ (by omega), m_ne _ _ (by omega)]; exact f3 m (by omega)
theorem RgP.pos {f : Nat → Nat} {N : Nat} (hN : N ≤ 1024) (hf : ∀ x, x < N → f x < N) (h : RgP M f N) {d : Nat} (hd : d < N) : M.1 6 d ≤ 0 ↔ s_rg f d = false := by
  have hle := s_ct_le (s_to f d) N
  rw [h.1 d hd]
  constructor
  · intro c
    have h0 : s_ct (s_to f d) N = 0 := by
      rcases Nat.eq_zero_or_pos (s_ct (s_to f d) N) with e | e
      · exact e
      · exact absurd c (h_nle (a := 0) (by omega) e)
    have h1 := s_ct_zero.mp h0 d hd
    simp [s_to] at h1
    simp [s_rg, h1]
  · intro c
    simp [s_rg] at c
    have h0 : s_ct (s_to f d) N = 0 := s_ct_zero.mpr (fun x hx => by
      simp [s_to]
      intro e
      have := (r_m_self hf hx).2.1
      rw [e] at this
      exact c this)
    rw [h0]; exact Int32.le_refl _
theorem RgP.len {f : Nat → Nat} {N : Nat} (h : RgP M f N) {d : Nat} (hd : d < N) (hg : s_rg f d = true) : M.1 7 d = nI (r_l f d) := by
  have := h.2.2 d hd
  simp [s_rg] at hg
  rw [hg] at this; exact this
end RingQ
