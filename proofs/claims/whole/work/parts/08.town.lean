theorem zi {rv rv' : Option Value} {M : Mem} (h : rv' = rv) : z_is rv M rv' M := ⟨h, rfl⟩
theorem zj {rv : Option Value} {M M' : Mem} (h : M' = M) : z_is rv M rv M' := ⟨rfl, h⟩
def RepX (M : Mem) (T : TW) : Prop := M.1 7 5 = nI T.1 ∧ (1 ≤ T.1 ∧ T.1 ≤ 10) ∧ (∀ p o, p < 10 → o < 10 → M.1 (10 + p) o = T.2.1 p o) ∧ (∀ p, p < 10 → M.1 21 p = T.2.2.1 p) ∧ (∀ p, p < 10 → M.1 22 p = T.2.2.2 p)
theorem RepX.frame {M M' : Mem} {T : TW} (h : RepX M T) (h5 : M'.1 7 5 = M.1 7 5) (hc : ∀ k, 10 ≤ k → k < 23 → M'.1 k = M.1 k) : RepX M' T := by
  obtain ⟨h1, h2, h3, h4, h6⟩ := h
  refine ⟨h5.trans h1, h2, fun p o hp ho => ?_, fun p hp => ?_, fun p hp => ?_⟩
  · rw [hc (10 + p) (by omega) (by omega)]; exact h3 p o hp ho
  · rw [hc 21 (by omega) (by omega)]; exact h4 p hp
  · rw [hc 22 (by omega) (by omega)]; exact h6 p hp
section TownC
variable {E : ET} {M : Mem} {T : TW}
theorem RepX.lt31 (h : RepX M T) : T.1 < 2 ^ 31 := by have := h.2.1.2; omega
theorem RepX.p2 (h : RepX M T) : 2 ^ T.1 ≤ 1024 := Nat.pow_le_pow_right (n := 2) (by decide) h.2.1.2
theorem c_size (h : RepX M T) : CX7_size E [.ref (E.2.1 7)] M (z_is (some (.int (nI T.1))) M) := EX7_size (zi (by rw [h.1]))
theorem c_dresses (h : RepX M T) : CX7_dresses E [.ref (E.2.1 7)] M (z_is (some (.int (nI (2 ^ T.1)))) M) := EX7_dresses (zi (by rw [h.1, h_shl (by have := h.2.1.2; omega)]))
theorem c_version : CX7_version E [.ref (E.2.1 7)] M (z_is (some (.int (M.1 7 7))) M) := EX7_version (zi rfl)
theorem c_has_yes (h : RepX M T) {j : Nat} (hj : j < T.1) : CX7_has E [.ref (E.2.1 7), .int (nI j)] M (z_is (some (.int 1)) M) := by
  have h31 := h.lt31
  refine EX7_has ⟨fun c => absurd c (nI_pos (by omega)), fun _ => ⟨fun c => ?_, fun _ => zi rfl⟩⟩
  rw [h.1] at c
  exact absurd c (h_nle h31 hj)
theorem c_has_no (h : RepX M T) {x : Int32} (hx : x < 0 ∨ nI T.1 ≤ x) : CX7_has E [.ref (E.2.1 7), .int x] M (z_is (some (.int 0)) M) := by
  refine EX7_has ⟨fun _ => zi rfl, fun h0 => ⟨fun _ => zi rfl, fun c => ?_⟩⟩
  rw [h.1] at c
  rcases hx with hx | hx
  · exact absurd hx h0
  · exact absurd hx c
theorem c_isDress_yes (h : RepX M T) {j : Nat} (hj : j < 2 ^ T.1) : CX7_isDress E [.ref (E.2.1 7), .int (nI j)] M (z_is (some (.int 1)) M) := by
  have hp := h.p2
  exact EX7_isDress ⟨fun c => absurd c (nI_pos (by omega)), fun _ => ⟨_, c_dresses h, fun c => absurd c (h_nle (by omega) hj), fun _ => zi rfl⟩⟩
theorem c_isDress_no (h : RepX M T) {x : Int32} (hx : x < 0 ∨ nI (2 ^ T.1) ≤ x) : CX7_isDress E [.ref (E.2.1 7), .int x] M (z_is (some (.int 0)) M) := by
  refine EX7_isDress ⟨fun _ => zi rfl, fun h0 => ⟨_, c_dresses h, fun _ => zi rfl, fun c => ?_⟩⟩
  rcases hx with hx | hx
  · exact absurd hx h0
  · exact absurd hx c
theorem c_weight (h : RepX M T) {p o : Nat} (hp : p < 10) (ho : o < 10) : CX7_weight E [.ref (E.2.1 7), .int (nI p), .int (nI o)] M (z_is (some (.int (T.2.1 p o))) M) :=
  EX7_weight ⟨h_in10 hp, h_in10 hp, h_in10 ho, zi (by rw [h_cl10 hp, h_cl10 ho, h.2.2.1 p o hp ho])⟩
theorem c_kind (h : RepX M T) {p : Nat} (hp : p < 10) : CX7_kind E [.ref (E.2.1 7), .int (nI p)] M (z_is (some (.int (T.2.2.1 p))) M) :=
  EX7_kind ⟨h_in10 hp, zi (by rw [h_cl10 hp, h.2.2.2.1 p hp])⟩
theorem c_lean (h : RepX M T) {p : Nat} (hp : p < 10) : CX7_lean E [.ref (E.2.1 7), .int (nI p)] M (z_is (some (.int (T.2.2.2 p))) M) :=
  EX7_lean ⟨h_in10 hp, zi (by rw [h_cl10 hp, h.2.2.2.2 p hp])⟩
theorem c_seenBy (h : RepX M T) {p : Nat} (hp : p < 10) : CX7_seenBy E [.ref (E.2.1 7), .int (nI p)] M (z_is (some (.int (s_cnt (fun o => decide (¬ T.2.1 p o ≤ 0)) T.1))) M) := by
  refine EX7_seenBy (fun X hE hX => ?_)
  refine h_down (P := fun i => LX7_seenBy_4 X _ (nI p) (s_cnt (fun o => decide (¬ T.2.1 p o ≤ 0)) i) (nI i) M) T.1 ?_ ?_
  · refine BX7_seenBy_4 hX ⟨fun _ => zi rfl, fun c => absurd ?_ c⟩
    rw [h.1]; exact h_le h.lt31 (Nat.le_refl _)
  · intro i hi ih
    have h31 := h.lt31
    have hi10 : i < 10 := Nat.lt_of_lt_of_le hi h.2.1.2
    refine BX7_seenBy_4 hX ⟨fun c => absurd c ?_, fun _ => ⟨h_in10 hp, h_in10 hp, h_in10 hi10, ?_⟩⟩
    · rw [h.1]; exact h_nle h31 hi
    · rw [h_cl10 hp, h_cl10 hi10, h.2.2.1 p i hp hi10, nI_1]
      refine ⟨fun c => ?_, fun c => ?_⟩
      · simpa [s_cnt, c] using ih
      · simpa [s_cnt, c] using ih
theorem c_seeing (h : RepX M T) {p : Nat} (hp : p < 10) : CX7_seeing E [.ref (E.2.1 7), .int (nI p)] M (z_is (some (.int (s_cnt (fun o => decide (¬ T.2.1 o p ≤ 0)) T.1))) M) := by
  refine EX7_seeing (fun X hE hX => ?_)
  refine h_down (P := fun i => LX7_seeing_4 X _ (nI p) (s_cnt (fun o => decide (¬ T.2.1 o p ≤ 0)) i) (nI i) M) T.1 ?_ ?_
  · refine BX7_seeing_4 hX ⟨fun _ => zi rfl, fun c => absurd ?_ c⟩
    rw [h.1]; exact h_le h.lt31 (Nat.le_refl _)
  · intro i hi ih
    have h31 := h.lt31
    have hi10 : i < 10 := Nat.lt_of_lt_of_le hi h.2.1.2
    refine BX7_seeing_4 hX ⟨fun c => absurd c ?_, fun _ => ⟨h_in10 hi10, h_in10 hi10, h_in10 hp, ?_⟩⟩
    · rw [h.1]; exact h_nle h31 hi
    · rw [h_cl10 hp, h_cl10 hi10, h.2.2.1 i p hi10 hp, nI_1]
      refine ⟨fun c => ?_, fun c => ?_⟩
      · simpa [s_cnt, c] using ih
      · simpa [s_cnt, c] using ih
def s_ties (T : TW) : Nat → Int32
  | 0 => 0
  | k + 1 => s_ties T k + s_cnt (fun o => decide (¬ T.2.1 k o ≤ 0)) T.1
theorem c_ties (h : RepX M T) : CX7_ties E [.ref (E.2.1 7)] M (z_is (some (.int (s_ties T T.1))) M) := by
  refine EX7_ties (fun X hE hX => ?_)
  refine h_down (P := fun i => LX7_ties_4 X _ (s_ties T i) (nI i) M) T.1 ?_ ?_
  · refine BX7_ties_4 hX ⟨fun _ => zi rfl, fun c => absurd ?_ c⟩
    rw [h.1]; exact h_le h.lt31 (Nat.le_refl _)
  · intro i hi ih
    have h31 := h.lt31
    have hi10 : i < 10 := Nat.lt_of_lt_of_le hi h.2.1.2
    refine BX7_ties_4 hX ⟨fun c => absurd c ?_, fun _ => ⟨_, c_seenBy h hi10, ?_⟩⟩
    · rw [h.1]; exact h_nle h31 hi
    · rw [nI_1]; exact ih
theorem c_countKind (h : RepX M T) (x : Int32) : CX7_countKind E [.ref (E.2.1 7), .int x] M (z_is (some (.int (s_cnt (fun p => decide (T.2.2.1 p = x)) T.1))) M) := by
  refine EX7_countKind (fun X hE hX => ?_)
  refine h_down (P := fun i => LX7_countKind_4 X _ x (s_cnt (fun p => decide (T.2.2.1 p = x)) i) (nI i) M) T.1 ?_ ?_
  · refine BX7_countKind_4 hX ⟨fun _ => zi rfl, fun c => absurd ?_ c⟩
    rw [h.1]; exact h_le h.lt31 (Nat.le_refl _)
  · intro i hi ih
    have h31 := h.lt31
    have hi10 : i < 10 := Nat.lt_of_lt_of_le hi h.2.1.2
    refine BX7_countKind_4 hX ⟨fun c => absurd c ?_, fun _ => ⟨h_in10 hi10, ?_⟩⟩
    · rw [h.1]; exact h_nle h31 hi
    · rw [h_cl10 hi10, h.2.2.2.1 i hi10, nI_1]
      refine ⟨fun c => ?_, fun c => ?_⟩
      · simpa [s_cnt, c] using ih
      · simpa [s_cnt, c] using ih
theorem c_worn {d p : Nat} (hd : d < 2 ^ 31) (hp : p < 31) : CX7_worn E [.int (nI d), .int (nI p)] M (z_is (some (.int (s_bit (d.testBit p)))) M) := EX7_worn (zi (by rw [h_bit hd hp]))
theorem c_sumOf (h : RepX M T) {p d : Nat} (hp : p < 10) (hd : d < 2 ^ 31) : CX7_sumOf E [.ref (E.2.1 7), .int (nI p), .int (nI d)] M (z_is (some (.int (s_sum T p d))) M) := by
  refine EX7_sumOf (fun X hE hX => ⟨h_in10 hp, ?_⟩)
  rw [h_cl10 hp, h.2.2.2.2 p hp]
  refine h_down (P := fun i => LX7_sumOf_10 X _ (nI p) (nI d) (s_sumK T p d i) (nI i) M) T.1 ?_ ?_
  · refine BX7_sumOf_10 hX ⟨fun _ => zi rfl, fun c => absurd ?_ c⟩
    rw [h.1]; exact h_le h.lt31 (Nat.le_refl _)
  · intro i hi ih
    have h31 := h.lt31
    have hi10 : i < 10 := Nat.lt_of_lt_of_le hi h.2.1.2
    refine BX7_sumOf_10 hX ⟨fun c => absurd c ?_, fun _ => ⟨h_in10 hp, h_in10 hp, h_in10 hi10, _, c_worn hd (by omega), ?_⟩⟩
    · rw [h.1]; exact h_nle h31 hi
    · rw [h_cl10 hp, h_cl10 hi10, h.2.2.1 p i hp hi10, nI_1]
      refine ⟨fun c => ?_, fun c => ?_⟩
      · have hb : d.testBit i = false := by cases hb : d.testBit i <;> simp [hb, s_bit] at c ⊢
        simpa [s_sumK, hb] using ih
      · have hb : d.testBit i = true := s_bit_1.mp c
        simpa [s_sumK, hb] using ih
theorem c_nextOf {kind sum : Int32} {w : Bool} : CX7_nextOf E [.int kind, .int sum, .int (s_bit w)] M (z_is (some (.int (s_bit (s_next kind sum w)))) M) := by
  refine EX7_nextOf ⟨fun h3 => ⟨fun h2 => zi ?_, fun h2 => ⟨fun h0 => ⟨fun hs => ⟨fun hk => ⟨fun c => absurd rfl c, fun _ => zi ?_⟩, fun hk => ⟨fun _ => zi ?_, fun c => absurd c (by decide)⟩⟩, fun hs => ⟨fun hk => ⟨fun _ => zi ?_, fun c => absurd c (by decide)⟩, fun hk => ⟨fun c => absurd rfl c, fun _ => zi ?_⟩⟩⟩, fun h0 => zi ?_⟩⟩, fun h3 => zi ?_⟩
  · simp [s_next, h2]
  · simp [s_next, h3, h2, h0, hs, hk, s_bit]
  · simp [s_next, h0, hs, hk, s_bit]
  · simp [s_next, h3, h2, h0, hs, hk, s_bit]
  · simp [s_next, h0, hs, hk, s_bit]
  · simp [s_next, h3, h2, h0]
  · rw [h3]; cases w <;> rfl
theorem c_isCalm (h : RepX M T) {p d : Nat} (hp : p < 10) (hd : d < 2 ^ 31) : CX7_isCalm E [.ref (E.2.1 7), .int (nI p), .int (nI d)] M (z_is (some (.int (s_bit (s_calm T p d)))) M) := by
  refine EX7_isCalm ⟨_, c_worn hd (by omega), h_in10 hp, _, c_sumOf h hp hd, ?_⟩
  rw [h_cl10 hp, h.2.2.2.1 p hp]
  refine ⟨_, c_nextOf, fun c => zi ?_, fun c => zi ?_⟩
  · rw [s_bit_inj] at c
    simp [s_calm, c, s_bit]
  · rw [s_bit_inj] at c
    simp [s_calm, c, s_bit]
theorem c_restlessIn (h : RepX M T) {d : Nat} (hd : d < 2 ^ 31) : CX7_restlessIn E [.ref (E.2.1 7), .int (nI d)] M (z_is (some (.int (nI (s_rl T d)))) M) := by
  refine EX7_restlessIn (fun X hE hX => ?_)
  refine h_down (P := fun i => LX7_restlessIn_4 X _ (nI d) (nI (s_rlK T d i)) (nI i) M) T.1 ?_ ?_
  · refine BX7_restlessIn_4 hX ⟨fun _ => zi rfl, fun c => absurd ?_ c⟩
    rw [h.1]; exact h_le h.lt31 (Nat.le_refl _)
  · intro i hi ih
    have h31 := h.lt31
    have hi10 : i < 10 := Nat.lt_of_lt_of_le hi h.2.1.2
    refine BX7_restlessIn_4 hX ⟨fun c => absurd c ?_, fun _ => ⟨_, c_isCalm h hi10 hd, ?_⟩⟩
    · rw [h.1]; exact h_nle h31 hi
    · rw [nI_1, h_shl (by omega), h_or]
      refine ⟨fun c => ?_, fun c => ?_⟩
      · have hb : s_calm T i d = true := by cases hb : s_calm T i d <;> simp [hb, s_bit] at c ⊢
        simpa [s_rlK, hb] using ih
      · have hb : s_calm T i d = false := s_bit_0.mp c
        simpa [s_rlK, hb] using ih
end TownC
