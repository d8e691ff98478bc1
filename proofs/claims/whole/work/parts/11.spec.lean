/-! steps, runs, rings; the two invariants -/
def s_ordK (T : TW) (d : Nat) : Nat → Nat
  | 0 => d
  | k + 1 => if s_calm T k (s_ordK T d k) then s_ordK T d k else s_ordK T d k ^^^ 2 ^ k
def s_step (T : TW) (y d : Nat) : Nat := if y = 0 then d ^^^ s_rl T d else s_ordK T d T.1
def it (f : Nat → Nat) : Nat → Nat → Nat
  | 0, x => x
  | k + 1, x => f (it f k x)
def s_on (f : Nat → Nat) (x : Nat) : Prop := ∃ k, 1 ≤ k ∧ it f k x = x
def IsTail (f : Nat → Nat) (x t : Nat) : Prop := s_on f (it f t x) ∧ ∀ j, j < t → ¬ s_on f (it f j x)
def IsLeast (f : Nat → Nat) (y m : Nat) : Prop := (∃ k, it f k y = m) ∧ ∀ k, m ≤ it f k y
def IsLen (f : Nat → Nat) (y l : Nat) : Prop := 1 ≤ l ∧ it f l y = y ∧ ∀ k, 1 ≤ k → k < l → it f k y ≠ y
def RingsOK (f : Nat → Nat) (N : Nat) (ro tl : Nat → Int32) : Prop := ∀ d, d < N → ∃ t m, t < N ∧ m < N ∧ IsTail f d t ∧ IsLeast f (it f t d) m ∧ tl d = nI t ∧ ro d = nI m
def VerOK (x : Int32) (w : Nat) : Prop := x = -1 ∨ ∃ u, u ≤ w ∧ x = nI u
def StepC (M : Mem) (T : TW) : Prop := M.1 8 6 = M.1 7 7 → ∃ y, y < 2 ∧ M.1 8 5 = nI y ∧ ∀ d, d < 2 ^ T.1 → M.1 25 d = nI (s_step T y d)
def RingC (M : Mem) (T : TW) : Prop := M.1 8 8 = M.1 7 7 → ∃ y, y < 2 ∧ M.1 8 7 = nI y ∧ RingsOK (s_step T y) (2 ^ T.1) (M.1 26) (M.1 27)
abbrev PW : Type := Nat × (Nat → Nat)
def PicOK (T : TW) (P : PW) (x : Int32) (f : Nat → Int32) : Prop := x = nI P.1 ∧ P.1 ≤ 8 ∧ ∀ i, i < P.1 → f i = nI (P.2 i) ∧ P.2 i < 2 ^ T.1
def VerX (M : Mem) (v : Nat) : Prop := ∃ w, w ≤ v ∧ M.1 7 7 = nI w ∧ VerOK (M.1 8 6) w ∧ VerOK (M.1 8 8) w
def InvX (M : Mem) (T : TW) (P : PW) (v : Nat) : Prop := RepX M T ∧ s_WF T ∧ CacheT M T ∧ VerX M v ∧ StepC M T ∧ RingC M T ∧ PicOK T P (M.1 2 2) (M.1 36)
def RepM (M : Mem) (T : TW) : Prop := M.1 0 0 = nI T.1 ∧ (∀ p o, p < 10 → o < 10 → M.1 1 (10 * p + o) = T.2.1 p o) ∧ (∀ p, p < 10 → M.1 2 p = T.2.2.1 p) ∧ (∀ p, p < 10 → M.1 3 p = T.2.2.2 p)
def InvM (M : Mem) (T : TW) (P : PW) : Prop := RepM M T ∧ s_WF T ∧ PicOK T P (M.1 0 18) (M.1 14)
def TopI (cx cm : (Option Value → Mem → Prop) → Prop) (v : Nat) : Prop := ∃ (res : Int32) (T : TW) (P : PW), cx (z_pI (fun r M1 => r = res ∧ InvX M1 T P v)) ∧ cm (z_pI (fun r M1 => r = res ∧ InvM M1 T P))
def TopL (cx cm : (Option Value → Mem → Prop) → Prop) (v : Nat) : Prop := ∃ (res : Int64) (T : TW) (P : PW), cx (z_pL (fun r M1 => r = res ∧ InvX M1 T P v)) ∧ cm (z_pL (fun r M1 => r = res ∧ InvM M1 T P))
theorem VerX.up {M : Mem} {v w : Nat} (h : VerX M v) (hv : v ≤ w) : VerX M w := by
  obtain ⟨u, u1, u2⟩ := h
  exact ⟨u, Nat.le_trans u1 hv, u2⟩
theorem InvX.up {M : Mem} {T : TW} {P : PW} {v w : Nat} (h : InvX M T P v) (hv : v ≤ w) : InvX M T P w := ⟨h.1, h.2.1, h.2.2.1, h.2.2.2.1.up hv, h.2.2.2.2⟩
theorem okX {M : Mem} {T : TW} {P : PW} {v : Nat} {res : Int32} (h : InvX M T P v) : z_pI (fun r M1 => r = res ∧ InvX M1 T P (v + 10)) (some (.int res)) M := zpI ⟨rfl, h.up (by omega)⟩
theorem okX0 {M : Mem} {T : TW} {P : PW} {v : Nat} {res : Int32} (h : InvX M T P v) : z_pI (fun r M1 => r = res ∧ InvX M1 T P v) (some (.int res)) M := zpI ⟨rfl, h⟩
theorem okXr {M : Mem} {T : TW} {P : PW} {v w : Nat} {res r : Int32} (h : InvX M T P v) (hw : v ≤ w) (e : r = res) : z_pI (fun r M1 => r = res ∧ InvX M1 T P w) (some (.int r)) M := zpI ⟨e, h.up hw⟩
theorem okM {M : Mem} {T : TW} {P : PW} {res : Int32} (h : InvM M T P) : z_pI (fun r M1 => r = res ∧ InvM M1 T P) (some (.int res)) M := zpI ⟨rfl, h⟩
theorem okMr {M : Mem} {T : TW} {P : PW} {res r : Int32} (h : InvM M T P) (e : r = res) : z_pI (fun r M1 => r = res ∧ InvM M1 T P) (some (.int r)) M := zpI ⟨e, h⟩
/-- the table renewed: the invariant stays -/
theorem InvX.fr {M M1 : Mem} {T : TW} {P : PW} {v : Nat} (h : InvX M T P v) (hf : FrR M M1) (h0 : M1.1 7 6 = nI 0) (hr : FreshR M1 T) : InvX M1 T P v := by
  obtain ⟨a1, a2, a3, a4, a5, a6, a7⟩ := h
  have c8 : M1.1 8 = M.1 8 := hf.2.1 8 (by decide) (by decide) (by decide)
  have c77 : M1.1 7 7 = M.1 7 7 := hf.2.2 7 (by decide)
  refine ⟨hf.rep a1, a2, ⟨0, by decide, h0, fun d hd => ⟨s_rl T d, s_rl_lt T d, hr d hd, fun p hp _ => by rw [s_rl_bit]; simp [hp]⟩⟩, ?_, ?_, ?_, ?_⟩
  · obtain ⟨w, w1, w2, w3, w4⟩ := a4
    exact ⟨w, w1, by rw [c77]; exact w2, by rw [c8]; exact w3, by rw [c8]; exact w4⟩
  · intro e
    rw [c8, c77] at e
    obtain ⟨y, y1, y2, y3⟩ := a5 e
    exact ⟨y, y1, by rw [c8]; exact y2, fun d hd => by rw [hf.2.1 25 (by decide) (by decide) (by decide)]; exact y3 d hd⟩
  · intro e
    rw [c8, c77] at e
    obtain ⟨y, y1, y2, y3⟩ := a6 e
    exact ⟨y, y1, by rw [c8]; exact y2, by rw [hf.2.1 26 (by decide) (by decide) (by decide), hf.2.1 27 (by decide) (by decide) (by decide)]; exact y3⟩
  · rw [hf.2.1 2 (by decide) (by decide) (by decide), hf.2.1 36 (by decide) (by decide) (by decide)]; exact a7
theorem h_ix (x : Int32) {n : Nat} (hn : n < 2 ^ 31) : (x < 0 ∨ nI n ≤ x) ∨ ∃ j : Nat, j < n ∧ x = nI j := by
  rcases pk_ix x hn with h | h | h
  · exact Or.inl (Or.inl h)
  · exact Or.inl (Or.inr h)
  · exact Or.inr h
/-! ranges -/
def s_in (x a b : Int32) : Bool := decide (¬ x < a ∧ ¬ b < x)
theorem c_within {E : ET} {M : Mem} {x a b : Int32} : CX9_within E [.int x, .int a, .int b] M (z_is (some (.int (s_bit (s_in x a b)))) M) := by
  refine EX9_within ⟨fun c => zi ?_, fun c => ⟨fun c2 => zi ?_, fun c2 => zi ?_⟩⟩
  · simp [s_in, c, s_bit]
  · simp [s_in, c2, s_bit]
  · simp [s_in, c, c2, s_bit]
theorem h_l_lt (x y : Int32) : x.toInt64 < y.toInt64 ↔ x < y := by
  rw [Int64.lt_iff_toInt_lt, Int32.lt_iff_toInt_lt, Int32.toInt_toInt64, Int32.toInt_toInt64]
theorem c_in {E : ET} {M : Mem} {x a b : Int32} : CX10_in E [.long x.toInt64, .long a.toInt64, .long b.toInt64] M (z_is (some (.int (s_bit (s_in x a b)))) M) := by
  refine EX10_in ⟨fun c => zi ?_, fun c => ⟨fun c2 => zi ?_, fun c2 => zi ?_⟩⟩
  · rw [lg_cmp_lt, h_l_lt] at c
    simp [s_in, c, s_bit]
  · rw [lg_cmp_gt, h_l_lt] at c2
    simp [s_in, c2, s_bit]
  · rw [lg_cmp_lt, h_l_lt] at c
    rw [lg_cmp_gt, h_l_lt] at c2
    simp [s_in, c, c2, s_bit]
theorem s_in_yes {x a b : Int32} (h : ¬ x < a) (h2 : ¬ b < x) : s_in x a b = true := by simp [s_in, h, h2]
theorem s_bit_01 (b : Bool) : s_bit b = 0 ∨ s_bit b = 1 := by cases b <;> decide
theorem s_in_nI {a n : Nat} (hn : n < 2 ^ 31) (h : a < n) : s_in (nI a) 0 (nI n - 1) = true := by
  have h1 : nI n - 1 = nI (n - 1) := by rw [h_lit1]; exact pk_sub (by omega)
  rw [h1]
  exact s_in_yes (nI_pos (by omega)) (nI_nlt (by omega) (by omega))
theorem s_in_nIf {x : Int32} {n : Nat} (h0 : 0 < n) (hn : n < 2 ^ 31) (h : x < 0 ∨ nI n ≤ x) : s_in x 0 (nI n - 1) = false := by
  have h1 : nI n - 1 = nI (n - 1) := by rw [h_lit1]; exact pk_sub (by omega)
  rw [h1]
  rcases h with h | h
  · simp [s_in, h]
  · have : nI (n - 1) < x := Int32.lt_of_lt_of_le (nI_lt (by omega) hn) h
    simp [s_in, this]
/-! the reference: small ones -/
section Mod1
variable {E : ET} {M : Mem} {T : TW}
theorem n_isPerson_yes (h : RepM M T) (hw : s_WF T) {j : Nat} (hj : j < T.1) : CX10_isPerson E [.ref (E.2.1 0), .int (nI j)] M (z_is (some (.int 1)) M) := by
  have h10 := hw.1.2
  refine EX10_isPerson ⟨_, c_in (a := 0), s_bit_01 _, zi ?_⟩
  rw [h.1, s_in_nI (by omega) hj]; rfl
theorem n_isPerson_no (h : RepM M T) (hw : s_WF T) {x : Int32} (hx : x < 0 ∨ nI T.1 ≤ x) : CX10_isPerson E [.ref (E.2.1 0), .int x] M (z_is (some (.int 0)) M) := by
  have h10 := hw.1
  refine EX10_isPerson ⟨_, c_in (a := 0), s_bit_01 _, zi ?_⟩
  rw [h.1, s_in_nIf (by omega) (by omega) hx]; rfl
theorem n_isDress_yes (h : RepM M T) (hw : s_WF T) {j : Nat} (hj : j < 2 ^ T.1) : CX10_isDress E [.ref (E.2.1 0), .int (nI j)] M (z_is (some (.int 1)) M) := by
  have h10 := hw.1.2
  have hp : 2 ^ T.1 ≤ 1024 := Nat.pow_le_pow_right (n := 2) (by decide) h10
  refine EX10_isDress ⟨_, c_in (a := 0), s_bit_01 _, zi ?_⟩
  rw [h.1, h_shl (by omega), s_in_nI (by omega) hj]; rfl
theorem n_isDress_no (h : RepM M T) (hw : s_WF T) {x : Int32} (hx : x < 0 ∨ nI (2 ^ T.1) ≤ x) : CX10_isDress E [.ref (E.2.1 0), .int x] M (z_is (some (.int 0)) M) := by
  have h10 := hw.1.2
  have hp : 2 ^ T.1 ≤ 1024 := Nat.pow_le_pow_right (n := 2) (by decide) h10
  refine EX10_isDress ⟨_, c_in (a := 0), s_bit_01 _, zi ?_⟩
  rw [h.1, h_shl (by omega), s_in_nIf (Nat.two_pow_pos _) (by omega) hx]; rfl
theorem n_all (h : RepM M T) (hw : s_WF T) : CX10_all E [.ref (E.2.1 0)] M (z_is (some (.int (nI (2 ^ T.1 - 1)))) M) := by
  have h10 := hw.1.2
  refine EX10_all (zi ?_)
  rw [h.1, h_shl (by omega), h_lit1, pk_sub (Nat.two_pow_pos _)]
theorem h_w {p o : Nat} (hp : p < 10) (ho : o < 10) : vp_in ((10 : Int32) * nI p + nI o) 100 ∧ ((10 : Int32) * nI p + nI o).toNatClampNeg = 10 * p + o := by
  have e : (10 : Int32) * nI p + nI o = nI (10 * p + o) := by
    rw [show (10 : Int32) = nI 10 from rfl, pk_mul, nI_add]
  rw [e]
  exact ⟨h_in (by omega) (by decide), h_cl (by omega)⟩
theorem n_sumOf (h : RepM M T) (hw : s_WF T) {p d : Nat} (hp : p < 10) (hd : d < 2 ^ 31) : CX10_sumOf E [.ref (E.2.1 0), .int (nI p), .int (nI d)] M (z_is (some (.int (s_sum T p d))) M) := by
  have h10 := hw.1.2
  refine EX10_sumOf (fun X hE hX => ⟨h_in10 hp, ?_⟩)
  rw [h_cl10 hp, h.2.2.2 p hp]
  refine h_down (P := fun i => LX10_sumOf_10 X _ (nI p) (nI d) (s_sumK T p d i) (nI i) M) T.1 ?_ ?_
  · refine BX10_sumOf_10 hX ⟨fun _ => zi rfl, fun c => absurd ?_ c⟩
    rw [h.1]; exact h_le (by omega) (Nat.le_refl _)
  · intro i hi ih
    have hi10 : i < 10 := by omega
    refine BX10_sumOf_10 hX ⟨fun c => absurd c ?_, fun _ => ?_⟩
    · rw [h.1]; exact h_nle (by omega) hi
    · rw [h_bit hd (by omega), (h_w hp hi10).2, h.2.1 p i hp hi10, nI_1]
      refine ⟨fun c => ⟨(h_w hp hi10).1, ?_⟩, fun c => ⟨(h_w hp hi10).1, ?_⟩⟩
      · have hb : d.testBit i = false := by cases hb : d.testBit i <;> simp [hb, s_bit] at c ⊢
        simpa [s_sumK, hb] using ih
      · have hb : d.testBit i = true := s_bit_1.mp c
        simpa [s_sumK, hb] using ih
theorem n_nextOf (h : RepM M T) (hw : s_WF T) {p d : Nat} {k : Int32} (hk : k = 0 ∨ k = 1 ∨ k = 2 ∨ k = 3) (hp : p < 10) (hd : d < 2 ^ 31) : CX10_nextOf E [.ref (E.2.1 0), .int (nI p), .int k, .int (nI d)] M (z_is (some (.int (s_bit (s_next k (s_sum T p d) (d.testBit p))))) M) := by
  refine EX10_nextOf ⟨_, n_sumOf h hw hp hd, ?_⟩
  rw [h_bit hd (by omega)]
  generalize s_sum T p d = r
  generalize d.testBit p = w
  have h0 : r ≤ 0 → 0 ≤ r → r = 0 := fun a b => Int32.le_antisymm a b
  have h1 : ¬ 0 ≤ r → ¬ r = 0 := fun a e => a (by rw [e]; exact Int32.le_refl 0)
  have h2 : ¬ r ≤ 0 → ¬ r = 0 := fun a e => a (by rw [e]; exact Int32.le_refl 0)
  refine ⟨fun c => zi ?_, fun c => ⟨fun a => ⟨fun b => zi ?_, fun b => zi ?_⟩, fun a => zi ?_⟩, fun c => ⟨fun a => ⟨fun b => zi ?_, fun b => zi ?_⟩, fun a => zi ?_⟩, fun c => zi ?_⟩
  · have : k = 3 := by
      rcases hk with rfl | rfl | rfl | rfl
      · exact absurd c (by decide)
      · exact absurd c (by decide)
      · exact absurd c (by decide)
      · rfl
    subst this
    cases w <;> rfl
  · subst c; simp [s_next, h0 a b]
  · subst c; simp [s_next, h1 b, a, s_bit]
  · subst c; simp [s_next, h2 a, a, s_bit]
  · subst c; simp [s_next, h0 a b]
  · subst c; simp [s_next, h1 b, a, s_bit]
  · subst c; simp [s_next, h2 a, a, s_bit]
  · subst c; simp [s_next]
end Mod1
