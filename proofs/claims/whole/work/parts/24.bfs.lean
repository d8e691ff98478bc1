theorem fb_holes : ∀ (m n : Nat) (f : Nat → Nat), (∀ i, i < n → f i < m) → (∀ i j, i < j → j < n → f i ≠ f j) → n ≤ m := by
  intro m
  induction m with
  | zero =>
    intro n f h1 _
    rcases Nat.eq_zero_or_pos n with h | h
    · omega
    · exact absurd (h1 0 h) (Nat.not_lt_zero _)
  | succ m ih =>
    intro n f h1 h2
    by_cases hx : ∃ i, i < n ∧ f i = m
    · obtain ⟨a, ha, hfa⟩ := hx
      have hg := ih (n - 1) (fun i => if i < a then f i else f (i + 1)) (by
        intro i hi
        by_cases q : i < a
        · simp only [if_pos q]
          have b1 := h1 i (by omega)
          have b2 := h2 i a q ha
          omega
        · simp only [if_neg q]
          have b1 := h1 (i + 1) (by omega)
          have b2 := h2 a (i + 1) (by omega) (by omega)
          omega) (by
        intro i j hij hj
        by_cases q : i < a
        · by_cases r : j < a
          · simp only [if_pos q, if_pos r]
            exact h2 i j hij (by omega)
          · simp only [if_pos q, if_neg r]
            exact h2 i (j + 1) (by omega) (by omega)
        · have r : ¬ j < a := by omega
          simp only [if_neg q, if_neg r]
          exact h2 (i + 1) (j + 1) (by omega) (by omega))
      omega
    · have hg := ih n f (fun i hi => by
        have b1 := h1 i hi
        have b2 : f i ≠ m := fun e => hx ⟨i, hi, e⟩
        omega) h2
      omega
/-- two of them in one place -/
theorem fb_twice {m n : Nat} {f : Nat → Nat} (h : ∀ i, i < n → f i < m) (hm : m < n) : ∃ i j, i < j ∧ j < n ∧ f i = f j := by
  refine Classical.byContradiction fun hx => ?_
  have := fb_holes m n f h (fun i j hij hj e => hx ⟨i, j, hij, hj, e⟩)
  omega
/-! a search in breadth: what both sides do -/
def Ed (T : TW) (x z : Nat) : Prop := ∃ p, p < T.1 ∧ (s_rl T x).testBit p = true ∧ z = x ^^^ 2 ^ p
def Rch (T : TW) (x z : Nat) : Prop := ∀ S : Nat → Prop, S x → (∀ a b, S a → Ed T a b → S b) → S z
theorem Rch.rfl' (T : TW) (x : Nat) : Rch T x x := fun _ h _ => h
theorem Rch.step {T : TW} {x y z : Nat} (h : Rch T x y) (e : Ed T y z) : Rch T x z := fun S h1 h2 => h2 y z (h S h1 h2) e
theorem Rch.trans {T : TW} {x y z : Nat} (h : Rch T x y) (h2 : Rch T y z) : Rch T x z := fun S a b => h2 S (h S a b) b
theorem Ed.lt {T : TW} {x z : Nat} (e : Ed T x z) (hx : x < 2 ^ T.1) : z < 2 ^ T.1 := by
  obtain ⟨p, hp, _, rfl⟩ := e
  exact Nat.xor_lt_two_pow hx (Nat.pow_lt_pow_right (by decide) hp)
theorem Rch.lt {T : TW} {x z : Nat} (h : Rch T x z) (hx : x < 2 ^ T.1) : z < 2 ^ T.1 := h (fun a => a < 2 ^ T.1) hx (fun _ _ ha e => e.lt ha)
abbrev BS : Type := (Nat → Nat) × Nat × (Nat → Nat)
def b_st (T : TW) (x p : Nat) (B : BS) : BS := if (s_rl T x).testBit p = true ∧ B.2.2 (x ^^^ 2 ^ p) = 0 then (va_up B.1 B.2.1 (x ^^^ 2 ^ p), B.2.1 + 1, va_up B.2.2 (x ^^^ 2 ^ p) (B.2.2 x + 1)) else B
def b_in (T : TW) (x : Nat) (B : BS) : Nat → BS
  | 0 => B
  | p + 1 => b_st T x p (b_in T x B p)
def b_ini (d : Nat) : BS := ((fun _ => d), 1, fun a => if a = d then 1 else 0)
def b_out (T : TW) (d : Nat) : Nat → BS
  | 0 => b_ini d
  | k + 1 => if k < (b_out T d k).2.1 then b_in T ((b_out T d k).1 k) (b_out T d k) T.1 else b_out T d k
def b_I (T : TW) (d0 : Nat) (B : BS) : Prop := 1 ≤ B.2.1 ∧ (∀ k, k < B.2.1 → B.1 k < 2 ^ T.1 ∧ B.2.2 (B.1 k) ≠ 0) ∧ (∀ d, B.2.2 d ≠ 0 → ∃ k, k < B.2.1 ∧ B.1 k = d) ∧ (∀ i j, i < B.2.1 → j < B.2.1 → B.1 i = B.1 j → i = j) ∧ (∀ d, B.2.2 d ≤ B.2.1) ∧ (∀ d, B.2.2 d ≠ 0 → Rch T d0 d) ∧ B.2.2 d0 ≠ 0
def b_M (B B1 : BS) : Prop := B.2.1 ≤ B1.2.1 ∧ (∀ k, k < B.2.1 → B1.1 k = B.1 k) ∧ ∀ d, B.2.2 d ≠ 0 → B1.2.2 d = B.2.2 d
theorem b_M.rfl' (B : BS) : b_M B B := ⟨Nat.le_refl _, fun _ _ => rfl, fun _ _ => rfl⟩
theorem b_M.trans {A B C : BS} (h : b_M A B) (h2 : b_M B C) : b_M A C := ⟨Nat.le_trans h.1 h2.1, fun k hk => (h2.2.1 k (Nat.lt_of_lt_of_le hk h.1)).trans (h.2.1 k hk), fun d hd => (h2.2.2 d (by rw [h.2.2 d hd]; exact hd)).trans (h.2.2 d hd)⟩
theorem b_M.ne {B B1 : BS} (h : b_M B B1) {d : Nat} (hd : B.2.2 d ≠ 0) : B1.2.2 d ≠ 0 := by rw [h.2.2 d hd]; exact hd
theorem b_st_yes {T : TW} {x p : Nat} {B : BS} (h : (s_rl T x).testBit p = true) (h0 : B.2.2 (x ^^^ 2 ^ p) = 0) : b_st T x p B = (va_up B.1 B.2.1 (x ^^^ 2 ^ p), B.2.1 + 1, va_up B.2.2 (x ^^^ 2 ^ p) (B.2.2 x + 1)) := if_pos ⟨h, h0⟩
theorem b_st_bit {T : TW} {x p : Nat} {B : BS} (h : (s_rl T x).testBit p = false) : b_st T x p B = B := if_neg (fun c => by rw [h] at c; exact absurd c.1 (by decide))
theorem b_st_old {T : TW} {x p : Nat} {B : BS} (h0 : B.2.2 (x ^^^ 2 ^ p) ≠ 0) : b_st T x p B = B := if_neg (fun c => h0 c.2)
theorem up_same {α : Type} (f : Nat → α) (k : Nat) (v : α) : va_up f k v k = v := if_pos rfl
theorem up_ne {α : Type} (f : Nat → α) {k j : Nat} (v : α) (h : j ≠ k) : va_up f k v j = f j := if_neg h
theorem b_st_ok {T : TW} {d0 x p : Nat} {B : BS} (hB : b_I T d0 B) (hp : p < T.1) (hx : x < 2 ^ T.1) (hv : B.2.2 x ≠ 0) : b_I T d0 (b_st T x p B) ∧ b_M B (b_st T x p B) ∧ ((s_rl T x).testBit p = true → (b_st T x p B).2.2 (x ^^^ 2 ^ p) ≠ 0) := by
  cases hb : (s_rl T x).testBit p with
  | false => rw [b_st_bit hb]; exact ⟨hB, b_M.rfl' B, fun c => absurd c (by decide)⟩
  | true =>
    by_cases h0 : B.2.2 (x ^^^ 2 ^ p) = 0
    · rw [b_st_yes hb h0]
      obtain ⟨a1, a2, a3, a4, a5, a6, a7⟩ := hB
      have hz : x ^^^ 2 ^ p < 2 ^ T.1 := Nat.xor_lt_two_pow hx (Nat.pow_lt_pow_right (by decide) hp)
      generalize hze : x ^^^ 2 ^ p = z at h0 hz
      have hxz : x ≠ z := fun e => hv (by rw [e]; exact h0)
      have ed : Ed T x z := ⟨p, hp, hb, hze.symm⟩
      refine ⟨⟨Nat.le_add_left _ _, fun k hk => ?_, fun d hd => ?_, fun i j hi hj e => ?_, fun d => ?_, fun d hd => ?_, ?_⟩, ⟨Nat.le_succ _, fun k hk => up_ne _ _ (by omega), fun d hd => up_ne _ _ (fun e => hd (by rw [e]; exact h0))⟩, fun _ => ?_⟩
      · have hk : k < B.2.1 + 1 := hk
        show va_up B.1 B.2.1 z k < _ ∧ va_up B.2.2 z (B.2.2 x + 1) (va_up B.1 B.2.1 z k) ≠ 0
        by_cases e : k = B.2.1
        · subst e; rw [up_same, up_same]; exact ⟨hz, Nat.succ_ne_zero _⟩
        · rw [up_ne _ _ e]
          have := a2 k (by omega)
          refine ⟨this.1, ?_⟩
          rw [up_ne _ _ (fun e => this.2 (by rw [e]; exact h0))]; exact this.2
      · have hd : va_up B.2.2 z (B.2.2 x + 1) d ≠ 0 := hd
        by_cases e : d = z
        · exact ⟨B.2.1, Nat.lt_succ_self _, by rw [e]; exact up_same _ _ _⟩
        · rw [up_ne _ _ e] at hd
          obtain ⟨k, k1, k2⟩ := a3 d hd
          exact ⟨k, Nat.lt_succ_of_lt k1, by rw [← k2]; exact up_ne _ _ (by omega)⟩
      · have hi : i < B.2.1 + 1 := hi
        have hj : j < B.2.1 + 1 := hj
        have e : va_up B.1 B.2.1 z i = va_up B.1 B.2.1 z j := e
        by_cases ei : i = B.2.1
        · by_cases ej : j = B.2.1
          · omega
          · subst ei
            rw [up_same, up_ne _ _ ej] at e
            exact absurd (by rw [← e]; exact h0) (a2 j (by omega)).2
        · by_cases ej : j = B.2.1
          · subst ej
            rw [up_same, up_ne _ _ ei] at e
            exact absurd (by rw [e]; exact h0) (a2 i (by omega)).2
          · rw [up_ne _ _ ei, up_ne _ _ ej] at e
            exact a4 i j (by omega) (by omega) e
      · show va_up B.2.2 z (B.2.2 x + 1) d ≤ B.2.1 + 1
        by_cases e : d = z
        · subst e; rw [up_same]; have := a5 x; omega
        · rw [up_ne _ _ e]; have := a5 d; omega
      · have hd : va_up B.2.2 z (B.2.2 x + 1) d ≠ 0 := hd
        by_cases e : d = z
        · rw [e]; exact (a6 x hv).step ed
        · rw [up_ne _ _ e] at hd; exact a6 d hd
      · show va_up B.2.2 z (B.2.2 x + 1) d0 ≠ 0
        rw [up_ne _ _ (fun e => a7 (by rw [e]; exact h0))]; exact a7
      · show va_up B.2.2 z (B.2.2 x + 1) z ≠ 0
        rw [up_same]; exact Nat.succ_ne_zero _
    · rw [b_st_old h0]; exact ⟨hB, b_M.rfl' B, fun _ => h0⟩
theorem b_in_ok {T : TW} {d0 x : Nat} {B : BS} (hB : b_I T d0 B) (hx : x < 2 ^ T.1) (hv : B.2.2 x ≠ 0) : ∀ p, p ≤ T.1 → b_I T d0 (b_in T x B p) ∧ b_M B (b_in T x B p) ∧ ∀ q, q < p → (s_rl T x).testBit q = true → (b_in T x B p).2.2 (x ^^^ 2 ^ q) ≠ 0
  | 0, _ => ⟨hB, b_M.rfl' B, fun q hq => absurd hq (Nat.not_lt_zero q)⟩
  | p + 1, h => by
    obtain ⟨i1, i2, i3⟩ := b_in_ok hB hx hv p (by omega)
    obtain ⟨j1, j2, j3⟩ := b_st_ok i1 (show p < T.1 by omega) hx (i2.ne hv)
    refine ⟨j1, i2.trans j2, fun q hq hb => ?_⟩
    by_cases e : q = p
    · subst e; exact j3 hb
    · exact j2.ne (i3 q (by omega) hb)
theorem b_ini_ok {T : TW} {d : Nat} (hd : d < 2 ^ T.1) : b_I T d (b_ini d) := by
  refine ⟨Nat.le_refl _, fun k _ => ⟨hd, ?_⟩, fun a ha => ⟨0, Nat.lt_succ_self 0, ?_⟩, fun i j hi hj _ => ?_, fun a => ?_, fun a ha => ?_, ?_⟩
  · show (if d = d then 1 else 0) ≠ 0
    simp
  · have ha : (if a = d then 1 else 0) ≠ 0 := ha
    by_cases e : a = d
    · exact e.symm
    · rw [if_neg e] at ha; exact absurd rfl ha
  · have hi : i < 1 := hi
    have hj : j < 1 := hj
    omega
  · show (if a = d then 1 else 0) ≤ 1
    by_cases e : a = d
    · rw [if_pos e]; exact Nat.le_refl _
    · rw [if_neg e]; exact Nat.zero_le _
  · have ha : (if a = d then 1 else 0) ≠ 0 := ha
    by_cases e : a = d
    · rw [e]; exact Rch.rfl' T d
    · rw [if_neg e] at ha; exact absurd rfl ha
  · show (if d = d then 1 else 0) ≠ 0
    simp
theorem b_out_ok {T : TW} {d : Nat} (hd : d < 2 ^ T.1) : ∀ k, b_I T d (b_out T d k) ∧ ∀ i, i < k → i < (b_out T d k).2.1 → ∀ p, p < T.1 → (s_rl T ((b_out T d k).1 i)).testBit p = true → (b_out T d k).2.2 ((b_out T d k).1 i ^^^ 2 ^ p) ≠ 0
  | 0 => ⟨b_ini_ok hd, fun i hi => absurd hi (Nat.not_lt_zero i)⟩
  | k + 1 => by
    obtain ⟨i1, i2⟩ := b_out_ok hd k
    by_cases h : k < (b_out T d k).2.1
    · have e : b_out T d (k + 1) = b_in T ((b_out T d k).1 k) (b_out T d k) T.1 := if_pos h
      rw [e]
      have hk := i1.2.1 k h
      obtain ⟨j1, j2, j3⟩ := b_in_ok i1 hk.1 hk.2 T.1 (Nat.le_refl _)
      refine ⟨j1, fun i hi him p hp hb => ?_⟩
      by_cases ei : i = k
      · subst ei
        rw [j2.2.1 i h] at hb ⊢
        exact j3 p hp hb
      · have hik : i < (b_out T d k).2.1 := by omega
        rw [j2.2.1 i hik] at hb ⊢
        exact j2.ne (i2 i (by omega) hik p hp hb)
    · have e : b_out T d (k + 1) = b_out T d k := if_neg h
      rw [e]
      exact ⟨i1, fun i hi him p hp hb => i2 i (by omega) him p hp hb⟩
theorem b_out_stop {T : TW} {d k : Nat} (h : (b_out T d k).2.1 ≤ k) : ∀ j, b_out T d (k + j) = b_out T d k
  | 0 => rfl
  | j + 1 => by
    have ih := b_out_stop h j
    show (if k + j < (b_out T d (k + j)).2.1 then _ else b_out T d (k + j)) = _
    rw [if_neg (by rw [ih]; omega), ih]
theorem b_I.le {T : TW} {d0 : Nat} {B : BS} (h : b_I T d0 B) : B.2.1 ≤ 2 ^ T.1 := fb_holes (2 ^ T.1) B.2.1 B.1 (fun i hi => (h.2.1 i hi).1) (fun i j hij hj e => by have := h.2.2.2.1 i j (by omega) hj e; omega)
/-- the whole search -/
def b_all (T : TW) (d : Nat) : BS := b_out T d (2 ^ T.1)
theorem b_all_I {T : TW} {d : Nat} (hd : d < 2 ^ T.1) : b_I T d (b_all T d) := (b_out_ok hd _).1
theorem b_all_end {T : TW} {d k : Nat} (h : (b_out T d k).2.1 ≤ k) (hk : k ≤ 2 ^ T.1) : b_out T d k = b_all T d := by
  have := b_out_stop h (2 ^ T.1 - k)
  rw [show k + (2 ^ T.1 - k) = 2 ^ T.1 by omega] at this
  exact this.symm
theorem b_all_rch {T : TW} {d z : Nat} (hd : d < 2 ^ T.1) : (b_all T d).2.2 z ≠ 0 ↔ Rch T d z := by
  obtain ⟨i1, i2⟩ := b_out_ok hd (2 ^ T.1)
  refine ⟨i1.2.2.2.2.2.1 z, fun h => ?_⟩
  refine h (fun z => (b_all T d).2.2 z ≠ 0) i1.2.2.2.2.2.2 (fun a b ha e => ?_)
  obtain ⟨k, k1, k2⟩ := i1.2.2.1 a ha
  obtain ⟨p, hp, hb, rfl⟩ := e
  have := i2 k (Nat.lt_of_lt_of_le k1 i1.le) k1 p hp (by rw [k2]; exact hb)
  rw [k2] at this
  exact this
