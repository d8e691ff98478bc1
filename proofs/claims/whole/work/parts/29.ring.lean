/-! runs and rings of a map on numbers below N -/
section RingT
variable {f : Nat → Nat} {N : Nat}
theorem it_add (f : Nat → Nat) (a : Nat) : ∀ b x, it f (a + b) x = it f b (it f a x)
  | 0, _ => rfl
  | b + 1, x => by show f (it f (a + b) x) = f (it f b (it f a x)); rw [it_add f a b x]
theorem it_succ (f : Nat → Nat) (k x : Nat) : it f (k + 1) x = it f k (f x) := by
  have := it_add f 1 k x
  rw [Nat.add_comm 1 k] at this
  exact this
theorem it_per {p y : Nat} (h : it f p y = y) : ∀ m, it f (m * p) y = y
  | 0 => by rw [Nat.zero_mul]; rfl
  | m + 1 => by rw [Nat.succ_mul, it_add, it_per h m, h]
theorem it_mod {p y : Nat} (hp : 1 ≤ p) (h : it f p y = y) (n : Nat) : it f n y = it f (n % p) y := by
  have e : n = (n / p) * p + n % p := by rw [Nat.mul_comm]; exact (Nat.div_add_mod n p).symm
  have := it_add f ((n / p) * p) (n % p) y
  rw [← e, it_per h] at this
  exact this
theorem s_on_next {x : Nat} (h : s_on f x) : s_on f (f x) := by
  obtain ⟨k, k1, k2⟩ := h
  refine ⟨k, k1, ?_⟩
  rw [← it_succ]
  show f (it f k x) = f x
  rw [k2]
theorem s_on_it {x : Nat} (h : s_on f x) : ∀ k, s_on f (it f k x)
  | 0 => h
  | k + 1 => s_on_next (s_on_it h k)
theorem IsTail.uniq {x t u : Nat} (h : IsTail f x t) (h2 : IsTail f x u) : t = u := by
  rcases Nat.lt_trichotomy t u with c | c | c
  · exact absurd h.1 (h2.2 t c)
  · exact c
  · exact absurd h2.1 (h.2 u c)
theorem IsLen.uniq {y l k : Nat} (h : IsLen f y l) (h2 : IsLen f y k) : l = k := by
  rcases Nat.lt_trichotomy l k with c | c | c
  · exact absurd h.2.1 (h2.2.2 l h.1 c)
  · exact c
  · exact absurd h2.2.1 (h.2.2 k h2.1 c)
theorem IsLeast.uniq {y l k : Nat} (h : IsLeast f y l) (h2 : IsLeast f y k) : l = k := by
  obtain ⟨a, ha⟩ := h.1
  obtain ⟨b, hb⟩ := h2.1
  have h3 := h.2 b
  have h4 := h2.2 a
  omega
theorem s_on_len {y : Nat} (h : s_on f y) : ∃ l, IsLen f y l := by
  obtain ⟨l, ⟨l1, l2⟩, l3⟩ := pk_least (fun k => 1 ≤ k ∧ it f k y = y) h
  exact ⟨l, l1, l2, fun k k1 k2 e => l3 k k2 ⟨k1, e⟩⟩
/-- the numbers of one turn are all apart: a ring is no longer than N -/
theorem IsLen.inj {y l : Nat} (h : IsLen f y l) {i j : Nat} (hi : i < l) (hj : j < l) (e : it f i y = it f j y) : i = j := by
  have key : ∀ i j, i < j → j < l → it f i y ≠ it f j y := by
    intro i j hij hj e
    have h1 : it f (l - j) (it f j y) = y := by rw [← it_add, show j + (l - j) = l by omega]; exact h.2.1
    rw [← e, ← it_add] at h1
    exact h.2.2 (i + (l - j)) (by omega) (by omega) h1
  rcases Nat.lt_trichotomy i j with c | c | c
  · exact absurd e (key i j c hj)
  · exact c
  · exact absurd e.symm (key j i c hi)
theorem IsLen.le (hf : ∀ x, x < N → f x < N) {y l : Nat} (hy : y < N) (h : IsLen f y l) : l ≤ N :=
  fb_holes N l (fun i => it f i y) (fun i _ => it_lt hf hy i) (fun i j hij hj e => by have := h.inj (show i < l by omega) hj e; omega)
/-- the first number that was there before -/
theorem run_first (hf : ∀ x, x < N → f x < N) {x : Nat} (hx : x < N) : ∃ s t, t < s ∧ s ≤ N ∧ it f s x = it f t x ∧ ∀ i j, i < s → j < s → it f i x = it f j x → i = j := by
  have h : ∃ s, ∃ t, t < s ∧ it f s x = it f t x := by
    obtain ⟨i, j, h1, h2, h3⟩ := fb_twice (m := N) (n := N + 1) (f := fun i => it f i x) (fun i _ => it_lt hf hx i) (by omega)
    exact ⟨j, i, h1, h3.symm⟩
  obtain ⟨s, ⟨t, t1, t2⟩, s3⟩ := pk_least _ h
  have inj : ∀ i j, i < s → j < s → it f i x = it f j x → i = j := by
    intro i j hi hj e
    rcases Nat.lt_trichotomy i j with c | c | c
    · exact absurd ⟨i, c, e.symm⟩ (s3 j hj)
    · exact c
    · exact absurd ⟨j, c, e⟩ (s3 i hi)
  refine ⟨s, t, t1, ?_, t2, inj⟩
  exact fb_holes N s (fun i => it f i x) (fun i _ => it_lt hf hx i) (fun i j hij hj e => by have := inj i j (by omega) hj e; omega)
theorem run_tail {x s t : Nat} (ht : t < s) (e : it f s x = it f t x) (inj : ∀ i j, i < s → j < s → it f i x = it f j x → i = j) : IsTail f x t ∧ IsLen f (it f t x) (s - t) := by
  have per : it f (s - t) (it f t x) = it f t x := by rw [← it_add, show t + (s - t) = s by omega]; exact e
  refine ⟨⟨⟨s - t, by omega, per⟩, fun j hj hon => ?_⟩, by omega, per, fun k k1 k2 ek => ?_⟩
  · obtain ⟨k, k1, k2⟩ := hon
    -- it f j x comes back, so it is among the numbers of the ring, which begins later
    have h1 : it f (j + t * k) x = it f j x := by rw [it_add, it_per k2]
    have h2 : j + t * k = t + (j + t * k - t) := by
      have : t ≤ t * k := Nat.le_mul_of_pos_right t (by omega)
      omega
    have h3 : it f (j + t * k) x = it f ((j + t * k - t) % (s - t)) (it f t x) := by
      rw [h2, it_add, it_mod (by omega) per, show t + (j + t * k - t) - t = j + t * k - t by omega]
    have h4 := Nat.mod_lt (j + t * k - t) (show 0 < s - t by omega)
    rw [h1, ← it_add] at h3
    have := inj _ _ (by omega) (by omega) h3
    omega
  · rw [← it_add] at ek
    have := inj _ _ (by omega) (by omega) ek
    omega
/-- the least number of a ring -/
def s_lo (f : Nat → Nat) (y : Nat) : Nat → Nat
  | 0 => y
  | k + 1 => if s_lo f y k ≤ it f (k + 1) y then s_lo f y k else it f (k + 1) y
theorem s_lo_ok (f : Nat → Nat) (y : Nat) : ∀ k, (∃ i, i ≤ k ∧ it f i y = s_lo f y k) ∧ ∀ i, i ≤ k → s_lo f y k ≤ it f i y
  | 0 => ⟨⟨0, Nat.le_refl _, rfl⟩, fun i hi => by rw [show i = 0 by omega]; exact Nat.le_refl _⟩
  | k + 1 => by
    obtain ⟨⟨i, i1, i2⟩, h2⟩ := s_lo_ok f y k
    by_cases h : s_lo f y k ≤ it f (k + 1) y
    · have e : s_lo f y (k + 1) = s_lo f y k := if_pos h
      rw [e]
      refine ⟨⟨i, by omega, i2⟩, fun j hj => ?_⟩
      by_cases ej : j = k + 1
      · rw [ej]; exact h
      · exact h2 j (by omega)
    · have e : s_lo f y (k + 1) = it f (k + 1) y := if_neg h
      rw [e]
      refine ⟨⟨k + 1, Nat.le_refl _, rfl⟩, fun j hj => ?_⟩
      by_cases ej : j = k + 1
      · rw [ej]; exact Nat.le_refl _
      · have := h2 j (by omega); omega
theorem IsLen.least {y l : Nat} (h : IsLen f y l) : IsLeast f y (s_lo f y (l - 1)) := by
  obtain ⟨⟨i, _, i2⟩, h2⟩ := s_lo_ok f y (l - 1)
  refine ⟨⟨i, i2⟩, fun k => ?_⟩
  rw [it_mod h.1 h.2.1 k]
  have := Nat.mod_lt k (show 0 < l from h.1)
  exact h2 _ (by omega)
theorem IsLeast.shift {y m : Nat} (hon : s_on f y) (h : IsLeast f y m) (k : Nat) : IsLeast f (it f k y) m := by
  obtain ⟨p, p1, p2⟩ := hon
  obtain ⟨⟨i, hi⟩, h2⟩ := h
  refine ⟨⟨(k * p - k) + i, ?_⟩, fun j => by rw [← it_add]; exact h2 _⟩
  have : k ≤ k * p := Nat.le_mul_of_pos_right k (by omega)
  rw [← it_add, show k + ((k * p - k) + i) = k * p + i by omega, it_add, it_per p2]
  exact hi
theorem IsLeast.on {y m : Nat} (hon : s_on f y) (h : IsLeast f y m) : s_on f m ∧ IsLeast f m m := by
  obtain ⟨i, hi⟩ := h.1
  rw [← hi]
  refine ⟨s_on_it hon i, ?_⟩
  have := h.shift hon i
  rw [hi] at this ⊢
  exact this
theorem IsLen.shift {y l : Nat} (h : IsLen f y l) (k : Nat) : IsLen f (it f k y) l := by
  have back : ∀ {a b : Nat}, it f a y = it f b y → it f (a % l) y = it f (b % l) y := fun {a b} e => by
    rw [← it_mod h.1 h.2.1 a, ← it_mod h.1 h.2.1 b]; exact e
  refine ⟨h.1, ?_, fun j j1 j2 e => ?_⟩
  · rw [← it_add, Nat.add_comm, it_add, h.2.1]
  · rw [← it_add] at e
    have e2 := back e
    have h1 := Nat.mod_lt (k + j) (show 0 < l from h.1)
    have h2 := Nat.mod_lt k (show 0 < l from h.1)
    have e3 := h.inj h1 h2 e2
    have e4 : (k + j) % l = (k % l + j) % l := by rw [Nat.mod_add_mod]
    by_cases c : k % l + j < l
    · rw [e4, Nat.mod_eq_of_lt c] at e3; omega
    · have : k % l + j = l + (k % l + j - l) := by omega
      rw [e4, this, Nat.add_mod_left, Nat.mod_eq_of_lt (by omega)] at e3
      omega
theorem IsTail.zero {x : Nat} (h : s_on f x) : IsTail f x 0 := ⟨h, fun j hj => absurd hj (Nat.not_lt_zero j)⟩
theorem IsTail.succ {x t : Nat} (h : ¬ s_on f x) (h2 : IsTail f (f x) t) : IsTail f x (t + 1) := by
  refine ⟨by rw [it_succ]; exact h2.1, fun j hj => ?_⟩
  cases j with
  | zero => exact h
  | succ j => rw [it_succ]; exact h2.2 j (by omega)
end RingT
