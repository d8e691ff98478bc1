noncomputable def r_t (f : Nat → Nat) (x : Nat) : Nat := Classical.epsilon (fun t => IsTail f x t)
noncomputable def r_l (f : Nat → Nat) (x : Nat) : Nat := Classical.epsilon (fun l => IsLen f (it f (r_t f x) x) l)
noncomputable def r_m (f : Nat → Nat) (x : Nat) : Nat := Classical.epsilon (fun m => IsLeast f (it f (r_t f x) x) m)
section Ring2
variable {f : Nat → Nat} {N : Nat}
theorem r_all (hf : ∀ x, x < N → f x < N) {x : Nat} (hx : x < N) : IsTail f x (r_t f x) ∧ IsLen f (it f (r_t f x) x) (r_l f x) ∧ IsLeast f (it f (r_t f x) x) (r_m f x) ∧ r_t f x < N ∧ r_m f x < N ∧ r_l f x ≤ N := by
  obtain ⟨s, t, t1, s1, e, inj⟩ := run_first hf hx
  obtain ⟨h1, h2⟩ := run_tail t1 e inj
  have e1 : IsTail f x (r_t f x) := Classical.epsilon_spec ⟨t, h1⟩
  have et := e1.uniq h1
  have e2 : IsLen f (it f (r_t f x) x) (r_l f x) := Classical.epsilon_spec ⟨s - t, by rw [et]; exact h2⟩
  have e3 : IsLeast f (it f (r_t f x) x) (r_m f x) := Classical.epsilon_spec ⟨_, e2.least⟩
  refine ⟨e1, e2, e3, by omega, ?_, e2.le hf (it_lt hf hx _)⟩
  obtain ⟨k, hk⟩ := e3.1
  rw [← hk]
  exact it_lt hf (it_lt hf hx _) k
theorem r_on (hf : ∀ x, x < N → f x < N) {x : Nat} (hx : x < N) (h : s_on f x) : r_t f x = 0 ∧ IsLen f x (r_l f x) ∧ IsLeast f x (r_m f x) := by
  obtain ⟨h1, h2, h3, _⟩ := r_all hf hx
  have e := h1.uniq (IsTail.zero h)
  rw [e] at h2 h3
  exact ⟨e, h2, h3⟩
theorem r_off (hf : ∀ x, x < N → f x < N) {x : Nat} (hx : x < N) (h : ¬ s_on f x) : r_t f x = r_t f (f x) + 1 ∧ r_m f x = r_m f (f x) := by
  obtain ⟨h1, h2, h3, _⟩ := r_all hf hx
  obtain ⟨g1, g2, g3, _⟩ := r_all hf (hf x hx)
  have e := h1.uniq (IsTail.succ h g1)
  refine ⟨e, ?_⟩
  rw [e, it_succ] at h3
  exact h3.uniq g3
/-- the least number of a ring is its own -/
theorem r_m_self (hf : ∀ x, x < N → f x < N) {x : Nat} (hx : x < N) : s_on f (r_m f x) ∧ r_m f (r_m f x) = r_m f x ∧ r_t f (r_m f x) = 0 ∧ r_l f (r_m f x) = r_l f x := by
  obtain ⟨h1, h2, h3, h4, h5, h6⟩ := r_all hf hx
  obtain ⟨o1, o2⟩ := h3.on h1.1
  obtain ⟨p1, p2, p3⟩ := r_on hf h5 o1
  refine ⟨o1, p3.uniq o2, p1, ?_⟩
  obtain ⟨k, hk⟩ := h3.1
  have := h2.shift k
  rw [hk] at this
  exact p2.uniq this
theorem r_m_le (hf : ∀ x, x < N → f x < N) {x : Nat} (hx : x < N) (h : s_on f x) : r_m f x ≤ x := (r_on hf hx h).2.2.2 0
theorem RingsOK.get {ro tl : Nat → Int32} (hf : ∀ x, x < N → f x < N) (h : RingsOK f N ro tl) {d : Nat} (hd : d < N) : tl d = nI (r_t f d) ∧ ro d = nI (r_m f d) := by
  obtain ⟨t, m, _, _, h1, h2, h3, h4⟩ := h d hd
  obtain ⟨g1, _, g3, _⟩ := r_all hf hd
  have et := h1.uniq g1
  rw [et] at h2 h3
  have em := h2.uniq g3
  rw [em] at h4
  exact ⟨h3, h4⟩
theorem RingsOK.of {ro tl : Nat → Int32} (hf : ∀ x, x < N → f x < N) (h : ∀ d, d < N → tl d = nI (r_t f d) ∧ ro d = nI (r_m f d)) : RingsOK f N ro tl := fun d hd => by
  obtain ⟨g1, g2, g3, g4, g5, _⟩ := r_all hf hd
  exact ⟨_, _, g4, g5, g1, g3, (h d hd).1, (h d hd).2⟩
/-! taking off what is on no ring -/
def prc (q : Nat → Nat) : Nat → Nat → Bool
  | 0, _ => false
  | i + 1, x => prc q i x || decide (q i = x)
theorem prc_iff {q : Nat → Nat} : ∀ {i x : Nat}, prc q i x = true ↔ ∃ j, j < i ∧ q j = x
  | 0, x => ⟨fun h => absurd h (by simp [prc]), fun ⟨j, hj, _⟩ => absurd hj (Nat.not_lt_zero j)⟩
  | i + 1, x => by
    unfold prc
    rw [Bool.or_eq_true, prc_iff, decide_eq_true_eq]
    constructor
    · rintro (⟨j, h1, h2⟩ | h)
      · exact ⟨j, by omega, h2⟩
      · exact ⟨i, by omega, h⟩
    · rintro ⟨j, h1, h2⟩
      by_cases e : j = i
      · subst e; exact Or.inr h2
      · exact Or.inl ⟨j, by omega, h2⟩
theorem prc_up {q : Nat → Nat} {m z : Nat} : ∀ {i x : Nat}, i ≤ m → prc (va_up q m z) i x = prc q i x
  | 0, _, _ => rfl
  | i + 1, x, h => by
    unfold prc
    rw [prc_up (i := i) (by omega), up_ne _ _ (by omega)]
def k_c (f : Nat → Nat) (N : Nat) (q : Nat → Nat) (i d : Nat) : Nat := s_ct (fun x => decide (f x = d) && !prc q i x) N
def k_K (f : Nat → Nat) (N : Nat) (i m : Nat) (q : Nat → Nat) : Prop := i ≤ m ∧ (∀ k, k < m → q k < N) ∧ (∀ j k, j < m → k < m → q j = q k → j = k) ∧ (∀ d, d < N → (k_c f N q i d = 0 ↔ ∃ k, k < m ∧ q k = d)) ∧ (∀ k, k < m → ∀ x, x < N → f x = q k → ∃ j, j < k ∧ q j = x)
theorem k_K.le {i m : Nat} {q : Nat → Nat} (h : k_K f N i m q) : m ≤ N := fb_holes N m q h.2.1 (fun j k hjk hk e => by have := h.2.2.1 j k (by omega) hk e; omega)
theorem k_c_step {i m : Nat} {q : Nat → Nat} (h : k_K f N i m q) (hi : i < m) (d : Nat) : k_c f N q i d = k_c f N q (i + 1) d + (if f (q i) = d then 1 else 0) := by
  have hq := h.2.1 i hi
  have hnp : prc q i (q i) = false := by
    cases hp : prc q i (q i) with
    | false => rfl
    | true =>
      obtain ⟨j, j1, j2⟩ := prc_iff.mp hp
      have := h.2.2.1 j i (by omega) hi j2
      omega
  have one : s_ct (fun x => decide (f x = d) && decide (x = q i)) N = if f (q i) = d then 1 else 0 := by
    by_cases e : f (q i) = d
    · rw [if_pos e]
      exact s_ct_one (fun a b _ _ ha hb => by simp at ha hb; omega) ⟨q i, hq, by simp [e]⟩
    · rw [if_neg e]
      exact s_ct_zero.mpr (fun x _ => by
        by_cases ex : x = q i
        · subst ex; simp [e]
        · simp [ex])
  rw [← one]
  unfold k_c
  refine (s_ct_add (fun x hx => ⟨fun hx1 => ?_, ?_⟩)).symm
  · simp [prc] at hx1
    simp
    intro _ e
    exact hx1.2.2 e.symm
  · rw [show prc q (i + 1) x = (prc q i x || decide (q i = x)) from rfl]
    by_cases e : x = q i
    · subst e; simp [hnp]
    · simp [show ¬ q i = x from fun c => e c.symm, e]
theorem k_c_pos {i m : Nat} {q : Nat → Nat} (h : k_K f N i m q) (hi : i < m) : 1 ≤ k_c f N q i (f (q i)) := by
  rw [k_c_step h hi, if_pos rfl]; omega
/-- one more is off: its follower's count falls; if it is 0 then, the follower is off, too -/
theorem k_step_in {i m : Nat} {q : Nat → Nat} (hf : ∀ x, x < N → f x < N) (h : k_K f N i m q) (hi : i < m) (h0 : k_c f N q (i + 1) (f (q i)) = 0) : k_K f N (i + 1) (m + 1) (va_up q m (f (q i))) := by
  have hz := hf _ (h.2.1 i hi)
  have hpos := k_c_pos h hi
  have hnew : ¬ ∃ k, k < m ∧ q k = f (q i) := fun e => by have := (h.2.2.2.1 _ hz).mpr e; omega
  have stp := k_c_step h hi
  obtain ⟨a1, a2, a3, a4, a5⟩ := h
  have ce : ∀ d, k_c f N (va_up q m (f (q i))) (i + 1) d = k_c f N q (i + 1) d := fun d => by
    unfold k_c
    congr 1
    funext x
    rw [prc_up (by omega)]
  refine ⟨by omega, fun k hk => ?_, fun j k hj hk e => ?_, fun d hd => ?_, fun k hk x hx e => ?_⟩
  · by_cases ek : k = m
    · rw [ek, up_same]; exact hz
    · rw [up_ne _ _ ek]; exact a2 k (by omega)
  · by_cases ej : j = m
    · by_cases ek : k = m
      · omega
      · rw [ej, up_same, up_ne _ _ ek] at e
        exact absurd ⟨k, by omega, e.symm⟩ hnew
    · by_cases ek : k = m
      · rw [ek, up_same, up_ne _ _ ej] at e
        exact absurd ⟨j, by omega, e⟩ hnew
      · rw [up_ne _ _ ej, up_ne _ _ ek] at e
        exact a3 j k (by omega) (by omega) e
  · rw [ce d]
    by_cases ed : d = f (q i)
    · subst ed
      exact ⟨fun _ => ⟨m, by omega, up_same _ _ _⟩, fun _ => h0⟩
    · have := stp d
      rw [if_neg (fun c => ed c.symm), Nat.add_zero] at this
      rw [← this, a4 d hd]
      constructor
      · rintro ⟨k, k1, k2⟩; exact ⟨k, by omega, by rw [up_ne _ _ (by omega)]; exact k2⟩
      · rintro ⟨k, k1, k2⟩
        by_cases ek : k = m
        · rw [ek, up_same] at k2; exact absurd k2.symm ed
        · rw [up_ne _ _ ek] at k2; exact ⟨k, by omega, k2⟩
  · by_cases ek : k = m
    · subst ek
      rw [up_same] at e
      have hz0 := s_ct_zero.mp h0 x hx
      have hp : prc q (i + 1) x = true := by
        cases hp : prc q (i + 1) x with
        | true => rfl
        | false => simp [e, hp] at hz0
      obtain ⟨j, j1, j2⟩ := prc_iff.mp hp
      exact ⟨j, by omega, by rw [up_ne _ _ (by omega)]; exact j2⟩
    · rw [up_ne _ _ ek] at e
      obtain ⟨j, j1, j2⟩ := a5 k (by omega) x hx e
      exact ⟨j, j1, by rw [up_ne _ _ (by omega)]; exact j2⟩
theorem k_step_out {i m : Nat} {q : Nat → Nat} (hf : ∀ x, x < N → f x < N) (h : k_K f N i m q) (hi : i < m) (h0 : k_c f N q (i + 1) (f (q i)) ≠ 0) : k_K f N (i + 1) m q := by
  have hz := hf _ (h.2.1 i hi)
  have hpos := k_c_pos h hi
  have hnew : ¬ ∃ k, k < m ∧ q k = f (q i) := fun e => by have := (h.2.2.2.1 _ hz).mpr e; omega
  have stp := k_c_step h hi
  obtain ⟨a1, a2, a3, a4, a5⟩ := h
  refine ⟨hi, a2, a3, fun d hd => ?_, a5⟩
  by_cases ed : d = f (q i)
  · subst ed
    exact ⟨fun c => absurd c h0, fun c => absurd c hnew⟩
  · have := stp d
    rw [if_neg (fun c => ed c.symm), Nat.add_zero] at this
    rw [← this]; exact a4 d hd
/-- a sum of fibres -/
theorem s_sm_fib {g : Nat → Bool} {f : Nat → Nat} {C : Nat} : ∀ {n : Nat}, (∀ x, x < n → f x < C) → s_sm (fun c => s_ct (fun x => decide (f x = c) && g x) n) C = s_ct g n
  | 0, _ => by
    have : ∀ C, s_sm (fun c => s_ct (fun x => decide (f x = c) && g x) 0) C = 0 := by
      intro C
      induction C with
      | zero => rfl
      | succ C ih => show s_sm _ C + 0 = 0; rw [ih]
    exact this C
  | n + 1, h => by
    have ih := s_sm_fib (g := g) (f := f) (C := C) (n := n) (fun x hx => h x (by omega))
    have hn := h n (by omega)
    have step : ∀ C', s_sm (fun c => s_ct (fun x => decide (f x = c) && g x) (n + 1)) C' = s_sm (fun c => s_ct (fun x => decide (f x = c) && g x) n) C' + (if f n < C' ∧ g n = true then 1 else 0) := by
      intro C'
      induction C' with
      | zero => simp [s_sm]
      | succ C' ih2 =>
        show s_sm (fun c => s_ct (fun x => decide (f x = c) && g x) (n + 1)) C' + s_ct (fun x => decide (f x = C') && g x) (n + 1) = (s_sm (fun c => s_ct (fun x => decide (f x = c) && g x) n) C' + s_ct (fun x => decide (f x = C') && g x) n) + _
        rw [ih2]
        cases hg : g n with
        | false => rw [s_ct_succ_no (by simp [hg])]; simp
        | true =>
          by_cases e : f n = C'
          · rw [s_ct_succ_yes (by simp [e, hg]), if_neg (by omega), if_pos ⟨by omega, rfl⟩]; omega
          · rw [s_ct_succ_no (by simp [e])]
            by_cases h2 : f n < C'
            · rw [if_pos ⟨h2, rfl⟩, if_pos ⟨by omega, rfl⟩]; omega
            · rw [if_neg (by omega), if_neg (by omega)]; omega
    rw [step C, ih]
    cases hg : g n with
    | true => rw [if_pos ⟨hn, rfl⟩, s_ct_succ_yes hg]
    | false => rw [if_neg (by simp), s_ct_succ_no hg, Nat.add_zero]
theorem s_sm_squeeze {a b : Nat → Nat} : ∀ {n : Nat}, (∀ k, k < n → b k ≤ a k) → s_sm a n = s_sm b n → ∀ k, k < n → a k = b k
  | 0, _, _, k, hk => absurd hk (Nat.not_lt_zero k)
  | n + 1, h, e, k, hk => by
    have mono : ∀ m, m ≤ n → s_sm b m ≤ s_sm a m := by
      intro m
      induction m with
      | zero => intro _; exact Nat.le_refl _
      | succ m ih => intro hm; have := ih (by omega); have := h m (by omega); show s_sm b m + b m ≤ s_sm a m + a m; omega
    have h1 := mono n (Nat.le_refl _)
    have h2 := h n (by omega)
    have e : s_sm a n + a n = s_sm b n + b n := e
    by_cases ek : k = n
    · subst ek; omega
    · exact s_sm_squeeze (n := n) (fun k hk => h k (by omega)) (by omega) k (by omega)
theorem s_ct_uniq {g : Nat → Bool} : ∀ {n : Nat}, s_ct g n ≤ 1 → ∀ i j, i < n → j < n → g i = true → g j = true → i = j
  | 0, _, i, _, hi, _, _, _ => absurd hi (Nat.not_lt_zero i)
  | n + 1, h, i, j, hi, hj, gi, gj => by
    cases hg : g n with
    | true =>
      rw [s_ct_succ_yes hg] at h
      have hz := s_ct_zero.mp (show s_ct g n = 0 by omega)
      have ei : i = n := by
        apply Classical.byContradiction; intro c
        rw [hz i (by omega)] at gi; exact absurd gi (by decide)
      have ej : j = n := by
        apply Classical.byContradiction; intro c
        rw [hz j (by omega)] at gj; exact absurd gj (by decide)
      omega
    | false =>
      rw [s_ct_succ_no hg] at h
      have ni : i ≠ n := fun c => by rw [c, hg] at gi; exact absurd gi (by decide)
      have nj : j ≠ n := fun c => by rw [c, hg] at gj; exact absurd gj (by decide)
      exact s_ct_uniq (n := n) h i j (by omega) (by omega) gi gj
/-- at the end: off is what is on no ring -/
theorem k_end (hf : ∀ x, x < N → f x < N) {m : Nat} {q : Nat → Nat} (h : k_K f N m m q) {d : Nat} (hd : d < N) : (prc q m d = true ↔ ¬ s_on f d) ∧ (k_c f N q m d = 0 ↔ prc q m d = true) := by
  have zero : ∀ d, d < N → (k_c f N q m d = 0 ↔ prc q m d = true) := fun d hd => by rw [h.2.2.2.1 d hd, prc_iff]
  -- from what is left one comes to what is left
  have stay : ∀ x, x < N → prc q m x = false → prc q m (f x) = false := by
    intro x hx hp
    cases hz : prc q m (f x) with
    | false => rfl
    | true =>
      have := s_ct_zero.mp ((zero _ (hf x hx)).mpr hz) x hx
      simp [hp] at this
  have ones : ∀ d, d < N → k_c f N q m d = if prc q m d then 0 else 1 := by
    refine s_sm_squeeze (fun k hk => ?_) ?_
    · cases hp : prc q m k with
      | true => exact Nat.zero_le _
      | false =>
        have : k_c f N q m k ≠ 0 := fun e => by rw [(zero k hk).mp e] at hp; exact absurd hp (by decide)
        simp; omega
    · have e1 := s_sm_fib (g := fun x => !prc q m x) (f := f) (C := N) (n := N) hf
      have e2 := s_sm_ind (fun x => !prc q m x) N
      show s_sm (fun d => k_c f N q m d) N = _
      unfold k_c
      rw [e1, ← e2]
      exact s_sm_cong (fun k _ => by cases prc q m k <;> rfl)
  have inj : ∀ x y, x < N → y < N → prc q m x = false → prc q m y = false → f x = f y → x = y := by
    intro x y hx hy px py e
    have h1 := ones (f x) (hf x hx)
    rw [stay x hx px] at h1
    have h1 : s_ct (fun z => decide (f z = f x) && !prc q m z) N = 1 := h1
    exact s_ct_uniq (g := fun z => decide (f z = f x) && !prc q m z) (by omega) x y hx hy (by simp [px]) (by simp [py, e])
  have left : ∀ k x, x < N → prc q m x = false → prc q m (it f k x) = false := by
    intro k
    induction k with
    | zero => intro x _ hp; exact hp
    | succ k ih => intro x hx hp; exact stay _ (it_lt hf hx k) (ih x hx hp)
  have on : ∀ x, x < N → prc q m x = false → s_on f x := by
    intro x hx hp
    obtain ⟨s, t, t1, _, e, _⟩ := run_first hf hx
    -- both ways back, step by step
    have back : ∀ a b, it f a x = it f (a + b) x → x = it f b x := by
      intro a
      induction a with
      | zero => intro b e; rw [Nat.zero_add] at e; exact e
      | succ a ih =>
        intro b e
        refine ih b (inj _ _ (it_lt hf hx _) (it_lt hf hx _) (left _ x hx hp) (left _ x hx hp) ?_)
        have e2 : a + 1 + b = (a + b) + 1 := by omega
        rw [e2] at e
        exact e
    exact ⟨s - t, by omega, (back t (s - t) (by rw [show t + (s - t) = s by omega]; exact e.symm)).symm⟩
  have off : ∀ k, k < m → ¬ s_on f (q k) := by
    intro k
    induction k using Nat.strongRecOn with
    | _ k ih =>
      intro hk hon
      obtain ⟨n, n1, n2⟩ := id hon
      obtain ⟨n', rfl⟩ : ∃ n', n = n' + 1 := ⟨n - 1, by omega⟩
      obtain ⟨j, j1, j2⟩ := h.2.2.2.2 k hk (it f n' (q k)) (it_lt hf (h.2.1 k hk) n') n2
      exact ih j j1 (by omega) (by rw [j2]; exact s_on_it hon n')
  refine ⟨⟨fun hp => ?_, fun hn => ?_⟩, zero d hd⟩
  · obtain ⟨k, k1, k2⟩ := prc_iff.mp hp
    rw [← k2]; exact off k k1
  · cases hp : prc q m d with
    | true => rfl
    | false => exact absurd (on d hd hp) hn
end Ring2
