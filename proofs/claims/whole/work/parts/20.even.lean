/-! counts, even towns, heat -/
theorem s_cnt_split (g : Nat → Bool) (a : Nat) : ∀ k, s_cnt g (a + k) = s_cnt g a + s_cnt (fun o => g (a + o)) k
  | 0 => (Int32.add_zero _).symm
  | k + 1 => by
    have ih := s_cnt_split g a k
    show (if g (a + k) then s_cnt g (a + k) + 1 else s_cnt g (a + k)) = s_cnt g a + (if g (a + k) then s_cnt (fun o => g (a + o)) k + 1 else s_cnt (fun o => g (a + o)) k)
    by_cases h : g (a + k) = true
    · rw [if_pos h, if_pos h, ih, Int32.add_assoc]
    · rw [if_neg h, if_neg h, ih]
theorem s_cnt_tail {f : Nat → Bool} {n : Nat} : ∀ k, (∀ i, n ≤ i → i < n + k → f i = false) → s_cnt f (n + k) = s_cnt f n
  | 0, _ => rfl
  | k + 1, h => by
    show (if f (n + k) then s_cnt f (n + k) + 1 else s_cnt f (n + k)) = _
    rw [if_neg (by rw [h (n + k) (by omega) (by omega)]; decide)]
    exact s_cnt_tail k (fun i h1 h2 => h i h1 (by omega))
theorem s_cnt_cong {f g : Nat → Bool} : ∀ {n : Nat}, (∀ k, k < n → f k = g k) → s_cnt f n = s_cnt g n
  | 0, _ => rfl
  | n + 1, h => by
    unfold s_cnt
    rw [s_cnt_cong (n := n) (fun k hk => h k (by omega)), h n (by omega)]
section EvenC
variable {E F : ET} {M MX MM : Mem} {T : TW} {P : PW} {v : Nat}
theorem s_ties_100 (hw : s_WF T) {g : Nat → Bool} (hg : ∀ p o, p < 10 → o < 10 → g (10 * p + o) = decide (¬ T.2.1 p o ≤ 0)) : s_cnt g 100 = s_ties T T.1 := by
  have h10 := hw.1.2
  have row : ∀ p, p < 10 → s_cnt (fun o => g (10 * p + o)) 10 = s_cnt (fun o => decide (¬ T.2.1 p o ≤ 0)) T.1 := by
    intro p hp
    rw [s_cnt_cong (g := fun o => decide (¬ T.2.1 p o ≤ 0)) (fun k hk => hg p k hp hk)]
    have := s_cnt_tail (f := fun o => decide (¬ T.2.1 p o ≤ 0)) (n := T.1) (10 - T.1) (fun i h1 h2 => by
      rw [hw.2.2.1 p i hp (by omega) (Or.inr h1)]; rfl)
    rwa [show T.1 + (10 - T.1) = 10 by omega] at this
  have up : ∀ p, p ≤ T.1 → s_cnt g (10 * p) = s_ties T p := by
    intro p
    induction p with
    | zero => intro _; rfl
    | succ p ih =>
      intro hp
      rw [show 10 * (p + 1) = 10 * p + 10 by omega, s_cnt_split, ih (by omega), row p (by omega)]
      rfl
  have tail : s_cnt g (10 * T.1 + (100 - 10 * T.1)) = s_cnt g (10 * T.1) := by
    refine s_cnt_tail _ (fun i h1 h2 => ?_)
    have e : i = 10 * (i / 10) + i % 10 := by omega
    rw [e, hg (i / 10) (i % 10) (by omega) (by omega), hw.2.2.1 (i / 10) (i % 10) (by omega) (by omega) (Or.inl (by omega))]
    rfl
  rw [show 10 * T.1 + (100 - 10 * T.1) = 100 by omega] at tail
  rw [tail, up T.1 (Nat.le_refl _)]
theorem tt_count (hX : InvX MX T P v) (hM : InvM MM T P) (x : Int32) : TopI (CX9_count E [.ref (E.2.1 9), .int x] MX) (CX10_count F [.ref (F.2.1 0), .int x] MM) (v + 10) := by
  have hR := hX.1
  have hRM := hM.1
  have hw := hX.2.1
  have h10 := hR.2.1.2
  have h31 := hR.lt31
  have mod : ∀ (res : Int32), ((x.toInt < 0 ∨ 4 < x.toInt) → (-2 : Int32) = res) → (x = 0 → nI T.1 = res) → (x = 1 → s_ties T T.1 = res) → (x = 2 → nI P.1 = res) → (x = 3 → s_cnt (fun p => decide (T.2.2.1 p = 0)) T.1 = res) → (x = 4 → s_cnt (fun p => decide (T.2.2.1 p = 1)) T.1 = res) → CX10_count F [.ref (F.2.1 0), .int x] MM (z_pI (fun r M1 => r = res ∧ InvM M1 T P)) := by
    intro res r0 r1 r2 r3 r4 r5
    refine EX10_count (fun X hE hK => ?_)
    have e1 : s_cnt (fun k => decide (¬ MM.1 1 k ≤ 0)) 100 = s_ties T T.1 := s_ties_100 hw (fun p o hp ho => by rw [hRM.2.1 p o hp ho])
    refine h_down (P := fun i => LX10_count_10 X (z_pI (fun r M1 => r = res ∧ InvM M1 T P)) x (s_cnt (fun k => decide (¬ MM.1 1 k ≤ 0)) i) 0 0 (nI i) MM) 100 ?_ ?_
    · refine BX10_count_10 hK ⟨fun _ => ?_, fun c => absurd (h_le (a := 100) (b := 100) (by decide) (Nat.le_refl _)) c⟩
      rw [e1]
      refine h_down (P := fun i => LX10_count_44 X (z_pI (fun r M1 => r = res ∧ InvM M1 T P)) x (s_ties T T.1) (s_cnt (fun p => decide (T.2.2.1 p = 0)) i) (s_cnt (fun p => decide (T.2.2.1 p = 1)) i) (nI i) MM) T.1 ?_ ?_
      · refine BX10_count_44 hK ⟨fun _ => ⟨fun c => okMr hM (r0 c), fun c => okMr hM (by rw [hRM.1]; exact r1 c), fun c => okMr hM (r2 c), fun c => okMr hM (by rw [hM.2.2.1]; exact r3 c), fun c => okMr hM (r4 c), fun c => okMr hM (r5 c)⟩, fun c => absurd (by rw [hRM.1]; exact h_le h31 (Nat.le_refl _)) c⟩
      · intro i hi ih
        have hi10 : i < 10 := by omega
        refine BX10_count_44 hK ⟨fun c => absurd c (by rw [hRM.1]; exact h_nle h31 hi), fun _ => ⟨h_in10 hi10, ?_⟩⟩
        rw [h_cl10 hi10, hRM.2.2.1 i hi10, nI_1, Int32.add_zero, Int32.add_zero]
        refine ⟨fun c1 => ⟨h_in10 hi10, fun c2 => ?_, fun c2 => ?_⟩, fun c1 => ⟨h_in10 hi10, fun c2 => ?_, fun c2 => ?_⟩⟩
        · simpa [s_cnt, c1, c2] using ih
        · simpa [s_cnt, c1, c2] using ih
        · simpa [s_cnt, c1, c2] using ih
        · rw [c1] at c2; exact absurd c2 (by decide)
    · intro i hi ih
      refine BX10_count_10 hK ⟨fun c => absurd c (h_nle (b := 100) (by decide) hi), fun _ => ⟨h_in hi (by decide), ?_⟩⟩
      rw [h_cl (by omega), nI_1, Int32.add_zero]
      refine ⟨fun c => ?_, fun c => ?_⟩
      · simpa [s_cnt, c] using ih
      · simpa [s_cnt, c] using ih
  by_cases c0 : x.toInt < 0 ∨ 4 < x.toInt
  · have n0 : ¬ x = 0 := fun e => by subst e; exact absurd c0 (by decide)
    have n1 : ¬ x = 1 := fun e => by subst e; exact absurd c0 (by decide)
    have n2 : ¬ x = 2 := fun e => by subst e; exact absurd c0 (by decide)
    have n3 : ¬ x = 3 := fun e => by subst e; exact absurd c0 (by decide)
    have n4 : ¬ x = 4 := fun e => by subst e; exact absurd c0 (by decide)
    exact ⟨-2, T, P, EX9_count ⟨fun _ => okX hX, fun c => absurd c n0, fun c => absurd c n1, fun c => absurd c n2, fun c => absurd c n3, fun c => absurd c n4⟩, mod (-2) (fun _ => rfl) (fun c => absurd c n0) (fun c => absurd c n1) (fun c => absurd c n2) (fun c => absurd c n3) (fun c => absurd c n4)⟩
  · rcases z_tab5 c0 with c1 | c1 | c1 | c1 | c1 <;> subst c1
    · exact ⟨_, T, P, EX9_count ⟨fun c => absurd c c0, fun _ => ⟨_, c_size hR, okX hX⟩, fun c => absurd c (by decide), fun c => absurd c (by decide), fun c => absurd c (by decide), fun c => absurd c (by decide)⟩, mod _ (fun c => absurd c c0) (fun _ => rfl) (fun c => absurd c (by decide)) (fun c => absurd c (by decide)) (fun c => absurd c (by decide)) (fun c => absurd c (by decide))⟩
    · exact ⟨_, T, P, EX9_count ⟨fun c => absurd c c0, fun c => absurd c (by decide), fun _ => ⟨_, c_ties hR, okX hX⟩, fun c => absurd c (by decide), fun c => absurd c (by decide), fun c => absurd c (by decide)⟩, mod _ (fun c => absurd c c0) (fun c => absurd c (by decide)) (fun _ => rfl) (fun c => absurd c (by decide)) (fun c => absurd c (by decide)) (fun c => absurd c (by decide))⟩
    · exact ⟨nI P.1, T, P, EX9_count ⟨fun c => absurd c c0, fun c => absurd c (by decide), fun c => absurd c (by decide), fun _ => ⟨_, EX2_size (zi rfl), okXr hX (by omega) hX.2.2.2.2.2.2.1⟩, fun c => absurd c (by decide), fun c => absurd c (by decide)⟩, mod _ (fun c => absurd c c0) (fun c => absurd c (by decide)) (fun c => absurd c (by decide)) (fun _ => rfl) (fun c => absurd c (by decide)) (fun c => absurd c (by decide))⟩
    · exact ⟨_, T, P, EX9_count ⟨fun c => absurd c c0, fun c => absurd c (by decide), fun c => absurd c (by decide), fun c => absurd c (by decide), fun _ => ⟨_, c_countKind hR 0, okX hX⟩, fun c => absurd c (by decide)⟩, mod _ (fun c => absurd c c0) (fun c => absurd c (by decide)) (fun c => absurd c (by decide)) (fun c => absurd c (by decide)) (fun _ => rfl) (fun c => absurd c (by decide))⟩
    · exact ⟨_, T, P, EX9_count ⟨fun c => absurd c c0, fun c => absurd c (by decide), fun c => absurd c (by decide), fun c => absurd c (by decide), fun c => absurd c (by decide), fun _ => ⟨_, c_countKind hR 1, okX hX⟩⟩, mod _ (fun c => absurd c c0) (fun c => absurd c (by decide)) (fun c => absurd c (by decide)) (fun c => absurd c (by decide)) (fun c => absurd c (by decide)) (fun _ => rfl)⟩
/-! even -/
def s_odds (a b : Int32) : Prop := (a = 1 ∧ b = 0) ∨ (a = 0 ∧ b = 1)
def s_evp (T : TW) (p o : Nat) : Prop := T.2.1 p o = T.2.1 o p ∧ (T.2.1 p o = 0 ∨ ¬ s_odds (T.2.2.1 p) (T.2.2.1 o))
def s_EV (T : TW) : Prop := (∀ p, p < T.1 → T.2.2.1 p ≠ 3) ∧ ∀ p o, p < T.1 → o < p → s_evp T p o
theorem c_evenPair_yes (h : RepX M T) {p o : Nat} (hp : p < 10) (ho : o < 10) (he : s_evp T p o) : CX1_isEvenPair E [.ref (E.2.1 1), .int (nI p), .int (nI o)] M (z_is (some (.int 1)) M) := by
  obtain ⟨e1, e2⟩ := he
  refine EX1_isEvenPair ⟨_, c_weight h hp ho, _, c_weight h ho hp, fun _ => ⟨fun c => ⟨_, c_kind h hp, _, c_kind h ho, ?_⟩, fun _ => zi rfl⟩, fun c => absurd e1 c⟩
  have e2 := e2.resolve_left c
  generalize T.2.2.1 p = a at e2 ⊢
  generalize T.2.2.1 o = b at e2 ⊢
  refine ⟨fun c1 => ⟨fun c2 => ⟨fun c => absurd rfl c, fun _ => zi rfl⟩, fun c2 => ⟨fun c3 => ⟨fun c => absurd rfl c, fun _ => zi rfl⟩, fun c3 => absurd (Or.inr ⟨c2, c3⟩) e2⟩⟩, fun c1 => ⟨fun c2 => absurd (Or.inl ⟨c1, c2⟩) e2, fun c2 => ⟨fun c3 => ⟨fun c => absurd rfl c, fun _ => zi rfl⟩, fun c3 => ⟨fun c4 => ⟨fun c => absurd rfl c, fun _ => zi rfl⟩, fun c4 => absurd (Or.inr ⟨c3, c4⟩) e2⟩⟩⟩⟩
theorem c_evenPair_no (h : RepX M T) {p o : Nat} (hp : p < 10) (ho : o < 10) (he : ¬ s_evp T p o) : CX1_isEvenPair E [.ref (E.2.1 1), .int (nI p), .int (nI o)] M (z_is (some (.int 0)) M) := by
  refine EX1_isEvenPair ⟨_, c_weight h hp ho, _, c_weight h ho hp, fun e1 => ⟨fun c => ⟨_, c_kind h hp, _, c_kind h ho, ?_⟩, fun c => absurd ⟨e1, Or.inl c⟩ he⟩, fun _ => zi rfl⟩
  have e2 : s_odds (T.2.2.1 p) (T.2.2.1 o) := Classical.byContradiction (fun hn => he ⟨e1, Or.inr hn⟩)
  generalize T.2.2.1 p = a at e2 ⊢
  generalize T.2.2.1 o = b at e2 ⊢
  rcases e2 with ⟨rfl, rfl⟩ | ⟨rfl, rfl⟩
  · exact ⟨fun c => absurd rfl c, fun _ => ⟨fun _ => ⟨fun _ => zi rfl, fun c => absurd c (by decide)⟩, fun c => absurd rfl c⟩⟩
  · exact ⟨fun _ => ⟨fun c => absurd rfl c, fun _ => ⟨fun c => absurd rfl c, fun _ => ⟨fun _ => zi rfl, fun c => absurd c (by decide)⟩⟩⟩, fun c => absurd c (by decide)⟩
theorem c_isDefined (h : RepX M T) (b : Bool) (hb : b = true ↔ s_EV T) : CX1_isDefined E [.ref (E.2.1 1)] M (z_is (some (.int (s_bit b))) M) := by
  have h10 := h.2.1.2
  have h31 := h.lt31
  refine EX1_isDefined (fun X hE hK => ⟨_, c_countKind h 3, ?_⟩)
  rw [s_cnt_pos (by omega)]
  have no : ¬ s_EV T → z_is (some (.int (s_bit b))) M (some (.int 0)) M := fun hn => by
    have : b = false := by cases b with
      | false => rfl
      | true => exact absurd (hb.mp rfl) hn
    rw [this]; exact zi rfl
  refine ⟨fun c => ?_, fun c => no (fun hE => c (fun p hp => by simp [hE.1 p hp]))⟩
  have c3 : ∀ p, p < T.1 → T.2.2.1 p ≠ 3 := fun p hp e => by have := c p hp; simp [e] at this
  refine h_down (P := fun i => (∀ p o, p < i → o < p → s_evp T p o) → LX1_isDefined_15 X (z_is (some (.int (s_bit b))) M) (nI i) M) T.1 ?_ ?_ (fun p o hp _ => absurd hp (Nat.not_lt_zero p))
  · intro hall
    refine BX1_isDefined_15 hK ⟨_, c_size h, fun _ => ?_, fun c => absurd (h_le h31 (Nat.le_refl _)) c⟩
    rw [hb.mpr ⟨c3, hall⟩]; exact zi rfl
  · intro i hi ih hall
    have hi10 : i < 10 := by omega
    refine BX1_isDefined_15 hK ⟨_, c_size h, fun c => absurd c (h_nle h31 hi), fun _ => ?_⟩
    refine h_down (P := fun j => (∀ o, o < j → s_evp T i o) → LX1_isDefined_28 X (z_is (some (.int (s_bit b))) M) (nI i) (nI j) M) i ?_ ?_ (fun o ho => absurd ho (Nat.not_lt_zero o))
    · intro hj
      refine BX1_isDefined_28 hK ⟨fun _ => ?_, fun c => absurd (h_le (by omega) (Nat.le_refl _)) c⟩
      rw [nI_1]
      refine ih (fun p o hp ho => ?_)
      by_cases e : p = i
      · subst e; exact hj o ho
      · exact hall p o (by omega) ho
    · intro j hj ih2 hjj
      by_cases he : s_evp T i j
      · refine BX1_isDefined_28 hK ⟨fun c => absurd c (h_nle (by omega) hj), fun _ => ⟨_, c_evenPair_yes h hi10 (by omega) he, fun _ => ?_, fun c => absurd c (by decide)⟩⟩
        rw [nI_1]
        refine ih2 (fun o ho => ?_)
        by_cases e : o = j
        · subst e; exact he
        · exact hjj o (by omega)
      · exact BX1_isDefined_28 hK ⟨fun c => absurd c (h_nle (by omega) hj), fun _ => ⟨_, c_evenPair_no h hi10 (by omega) he, fun c => absurd rfl c, fun _ => no (fun hE => he (hE.2 i j hi hj))⟩⟩
/-- the reference's own way: every pair, both ways about -/
def s_unl (T : TW) (p o : Nat) : Prop := T.2.2.1 p = 0 ∧ T.2.2.1 o = 1 ∧ (0 < T.2.1 p o ∨ ¬ T.2.1 o p ≤ 0)
def s_prM (T : TW) (p o : Nat) : Prop := T.2.1 p o = T.2.1 o p ∧ ¬ s_unl T p o
def s_EM (T : TW) (i j : Nat) : Prop := (∀ p, p < i → T.2.2.1 p ≠ 3 ∧ ∀ o, o < T.1 → s_prM T p o) ∧ (0 < j → T.2.2.1 i ≠ 3) ∧ ∀ o, o < j → s_prM T i o
theorem s_EV_EM (hw : s_WF T) : s_EV T ↔ ∀ p, p < T.1 → T.2.2.1 p ≠ 3 ∧ ∀ o, o < T.1 → s_prM T p o := by
  have h10 := hw.1.2
  have nn : ∀ p o, p < T.1 → o < T.1 → ¬ T.2.1 p o < 0 := fun p o hp ho => hw.2.1 p o (by omega) (by omega)
  have pos : ∀ {w : Int32}, ¬ w < 0 → (w = 0 ↔ ¬ 0 < w) := fun {w} hn => ⟨fun e => by rw [e]; decide, fun h => Int32.le_antisymm (Int32.not_lt.mp h) (Int32.not_lt.mp hn)⟩
  constructor
  · intro ⟨a1, a2⟩ p hp
    refine ⟨a1 p hp, fun o ho => ?_⟩
    rcases Nat.lt_trichotomy o p with h | h | h
    · obtain ⟨e1, e2⟩ := a2 p o hp h
      refine ⟨e1, fun ⟨u1, u2, u3⟩ => ?_⟩
      rcases e2 with e2 | e2
      · rw [← e1, e2] at u3; exact absurd u3 (by decide)
      · exact e2 (Or.inr ⟨u1, u2⟩)
    · subst h
      exact ⟨rfl, fun ⟨u1, u2, _⟩ => by rw [u1] at u2; exact absurd u2 (by decide)⟩
    · obtain ⟨e1, e2⟩ := a2 o p ho h
      refine ⟨e1.symm, fun ⟨u1, u2, u3⟩ => ?_⟩
      rcases e2 with e2 | e2
      · rw [← e1, e2] at u3; exact absurd u3 (by decide)
      · exact e2 (Or.inl ⟨u2, u1⟩)
  · intro hall
    refine ⟨fun p hp => (hall p hp).1, fun p o hp ho => ?_⟩
    have h1 := (hall p hp).2 o (by omega)
    have h2 := (hall o (by omega)).2 p hp
    refine ⟨h1.1, ?_⟩
    by_cases hz : T.2.1 p o = 0
    · exact Or.inl hz
    · refine Or.inr (fun hod => ?_)
      have hgt : 0 < T.2.1 p o := by
        apply Classical.byContradiction
        intro hn
        exact hz ((pos (nn p o hp (by omega))).mpr hn)
      rcases hod with ⟨u1, u2⟩ | ⟨u1, u2⟩
      · exact h2.2 ⟨u2, u1, Or.inl (by rw [h2.1]; exact hgt)⟩
      · exact h1.2 ⟨u1, u2, Or.inl hgt⟩
theorem n_isEven (h : RepM M T) (hw : s_WF T) (b : Bool) (hb : b = true ↔ s_EV T) : CX10_isEven E [.ref (E.2.1 0)] M (z_is (some (.int (s_bit b))) M) := by
  have h10 := hw.1.2
  rw [s_EV_EM hw] at hb
  refine EX10_isEven (fun X hE hK => ?_)
  refine h_down (P := fun i => ∀ e : Bool, (e = true ↔ s_EM T i 0) → LX10_isEven_4 X (z_is (some (.int (s_bit b))) M) (s_bit e) (nI i) M) T.1 ?_ ?_ true ⟨fun _ => ⟨fun p hp => absurd hp (Nat.not_lt_zero p), fun h => absurd h (Nat.lt_irrefl 0), fun o ho => absurd ho (Nat.not_lt_zero o)⟩, fun _ => rfl⟩
  · intro e he
    refine BX10_isEven_4 hK ⟨fun _ => ⟨s_bit_01 e, ?_⟩, fun c => absurd (by rw [h.1]; exact h_le (by omega) (Nat.le_refl _)) c⟩
    have : e = b := by
      have h1 : s_EM T T.1 0 ↔ ∀ p, p < T.1 → T.2.2.1 p ≠ 3 ∧ ∀ o, o < T.1 → s_prM T p o := ⟨fun x => x.1, fun x => ⟨x, fun h => absurd h (Nat.lt_irrefl 0), fun o ho => absurd ho (Nat.not_lt_zero o)⟩⟩
      rw [h1, ← hb] at he
      exact Bool.eq_iff_iff.mpr he
    rw [this]; exact zi rfl
  · intro i hi ih e he
    have hi10 : i < 10 := by omega
    have inner : ∀ e1 : Bool, (e1 = true ↔ e = true ∧ T.2.2.1 i ≠ 3) → LX10_isEven_34 X (z_is (some (.int (s_bit b))) M) (s_bit e1) (nI i) 0 M := by
      intro e1 he1
      refine h_down (P := fun j => ∀ e2 : Bool, (e2 = true ↔ e1 = true ∧ ∀ o, o < j → s_prM T i o) → LX10_isEven_34 X (z_is (some (.int (s_bit b))) M) (s_bit e2) (nI i) (nI j) M) T.1 ?_ ?_ e1 ⟨fun h => ⟨h, fun o ho => absurd ho (Nat.not_lt_zero o)⟩, fun h => h.1⟩
      · intro e2 he2
        refine BX10_isEven_34 hK ⟨fun _ => ?_, fun c => absurd (by rw [h.1]; exact h_le (by omega) (Nat.le_refl _)) c⟩
        rw [nI_1]
        refine ih e2 ?_
        rw [he2, he1, he]
        constructor
        · intro ⟨⟨x1, x2⟩, x3⟩
          refine ⟨fun p hp => ?_, fun h => absurd h (Nat.lt_irrefl 0), fun o ho => absurd ho (Nat.not_lt_zero o)⟩
          by_cases ep : p = i
          · subst ep; exact ⟨x2, x3⟩
          · exact x1.1 p (by omega)
        · intro x
          exact ⟨⟨⟨fun p hp => x.1 p (by omega), fun h => absurd h (Nat.lt_irrefl 0), fun o ho => absurd ho (Nat.not_lt_zero o)⟩, (x.1 i (by omega)).1⟩, (x.1 i (by omega)).2⟩
      · intro j hj ih2 e2 he2
        have hj10 : j < 10 := by omega
        have a1 := h_w (p := i) (o := j) hi10 hj10
        have a2 := h_w (p := j) (o := i) hj10 hi10
        have w0 : e2 = false → LX10_isEven_34 X (z_is (some (.int (s_bit b))) M) 0 (nI i) (nI (j + 1)) M := fun hf => ih2 false ⟨fun h => absurd h (by decide), fun hx => by
          have : e2 = true := he2.mpr ⟨hx.1, fun o ho => hx.2 o (by omega)⟩
          rw [hf] at this; exact absurd this (by decide)⟩
        have w1 : ¬ s_prM T i j → LX10_isEven_34 X (z_is (some (.int (s_bit b))) M) 0 (nI i) (nI (j + 1)) M := fun hf => ih2 false ⟨fun h => absurd h (by decide), fun hx => absurd (hx.2 j (by omega)) hf⟩
        have w2 : e2 = true → s_prM T i j → LX10_isEven_34 X (z_is (some (.int (s_bit b))) M) 1 (nI i) (nI (j + 1)) M := fun ht hp => ih2 true ⟨fun _ => ⟨(he2.mp ht).1, fun o ho => by
          by_cases eo : o = j
          · subst eo; exact hp
          · exact (he2.mp ht).2 o (by omega)⟩, fun _ => rfl⟩
        have t1 : ∀ {c : Prop}, (¬ s_bit e2 = 0) → e2 = true := fun c => by cases e2 with
          | true => rfl
          | false => exact absurd rfl c
        refine BX10_isEven_34 hK ⟨fun c => absurd c (by rw [h.1]; exact h_nle (by omega) hj), fun _ => ⟨h_in10 hi10, ?_⟩⟩
        rw [h_cl10 hi10, h_cl10 hj10, a1.2, a2.2, h.2.1 i j hi10 hj10, h.2.1 j i hj10 hi10, h.2.2.1 i hi10, h.2.2.1 j hj10, nI_1]
        refine ⟨fun k0 => ⟨fun c => w0 (s_bit_0.mp c), fun c => ⟨a1.1, a2.1, fun d => w1 (fun x => d x.1), fun d => ⟨fun z => absurd rfl z, fun _ => w2 (t1 (c := True) c) ⟨d, fun u => k0 u.1⟩⟩⟩⟩, fun k0 => ⟨h_in10 hj10, fun k1 => ⟨fun c => w0 (s_bit_0.mp c), fun c => ⟨a1.1, a2.1, fun d => w1 (fun x => d x.1), fun d => ⟨fun z => absurd rfl z, fun _ => w2 (t1 (c := True) c) ⟨d, fun u => k1 u.2.1⟩⟩⟩⟩, fun k1 => ⟨a1.1, fun g => ⟨fun c => w0 (s_bit_0.mp c), fun c => ⟨a1.1, a2.1, fun d => w1 (fun x => d x.1), fun d => ⟨fun _ => w1 (fun x => x.2 ⟨k0, k1, Or.inl g⟩), fun z => absurd z (by decide)⟩⟩⟩, fun g => ⟨a2.1, fun g2 => ⟨fun c => w0 (s_bit_0.mp c), fun c => ⟨a1.1, a2.1, fun d => w1 (fun x => d x.1), fun d => ⟨fun z => absurd rfl z, fun _ => w2 (t1 (c := True) c) ⟨d, fun u => u.2.2.elim (fun q => g q) (fun q => q g2)⟩⟩⟩⟩, fun g2 => ⟨fun c => w0 (s_bit_0.mp c), fun c => ⟨a1.1, a2.1, fun d => w1 (fun x => d x.1), fun d => ⟨fun _ => w1 (fun x => x.2 ⟨k0, k1, Or.inr g2⟩), fun z => absurd z (by decide)⟩⟩⟩⟩⟩⟩⟩
    refine BX10_isEven_4 hK ⟨fun c => absurd c (by rw [h.1]; exact h_nle (by omega) hi), fun _ => ⟨fun c => ?_, fun c => ⟨h_in10 hi10, ?_⟩⟩⟩
    · exact inner false ⟨fun h => absurd h (by decide), fun x => by rw [s_bit_0.mp c] at x; exact absurd x.1 (by decide)⟩
    · have ht : e = true := by cases e with
        | true => rfl
        | false => exact absurd rfl c
      rw [h_cl10 hi10, h.2.2.1 i hi10]
      exact ⟨fun c3 => inner false ⟨fun h => absurd h (by decide), fun x => absurd c3 x.2⟩, fun c3 => inner true ⟨fun _ => ⟨ht, c3⟩, fun _ => rfl⟩⟩
theorem s_EVb (T : TW) : ∃ b : Bool, b = true ↔ s_EV T := by
  by_cases h : s_EV T
  · exact ⟨true, fun _ => h, fun _ => rfl⟩
  · exact ⟨false, fun e => absurd e (by decide), fun x => absurd x h⟩
theorem tt_even (hX : InvX MX T P v) (hM : InvM MM T P) : TopI (CX9_even E [.ref (E.2.1 9)] MX) (CX10_even F [.ref (F.2.1 0)] MM) (v + 10) := by
  obtain ⟨b, hb⟩ := s_EVb T
  refine ⟨s_bit b, T, P, EX9_even ⟨_, c_isDefined hX.1 b hb, fun c => okXr hX (by omega) c.symm, fun c => okXr hX (by omega) ?_⟩, EX10_even ⟨_, n_isEven hM.1 hX.2.1 b hb, fun c => okMr hM c.symm, fun c => okMr hM ?_⟩⟩
  · exact ((s_bit_01 b).resolve_left c).symm
  · exact ((s_bit_01 b).resolve_left c).symm
end EvenC
