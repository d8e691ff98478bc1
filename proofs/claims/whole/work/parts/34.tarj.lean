/-! a search in depth that parts the dresses: the invariant -/
def kt_op (F L : Nat → Nat) (x : Nat) : Prop := F x ≠ 0 ∧ L x ≠ 1025
def kt_V (N c : Nat) (F L : Nat → Nat) (ps : Nat) (q : Nat → Nat) (os : Nat) (o : Nat → Nat) : Prop :=
  (∀ x, x < N → F x ≤ c) ∧
  (∀ k, 1 ≤ k → k ≤ c → ∃ x, x < N ∧ F x = k) ∧
  (∀ x y, x < N → y < N → F x ≠ 0 → F x = F y → x = y) ∧
  (∀ k, k < os → o k < N ∧ kt_op F L (o k)) ∧
  (∀ x, x < N → kt_op F L x → ∃ k, k < os ∧ o k = x) ∧
  (∀ j k, j < k → k < os → F (o j) < F (o k)) ∧
  (∀ k, k < ps → q k < N ∧ kt_op F L (q k)) ∧
  (∀ j k, j < k → k < ps → F (q j) < F (q k)) ∧
  (∀ x, x < N → kt_op F L x → 1 ≤ L x ∧ L x ≤ F x)
def kt_G (T : TW) (F L : Nat → Nat) (ps : Nat) (q lf : Nat → Nat) : Prop :=
  (∀ x, x < 2 ^ T.1 → F x = 0 → lf x = s_rl T x) ∧
  (∀ x, x < 2 ^ T.1 → lf x < 2 ^ T.1 ∧ ∀ p, (lf x).testBit p = true → (s_rl T x).testBit p = true) ∧
  (∀ x, x < 2 ^ T.1 → F x ≠ 0 → ∀ p, (s_rl T x).testBit p = true → (lf x).testBit p = false → F (x ^^^ 2 ^ p) ≠ 0) ∧
  (∀ x, x < 2 ^ T.1 → kt_op F L x → ∀ p, (s_rl T x).testBit p = true → (lf x).testBit p = false → kt_op F L (x ^^^ 2 ^ p) → L x ≤ F (x ^^^ 2 ^ p)) ∧
  (∀ x, x < 2 ^ T.1 → F x ≠ 0 → (∀ k, k < ps → q k ≠ x) → lf x = 0) ∧
  (∀ x, x < 2 ^ T.1 → F x ≠ 0 → L x = 1025 → ∀ z, Ed T x z → F z ≠ 0 ∧ L z = 1025) ∧
  (∀ i, i < ps → ∀ x, x < 2 ^ T.1 → kt_op F L x → F (q i) ≤ F x → (i + 1 < ps → F x < F (q (i + 1))) → L (q i) ≤ L x) ∧
  (∀ i, i < ps → ∀ x, x < 2 ^ T.1 → kt_op F L x → F (q i) ≤ F x → Rch T (q i) x) ∧
  (∀ x, x < 2 ^ T.1 → kt_op F L x → ∃ z, z < 2 ^ T.1 ∧ kt_op F L z ∧ F z = L x ∧ Rch T x z) ∧
  (∀ x, x < 2 ^ T.1 → kt_op F L x → (∀ k, k < ps → q k ≠ x) → L x < F x)
theorem kt_pre {N c : Nat} {F : Nat → Nat} (h : ∀ k, 1 ≤ k → k ≤ c → ∃ x, x < N ∧ F x = k) : ∃ g : Nat → Nat, ∀ i, i < c → g i < N ∧ F (g i) = i + 1 := by
  have h1 : ∀ i : Nat, ∃ x, i < c → x < N ∧ F x = i + 1 := fun i => by
    by_cases hi : i < c
    · obtain ⟨x, hx⟩ := h (i + 1) (by omega) (by omega)
      exact ⟨x, fun _ => hx⟩
    · exact ⟨0, fun c => absurd c hi⟩
  exact ⟨fun i => Classical.choose (h1 i), fun i hi => Classical.choose_spec (h1 i) hi⟩
theorem kt_cN {N c : Nat} {F : Nat → Nat} (h : ∀ k, 1 ≤ k → k ≤ c → ∃ x, x < N ∧ F x = k) : c ≤ N := by
  obtain ⟨g, hg⟩ := kt_pre h
  refine fb_holes N c g (fun i hi => (hg i hi).1) (fun i j hij hj e => ?_)
  have h1 := (hg i (by omega)).2
  have h2 := (hg j hj).2
  rw [e] at h1
  omega
theorem kt_cN2 {N c w : Nat} {F : Nat → Nat} (h : ∀ k, 1 ≤ k → k ≤ c → ∃ x, x < N ∧ F x = k) (hw : w < N) (h0 : F w = 0) : c + 1 ≤ N := by
  obtain ⟨g, hg⟩ := kt_pre h
  refine fb_holes N (c + 1) (fun i => if i < c then g i else w) (fun i hi => ?_) (fun i j hij hj e => ?_)
  · show (if i < c then g i else w) < N
    by_cases c1 : i < c
    · rw [if_pos c1]; exact (hg i c1).1
    · rw [if_neg c1]; exact hw
  · have e : (if i < c then g i else w) = (if j < c then g j else w) := e
    rw [if_pos (show i < c by omega)] at e
    have h1 := (hg i (by omega)).2
    by_cases c1 : j < c
    · rw [if_pos c1] at e
      have h2 := (hg j c1).2
      rw [e] at h1
      omega
    · rw [if_neg c1] at e
      rw [e] at h1
      omega
section Tarj
variable {T : TW} {c ps os : Nat} {F L q o lf : Nat → Nat}
theorem kt_bits0 {a : Nat} (h : ∀ p, a.testBit p = false) : a = 0 := Nat.eq_of_testBit_eq (fun i => by rw [h i, Nat.zero_testBit])
theorem kt_enter {w : Nat} {lf' : Nat → Nat} (hN : 2 ^ T.1 ≤ 1024) (hV : kt_V (2 ^ T.1) c F L ps q os o) (hG : kt_G T F L ps q lf) (hw : w < 2 ^ T.1) (hF : F w = 0) (hlt : ∀ x, x < 2 ^ T.1 → lf' x < 2 ^ T.1) (h1 : ∀ x, x < 2 ^ T.1 → ∀ p, (lf' x).testBit p = true → (lf x).testBit p = true) (h2 : ∀ x, x < 2 ^ T.1 → ∀ p, (lf x).testBit p = true → (lf' x).testBit p = false → 1 ≤ ps ∧ x = q (ps - 1) ∧ x ^^^ 2 ^ p = w) (hps : 1 ≤ ps → Rch T (q (ps - 1)) w) : kt_V (2 ^ T.1) (c + 1) (va_up F w (c + 1)) (va_up L w (c + 1)) (ps + 1) (va_up q ps w) (os + 1) (va_up o os w) ∧ kt_G T (va_up F w (c + 1)) (va_up L w (c + 1)) (ps + 1) (va_up q ps w) lf' := by
  obtain ⟨v1, v2, v3, v4, v5, v6, v7, v8, v9⟩ := hV
  obtain ⟨g1, g2, g3, g4, g5, g6, g7, g8, g9, g10⟩ := hG
  have hc := kt_cN2 v2 hw hF
  have fs : va_up F w (c + 1) w = c + 1 := up_same _ _ _
  have ls : va_up L w (c + 1) w = c + 1 := up_same _ _ _
  have fn : ∀ {x}, x ≠ w → va_up F w (c + 1) x = F x := fun h => up_ne _ _ h
  have ln : ∀ {x}, x ≠ w → va_up L w (c + 1) x = L x := fun h => up_ne _ _ h
  have opw : kt_op (va_up F w (c + 1)) (va_up L w (c + 1)) w := ⟨by rw [fs]; omega, by rw [ls]; omega⟩
  have opn : ∀ {x}, x ≠ w → (kt_op (va_up F w (c + 1)) (va_up L w (c + 1)) x ↔ kt_op F L x) := fun h => by unfold kt_op; rw [fn h, ln h]
  have new : ∀ {x}, F x ≠ 0 → x ≠ w := fun h e => h (by rw [e]; exact hF)
  have same : ∀ x, x < 2 ^ T.1 → F x = 0 → lf' x = lf x := fun x hx h0 => Nat.eq_of_testBit_eq (fun i => by
    cases hb : (lf' x).testBit i with
    | true => exact (h1 x hx i hb).symm
    | false =>
      cases hb2 : (lf x).testBit i with
      | false => rfl
      | true =>
        obtain ⟨p1, p2, _⟩ := h2 x hx i hb2 hb
        exact absurd h0 (by rw [p2]; exact (v7 (ps - 1) (by omega)).2.1))
  have lfw : lf' w = s_rl T w := by rw [same w hw hF, g1 w hw hF]
  refine ⟨⟨fun x hx => ?_, fun k k1 k2 => ?_, fun x y hx hy h e => ?_, fun k hk => ?_, fun x hx hop => ?_, fun j k hj hk => ?_, fun k hk => ?_, fun j k hj hk => ?_, fun x hx hop => ?_⟩, fun x hx h0 => ?_, fun x hx => ⟨hlt x hx, fun p hp => (g2 x hx).2 p (h1 x hx p hp)⟩, fun x hx h0 p hp hb => ?_, fun x hx hop p hp hb hz => ?_, fun x hx h0 hk => ?_, fun x hx h0 hl z he => ?_, fun i hi x hx hop hle hlt2 => ?_, fun i hi x hx hop hle => ?_, fun x hx hop => ?_, fun x hx hop hk => ?_⟩
  · by_cases e : x = w
    · rw [e, fs]; omega
    · rw [fn e]; have := v1 x hx; omega
  · by_cases e : k = c + 1
    · exact ⟨w, hw, by rw [fs, e]⟩
    · obtain ⟨x, x1, x2⟩ := v2 k k1 (by omega)
      exact ⟨x, x1, by rw [fn (new (by omega)), x2]⟩
  · by_cases ex : x = w
    · by_cases ey : y = w
      · rw [ex, ey]
      · rw [ex, fs, fn ey] at e
        have := v1 y hy; omega
    · by_cases ey : y = w
      · rw [ey, fs, fn ex] at e
        have := v1 x hx; omega
      · rw [fn ex, fn ey] at e
        rw [fn ex] at h
        exact v3 x y hx hy h e
  · by_cases e : k = os
    · rw [e, up_same]; exact ⟨hw, opw⟩
    · have h := v4 k (by omega)
      rw [up_ne _ _ e]; exact ⟨h.1, (opn (new h.2.1)).mpr h.2⟩
  · by_cases e : x = w
    · exact ⟨os, by omega, by rw [up_same, e]⟩
    · obtain ⟨k, k1, k2⟩ := v5 x hx ((opn e).mp hop)
      exact ⟨k, by omega, by rw [up_ne _ _ (by omega), k2]⟩
  · have hj2 := v4 j (by omega)
    rw [up_ne _ _ (show j ≠ os by omega), fn (new hj2.2.1)]
    by_cases e : k = os
    · rw [e, up_same, fs]; have := v1 _ hj2.1; omega
    · have hk2 := v4 k (by omega)
      rw [up_ne _ _ e, fn (new hk2.2.1)]; exact v6 j k hj (by omega)
  · by_cases e : k = ps
    · rw [e, up_same]; exact ⟨hw, opw⟩
    · have h := v7 k (by omega)
      rw [up_ne _ _ e]; exact ⟨h.1, (opn (new h.2.1)).mpr h.2⟩
  · have hj2 := v7 j (by omega)
    rw [up_ne _ _ (show j ≠ ps by omega), fn (new hj2.2.1)]
    by_cases e : k = ps
    · rw [e, up_same, fs]; have := v1 _ hj2.1; omega
    · have hk2 := v7 k (by omega)
      rw [up_ne _ _ e, fn (new hk2.2.1)]; exact v8 j k hj (by omega)
  · by_cases e : x = w
    · rw [e, fs, ls]; omega
    · rw [fn e, ln e]; exact v9 x hx ((opn e).mp hop)
  · have e : x ≠ w := fun e => by rw [e, fs] at h0; omega
    rw [fn e] at h0
    rw [same x hx h0]; exact g1 x hx h0
  · have e : x ≠ w := fun e => by rw [e, lfw] at hb; rw [e] at hp; rw [hp] at hb; exact absurd hb (by decide)
    rw [fn e] at h0
    by_cases ez : x ^^^ 2 ^ p = w
    · rw [ez, fs]; omega
    · rw [fn ez]
      cases hb2 : (lf x).testBit p with
      | false => exact g3 x hx h0 p hp hb2
      | true => exact absurd (h2 x hx p hb2 hb).2.2 ez
  · have e : x ≠ w := fun e => by rw [e, lfw] at hb; rw [e] at hp; rw [hp] at hb; exact absurd hb (by decide)
    have hop2 := (opn e).mp hop
    rw [ln e]
    by_cases ez : x ^^^ 2 ^ p = w
    · rw [ez, fs]; have := (v9 x hx hop2).2; have := v1 x hx; omega
    · rw [fn ez]
      cases hb2 : (lf x).testBit p with
      | false => exact g4 x hx hop2 p hp hb2 ((opn ez).mp hz)
      | true => exact absurd (h2 x hx p hb2 hb).2.2 ez
  · have e : x ≠ w := fun e => hk ps (by omega) (by rw [up_same, e])
    rw [fn e] at h0
    have h0' := g5 x hx h0 (fun k hk2 => by have := hk k (by omega); rw [up_ne _ _ (by omega)] at this; exact this)
    refine kt_bits0 (fun p => ?_)
    cases hb : (lf' x).testBit p with
    | false => rfl
    | true => have := h1 x hx p hb; rw [h0', Nat.zero_testBit] at this; exact this.symm
  · have e : x ≠ w := fun e => by rw [e, ls] at hl; omega
    rw [fn e] at h0
    rw [ln e] at hl
    have := g6 x hx h0 hl z he
    rw [fn (new this.1), ln (new this.1)]; exact this
  · by_cases ei : i = ps
    · rw [ei, up_same] at hle ⊢
      have e : x = w := Classical.byContradiction (fun e => by rw [fs, fn e] at hle; have := v1 x hx; omega)
      rw [e]; exact Nat.le_refl _
    · have hq := v7 i (by omega)
      rw [up_ne _ _ ei] at hle ⊢
      rw [fn (new hq.2.1)] at hle
      rw [ln (new hq.2.1)]
      have hlt3 := hlt2 (by omega)
      by_cases e : x = w
      · rw [e, fs] at hlt3
        by_cases ei2 : i + 1 = ps
        · rw [ei2, up_same, fs] at hlt3; omega
        · have hq2 := v7 (i + 1) (by omega)
          rw [up_ne _ _ ei2, fn (new hq2.2.1)] at hlt3
          have := v1 _ hq2.1; omega
      · rw [fn e] at hle hlt3
        rw [ln e]
        refine g7 i (by omega) x hx ((opn e).mp hop) hle (fun hi2 => ?_)
        have hq2 := v7 (i + 1) hi2
        rw [up_ne q w (show i + 1 ≠ ps by omega), fn (new hq2.2.1)] at hlt3
        exact hlt3
  · by_cases ei : i = ps
    · rw [ei, up_same] at hle ⊢
      have e : x = w := Classical.byContradiction (fun e => by rw [fs, fn e] at hle; have := v1 x hx; omega)
      rw [e]; exact Rch.rfl' T w
    · have hq := v7 i (by omega)
      rw [up_ne _ _ ei] at hle ⊢
      rw [fn (new hq.2.1)] at hle
      by_cases e : x = w
      · rw [e]
        have htop := v7 (ps - 1) (by omega)
        refine Rch.trans (g8 i (by omega) _ htop.1 htop.2 ?_) (hps (by omega))
        by_cases e2 : i = ps - 1
        · rw [← e2]; exact Nat.le_refl _
        · exact Nat.le_of_lt (v8 i (ps - 1) (by omega) (by omega))
      · rw [fn e] at hle
        exact g8 i (by omega) x hx ((opn e).mp hop) hle
  · by_cases e : x = w
    · exact ⟨w, hw, opw, by rw [e, fs, ls], by rw [e]; exact Rch.rfl' T w⟩
    · obtain ⟨z, z1, z2, z3, z4⟩ := g9 x hx ((opn e).mp hop)
      exact ⟨z, z1, (opn (new z2.1)).mpr z2, by rw [fn (new z2.1), ln e, z3], z4⟩
  · have e : x ≠ w := fun e => hk ps (by omega) (by rw [up_same, e])
    rw [fn e, ln e]
    exact g10 x hx ((opn e).mp hop) (fun k hk2 => by have := hk k (by omega); rw [up_ne _ _ (by omega)] at this; exact this)
theorem kt_follow {p0 m : Nat} (hN : 2 ^ T.1 ≤ 1024) (hV : kt_V (2 ^ T.1) c F L ps q os o) (hG : kt_G T F L ps q lf) (hps : 1 ≤ ps) (hp : p0 < T.1) (hb : (lf (q (ps - 1))).testBit p0 = true) (hz : F (q (ps - 1) ^^^ 2 ^ p0) ≠ 0) (m1 : 1 ≤ m) (m2 : m ≤ L (q (ps - 1))) (m3 : kt_op F L (q (ps - 1) ^^^ 2 ^ p0) → m ≤ F (q (ps - 1) ^^^ 2 ^ p0)) (m4 : m = L (q (ps - 1)) ∨ (kt_op F L (q (ps - 1) ^^^ 2 ^ p0) ∧ m = F (q (ps - 1) ^^^ 2 ^ p0))) : kt_V (2 ^ T.1) c F (va_up L (q (ps - 1)) m) ps q os o ∧ kt_G T F (va_up L (q (ps - 1)) m) ps q (va_up lf (q (ps - 1)) (lf (q (ps - 1)) ^^^ 2 ^ p0)) := by
  obtain ⟨v1, v2, v3, v4, v5, v6, v7, v8, v9⟩ := hV
  obtain ⟨g1, g2, g3, g4, g5, g6, g7, g8, g9, g10⟩ := hG
  have hc := kt_cN v2
  obtain ⟨t1, t2⟩ := v7 (ps - 1) (by omega)
  have htop : ∀ k, k < ps → F (q k) ≤ F (q (ps - 1)) := fun k hk => by
    by_cases e : k = ps - 1
    · rw [e]; exact Nat.le_refl _
    · exact Nat.le_of_lt (v8 k (ps - 1) (by omega) (by omega))
  have hqq : ∀ k, k < ps → q k = q (ps - 1) → k = ps - 1 := fun k hk e => Classical.byContradiction (fun c2 => by
    have := v8 k (ps - 1) (by omega) (by omega)
    rw [e] at this; omega)
  generalize hx0 : q (ps - 1) = x0 at *
  have tl := v9 x0 t1 t2
  have tc := v1 x0 t1
  have ls : va_up L x0 m x0 = m := up_same _ _ _
  have ln : ∀ {x}, x ≠ x0 → va_up L x0 m x = L x := fun h => up_ne _ _ h
  have lle : ∀ x, va_up L x0 m x ≤ L x := fun x => by
    by_cases e : x = x0
    · rw [e, ls]; exact m2
    · rw [ln e]; exact Nat.le_refl _
  have opi : ∀ x, kt_op F (va_up L x0 m) x ↔ kt_op F L x := fun x => by
    by_cases e : x = x0
    · rw [e]; exact ⟨fun _ => t2, fun _ => ⟨t2.1, by rw [ls]; omega⟩⟩
    · unfold kt_op; rw [ln e]
  have fs : va_up lf x0 (lf x0 ^^^ 2 ^ p0) x0 = lf x0 ^^^ 2 ^ p0 := up_same _ _ _
  have fn : ∀ {x}, x ≠ x0 → va_up lf x0 (lf x0 ^^^ 2 ^ p0) x = lf x := fun h => up_ne _ _ h
  have bs : ∀ p, p ≠ p0 → (lf x0 ^^^ 2 ^ p0).testBit p = (lf x0).testBit p := fun p hp => by rw [Nat.testBit_xor, Nat.testBit_two_pow]; simp [show ¬ p0 = p from fun e => hp e.symm]
  have b0 : (lf x0 ^^^ 2 ^ p0).testBit p0 = false := by rw [Nat.testBit_xor, Nat.testBit_two_pow, hb]; simp
  refine ⟨⟨v1, v2, v3, fun k hk => ⟨(v4 k hk).1, (opi _).mpr (v4 k hk).2⟩, fun x hx hop => v5 x hx ((opi x).mp hop), v6, fun k hk => ⟨(v7 k hk).1, (opi _).mpr (v7 k hk).2⟩, v8, fun x hx hop => ?_⟩, fun x hx h0 => ?_, fun x hx => ?_, fun x hx h0 p hp2 hb2 => ?_, fun x hx hop p hp2 hb2 hz2 => ?_, fun x hx h0 hk => ?_, fun x hx h0 hl z he => ?_, fun i hi x hx hop hle hlt2 => ?_, fun i hi x hx hop hle => g8 i hi x hx ((opi x).mp hop) hle, fun x hx hop => ?_, fun x hx hop hk => ?_⟩
  · have := v9 x hx ((opi x).mp hop)
    have := lle x
    refine ⟨?_, by omega⟩
    by_cases e : x = x0
    · rw [e, ls]; exact m1
    · rw [ln e]; omega
  · have e : x ≠ x0 := fun e => t2.1 (by rw [← e]; exact h0)
    rw [fn e]; exact g1 x hx h0
  · by_cases e : x = x0
    · rw [e, fs]
      refine ⟨Nat.xor_lt_two_pow (g2 x0 t1).1 (Nat.pow_lt_pow_right (by decide) hp), fun p hp2 => ?_⟩
      by_cases ep : p = p0
      · rw [ep, b0] at hp2; exact absurd hp2 (by decide)
      · rw [bs p ep] at hp2; exact (g2 x0 t1).2 p hp2
    · rw [fn e]; exact g2 x hx
  · by_cases e : x = x0
    · rw [e] at hp2 hb2 h0 ⊢
      rw [fs] at hb2
      by_cases ep : p = p0
      · rw [ep]; exact hz
      · rw [bs p ep] at hb2; exact g3 x0 t1 h0 p hp2 hb2
    · rw [fn e] at hb2; exact g3 x hx h0 p hp2 hb2
  · have hop2 := (opi x).mp hop
    have hz3 := (opi _).mp hz2
    by_cases e : x = x0
    · rw [e] at hp2 hb2 hop2 hz3 ⊢
      rw [fs] at hb2
      rw [ls]
      by_cases ep : p = p0
      · rw [ep] at hz3 ⊢; exact m3 hz3
      · rw [bs p ep] at hb2; exact Nat.le_trans m2 (g4 x0 t1 hop2 p hp2 hb2 hz3)
    · rw [fn e] at hb2; rw [ln e]; exact g4 x hx hop2 p hp2 hb2 hz3
  · have e : x ≠ x0 := fun e => hk (ps - 1) (by omega) (by rw [hx0, e])
    rw [fn e]; exact g5 x hx h0 hk
  · have e : x ≠ x0 := fun e => by rw [e, ls] at hl; omega
    rw [ln e] at hl
    have h := g6 x hx h0 hl z he
    have ez : z ≠ x0 := fun e => t2.2 (by rw [← e]; exact h.2)
    rw [ln ez]; exact h
  · have hop2 := (opi x).mp hop
    have old := g7 i hi x hx hop2 hle hlt2
    by_cases e : x = x0
    · by_cases ei : i + 1 < ps
      · have h1 := hlt2 ei
        have h2 := htop (i + 1) ei
        rw [e] at h1; omega
      · have : q i = x0 := by rw [show i = ps - 1 by omega]; exact hx0
        rw [this, e]; exact Nat.le_refl _
    · rw [ln e]; exact Nat.le_trans (lle _) old
  · have hop2 := (opi x).mp hop
    by_cases e : x = x0
    · rw [e, ls]
      rcases m4 with e2 | ⟨e2, e3⟩
      · obtain ⟨z, z1, z2, z3, z4⟩ := g9 x0 t1 t2
        exact ⟨z, z1, (opi z).mpr z2, by rw [e2]; exact z3, z4⟩
      · have hr := (g2 x0 t1).2 p0 hb
        have he : Ed T x0 (x0 ^^^ 2 ^ p0) := ⟨p0, hp, hr, rfl⟩
        exact ⟨_, he.lt t1, (opi _).mpr e2, e3.symm, (Rch.rfl' T x0).step he⟩
    · obtain ⟨z, z1, z2, z3, z4⟩ := g9 x hx hop2
      exact ⟨z, z1, (opi z).mpr z2, by rw [ln e]; exact z3, z4⟩
  · exact Nat.lt_of_le_of_lt (lle x) (g10 x hx ((opi x).mp hop) hk)
/-- the earliest that is open is the path's first, and nothing earlier is known of it -/
theorem kt_min (hV : kt_V (2 ^ T.1) c F L ps q os o) (hG : kt_G T F L ps q lf) {x : Nat} (hx : x < 2 ^ T.1) (hop : kt_op F L x) : 1 ≤ ps ∧ L (q 0) = F (q 0) ∧ F (q 0) ≤ F x := by
  obtain ⟨v1, v2, v3, v4, v5, v6, v7, v8, v9⟩ := hV
  obtain ⟨g1, g2, g3, g4, g5, g6, g7, g8, g9, g10⟩ := hG
  obtain ⟨m, ⟨x0, x1, x2, x3⟩, least⟩ := pk_least (fun m => ∃ x, x < 2 ^ T.1 ∧ kt_op F L x ∧ F x = m) ⟨_, x, hx, hop, rfl⟩
  have lst : ∀ z, z < 2 ^ T.1 → kt_op F L z → m ≤ F z := fun z hz1 hz2 => Nat.le_of_not_lt (fun h => least _ h ⟨z, hz1, hz2, rfl⟩)
  have hpath : ∃ k, k < ps ∧ q k = x0 := Classical.byContradiction (fun hn => by
    have h1 := g10 x0 x1 x2 (fun k hk e => hn ⟨k, hk, e⟩)
    obtain ⟨z, z1, z2, z3, _⟩ := g9 x0 x1 x2
    have := lst z z1 z2
    omega)
  obtain ⟨k, k1, k2⟩ := hpath
  have hq0 := v7 0 (by omega)
  have hF0 : F (q 0) = m := by
    have h1 := lst _ hq0.1 hq0.2
    by_cases e : k = 0
    · rw [← e, k2, x3]
    · have := v8 0 k (by omega) k1
      rw [k2, x3] at this; omega
  refine ⟨by omega, ?_, by rw [hF0]; exact lst x hx hop⟩
  have h1 := v9 _ hq0.1 hq0.2
  obtain ⟨z, z1, z2, z3, _⟩ := g9 _ hq0.1 hq0.2
  have := lst z z1 z2
  omega
theorem kt_back {m : Nat} (hN : 2 ^ T.1 ≤ 1024) (hV : kt_V (2 ^ T.1) c F L ps q os o) (hG : kt_G T F L ps q lf) (hps : 2 ≤ ps) (h0 : lf (q (ps - 1)) = 0) (hne : L (q (ps - 1)) ≠ F (q (ps - 1))) (m1 : m ≤ L (q (ps - 2))) (m2 : m ≤ L (q (ps - 1))) (m3 : m = L (q (ps - 2)) ∨ m = L (q (ps - 1))) : kt_V (2 ^ T.1) c F (va_up L (q (ps - 2)) m) (ps - 1) q os o ∧ kt_G T F (va_up L (q (ps - 2)) m) (ps - 1) q lf := by
  obtain ⟨v1, v2, v3, v4, v5, v6, v7, v8, v9⟩ := hV
  obtain ⟨g1, g2, g3, g4, g5, g6, g7, g8, g9, g10⟩ := hG
  have hc := kt_cN v2
  obtain ⟨t1, t2⟩ := v7 (ps - 1) (by omega)
  obtain ⟨u1, u2⟩ := v7 (ps - 2) (by omega)
  have hlt := v8 (ps - 2) (ps - 1) (by omega) (by omega)
  have htop : ∀ k, k < ps - 1 → F (q k) ≤ F (q (ps - 2)) := fun k hk => by
    by_cases e : k = ps - 2
    · rw [e]; exact Nat.le_refl _
    · exact Nat.le_of_lt (v8 k (ps - 2) (by omega) (by omega))
  have g5t := g10 (q (ps - 1)) t1 t2
  have tl := v9 _ t1 t2
  have ul := v9 _ u1 u2
  have uc := v1 _ u1
  have r21 : Rch T (q (ps - 2)) (q (ps - 1)) := g8 (ps - 2) (by omega) _ t1 t2 (by omega)
  have own1 : ∀ x, x < 2 ^ T.1 → kt_op F L x → F (q (ps - 1)) ≤ F x → L (q (ps - 1)) ≤ L x := fun x hx hop hle => g7 (ps - 1) (by omega) x hx hop hle (fun h => by omega)
  have own2 : ∀ x, x < 2 ^ T.1 → kt_op F L x → F (q (ps - 2)) ≤ F x → F x < F (q (ps - 1)) → L (q (ps - 2)) ≤ L x := fun x hx hop hle hlt2 => g7 (ps - 2) (by omega) x hx hop hle (fun _ => by rw [show ps - 2 + 1 = ps - 1 by omega]; exact hlt2)
  have offp : ∀ x, (∀ k, k < ps - 1 → q k ≠ x) → x ≠ q (ps - 1) → ∀ k, k < ps → q k ≠ x := fun x h hne2 k hk e => by
    by_cases ek : k = ps - 1
    · rw [ek] at e; exact hne2 e.symm
    · exact h k (by omega) e
  generalize hx1 : q (ps - 1) = x1 at *
  generalize hx0 : q (ps - 2) = x0 at *
  have ls : va_up L x0 m x0 = m := up_same _ _ _
  have ln : ∀ {x}, x ≠ x0 → va_up L x0 m x = L x := fun h => up_ne _ _ h
  have lle : ∀ x, va_up L x0 m x ≤ L x := fun x => by
    by_cases e : x = x0
    · rw [e, ls]; exact m1
    · rw [ln e]; exact Nat.le_refl _
  have opi : ∀ x, kt_op F (va_up L x0 m) x ↔ kt_op F L x := fun x => by
    by_cases e : x = x0
    · rw [e]; exact ⟨fun _ => u2, fun _ => ⟨u2.1, by rw [ls]; omega⟩⟩
    · unfold kt_op; rw [ln e]
  have hmpos : 1 ≤ m := by rcases m3 with e | e <;> omega
  refine ⟨⟨v1, v2, v3, fun k hk => ⟨(v4 k hk).1, (opi _).mpr (v4 k hk).2⟩, fun x hx hop => v5 x hx ((opi x).mp hop), v6, fun k hk => ⟨(v7 k (by omega)).1, (opi _).mpr (v7 k (by omega)).2⟩, fun j k hj hk => v8 j k hj (by omega), fun x hx hop => ?_⟩, g1, g2, g3, fun x hx hop p hp2 hb2 hz2 => Nat.le_trans (lle x) (g4 x hx ((opi x).mp hop) p hp2 hb2 ((opi _).mp hz2)), fun x hx h0x hk => ?_, fun x hx h0x hl z he => ?_, fun i hi x hx hop hle hlt2 => ?_, fun i hi x hx hop hle => g8 i (by omega) x hx ((opi x).mp hop) hle, fun x hx hop => ?_, fun x hx hop hk => ?_⟩
  · have := v9 x hx ((opi x).mp hop)
    have := lle x
    refine ⟨?_, by omega⟩
    by_cases e : x = x0
    · rw [e, ls]; exact hmpos
    · rw [ln e]; omega
  · by_cases e : x = x1
    · rw [e]; exact h0
    · exact g5 x hx h0x (offp x hk e)
  · have e : x ≠ x0 := fun e => by rw [e, ls] at hl; omega
    rw [ln e] at hl
    have h := g6 x hx h0x hl z he
    have ez : z ≠ x0 := fun e => u2.2 (by rw [← e]; exact h.2)
    rw [ln ez]; exact h
  · have hop2 := (opi x).mp hop
    by_cases ei : i = ps - 2
    · rw [ei, hx0] at hle ⊢
      rw [ls]
      by_cases e : x = x0
      · rw [e, ls]; exact Nat.le_refl _
      · rw [ln e]
        by_cases h : F x < F x1
        · exact Nat.le_trans m1 (own2 x hx hop2 hle h)
        · exact Nat.le_trans m2 (own1 x hx hop2 (by omega))
    · have h1 := hlt2 (by omega)
      have h2 := htop (i + 1) (by omega)
      have e : x ≠ x0 := fun e => by rw [e] at h1; omega
      rw [ln e]
      exact Nat.le_trans (lle _) (g7 i (by omega) x hx hop2 hle (fun _ => h1))
  · have hop2 := (opi x).mp hop
    by_cases e : x = x0
    · rw [e, ls]
      rcases m3 with e2 | e2
      · obtain ⟨z, z1, z2, z3, z4⟩ := g9 x0 u1 u2
        exact ⟨z, z1, (opi z).mpr z2, by rw [e2]; exact z3, z4⟩
      · obtain ⟨z, z1, z2, z3, z4⟩ := g9 x1 t1 t2
        exact ⟨z, z1, (opi z).mpr z2, by rw [e2]; exact z3, r21.trans z4⟩
    · obtain ⟨z, z1, z2, z3, z4⟩ := g9 x hx hop2
      exact ⟨z, z1, (opi z).mpr z2, by rw [ln e]; exact z3, z4⟩
  · have hop2 := (opi x).mp hop
    by_cases e : x = x1
    · have := lle x
      rw [e] at this ⊢
      omega
    · exact Nat.lt_of_le_of_lt (lle x) (g10 x hx hop2 (offp x hk e))
/-- a part that has ended -/
theorem kt_scc (hV : kt_V (2 ^ T.1) c F L ps q os o) (hG : kt_G T F L ps q lf) (hps : 1 ≤ ps) (hlf : L (q (ps - 1)) = F (q (ps - 1))) {x : Nat} (hx : x < 2 ^ T.1) (hop : kt_op F L x) (hle : F (q (ps - 1)) ≤ F x) : Rch T (q (ps - 1)) x ∧ Rch T x (q (ps - 1)) := by
  obtain ⟨v1, v2, v3, v4, v5, v6, v7, v8, v9⟩ := hV
  obtain ⟨g1, g2, g3, g4, g5, g6, g7, g8, g9, g10⟩ := hG
  obtain ⟨t1, t2⟩ := v7 (ps - 1) (by omega)
  refine ⟨g8 (ps - 1) (by omega) x hx hop hle, ?_⟩
  have key : ∀ n x, x < 2 ^ T.1 → kt_op F L x → F (q (ps - 1)) ≤ F x → F x = n → Rch T x (q (ps - 1)) := by
    intro n
    induction n using Nat.strongRecOn with
    | _ n ih =>
      intro x hx hop hle hn
      by_cases e : x = q (ps - 1)
      · rw [e]; exact Rch.rfl' T _
      · have hoff : ∀ k, k < ps → q k ≠ x := fun k hk ek => by
          by_cases ek2 : k = ps - 1
          · rw [ek2] at ek; exact e ek.symm
          · have := v8 k (ps - 1) (by omega) (by omega)
            rw [ek] at this; omega
        have h1 := g10 x hx hop hoff
        have h2 := g7 (ps - 1) (by omega) x hx hop hle (fun h => by omega)
        obtain ⟨z, z1, z2, z3, z4⟩ := g9 x hx hop
        exact z4.trans (ih (F z) (by omega) z z1 z2 (by omega) rfl)
  exact key _ x hx hop hle rfl
theorem Rch.last {x z : Nat} (h : Rch T x z) : x = z ∨ ∃ y, Rch T x y ∧ Ed T y z := by
  have := h (fun a => Rch T x a ∧ (x = a ∨ ∃ y, Rch T x y ∧ Ed T y a)) ⟨Rch.rfl' T x, Or.inl rfl⟩ (fun a b ha e => ⟨ha.1.step e, Or.inr ⟨a, ha.1, e⟩⟩)
  exact this.2
theorem s_cyc_of {x z : Nat} (hne : x ≠ z) (h1 : Rch T x z) (h2 : Rch T z x) : s_cyc T z := by
  rcases h1.last with e | ⟨y, y1, y2⟩
  · exact absurd e hne
  · exact ⟨y, h2.trans y1, y2⟩
theorem Ed.ne {x z : Nat} (h : Ed T x z) : x ≠ z := by
  obtain ⟨p, _, _, e⟩ := h
  intro e2
  have h1 : (x ^^^ 2 ^ p).testBit p = x.testBit p := by rw [← e, e2]
  rw [Nat.testBit_xor, Nat.testBit_two_pow] at h1
  cases hb : x.testBit p <;> simp [hb] at h1
theorem kt_single (hV : kt_V (2 ^ T.1) c F L ps q os o) (hG : kt_G T F L ps q lf) (hps : 1 ≤ ps) (h0 : lf (q (ps - 1)) = 0) (hlf : L (q (ps - 1)) = F (q (ps - 1))) (hone : ∀ x, x < 2 ^ T.1 → kt_op F L x → F (q (ps - 1)) ≤ F x → x = q (ps - 1)) : ¬ s_cyc T (q (ps - 1)) := by
  obtain ⟨v1, v2, v3, v4, v5, v6, v7, v8, v9⟩ := hV
  obtain ⟨g1, g2, g3, g4, g5, g6, g7, g8, g9, g10⟩ := hG
  obtain ⟨t1, t2⟩ := v7 (ps - 1) (by omega)
  rintro ⟨x, x1, x2⟩
  have key := x1 (fun a => a < 2 ^ T.1 ∧ (a = q (ps - 1) ∨ (F a ≠ 0 ∧ L a = 1025))) ⟨t1, Or.inl rfl⟩ (fun a b ha e => ⟨e.lt ha.1, by
    rcases ha.2 with rfl | h
    · right
      have hb := e.lt t1
      have hne := e.ne
      obtain ⟨p, p1, p2, p3⟩ := e
      have hF := g3 _ t1 t2.1 p p2 (by rw [h0, Nat.zero_testBit])
      rw [← p3] at hF
      refine ⟨hF, Classical.byContradiction (fun hL => ?_)⟩
      have hle := g4 _ t1 t2 p p2 (by rw [h0, Nat.zero_testBit]) (by rw [← p3]; exact ⟨hF, hL⟩)
      rw [← p3, hlf] at hle
      exact hne (hone b hb ⟨hF, hL⟩ hle).symm
    · exact Or.inr (g6 a ha.1 h.1 h.2 b e)⟩)
  rcases key.2 with e | h
  · rw [e] at x2; exact x2.ne rfl
  · exact t2.2 (g6 x key.1 h.1 h.2 _ x2).2
theorem kt_close {L' : Nat → Nat} {k0 : Nat} (hV : kt_V (2 ^ T.1) c F L ps q os o) (hG : kt_G T F L ps q lf) (hps : 1 ≤ ps) (h0 : lf (q (ps - 1)) = 0) (hlf : L (q (ps - 1)) = F (q (ps - 1))) (hk : k0 < os) (hk0 : o k0 = q (ps - 1)) (e1 : ∀ x, x < 2 ^ T.1 → kt_op F L x → F (q (ps - 1)) ≤ F x → L' x = 1025) (e2 : ∀ x, x < 2 ^ T.1 → ¬ (kt_op F L x ∧ F (q (ps - 1)) ≤ F x) → L' x = L x) : kt_V (2 ^ T.1) c F L' (ps - 1) q k0 o ∧ kt_G T F L' (ps - 1) q lf := by
  obtain ⟨v1, v2, v3, v4, v5, v6, v7, v8, v9⟩ := hV
  obtain ⟨g1, g2, g3, g4, g5, g6, g7, g8, g9, g10⟩ := hG
  obtain ⟨t1, t2⟩ := v7 (ps - 1) (by omega)
  have opi : ∀ x, x < 2 ^ T.1 → (kt_op F L' x ↔ kt_op F L x ∧ F x < F (q (ps - 1))) := fun x hx => by
    by_cases h : kt_op F L x ∧ F (q (ps - 1)) ≤ F x
    · have := e1 x hx h.1 h.2
      exact ⟨fun h2 => absurd this h2.2, fun h2 => by omega⟩
    · have e := e2 x hx h
      unfold kt_op at h ⊢
      rw [e]
      exact ⟨fun h2 => ⟨h2, Nat.lt_of_not_le (fun h3 => h ⟨h2, h3⟩)⟩, fun h2 => h2.1⟩
  have low : ∀ x, x < 2 ^ T.1 → kt_op F L' x → L' x = L x := fun x hx hop => by
    have h := (opi x hx).mp hop
    exact e2 x hx (fun h2 => by omega)
  have hlo : ∀ k, k < ps - 1 → F (q k) < F (q (ps - 1)) := fun k hk => v8 k (ps - 1) hk (by omega)
  have edge : ∀ x z, x < 2 ^ T.1 → Ed T x z → z < 2 ^ T.1 := fun x z hx e => e.lt hx
  refine ⟨⟨v1, v2, v3, fun k hk2 => ?_, fun x hx hop => ?_, fun j k hj hk2 => v6 j k hj (by omega), fun k hk2 => ?_, fun j k hj hk2 => v8 j k hj (by omega), fun x hx hop => ?_⟩, g1, g2, g3, fun x hx hop p hp2 hb2 hz2 => ?_, fun x hx h0x hk2 => ?_, fun x hx h0x hl z he => ?_, fun i hi x hx hop hle hlt2 => ?_, fun i hi x hx hop hle => g8 i (by omega) x hx ((opi x hx).mp hop).1 hle, fun x hx hop => ?_, fun x hx hop hk2 => ?_⟩
  · have h := v4 k (by omega)
    exact ⟨h.1, (opi _ h.1).mpr ⟨h.2, by rw [← hk0]; exact v6 k k0 hk2 hk⟩⟩
  · have h := (opi x hx).mp hop
    obtain ⟨k, k1, k2⟩ := v5 x hx h.1
    refine ⟨k, Classical.byContradiction (fun h2 => ?_), k2⟩
    by_cases e : k = k0
    · rw [e, hk0] at k2; rw [← k2] at h; omega
    · have := v6 k0 k (by omega) k1
      rw [hk0, k2] at this; omega
  · have h := v7 k (by omega)
    exact ⟨h.1, (opi _ h.1).mpr ⟨h.2, hlo k hk2⟩⟩
  · rw [low x hx hop]; exact v9 x hx ((opi x hx).mp hop).1
  · rw [low x hx hop]
    have hz3 : x ^^^ 2 ^ p < 2 ^ T.1 := by
      have hp : p < T.1 := by
        have := s_rl_bit T x p
        rw [hp2] at this
        simp at this; exact this.1
      exact Nat.xor_lt_two_pow hx (Nat.pow_lt_pow_right (by decide) hp)
    exact g4 x hx ((opi x hx).mp hop).1 p hp2 hb2 ((opi _ hz3).mp hz2).1
  · by_cases e : x = q (ps - 1)
    · rw [e]; exact h0
    · exact g5 x hx h0x (fun k hk3 e3 => by
        by_cases ek : k = ps - 1
        · rw [ek] at e3; exact e e3.symm
        · exact hk2 k (by omega) e3)
  · have hz := edge x z hx he
    by_cases h : kt_op F L x ∧ F (q (ps - 1)) ≤ F x
    · have l0 : lf x = 0 := by
        by_cases e : x = q (ps - 1)
        · rw [e]; exact h0
        · exact g5 x hx h.1.1 (fun k hk3 e3 => by
            by_cases ek : k = ps - 1
            · rw [ek] at e3; exact e e3.symm
            · have := hlo k (by omega); rw [e3] at this; omega)
      obtain ⟨p, p1, p2, p3⟩ := he
      have hF := g3 x hx h0x p p2 (by rw [l0, Nat.zero_testBit])
      rw [← p3] at hF
      refine ⟨hF, ?_⟩
      by_cases hL : L z = 1025
      · rw [e2 z hz (fun h2 => h2.1.2 hL)]; exact hL
      · have h4 := g4 x hx h.1 p p2 (by rw [l0, Nat.zero_testBit]) (by rw [← p3]; exact ⟨hF, hL⟩)
        rw [← p3] at h4
        have h7 := g7 (ps - 1) (by omega) x hx h.1 h.2 (fun h => by omega)
        exact e1 z hz ⟨hF, hL⟩ (by omega)
    · rw [e2 x hx h] at hl
      have hc := g6 x hx h0x hl z he
      refine ⟨hc.1, ?_⟩
      rw [e2 z hz (fun h2 => h2.1.2 hc.2)]; exact hc.2
  · have h := (opi x hx).mp hop
    have hq := v7 i (by omega)
    rw [low x hx hop, low _ hq.1 ((opi _ hq.1).mpr ⟨hq.2, hlo i hi⟩)]
    refine g7 i (by omega) x hx h.1 hle (fun hi2 => ?_)
    by_cases e : i + 1 = ps - 1
    · rw [e]; exact h.2
    · exact hlt2 (by omega)
  · have h := (opi x hx).mp hop
    obtain ⟨z, z1, z2, z3, z4⟩ := g9 x hx h.1
    have := v9 x hx h.1
    exact ⟨z, z1, (opi z z1).mpr ⟨z2, by omega⟩, by rw [low x hx hop]; exact z3, z4⟩
  · have h := (opi x hx).mp hop
    rw [low x hx hop]
    exact g10 x hx h.1 (fun k hk3 e3 => by
      by_cases ek : k = ps - 1
      · rw [ek] at e3; rw [← e3] at h; omega
      · exact hk2 k (by omega) e3)
/-- bits that are left -/
def kt_b (lf : Nat → Nat) (n : Nat) : Nat := s_ct (fun j => (lf (j / 10)).testBit (j % 10)) n
theorem kt_b_step {N x0 p0 : Nat} (hx : x0 < N) (hp : p0 < 10) (hb : (lf x0).testBit p0 = true) : kt_b (va_up lf x0 (lf x0 ^^^ 2 ^ p0)) (10 * N) + 1 = kt_b lf (10 * N) := by
  have one : s_ct (fun j => decide (j = 10 * x0 + p0)) (10 * N) = 1 := s_ct_one (fun a b _ _ ha hb => by simp at ha hb; omega) ⟨10 * x0 + p0, by omega, by simp⟩
  unfold kt_b
  rw [← one]
  refine s_ct_add (fun j hj => ?_)
  have hd := Nat.div_add_mod j 10
  have hm := Nat.mod_lt j (show 0 < 10 by decide)
  by_cases e : j / 10 = x0
  · rw [e, up_same, Nat.testBit_xor, Nat.testBit_two_pow]
    by_cases ep : j % 10 = p0
    · rw [ep, hb]
      have : j = 10 * x0 + p0 := by omega
      simp [this]
    · have : ¬ j = 10 * x0 + p0 := by omega
      simp [this, show ¬ p0 = j % 10 from fun c => ep c.symm]
  · rw [up_ne _ _ e]
    have : ¬ j = 10 * x0 + p0 := by omega
    simp [this]
end Tarj
