section GainC
variable {E F : ET} {M MX MM : Mem} {T : TW} {P : PW} {v : Nat}
theorem h_min {a b : Nat} (ha : a < 2 ^ 31) (hb : b < 2 ^ 31) : (if nI b < nI a then nI b else nI a) = nI (min a b) := by
  by_cases h : b < a
  · rw [if_pos (nI_lt h ha)]; apply h_eqN; omega
  · rw [if_neg (nI_nlt (by omega) hb)]; apply h_eqN; omega
theorem c_gainBy (hX : InvX M T P v) {y n s : Nat} (hy : y < 2) (hn : n ≤ 50) (hs : s ≤ 500) (cost price : Int32) : CX5_gainBy E [.ref (E.2.1 5), .int (nI y), .int (nI n), .int (nI s), .int cost, .int price] M (z_pI (fun r M1 => r = s_G (fun d => s_ask (s_step T y) d n) (2 ^ T.1) cost price s ∧ InvX M1 T P v)) := by
  refine EX5_gainBy (fun X hE hK => ⟨_, c_tally hX hy hn, fun M1 hq => ?_⟩)
  obtain ⟨hI, hT⟩ := hq
  have hA : ∀ d, s_ask (s_step T y) d n < 501 := fun d => by have := s_ask_le (s_step T y) d n; omega
  refine h_down (P := fun i => LX5_gainBy_12 X (z_pI (fun r M1 => r = s_G (fun d => s_ask (s_step T y) d n) (2 ^ T.1) cost price s ∧ InvX M1 T P v)) (nI s) cost price (nI (s_sm (fun c => s_tl (fun d => s_ask (s_step T y) d n) (2 ^ T.1) c * min c s) i)) (nI i) M1) 501 ?_ ?_
  · refine BX5_gainBy_12 hK ⟨fun _ => ⟨_, c_dresses hI.1, zpI ⟨?_, hI⟩⟩, fun c => absurd (nI_lt (a := 500) (b := 501) (by omega) (by omega)) c⟩
    have e := s_sm_vals (fun d => s_ask (s_step T y) d n) (fun c => min c s) 501 hA (2 ^ T.1)
    unfold s_tl
    rw [e]
    unfold s_G
    generalize nI (s_sm (fun d => min (s_ask (s_step T y) d n) s) (2 ^ T.1)) = a
    generalize nI (2 ^ T.1) = b
    generalize nI s = c
    grind
  · intro i hi ih
    refine BX5_gainBy_12 hK ⟨fun c => absurd c (nI_nlt (a := 500) (b := i) (by omega) (by omega)), fun _ => ⟨h_inK (by omega), ?_⟩⟩
    rw [h_clK (by omega), hT i (by omega), h_min (by omega) (by omega), pk_mul, nI_add, nI_1]
    exact ih
theorem n_layAsks (hM : InvM M T P) {y n : Nat} (hy : y < 2) (hn : n ≤ 50) : CX10_layAsks E [.ref (E.2.1 0), .int (nI y), .int (nI n)] M (z_pV (fun M1 => FrM M M1 ∧ ∀ d, d < 2 ^ T.1 → M1.1 15 d = nI (s_ask (s_step T y) d n))) := by
  have h10 := hM.2.1.1.2
  have hp2 : 2 ^ T.1 ≤ 1024 := Nat.pow_le_pow_right (n := 2) (by decide) h10
  have hpos := Nat.two_pow_pos T.1
  refine EX10_layAsks (fun X hE hK => ⟨_, n_layLeads hM hy, fun M1 hq => ?_⟩)
  obtain ⟨f1, f2, f3, f4⟩ := hq
  refine h_down (P := fun i => ∀ M2, FrM M M2 → (∀ k, k ≠ 15 → M2.1 k = M1.1 k) → (∀ d, d < i → M2.1 15 d = nI (s_ask (s_step T y) d n)) → LX10_layAsks_7 X (z_pV (fun M1 => FrM M M1 ∧ ∀ d, d < 2 ^ T.1 → M1.1 15 d = nI (s_ask (s_step T y) d n))) (nI n) (nI i) M2) (2 ^ T.1) ?_ ?_ M1 f1 (fun _ _ => rfl) (fun d hd => absurd hd (Nat.not_lt_zero d))
  · intro M2 g1 g2 g3
    exact BX10_layAsks_7 hK ⟨_, n_all (hM.fr g1).1 hM.2.1, fun _ => zpV ⟨g1, g3⟩, fun c => absurd (nI_lt (by omega) (by omega)) c⟩
  · intro i hi ih M2 g1 g2 g3
    refine BX10_layAsks_7 hK ⟨_, n_all (hM.fr g1).1 hM.2.1, fun c => absurd c (nI_nlt (by omega) (by omega)), fun _ => ⟨_, n_askedOf hp2 (fun x hx => s_step_lt T y hx) (fun d hd => by rw [g2 4 (by decide)]; exact f4 d hd) hi hn, h_inK (by omega), fun M3 e3 => ?_⟩⟩
    rw [h_clK (by omega)] at e3
    rw [nI_1]
    refine ih M3 (g1.trans (by rw [e3]; exact FrM.st (by decide) (by decide))) (fun k hk => by rw [e3, m_cell _ _ hk]; exact g2 k hk) (fun d hd => ?_)
    by_cases e : d = i
    · subst e; rw [e3, m_same]
    · rw [e3, m_ne _ _ (by omega)]; exact g3 d (by omega)
theorem n_gainOf (hM : InvM M T P) {A : Nat → Nat} (h15 : ∀ d, d < 2 ^ T.1 → M.1 15 d = nI (A d)) (hA : ∀ d, A d ≤ 500) {s : Nat} (hs : s ≤ 500) (cost price : Int32) : CX10_gainOf E [.ref (E.2.1 0), .int (nI s), .int cost, .int price] M (z_is (some (.int (s_G A (2 ^ T.1) cost price s))) M) := by
  have h10 := hM.2.1.1.2
  have hp2 : 2 ^ T.1 ≤ 1024 := Nat.pow_le_pow_right (n := 2) (by decide) h10
  have hpos := Nat.two_pow_pos T.1
  refine EX10_gainOf (fun X hE hK => ?_)
  have e0 : (0 : Int32) = s_G A 0 cost price s := by
    show (0 : Int32) = price * 0 - cost * nI s * 0
    rw [Int32.mul_zero, Int32.mul_zero]; rfl
  have go : LX10_gainOf_6 X (z_is (some (.int (s_G A (2 ^ T.1) cost price s))) M) (nI s) cost price (s_G A 0 cost price s) (nI 0) M := by
    refine h_down (P := fun i => LX10_gainOf_6 X (z_is (some (.int (s_G A (2 ^ T.1) cost price s))) M) (nI s) cost price (s_G A i cost price s) (nI i) M) (2 ^ T.1) ?_ ?_
    · exact BX10_gainOf_6 hK ⟨_, n_all hM.1 hM.2.1, fun _ => zi rfl, fun c => absurd (nI_lt (by omega) (by omega)) c⟩
    · intro i hi ih
      have hAi := hA i
      have stp : s_G A (i + 1) cost price s = s_G A i cost price s + (price * nI (min (A i) s) - cost * nI s) := by
        unfold s_G
        show price * nI (s_sm (fun d => min (A d) s) i + min (A i) s) - cost * nI s * nI (i + 1) = _
        rw [← nI_add, ← nI_1]
        generalize nI (s_sm (fun d => min (A d) s) i) = a
        generalize nI (min (A i) s) = b
        generalize nI s = c
        generalize nI i = e
        grind
      rw [stp] at ih
      refine BX10_gainOf_6 hK ⟨_, n_all hM.1 hM.2.1, fun c => absurd c (nI_nlt (by omega) (by omega)), fun _ => ⟨h_inK (by omega), ?_⟩⟩
      rw [h_clK (by omega), h15 i hi, nI_leI (by omega) (by omega), nI_1]
      refine ⟨fun c => ?_, fun c => ⟨h_inK (by omega), ?_⟩⟩
      · rw [show min (A i) s = s by omega] at ih; exact ih
      · rw [show min (A i) s = A i by omega] at ih; exact ih
  rw [← e0] at go
  exact go
theorem c_wayB {x : Int32} : CX9_isWay E [.int x] M (z_is (some (.int (s_bit (s_in x 0 1)))) M) := by
  rcases h_ix x (show 2 < 2 ^ 31 by decide) with h | ⟨y, hy, rfl⟩
  · rw [show s_in x 0 1 = false from s_in_nIf (n := 2) (by decide) (by decide) h]; exact c_isWay_no h
  · rw [show s_in (nI y) 0 1 = true from s_in_nI (n := 2) (by decide) hy]; exact c_isWay_yes hy
theorem n_shop {x1 x2 x3 x4 : Int32} : CX10_isShop E [.int x1, .int x2, .int x3, .int x4] M (z_is (some (.int (s_bit (s_in x1 0 1 && (s_in x2 1 50 && (s_in x3 1 99 && s_in x4 1 99)))))) M) := by
  have w : CX10_isWay E [.int x1] M (z_is (some (.int (s_bit (s_in x1 0 1)))) M) := EX10_isWay ⟨_, c_in (a := 0) (b := 1), s_bit_01 _, zi rfl⟩
  have c2 := c_in (E := E) (M := M) (x := x2) (a := 1) (b := 50)
  have c3 := c_in (E := E) (M := M) (x := x3) (a := 1) (b := 99)
  have c4 := c_in (E := E) (M := M) (x := x4) (a := 1) (b := 99)
  generalize s_in x1 0 1 = b1 at w ⊢
  generalize s_in x2 1 50 = b2 at c2 ⊢
  generalize s_in x3 1 99 = b3 at c3 ⊢
  generalize s_in x4 1 99 = b4 at c4 ⊢
  refine EX10_isShop ⟨_, w, fun c => zi ?_, fun c => ⟨_, c2, fun d => zi ?_, fun d => ⟨_, c3, fun e => zi ?_, fun e => ⟨_, c4, fun f => zi ?_, fun f => zi ?_⟩⟩⟩⟩
  · rw [s_bit_0.mp c]; rfl
  · rw [s_bit_0.mp d]; cases b1 <;> rfl
  · rw [s_bit_0.mp e]; cases b1 <;> cases b2 <;> rfl
  · rw [s_bit_0.mp f]; cases b1 <;> cases b2 <;> cases b3 <;> rfl
  · rw [s_bit_0] at c d e f
    simp at c d e f
    rw [c, d, e, f]; rfl
theorem h_way {x : Int32} (h : s_in x 0 1 = true) : ∃ y, y < 2 ∧ x = nI y := by
  obtain ⟨n, _, n2, e⟩ := h_rng (B := 1) (A := 0) (by decide) rfl (by decide) h
  exact ⟨n, by omega, e⟩
theorem tt_gain (hX : InvX MX T P v) (hM : InvM MM T P) (x1 x2 x3 x4 x5 : Int32) : TopI (CX9_gain E [.ref (E.2.1 9), .int x1, .int x2, .int x3, .int x4, .int x5] MX) (CX10_gain F [.ref (F.2.1 0), .int x1, .int x2, .int x3, .int x4, .int x5] MM) (v + 10) := by
  have k1 := c_wayB (E := E) (M := MX) (x := x1)
  have k2 := c_shopRun (E := E) (M := MX) (x := x2)
  have k3 := c_within (E := E) (M := MX) (x := x3) (a := 0) (b := 500)
  have k4 := c_money (E := E) (M := MX) (x := x4)
  have k5 := c_money (E := E) (M := MX) (x := x5)
  have q1 := n_shop (E := F) (M := MM) (x1 := x1) (x2 := x2) (x3 := x4) (x4 := x5)
  have q2 := c_in (E := F) (M := MM) (x := x3) (a := 0) (b := 500)
  cases h1 : s_in x1 0 1 with
  | false =>
    rw [h1] at k1 q1
    exact ⟨-2, T, P, EX9_gain ⟨_, k1, fun _ => okX hX, fun c => absurd rfl c⟩, EX10_gain ⟨_, q1, fun _ => okM hM, fun c => absurd rfl c⟩⟩
  | true =>
    rw [h1] at k1 q1
    cases h2 : s_in x2 1 50 with
    | false =>
      rw [h2] at k2 q1
      exact ⟨-2, T, P, EX9_gain ⟨_, k1, fun c => absurd c (by decide), fun _ => ⟨_, k2, fun _ => okX hX, fun c => absurd rfl c⟩⟩, EX10_gain ⟨_, q1, fun _ => okM hM, fun c => absurd rfl c⟩⟩
    | true =>
      rw [h2] at k2 q1
      cases h3 : s_in x3 0 500 with
      | false =>
        rw [h3] at k3 q2
        refine ⟨-2, T, P, EX9_gain ⟨_, k1, fun c => absurd c (by decide), fun _ => ⟨_, k2, fun c => absurd c (by decide), fun _ => ⟨_, k3, fun c => absurd rfl c, fun _ => okX hX⟩⟩⟩, EX10_gain ⟨_, q1, fun _ => okM hM, fun _ => ⟨_, q2, fun c => absurd rfl c, fun _ => okM hM⟩⟩⟩
      | true =>
        rw [h3] at k3 q2
        cases h4 : s_in x4 1 99 with
        | false =>
          rw [h4] at k4 q1
          exact ⟨-2, T, P, EX9_gain ⟨_, k1, fun c => absurd c (by decide), fun _ => ⟨_, k2, fun c => absurd c (by decide), fun _ => ⟨_, k3, fun _ => ⟨_, k4, fun _ => okX hX, fun c => absurd rfl c⟩, fun c => absurd c (by decide)⟩⟩⟩, EX10_gain ⟨_, q1, fun _ => okM hM, fun c => absurd rfl c⟩⟩
        | true =>
          rw [h4] at k4 q1
          cases h5 : s_in x5 1 99 with
          | false =>
            rw [h5] at k5 q1
            exact ⟨-2, T, P, EX9_gain ⟨_, k1, fun c => absurd c (by decide), fun _ => ⟨_, k2, fun c => absurd c (by decide), fun _ => ⟨_, k3, fun _ => ⟨_, k4, fun c => absurd c (by decide), fun _ => ⟨_, k5, fun c => absurd rfl c, fun _ => okX hX⟩⟩, fun c => absurd c (by decide)⟩⟩⟩, EX10_gain ⟨_, q1, fun _ => okM hM, fun c => absurd rfl c⟩⟩
          | true =>
            rw [h5] at k5 q1
            obtain ⟨y, hy, rfl⟩ := h_way h1
            obtain ⟨n, n1, n2, rfl⟩ := h_rng (B := 50) (A := 1) (by decide) rfl (by decide) h2
            obtain ⟨s, s1, s2, rfl⟩ := h_rng (B := 500) (A := 0) (by decide) rfl (by decide) h3
            refine ⟨_, T, P, EX9_gain ⟨_, k1, fun c => absurd c (by decide), fun _ => ⟨_, k2, fun c => absurd c (by decide), fun _ => ⟨_, k3, fun _ => ⟨_, k4, fun c => absurd c (by decide), fun _ => ⟨_, k5, fun _ => ⟨_, c_gainBy hX hy n2 s2 x4 x5, fun r M6 hq => okXr hq.2 (by omega) hq.1⟩, fun c => absurd c (by decide)⟩⟩, fun c => absurd c (by decide)⟩⟩⟩, EX10_gain ⟨_, q1, fun c => absurd c (by decide), fun _ => ⟨_, q2, fun _ => ⟨_, n_layAsks hM hy n2, fun M3 hq => ⟨_, n_gainOf (hM.fr hq.1) hq.2 (fun d => ?_) s2 x4 x5, okM (hM.fr hq.1)⟩⟩, fun c => absurd c (by decide)⟩⟩⟩
            have := s_ask_le (s_step T y) d n; omega
theorem c_best (hX : InvX M T P v) {y n : Nat} (hy : y < 2) (hn : n ≤ 50) (cost price : Int32) : CX5_bestStock E [.ref (E.2.1 5), .int (nI y), .int (nI n), .int cost, .int price] M (z_pI (fun r M1 => r = nI (s_bo (s_G (fun d => s_ask (s_step T y) d n) (2 ^ T.1) cost price) 500).1 ∧ InvX M1 T P v)) := by
  have hp2 := hX.1.p2
  refine EX5_bestStock (fun X hE hK => ⟨_, c_tally hX hy hn, fun M1 hq => ⟨_, c_dresses hq.1.1, h_inK (a := 0) (by decide), ?_⟩⟩)
  obtain ⟨hI, hT⟩ := hq
  generalize hA : (fun d => s_ask (s_step T y) d n) = A at hT ⊢
  generalize hN : 2 ^ T.1 = N at hT hp2 ⊢
  generalize hG : s_G A N cost price = G
  have mre : ∀ k, s_ct (fun d => decide (k + 1 ≤ A d)) N + s_tl A N k = s_ct (fun d => decide (k ≤ A d)) N := fun k => s_ct_add (fun d _ => ⟨fun h => by simp at h ⊢; omega, by
    by_cases h1 : k + 1 ≤ A d
    · simp [h1]; omega
    · by_cases h2 : A d = k
      · simp [h2]
      · simp [h1, h2]; omega⟩)
  have mle : ∀ k, s_ct (fun d => decide (k ≤ A d)) N ≤ N := fun k => s_ct_le _ _
  have m0 : s_ct (fun d => decide (0 ≤ A d)) N = N := s_ct_all (fun k _ => by simp)
  have e0 : nI N - M1.1 30 (0 : Int32).toNatClampNeg = nI (s_ct (fun d => decide (0 + 1 ≤ A d)) N) := by
    have h0 := mre 0
    have h1 : M1.1 30 (0 : Int32).toNatClampNeg = nI (s_tl A N 0) := hT 0 (by omega)
    rw [h1, pk_sub (by omega)]
    apply h_eqN; omega
  have g0 : (0 : Int32) = G 0 := by
    rw [← hG]
    show (0 : Int32) = price * nI (s_sm (fun d => min (A d) 0) N) - cost * 0 * nI N
    have : ∀ N, s_sm (fun d => min (A d) 0) N = 0 := by
      intro N
      induction N with
      | zero => rfl
      | succ N ih => show s_sm _ N + min (A N) 0 = 0; rw [ih]; omega
    rw [this, Int32.mul_zero, Int32.zero_mul, show nI 0 = 0 from rfl, Int32.mul_zero]; rfl
  have stp : ∀ k, G k + (nI (s_ct (fun d => decide (k + 1 ≤ A d)) N) * price - nI N * cost) = G (k + 1) := by
    intro k
    rw [← hG]
    unfold s_G
    rw [s_sm_more, ← nI_add, ← nI_1]
    generalize nI (s_sm (fun d => min (A d) k) N) = a
    generalize nI (s_ct (fun d => decide (k + 1 ≤ A d)) N) = b
    generalize nI N = c
    generalize nI k = e
    grind
  have go : LX5_bestStock_38 X (z_pI (fun r M1 => r = nI (s_bo G 500).1 ∧ InvX M1 T P v)) cost price (nI N) (nI (s_bo G 0).1) (s_bo G 0).2 (G 0) (nI (s_ct (fun d => decide (0 + 1 ≤ A d)) N)) (nI (0 + 1)) M1 := by
    refine h_down (P := fun k => LX5_bestStock_38 X (z_pI (fun r M1 => r = nI (s_bo G 500).1 ∧ InvX M1 T P v)) cost price (nI N) (nI (s_bo G k).1) (s_bo G k).2 (G k) (nI (s_ct (fun d => decide (k + 1 ≤ A d)) N)) (nI (k + 1)) M1) 500 ?_ ?_
    · exact BX5_bestStock_38 hK ⟨fun _ => okX0 hI, fun c => absurd (nI_lt (a := 500) (b := 501) (by omega) (by omega)) c⟩
    · intro k hk ih
      have hm := mre (k + 1)
      have hm2 := mle (k + 1)
      refine BX5_bestStock_38 hK ⟨fun c => absurd c (nI_nlt (a := 500) (b := k + 1) (by omega) (by omega)), fun _ => ?_⟩
      rw [stp k, h_clK (by omega), hT (k + 1) (by omega), pk_sub (by omega), nI_1, show s_ct (fun d => decide (k + 1 ≤ A d)) N - s_tl A N (k + 1) = s_ct (fun d => decide (k + 1 + 1 ≤ A d)) N by omega]
      refine ⟨fun c => ⟨h_inK (by omega), ?_⟩, fun c => ⟨h_inK (by omega), ?_⟩⟩
      · have e : s_bo G (k + 1) = s_bo G k := if_pos c
        rw [e] at ih; exact ih
      · have e : s_bo G (k + 1) = (k + 1, G (k + 1)) := if_neg c
        rw [e] at ih; exact ih
  rw [← g0] at go
  rw [e0]
  exact go
theorem tt_order (hX : InvX MX T P v) (hM : InvM MM T P) (x1 x2 x3 x4 : Int32) : TopI (CX9_order E [.ref (E.2.1 9), .int x1, .int x2, .int x3, .int x4] MX) (CX10_order F [.ref (F.2.1 0), .int x1, .int x2, .int x3, .int x4] MM) (v + 10) := by
  have k1 := c_wayB (E := E) (M := MX) (x := x1)
  have k2 := c_shopRun (E := E) (M := MX) (x := x2)
  have k4 := c_money (E := E) (M := MX) (x := x3)
  have k5 := c_money (E := E) (M := MX) (x := x4)
  have q1 := fun (F : ET) => n_shop (E := F) (M := MM) (x1 := x1) (x2 := x2) (x3 := x3) (x4 := x4)
  cases h1 : s_in x1 0 1 with
  | false =>
    rw [h1] at k1 q1
    exact ⟨-2, T, P, EX9_order ⟨_, k1, fun _ => okX hX, fun c => absurd rfl c⟩, EX10_order (fun X hE hK => ⟨_, q1 X.1, fun c => absurd rfl c, fun _ => okM hM⟩)⟩
  | true =>
    rw [h1] at k1 q1
    cases h2 : s_in x2 1 50 with
    | false =>
      rw [h2] at k2 q1
      exact ⟨-2, T, P, EX9_order ⟨_, k1, fun c => absurd c (by decide), fun _ => ⟨_, k2, fun c => absurd rfl c, fun _ => okX hX⟩⟩, EX10_order (fun X hE hK => ⟨_, q1 X.1, fun c => absurd rfl c, fun _ => okM hM⟩)⟩
    | true =>
      rw [h2] at k2 q1
      cases h4 : s_in x3 1 99 with
      | false =>
        rw [h4] at k4 q1
        exact ⟨-2, T, P, EX9_order ⟨_, k1, fun c => absurd c (by decide), fun _ => ⟨_, k2, fun _ => ⟨_, k4, fun _ => okX hX, fun c => absurd rfl c⟩, fun c => absurd c (by decide)⟩⟩, EX10_order (fun X hE hK => ⟨_, q1 X.1, fun c => absurd rfl c, fun _ => okM hM⟩)⟩
      | true =>
        rw [h4] at k4 q1
        cases h5 : s_in x4 1 99 with
        | false =>
          rw [h5] at k5 q1
          exact ⟨-2, T, P, EX9_order ⟨_, k1, fun c => absurd c (by decide), fun _ => ⟨_, k2, fun _ => ⟨_, k4, fun c => absurd c (by decide), fun _ => ⟨_, k5, fun c => absurd rfl c, fun _ => okX hX⟩⟩, fun c => absurd c (by decide)⟩⟩, EX10_order (fun X hE hK => ⟨_, q1 X.1, fun c => absurd rfl c, fun _ => okM hM⟩)⟩
        | true =>
          rw [h5] at k5 q1
          obtain ⟨y, hy, rfl⟩ := h_way h1
          obtain ⟨n, n1, n2, rfl⟩ := h_rng (B := 50) (A := 1) (by decide) rfl (by decide) h2
          refine ⟨_, T, P, EX9_order ⟨_, k1, fun c => absurd c (by decide), fun _ => ⟨_, k2, fun _ => ⟨_, k4, fun c => absurd c (by decide), fun _ => ⟨_, k5, fun _ => ⟨_, c_best hX hy n2 x3 x4, fun r M6 hq => okXr hq.2 (by omega) hq.1⟩, fun c => absurd c (by decide)⟩⟩, fun c => absurd c (by decide)⟩⟩, EX10_order (fun X hE hK => ⟨_, q1 X.1, fun _ => ⟨_, n_layAsks hM hy n2, fun M3 hq => ?_⟩, fun c => absurd c (by decide)⟩)⟩
          have hI := hM.fr hq.1
          have hA : ∀ d, s_ask (s_step T y) d n ≤ 500 := fun d => by have := s_ask_le (s_step T y) d n; omega
          generalize hG : s_G (fun d => s_ask (s_step T y) d n) (2 ^ T.1) x3 x4 = G
          refine h_down (P := fun k => LX10_order_29 X (z_pI (fun r M1 => r = nI (s_bo G 500).1 ∧ InvM M1 T P)) x3 x4 (nI (s_bo G k).1) (s_bo G k).2 (nI (k + 1)) M3) 500 ?_ ?_
          · exact BX10_order_29 hK ⟨fun _ => okM hI, fun c => absurd (h_le (a := 501) (b := 501) (by decide) (Nat.le_refl _)) c⟩
          · intro k hk ih
            have g := n_gainOf (E := X.1) hI hq.2 hA (s := k + 1) (by omega) x3 x4
            rw [hG] at g
            refine BX10_order_29 hK ⟨fun c => absurd c (h_nle (b := 501) (by decide) (by omega)), fun _ => ⟨_, g, fun c => ⟨fun _ => ?_, fun c2 => absurd c c2⟩, fun c => ⟨fun c2 => absurd c2 c, fun _ => ?_⟩⟩⟩
            · rw [nI_1]
              have e : s_bo G (k + 1) = s_bo G k := if_pos c
              rw [e] at ih; exact ih
            · rw [nI_1]
              have e : s_bo G (k + 1) = (k + 1, G (k + 1)) := if_neg c
              rw [e] at ih; exact ih
end GainC
