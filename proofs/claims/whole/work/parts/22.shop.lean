/-! the shop -/
def s_dn (f : Nat → Nat) (d : Nat) : Nat := s_pc (f d &&& (1023 ^^^ d))
def s_ask (f : Nat → Nat) (d : Nat) : Nat → Nat
  | 0 => 0
  | k + 1 => s_ask f d k + s_dn f (it f k d)
theorem s_dn_le (f : Nat → Nat) (d : Nat) : s_dn f d ≤ 10 := s_pc_le _
theorem s_ask_le (f : Nat → Nat) (d : Nat) : ∀ k, s_ask f d k ≤ 10 * k
  | 0 => Nat.le_refl _
  | k + 1 => by
    have h1 := s_ask_le f d k
    have h2 := s_dn_le f (it f k d)
    unfold s_ask
    omega
def s_sm (f : Nat → Nat) : Nat → Nat
  | 0 => 0
  | k + 1 => s_sm f k + f k
theorem s_ct_add {f g h : Nat → Bool} : ∀ {n : Nat}, (∀ k, k < n → (f k = true → g k = false) ∧ h k = (f k || g k)) → s_ct f n + s_ct g n = s_ct h n
  | 0, _ => rfl
  | n + 1, hh => by
    have ih := s_ct_add (f := f) (g := g) (h := h) (n := n) (fun k hk => hh k (by omega))
    obtain ⟨h1, h2⟩ := hh n (by omega)
    unfold s_ct
    cases hf : f n <;> cases hg : g n <;> simp [hf, hg, h2] at h1 ⊢ <;> omega
theorem s_ct_all {f : Nat → Bool} : ∀ {n : Nat}, (∀ k, k < n → f k = true) → s_ct f n = n
  | 0, _ => rfl
  | n + 1, h => by
    rw [s_ct_succ_yes (h n (by omega)), s_ct_all (n := n) (fun k hk => h k (by omega))]
/-- a sum by values is a sum by places -/
theorem s_sm_vals (A m : Nat → Nat) (C : Nat) (hA : ∀ d, A d < C) : ∀ n, s_sm (fun c => s_ct (fun d => decide (A d = c)) n * m c) C = s_sm (fun d => m (A d)) n
  | 0 => by
    have : ∀ C, s_sm (fun c => s_ct (fun d => decide (A d = c)) 0 * m c) C = 0 := by
      intro C
      induction C with
      | zero => rfl
      | succ C ih => unfold s_sm; rw [ih]; simp [s_ct]
    exact this C
  | n + 1 => by
    have ih := s_sm_vals A m C hA n
    have step : ∀ C', s_sm (fun c => s_ct (fun d => decide (A d = c)) (n + 1) * m c) C' = s_sm (fun c => s_ct (fun d => decide (A d = c)) n * m c) C' + (if A n < C' then m (A n) else 0) := by
      intro C'
      induction C' with
      | zero => rfl
      | succ C' ih2 =>
        show s_sm (fun c => s_ct (fun d => decide (A d = c)) (n + 1) * m c) C' + s_ct (fun d => decide (A d = C')) (n + 1) * m C' = (s_sm (fun c => s_ct (fun d => decide (A d = c)) n * m c) C' + s_ct (fun d => decide (A d = C')) n * m C') + _
        rw [ih2]
        by_cases e : A n = C'
        · rw [s_ct_succ_yes (by simp [e])]
          rw [if_neg (by omega), if_pos (by omega), e, Nat.succ_mul]
          omega
        · rw [s_ct_succ_no (by simp [e])]
          by_cases h : A n < C'
          · rw [if_pos h, if_pos (by omega)]; omega
          · rw [if_neg h, if_neg (by omega)]; omega
    rw [step C, if_pos (hA n), ih]
    rfl
theorem s_sm_more (A : Nat → Nat) (s : Nat) : ∀ n, s_sm (fun d => min (A d) (s + 1)) n = s_sm (fun d => min (A d) s) n + s_ct (fun d => decide (s + 1 ≤ A d)) n
  | 0 => rfl
  | n + 1 => by
    have ih := s_sm_more A s n
    show s_sm (fun d => min (A d) (s + 1)) n + min (A n) (s + 1) = (s_sm (fun d => min (A d) s) n + min (A n) s) + s_ct (fun d => decide (s + 1 ≤ A d)) (n + 1)
    rw [ih]
    by_cases e : s + 1 ≤ A n
    · rw [s_ct_succ_yes (by simp [e])]; omega
    · rw [s_ct_succ_no (by simp [e])]; omega
def s_G (A : Nat → Nat) (N : Nat) (cost price : Int32) (s : Nat) : Int32 := price * nI (s_sm (fun d => min (A d) s) N) - cost * nI s * nI N
def s_bo (G : Nat → Int32) : Nat → Nat × Int32
  | 0 => (0, 0)
  | k + 1 => if G (k + 1) ≤ (s_bo G k).2 then s_bo G k else (k + 1, G (k + 1))
section ShopC
variable {E F : ET} {M MX MM : Mem} {T : TW} {P : PW} {v : Nat}
/-- the spare rows and the long rows are nothing to the invariant -/
theorem InvX.scr {M1 : Mem} (h : InvX M T P v) (hc : ∀ k, k < 29 ∨ 36 ≤ k → M1.1 k = M.1 k) : InvX M1 T P v := by
  obtain ⟨a1, a2, a3, a4, a5, a6, a7⟩ := h
  have c7 := hc 7 (by omega)
  have c8 := hc 8 (by omega)
  refine ⟨a1.frame (by rw [c7]) (fun k _ _ => hc k (by omega)), a2, ?_, ?_, ?_, ?_, ?_⟩
  · obtain ⟨s, s1, s2, s3⟩ := a3
    exact ⟨s, s1, by rw [c7]; exact s2, fun d hd => by rw [hc 24 (by omega)]; exact s3 d hd⟩
  · obtain ⟨w, w1, w2, w3, w4⟩ := a4
    exact ⟨w, w1, by rw [c7]; exact w2, by rw [c8]; exact w3, by rw [c8]; exact w4⟩
  · intro e
    rw [c7, c8] at e
    obtain ⟨y, y1, y2, y3⟩ := a5 e
    exact ⟨y, y1, by rw [c8]; exact y2, fun d hd => by rw [hc 25 (by omega)]; exact y3 d hd⟩
  · intro e
    rw [c7, c8] at e
    obtain ⟨y, y1, y2, y3⟩ := a6 e
    exact ⟨y, y1, by rw [c8]; exact y2, by rw [hc 26 (by omega), hc 27 (by omega)]; exact y3⟩
  · rw [hc 2 (by omega), hc 36 (by omega)]; exact a7
def FrM (M M1 : Mem) : Prop := (∀ k, (1 ≤ k ∧ k ≤ 3) ∨ k = 14 → M1.1 k = M.1 k) ∧ M1.1 0 0 = M.1 0 0 ∧ M1.1 0 18 = M.1 0 18
theorem FrM.rfl' (M : Mem) : FrM M M := ⟨fun _ _ => rfl, rfl, rfl⟩
theorem FrM.trans {M M1 M2 : Mem} (h : FrM M M1) (h2 : FrM M1 M2) : FrM M M2 := ⟨fun k hk => (h2.1 k hk).trans (h.1 k hk), h2.2.1.trans h.2.1, h2.2.2.trans h.2.2⟩
theorem InvM.fr {M1 : Mem} (h : InvM M T P) (hf : FrM M M1) : InvM M1 T P := by
  obtain ⟨⟨b1, b2, b3, b4⟩, b5, b6⟩ := h
  exact ⟨⟨by rw [hf.2.1]; exact b1, by rw [hf.1 1 (by omega)]; exact b2, by rw [hf.1 2 (by omega)]; exact b3, by rw [hf.1 3 (by omega)]; exact b4⟩, b5, by rw [hf.2.2, hf.1 14 (by omega)]; exact b6⟩
theorem FrM.st {k j : Nat} {x : Int32} (h : 4 ≤ k) (h14 : k ≠ 14) : FrM M (z_st M k j x) := ⟨fun i hi => m_cell _ _ (by omega), m_ne _ _ (by omega), m_ne _ _ (by omega)⟩
theorem FrM.st0 {j : Nat} {x : Int32} (h : j ≠ 0) (h18 : j ≠ 18) : FrM M (z_st M 0 j x) := ⟨fun i hi => m_cell _ _ (by omega), m_ne _ _ (by omega), m_ne _ _ (by omega)⟩
theorem FrM.sl {k j : Nat} {x : Int64} : FrM M (z_sl M k j x) := ⟨fun _ _ => rfl, rfl, rfl⟩
theorem n_layLeads (hM : InvM M T P) {y : Nat} (hy : y < 2) : CX10_layLeads E [.ref (E.2.1 0), .int (nI y)] M (z_pV (fun M1 => FrM M M1 ∧ (∀ k, k ≠ 4 → M1.1 k = M.1 k) ∧ M1.2 = M.2 ∧ ∀ d, d < 2 ^ T.1 → M1.1 4 d = nI (s_step T y d))) := by
  have h10 := hM.2.1.1.2
  have hp2 : 2 ^ T.1 ≤ 1024 := Nat.pow_le_pow_right (n := 2) (by decide) h10
  have hpos := Nat.two_pow_pos T.1
  refine EX10_layLeads (fun X hE hK => ?_)
  refine h_down (P := fun i => ∀ M1, FrM M M1 → (∀ k, k ≠ 4 → M1.1 k = M.1 k) → M1.2 = M.2 → (∀ d, d < i → M1.1 4 d = nI (s_step T y d)) → LX10_layLeads_2 X (z_pV (fun M1 => FrM M M1 ∧ (∀ k, k ≠ 4 → M1.1 k = M.1 k) ∧ M1.2 = M.2 ∧ ∀ d, d < 2 ^ T.1 → M1.1 4 d = nI (s_step T y d))) (nI y) (nI i) M1) (2 ^ T.1) ?_ ?_ M (FrM.rfl' M) (fun _ _ => rfl) rfl (fun d hd => absurd hd (Nat.not_lt_zero d))
  · intro M1 f1 f2 f3 f4
    exact BX10_layLeads_2 hK ⟨_, n_all (hM.fr f1).1 hM.2.1, fun _ => zpV ⟨f1, f2, f3, f4⟩, fun c => absurd (nI_lt (by omega) (by omega)) c⟩
  · intro i hi ih M1 f1 f2 f3 f4
    refine BX10_layLeads_2 hK ⟨_, n_all (hM.fr f1).1 hM.2.1, fun c => absurd c (nI_nlt (by omega) (by omega)), fun _ => ⟨_, n_stepFrom (hM.fr f1).1 hM.2.1 hi hy, h_inK (by omega), fun M2 e2 => ?_⟩⟩
    rw [h_clK (by omega)] at e2
    rw [nI_1]
    refine ih M2 (f1.trans (by rw [e2]; exact FrM.st (by decide) (by decide))) (fun k hk => by rw [e2, m_cell _ _ hk]; exact f2 k hk) (by rw [e2]; exact f3) (fun d hd => ?_)
    by_cases e : d = i
    · subst e; rw [e2, m_same]
    · rw [e2, m_ne _ _ (by omega)]; exact f4 d (by omega)
theorem n_askedOf {f : Nat → Nat} {N : Nat} (hN : N ≤ 1024) (hf : ∀ x, x < N → f x < N) (h4 : ∀ d, d < N → M.1 4 d = nI (f d)) {d n : Nat} (hd : d < N) (hn : n ≤ 50) : CX10_askedOf E [.ref (E.2.1 0), .int (nI d), .int (nI n)] M (z_is (some (.int (nI (s_ask f d n)))) M) := by
  refine EX10_askedOf (fun X hE hK => ?_)
  refine h_down (P := fun i => LX10_askedOf_8 X (z_is (some (.int (nI (s_ask f d n)))) M) (nI n) (nI (it f i d)) (nI (s_ask f d i)) (nI i) M) n ?_ ?_
  · exact BX10_askedOf_8 hK ⟨fun _ => zi rfl, fun c => absurd (h_le (by omega) (Nat.le_refl _)) c⟩
  · intro i hi ih
    have hlt := it_lt hf hd i
    have hl2 := hf _ hlt
    refine BX10_askedOf_8 hK ⟨fun c => absurd c (h_nle (by omega) hi), fun _ => ⟨h_inK (by omega), ?_⟩⟩
    rw [h_clK (by omega), h4 _ hlt, h_andnot (by omega) (by omega), nI_1]
    refine ⟨_, n_ones (Nat.lt_of_le_of_lt Nat.and_le_left (by omega)), ?_⟩
    rw [nI_add]; exact ih
theorem c_askedFrom (hX : InvX M T P v) {y d n : Nat} (hy : y < 2) (hd : d < 2 ^ T.1) (hn : n ≤ 50) : CX5_askedFrom E [.ref (E.2.1 5), .int (nI d), .int (nI y), .int (nI n)] M (z_pI (fun r M1 => r = nI (s_ask (s_step T y) d n) ∧ InvX M1 T P v)) := by
  have hp2 := hX.1.p2
  refine EX5_askedFrom (fun X hE hK => ⟨_, c_stepsBy hX hy, fun M1 hq => ?_⟩)
  refine h_down (P := fun i => LX5_askedFrom_19 X (z_pI (fun r M1 => r = nI (s_ask (s_step T y) d n) ∧ InvX M1 T P v)) (nI n) (nI (it (s_step T y) i d)) (nI (s_ask (s_step T y) d i)) (nI i) M1) n ?_ ?_
  · exact BX5_askedFrom_19 hK ⟨fun _ => okX0 hq.1, fun c => absurd (h_le (by omega) (Nat.le_refl _)) c⟩
  · intro i hi ih
    have hlt := it_lt (f := s_step T y) (fun x hx => s_step_lt T y hx) hd i
    have hl2 := s_step_lt T y hlt
    refine BX5_askedFrom_19 hK ⟨fun c => absurd c (h_nle (by omega) hi), fun _ => ⟨h_inK (by omega), ?_⟩⟩
    rw [h_clK (by omega), hq.2.2.2 _ hlt, h_andnot (by omega) (by omega), nI_1]
    refine ⟨_, c_bitCount (Nat.lt_of_le_of_lt Nat.and_le_left (by omega)), h_inK (by omega), ?_⟩
    rw [nI_add]; exact ih
theorem c_shopRun {x : Int32} : CX9_isShopRun E [.int x] M (z_is (some (.int (s_bit (s_in x 1 50)))) M) := EX9_isShopRun ⟨_, c_within, s_bit_01 _, zi rfl⟩
theorem c_money {x : Int32} : CX9_isMoney E [.int x] M (z_is (some (.int (s_bit (s_in x 1 99)))) M) := EX9_isMoney ⟨_, c_within, s_bit_01 _, zi rfl⟩
theorem h_rng {x a b : Int32} {A B : Nat} (hb : b.toInt = B) (ha : a = nI A) (hA : A < 2 ^ 31) (h : s_in x a b = true) : ∃ n, A ≤ n ∧ n ≤ B ∧ x = nI n := by
  rw [s_in_iff] at h
  have h0 : ¬ x < 0 := fun hx => h.1 (by rw [ha]; exact Int32.lt_of_lt_of_le hx (nI_pos' hA))
  obtain ⟨j, j1, j2⟩ := nI_of2 hb h0 (Int32.not_lt.mp h.2)
  refine ⟨j, ?_, j1, j2⟩
  apply Classical.byContradiction
  intro hn
  exact h.1 (by rw [j2, ha]; exact nI_lt (by omega) hA)
theorem tt_asked (hX : InvX MX T P v) (hM : InvM MM T P) (x1 x2 x3 : Int32) : TopI (CX9_asked E [.ref (E.2.1 9), .int x1, .int x2, .int x3] MX) (CX10_asked F [.ref (F.2.1 0), .int x1, .int x2, .int x3] MM) (v + 10) := by
  have hR := hX.1
  have hRM := hM.1
  have hw := hX.2.1
  have hp2 := hR.p2
  rcases h_ix x1 (show 2 ^ T.1 < 2 ^ 31 by omega) with h1 | ⟨d, hd, rfl⟩
  · exact ⟨-2, T, P, EX9_asked ⟨_, c_isDress_no hR h1, fun _ => okX hX, fun c => absurd rfl c⟩, EX10_asked ⟨_, n_isDress_no hRM hw h1, fun _ => okM hM, fun c => absurd rfl c⟩⟩
  · rcases h_ix x2 (show 2 < 2 ^ 31 by decide) with h2 | ⟨y, hy, rfl⟩
    · exact ⟨-2, T, P, EX9_asked ⟨_, c_isDress_yes hR hd, fun c => absurd c (by decide), fun _ => ⟨_, c_isWay_no h2, fun _ => okX hX, fun c => absurd rfl c⟩⟩, EX10_asked ⟨_, n_isDress_yes hRM hw hd, fun c => absurd c (by decide), fun _ => ⟨_, n_isWay_no h2, fun _ => okM hM, fun c => absurd rfl c⟩⟩⟩
    · cases h3 : s_in x3 1 50 with
      | true =>
        obtain ⟨n, n1, n2, rfl⟩ := h_rng (B := 50) (A := 1) (by decide) rfl (by decide) h3
        refine ⟨nI (s_ask (s_step T y) d n), T, P, EX9_asked ⟨_, c_isDress_yes hR hd, fun c => absurd c (by decide), fun _ => ⟨_, c_isWay_yes hy, fun c => absurd c (by decide), fun _ => ⟨_, c_shopRun, fun _ => ⟨_, c_askedFrom hX hy hd n2, fun r M4 hq => okXr hq.2 (by omega) hq.1⟩, fun c => ?_⟩⟩⟩, EX10_asked ⟨_, n_isDress_yes hRM hw hd, fun c => absurd c (by decide), fun _ => ⟨_, n_isWay_yes hy, fun c => absurd c (by decide), fun _ => ⟨_, c_in (a := 1) (b := 50), fun _ => ⟨_, n_layLeads hM hy, fun M4 hq => ⟨_, n_askedOf hp2 (fun x hx => s_step_lt T y hx) hq.2.2.2 hd n2, okM (hM.fr hq.1)⟩⟩, fun c => ?_⟩⟩⟩⟩
        · rw [h3] at c; exact absurd c (by decide)
        · rw [h3] at c; exact absurd c (by decide)
      | false =>
        refine ⟨-2, T, P, EX9_asked ⟨_, c_isDress_yes hR hd, fun c => absurd c (by decide), fun _ => ⟨_, c_isWay_yes hy, fun c => absurd c (by decide), fun _ => ⟨_, c_shopRun, fun c => ?_, fun _ => okX hX⟩⟩⟩, EX10_asked ⟨_, n_isDress_yes hRM hw hd, fun c => absurd c (by decide), fun _ => ⟨_, n_isWay_yes hy, fun c => absurd c (by decide), fun _ => ⟨_, c_in (a := 1) (b := 50), fun c => ?_, fun _ => okM hM⟩⟩⟩⟩
        · rw [h3] at c; exact absurd rfl c
        · rw [h3] at c; exact absurd rfl c
/-! tally -/
def s_tl (A : Nat → Nat) (n c : Nat) : Nat := s_ct (fun d => decide (A d = c)) n
theorem c_tally (hX : InvX M T P v) {y n : Nat} (hy : y < 2) (hn : n ≤ 50) : CX5_tally E [.ref (E.2.1 5), .int (nI y), .int (nI n)] M (z_pV (fun M1 => InvX M1 T P v ∧ ∀ c, c ≤ 500 → M1.1 30 c = nI (s_tl (fun d => s_ask (s_step T y) d n) (2 ^ T.1) c))) := by
  have hp2 := hX.1.p2
  refine EX5_tally (fun X hE hK => ⟨_, c_stepsBy hX hy, fun M1 hq => ⟨_, c_dresses hq.1.1, ?_⟩⟩)
  obtain ⟨hI, hS⟩ := hq
  generalize hQ : (z_pV (fun M1 => InvX M1 T P v ∧ ∀ c, c ≤ 500 → M1.1 30 c = nI (s_tl (fun d => s_ask (s_step T y) d n) (2 ^ T.1) c))) = Q
  have h81 : ∀ M2, (∀ k, k ≠ 29 → k ≠ 30 → M2.1 k = M1.1 k) → (∀ d, d < 2 ^ T.1 → M2.1 29 d = nI (s_dn (s_step T y) d)) → (∀ c, c ≤ 500 → M2.1 30 c = 0) → LX5_tally_81 X Q (nI n) (nI (2 ^ T.1)) 0 M2 := by
    intro M2 a1 a2 a3
    refine h_down (P := fun i => ∀ M2, (∀ k, k ≠ 29 → k ≠ 30 → M2.1 k = M1.1 k) → (∀ d, d < 2 ^ T.1 → M2.1 29 d = nI (s_dn (s_step T y) d)) → (∀ c, c ≤ 500 → M2.1 30 c = nI (s_tl (fun d => s_ask (s_step T y) d n) i c)) → LX5_tally_81 X Q (nI n) (nI (2 ^ T.1)) (nI i) M2) (2 ^ T.1) ?_ ?_ M2 a1 a2 a3
    · intro M2 a1 a2 a3
      refine BX5_tally_81 hK ⟨fun _ => ?_, fun c => absurd (h_le (by omega) (Nat.le_refl _)) c⟩
      rw [← hQ]
      exact zpV ⟨hI.scr (fun k hk => a1 k (by omega) (by omega)), a3⟩
    · intro i hi ih M2 a1 a2 a3
      have hS2 : ∀ d, d < 2 ^ T.1 → M2.1 25 d = nI (s_step T y d) := fun d hd => by rw [a1 25 (by decide) (by decide)]; exact hS.2.2 d hd
      refine BX5_tally_81 hK ⟨fun c => absurd c (h_nle (by omega) hi), fun _ => ?_⟩
      refine h_down (P := fun j => LX5_tally_98 X Q (nI n) (nI (2 ^ T.1)) (nI i) (nI (it (s_step T y) j i)) (nI (s_ask (s_step T y) i j)) (nI j) M2) n ?_ ?_
      · have hle := s_ask_le (s_step T y) i n
        refine BX5_tally_98 hK ⟨fun _ => ⟨h_inK (by omega), h_inK (by omega), fun M3 e3 => ?_⟩, fun c => absurd (h_le (by omega) (Nat.le_refl _)) c⟩
        rw [h_clK (by omega)] at e3
        rw [nI_1]
        refine ih M3 (fun k k1 k2 => by rw [e3, m_cell _ _ k2]; exact a1 k k1 k2) (fun d hd => by rw [e3, m_ne _ _ (by omega)]; exact a2 d hd) (fun c hc => ?_)
        by_cases e : c = s_ask (s_step T y) i n
        · subst e
          rw [e3, m_same, a3 _ (by omega), nI_1]
          apply h_eqN
          exact (s_ct_succ_yes (f := fun d => decide (s_ask (s_step T y) d n = s_ask (s_step T y) i n)) (by simp)).symm
        · rw [e3, m_ne _ _ (by omega), a3 c hc]
          apply h_eqN
          exact (s_ct_succ_no (f := fun d => decide (s_ask (s_step T y) d n = c)) (by simp; exact fun x => e x.symm)).symm
      · intro j hj ih2
        have hlt := it_lt (f := s_step T y) (fun x hx => s_step_lt T y hx) hi j
        refine BX5_tally_98 hK ⟨fun c => absurd c (h_nle (by omega) hj), fun _ => ⟨h_inK (by omega), h_inK (by omega), ?_⟩⟩
        rw [h_clK (by omega), hS2 _ hlt, a2 _ hlt, nI_add, nI_1]
        exact ih2
  have h46 : ∀ M2, (∀ k, k ≠ 29 → k ≠ 30 → M2.1 k = M1.1 k) → (∀ c, c ≤ 500 → M2.1 30 c = 0) → LX5_tally_46 X Q (nI n) (nI (2 ^ T.1)) 0 M2 := by
    intro M2 a1 a3
    refine h_down (P := fun i => ∀ M2, (∀ k, k ≠ 29 → k ≠ 30 → M2.1 k = M1.1 k) → (∀ d, d < i → M2.1 29 d = nI (s_dn (s_step T y) d)) → (∀ c, c ≤ 500 → M2.1 30 c = 0) → LX5_tally_46 X Q (nI n) (nI (2 ^ T.1)) (nI i) M2) (2 ^ T.1) ?_ ?_ M2 a1 (fun d hd => absurd hd (Nat.not_lt_zero d)) a3
    · intro M2 a1 a2 a3
      exact BX5_tally_46 hK ⟨fun _ => h81 M2 a1 a2 a3, fun c => absurd (h_le (by omega) (Nat.le_refl _)) c⟩
    · intro i hi ih M2 a1 a2 a3
      have hl2 := s_step_lt T y hi
      refine BX5_tally_46 hK ⟨fun c => absurd c (h_nle (by omega) hi), fun _ => ⟨h_inK (by omega), ?_⟩⟩
      rw [h_clK (by omega), a1 25 (by decide) (by decide), hS.2.2 i hi, h_andnot (by omega) (by omega)]
      refine ⟨_, c_bitCount (Nat.lt_of_le_of_lt Nat.and_le_left (by omega)), h_inK (by omega), fun M3 e3 => ?_⟩
      rw [nI_1]
      refine ih M3 (fun k k1 k2 => by rw [e3, m_cell _ _ k1]; exact a1 k k1 k2) (fun d hd => ?_) (fun c hc => by rw [e3, m_ne _ _ (by omega)]; exact a3 c hc)
      by_cases e : d = i
      · subst e; rw [e3, m_same]; rfl
      · rw [e3, m_ne _ _ (by omega)]; exact a2 d (by omega)
  refine h_down (P := fun i => ∀ M2, (∀ k, k ≠ 29 → k ≠ 30 → M2.1 k = M1.1 k) → (∀ c, c < i → M2.1 30 c = 0) → LX5_tally_21 X Q (nI n) (nI (2 ^ T.1)) (nI i) M2) 501 ?_ ?_ M1 (fun _ _ _ => rfl) (fun c hc => absurd hc (Nat.not_lt_zero c))
  · intro M2 a1 a2
    exact BX5_tally_21 hK ⟨fun _ => h46 M2 a1 (fun c hc => a2 c (by omega)), fun c => absurd (nI_lt (a := 500) (b := 501) (by omega) (by omega)) c⟩
  · intro i hi ih M2 a1 a2
    refine BX5_tally_21 hK ⟨fun c => absurd c (nI_nlt (a := 500) (b := i) (by omega) (by omega)), fun _ => ⟨h_inK (by omega), fun M3 e3 => ?_⟩⟩
    rw [h_clK (by omega)] at e3
    rw [nI_1]
    refine ih M3 (fun k k1 k2 => by rw [e3, m_cell _ _ k2]; exact a1 k k1 k2) (fun c hc => ?_)
    by_cases e : c = i
    · subst e; rw [e3, m_same]
    · rw [e3, m_ne _ _ (by omega)]; exact a2 c (by omega)
end ShopC
