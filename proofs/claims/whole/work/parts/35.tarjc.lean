/-! the search in the class -/
def kt_M (M : Mem) (N c : Nat) (F L : Nat → Nat) (ps : Nat) (q : Nat → Nat) (os : Nat) (o lf : Nat → Nat) : Prop := M.1 4 6 = nI c ∧ M.1 4 7 = nI ps ∧ M.1 4 8 = nI os ∧ (∀ x, x < N → M.1 29 x = nI (F x)) ∧ (∀ x, x < N → F x ≠ 0 → M.1 30 x = nI (L x)) ∧ (∀ k, k < ps → M.1 31 k = nI (q k)) ∧ (∀ k, k < os → M.1 32 k = nI (o k)) ∧ (∀ x, x < N → M.1 33 x = nI (lf x))
def FrT (M M1 : Mem) : Prop := ∀ k, k ≠ 4 → (k < 29 ∨ 33 < k) → M1.1 k = M.1 k
theorem FrT.rfl' (M : Mem) : FrT M M := fun _ _ _ => rfl
theorem FrT.trans {M M1 M2 : Mem} (h : FrT M M1) (h2 : FrT M1 M2) : FrT M M2 := fun k a b => (h2 k a b).trans (h k a b)
theorem FrT.st {M : Mem} {k j : Nat} {x : Int32} (h : 29 ≤ k ∧ k ≤ 33) : FrT M (z_st M k j x) := fun i _ hi => m_cell _ _ (by omega)
theorem FrT.st4 {M : Mem} {j : Nat} {x : Int32} : FrT M (z_st M 4 j x) := fun i h4 _ => m_cell _ _ h4
def kt_S (M : Mem) (T : TW) (i φ : Nat) (K : Nat → Prop) : Prop := ∃ c F L ps q os o lf, kt_V (2 ^ T.1) c F L ps q os o ∧ kt_G T F L ps q lf ∧ kt_M M (2 ^ T.1) c F L ps q os o lf ∧ kt_b lf (10 * 2 ^ T.1) + ps + (2 ^ T.1 - c) ≤ φ ∧ (∀ x, x < i → x < 2 ^ T.1 → F x ≠ 0) ∧ (∀ x, x < 2 ^ T.1 → F x ≠ 0 → L x = 1025 → s_cyc T x → K x)
def kt_Z (M : Mem) (T : TW) (i : Nat) (K : Nat → Prop) : Prop := ∃ c F L q o lf, kt_V (2 ^ T.1) c F L 0 q 0 o ∧ kt_G T F L 0 q lf ∧ kt_M (z_st M 4 7 (nI 0)) (2 ^ T.1) c F L 0 q 0 o lf ∧ (∀ x, x < i → x < 2 ^ T.1 → F x ≠ 0) ∧ (∀ x, x < 2 ^ T.1 → F x ≠ 0 → K x ∨ ¬ s_cyc T x)
theorem InvX.scr4 {M M1 : Mem} {T : TW} {P : PW} {v : Nat} (h : InvX M T P v) (hf : FrT M M1) : InvX M1 T P v := by
  obtain ⟨a1, a2, a3, a4, a5, a6, a7⟩ := h
  have hc : ∀ k, k ≠ 4 → k < 29 → M1.1 k = M.1 k := fun k h1 h2 => hf k h1 (Or.inl h2)
  have c7 := hc 7 (by decide) (by decide)
  have c8 := hc 8 (by decide) (by decide)
  refine ⟨a1.frame (by rw [c7]) (fun k _ _ => hc k (by omega) (by omega)), a2, ?_, ?_, ?_, ?_, ?_⟩
  · obtain ⟨s, s1, s2, s3⟩ := a3
    exact ⟨s, s1, by rw [c7]; exact s2, fun d hd => by rw [hc 24 (by decide) (by decide)]; exact s3 d hd⟩
  · obtain ⟨w, w1, w2, w3, w4⟩ := a4
    exact ⟨w, w1, by rw [c7]; exact w2, by rw [c8]; exact w3, by rw [c8]; exact w4⟩
  · intro e
    rw [c7, c8] at e
    obtain ⟨y, y1, y2, y3⟩ := a5 e
    exact ⟨y, y1, by rw [c8]; exact y2, fun d hd => by rw [hc 25 (by decide) (by decide)]; exact y3 d hd⟩
  · intro e
    rw [c7, c8] at e
    obtain ⟨y, y1, y2, y3⟩ := a6 e
    exact ⟨y, y1, by rw [c8]; exact y2, by rw [hc 26 (by decide) (by decide), hc 27 (by decide) (by decide)]; exact y3⟩
  · rw [hc 2 (by decide) (by decide), hf 36 (by decide) (by decide)]; exact a7
def h_lb (x : Nat) : Bool := (List.range 10).any (fun p => x.testBit p && decide (nI x &&& (-(nI x)) = nI (2 ^ p)))
theorem h_lb_ok : ∀ x, x < 1024 → x = 0 ∨ h_lb x = true := by decide +kernel
theorem h_low {x : Nat} (hx : x < 1024) (h0 : x ≠ 0) : ∃ p, p < 10 ∧ x.testBit p = true ∧ nI x &&& (-(nI x)) = nI (2 ^ p) := by
  have h := (h_lb_ok x hx).resolve_left h0
  unfold h_lb at h
  rw [List.any_eq_true] at h
  obtain ⟨p, h1, h2⟩ := h
  rw [List.mem_range] at h1
  rw [Bool.and_eq_true, decide_eq_true_eq] at h2
  exact ⟨p, h1, h2.1, h2.2⟩
section TarjC
variable {E : ET} {M : Mem} {T : TW} {P : PW} {v : Nat} {c ps os : Nat} {F L q o lf : Nat → Nat}
theorem kt_inc {N : Nat} {g : Nat → Nat} {n : Nat} (h : ∀ j k, j < k → k < n → F (g j) < F (g k)) (h0 : ∀ k, k < n → F (g k) ≠ 0) : ∀ k, k < n → k + 1 ≤ F (g k)
  | 0, hk => by have := h0 0 hk; omega
  | k + 1, hk => by
    have := kt_inc (N := N) h h0 k (by omega)
    have := h k (k + 1) (by omega) hk
    omega
theorem kt_psle {N : Nat} (hV : kt_V N c F L ps q os o) : ps ≤ c ∧ os ≤ c := by
  obtain ⟨v1, v2, v3, v4, v5, v6, v7, v8, v9⟩ := hV
  constructor
  · rcases Nat.eq_zero_or_pos ps with e | e
    · omega
    · have h1 := kt_inc (N := N) v8 (fun k hk => (v7 k hk).2.1) (ps - 1) (by omega)
      have h2 := v1 _ (v7 (ps - 1) (by omega)).1
      omega
  · rcases Nat.eq_zero_or_pos os with e | e
    · omega
    · have h1 := kt_inc (N := N) v6 (fun k hk => (v4 k hk).2.1) (os - 1) (by omega)
      have h2 := v1 _ (v4 (os - 1) (by omega)).1
      omega
theorem c_enter {N w : Nat} (hN : N ≤ 1024) (hM : kt_M M N c F L ps q os o lf) (hw : w < N) (hc : c < 1024) (hps : ps < 1024) (hos : os < 1024) : CX4_enter E [.ref (E.2.1 4), .int (nI w)] M (z_pV (fun M1 => FrT M M1 ∧ kt_M M1 N (c + 1) (va_up F w (c + 1)) (va_up L w (c + 1)) (ps + 1) (va_up q ps w) (os + 1) (va_up o os w) lf)) := by
  obtain ⟨b1, b2, b3, b4, b5, b6, b7, b8⟩ := hM
  refine EX4_enter (fun M1 e1 => ⟨h_inK (by omega), fun M2 e2 => ⟨h_inK (by omega), fun M3 e3 M4 e4 => ?_⟩⟩)
  rw [h_clK (by omega)] at e2 e3
  rw [b1, nI_1] at e1
  have a1 : M1.1 4 6 = nI (c + 1) := by rw [e1, m_same]
  rw [a1] at e2
  have a2 : M2.1 4 6 = nI (c + 1) := by rw [e2, m_ne _ _ (by omega), a1]
  rw [a2] at e3
  have a3 : M3.1 4 7 = nI ps := by rw [e3, m_ne _ _ (by omega), e2, m_ne _ _ (by omega), e1, m_ne _ _ (by omega), b2]
  rw [a3, nI_1] at e4
  rw [a3, h_clK hps]
  refine ⟨h_inK hps, fun M5 e5 M6 e6 => ?_⟩
  have a5 : M5.1 4 8 = nI os := by rw [e5, m_ne _ _ (by omega), e4, m_ne _ _ (by omega), e3, m_ne _ _ (by omega), e2, m_ne _ _ (by omega), e1, m_ne _ _ (by omega), b3]
  rw [a5, nI_1] at e6
  rw [a5, h_clK hos]
  refine ⟨h_inK hos, fun M7 e7 => zpV ⟨?_, ?_⟩⟩
  · refine FrT.trans (M1 := M1) (by rw [e1]; exact FrT.st4) (FrT.trans (M1 := M2) (by rw [e2]; exact FrT.st (by decide)) (FrT.trans (M1 := M3) (by rw [e3]; exact FrT.st (by decide)) (FrT.trans (M1 := M4) (by rw [e4]; exact FrT.st4) (FrT.trans (M1 := M5) (by rw [e5]; exact FrT.st (by decide)) (FrT.trans (M1 := M6) (by rw [e6]; exact FrT.st4) (by rw [e7]; exact FrT.st (by decide)))))))
  · have c29 : ∀ x, M7.1 29 x = (z_st M1 29 w (nI (c + 1))).1 29 x := fun x => by rw [e7, m_ne _ _ (by omega), e6, m_ne _ _ (by omega), e5, m_ne _ _ (by omega), e4, m_ne _ _ (by omega), e3, m_ne _ _ (by omega), e2]
    have c30 : ∀ x, M7.1 30 x = (z_st M2 30 w (nI (c + 1))).1 30 x := fun x => by rw [e7, m_ne _ _ (by omega), e6, m_ne _ _ (by omega), e5, m_ne _ _ (by omega), e4, m_ne _ _ (by omega), e3]
    refine ⟨?_, ?_, ?_, fun x hx => ?_, fun x hx h0 => ?_, fun k hk => ?_, fun k hk => ?_, fun x hx => ?_⟩
    · rw [e7, m_ne _ _ (by omega), e6, m_ne _ _ (by omega), e5, m_ne _ _ (by omega), e4, m_ne _ _ (by omega), e3, m_ne _ _ (by omega), a2]
    · rw [e7, m_ne _ _ (by omega), e6, m_ne _ _ (by omega), e5, m_ne _ _ (by omega), e4, m_same]
    · rw [e7, m_ne _ _ (by omega), e6, m_same]
    · rw [c29]
      by_cases e : x = w
      · rw [e, m_same, up_same]
      · rw [m_ne _ _ (by omega), up_ne _ _ e, e1, m_ne _ _ (by omega)]; exact b4 x hx
    · rw [c30]
      by_cases e : x = w
      · rw [e, m_same, up_same]
      · rw [up_ne _ _ e] at h0
        rw [m_ne _ _ (by omega), up_ne _ _ e, e2, m_ne _ _ (by omega), e1, m_ne _ _ (by omega)]; exact b5 x hx h0
    · rw [e7, m_ne _ _ (by omega), e6, m_ne _ _ (by omega), e5]
      by_cases e : k = ps
      · rw [e, m_same, up_same]
      · rw [m_ne _ _ (by omega), up_ne _ _ e, e4, m_ne _ _ (by omega), e3, m_ne _ _ (by omega), e2, m_ne _ _ (by omega), e1, m_ne _ _ (by omega)]; exact b6 k (by omega)
    · rw [e7]
      by_cases e : k = os
      · rw [e, m_same, up_same]
      · rw [m_ne _ _ (by omega), up_ne _ _ e, e6, m_ne _ _ (by omega), e5, m_ne _ _ (by omega), e4, m_ne _ _ (by omega), e3, m_ne _ _ (by omega), e2, m_ne _ _ (by omega), e1, m_ne _ _ (by omega)]; exact b7 k (by omega)
    · rw [e7, m_ne _ _ (by omega), e6, m_ne _ _ (by omega), e5, m_ne _ _ (by omega), e4, m_ne _ _ (by omega), e3, m_ne _ _ (by omega), e2, m_ne _ _ (by omega), e1, m_ne _ _ (by omega)]; exact b8 x hx
theorem c_followOne {i φ : Nat} {K : Nat → Prop} (h10 : T.1 ≤ 10) (hN : 2 ^ T.1 ≤ 1024) (hV : kt_V (2 ^ T.1) c F L ps q os o) (hG : kt_G T F L ps q lf) (hM : kt_M M (2 ^ T.1) c F L ps q os o lf) (hφ : kt_b lf (10 * 2 ^ T.1) + ps + (2 ^ T.1 - c) ≤ φ + 1) (hi : ∀ x, x < i → x < 2 ^ T.1 → F x ≠ 0) (hK : ∀ x, x < 2 ^ T.1 → F x ≠ 0 → L x = 1025 → s_cyc T x → K x) (hps : 1 ≤ ps) (h0 : lf (q (ps - 1)) ≠ 0) : CX4_followOne E [.ref (E.2.1 4), .int (nI (q (ps - 1)))] M (z_pV (fun M1 => FrT M M1 ∧ kt_S M1 T i φ K)) := by
  obtain ⟨t1, t2⟩ := hV.2.2.2.2.2.2.1 (ps - 1) (by omega)
  have lfl := (hG.2.1 _ t1).1
  obtain ⟨p0, p1, p2, p3⟩ := h_low (show lf (q (ps - 1)) < 1024 by omega) h0
  have hrl := (hG.2.1 _ t1).2 p0 p2
  have hpT : p0 < T.1 := by
    have := s_rl_bit T (q (ps - 1)) p0
    rw [hrl] at this
    simp at this; exact this.1
  have hed : Ed T (q (ps - 1)) (q (ps - 1) ^^^ 2 ^ p0) := ⟨p0, hpT, hrl, rfl⟩
  have hzN := hed.lt t1
  have hbs := kt_b_step (lf := lf) t1 (by omega) p2
  have hcN := kt_cN hV.2.1
  obtain ⟨pc, oc⟩ := kt_psle hV
  have hlk := hV.2.2.2.2.2.2.2.2 _ t1 t2
  have hck := hV.1 _ t1
  refine EX4_followOne ⟨h_inK (by omega), ?_⟩
  have b33 := hM.2.2.2.2.2.2.2 _ t1
  rw [h_clK (by omega), b33, p3, h_xor, h_xor, h_clK (show q (ps - 1) ^^^ 2 ^ p0 < 1024 by omega)]
  refine ⟨h_inK (by omega), h_inK (by omega), h_inK (by omega), fun M1 e1 => ⟨h_inK (by omega), ?_⟩⟩
  have hM1 : kt_M M1 (2 ^ T.1) c F L ps q os o (va_up lf (q (ps - 1)) (lf (q (ps - 1)) ^^^ 2 ^ p0)) := by
    obtain ⟨b1, b2, b3, b4, b5, b6, b7, b8⟩ := hM
    refine ⟨by rw [e1, m_ne _ _ (by omega)]; exact b1, by rw [e1, m_ne _ _ (by omega)]; exact b2, by rw [e1, m_ne _ _ (by omega)]; exact b3, fun x hx => by rw [e1, m_ne _ _ (by omega)]; exact b4 x hx, fun x hx h => by rw [e1, m_ne _ _ (by omega)]; exact b5 x hx h, fun k hk => by rw [e1, m_ne _ _ (by omega)]; exact b6 k hk, fun k hk => by rw [e1, m_ne _ _ (by omega)]; exact b7 k hk, fun x hx => ?_⟩
    by_cases e : x = q (ps - 1)
    · rw [e1, e, m_same, up_same]
    · rw [e1, m_ne _ _ (by omega), up_ne _ _ e]; exact b8 x hx
  have f1 : FrT M M1 := by rw [e1]; exact FrT.st (by decide)
  have hFz := hV.1 _ hzN
  rw [hM1.2.2.2.1 _ hzN]
  refine ⟨fun cz => ?_, fun cz => ?_⟩
  · have hz0 : F (q (ps - 1) ^^^ 2 ^ p0) ≠ 0 := fun e => cz (by rw [e]; rfl)
    rw [hM1.2.2.2.2.1 _ hzN hz0, hM1.2.2.2.2.1 _ t1 t2.1]
    have hLz : L (q (ps - 1) ^^^ 2 ^ p0) < 2 ^ 31 := by
      by_cases e : L (q (ps - 1) ^^^ 2 ^ p0) = 1025
      · omega
      · have := hV.2.2.2.2.2.2.2.2 _ hzN ⟨hz0, e⟩; omega
    have e1025 : (nI (L (q (ps - 1) ^^^ 2 ^ p0)) = (1025 : Int32)) ↔ L (q (ps - 1) ^^^ 2 ^ p0) = 1025 := by
      rw [show (1025 : Int32) = nI 1025 from rfl, nI_eq hLz (by decide)]
    rw [e1025]
    have fin : ∀ (M2 : Mem) (m : Nat), FrT M M2 → kt_M M2 (2 ^ T.1) c F (va_up L (q (ps - 1)) m) ps q os o (va_up lf (q (ps - 1)) (lf (q (ps - 1)) ^^^ 2 ^ p0)) → 1 ≤ m → m ≤ L (q (ps - 1)) → (kt_op F L (q (ps - 1) ^^^ 2 ^ p0) → m ≤ F (q (ps - 1) ^^^ 2 ^ p0)) → (m = L (q (ps - 1)) ∨ (kt_op F L (q (ps - 1) ^^^ 2 ^ p0) ∧ m = F (q (ps - 1) ^^^ 2 ^ p0))) → z_pV (fun M1 => FrT M M1 ∧ kt_S M1 T i φ K) none M2 := by
      intro M2 m f2 hM2 m1 m2 m3 m4
      obtain ⟨w1, w2⟩ := kt_follow hN hV hG hps hpT p2 hz0 m1 m2 m3 m4
      refine zpV ⟨f2, c, F, _, ps, q, os, o, _, w1, w2, hM2, by omega, hi, fun x hx hx0 hxl => ?_⟩
      have : x ≠ q (ps - 1) := fun e => by rw [e, up_same] at hxl; omega
      rw [up_ne _ _ this] at hxl
      exact hK x hx hx0 hxl
    refine ⟨h_inK (by omega), fun cl => fin M1 (L (q (ps - 1))) f1 ?_ hlk.1 (Nat.le_refl _) (fun h => absurd cl h.2) (Or.inl rfl), fun cl => ⟨h_inK (by omega), h_inK (by omega), h_inK (by omega), fun M2 e2 => ?_⟩⟩
    · obtain ⟨b1, b2, b3, b4, b5, b6, b7, b8⟩ := hM1
      refine ⟨b1, b2, b3, b4, fun x hx h => ?_, b6, b7, b8⟩
      by_cases e : x = q (ps - 1)
      · rw [e, up_same]; exact b5 _ t1 t2.1
      · rw [up_ne _ _ e]; exact b5 x hx h
    · have put : ∀ m, M2 = z_st M1 30 (q (ps - 1)) (nI m) → kt_M M2 (2 ^ T.1) c F (va_up L (q (ps - 1)) m) ps q os o (va_up lf (q (ps - 1)) (lf (q (ps - 1)) ^^^ 2 ^ p0)) := by
        intro m e3
        obtain ⟨b1, b2, b3, b4, b5, b6, b7, b8⟩ := hM1
        refine ⟨by rw [e3, m_ne _ _ (by omega)]; exact b1, by rw [e3, m_ne _ _ (by omega)]; exact b2, by rw [e3, m_ne _ _ (by omega)]; exact b3, fun x hx => by rw [e3, m_ne _ _ (by omega)]; exact b4 x hx, fun x hx h => ?_, fun k hk => by rw [e3, m_ne _ _ (by omega)]; exact b6 k hk, fun k hk => by rw [e3, m_ne _ _ (by omega)]; exact b7 k hk, fun x hx => by rw [e3, m_ne _ _ (by omega)]; exact b8 x hx⟩
        by_cases e : x = q (ps - 1)
        · rw [e, up_same, e3, m_same]
        · rw [up_ne _ _ e, e3, m_ne _ _ (by omega)]; exact b5 x hx h
      have f2 : FrT M M2 := f1.trans (by rw [e2]; exact FrT.st (by decide))
      by_cases cm : F (q (ps - 1) ^^^ 2 ^ p0) < L (q (ps - 1))
      · rw [if_pos (nI_lt cm (by omega))] at e2
        exact fin M2 _ f2 (put _ e2) (by omega) (by omega) (fun _ => Nat.le_refl _) (Or.inr ⟨⟨hz0, cl⟩, rfl⟩)
      · rw [if_neg (nI_nlt (by omega) (by omega))] at e2
        exact fin M2 _ f2 (put _ e2) hlk.1 (Nat.le_refl _) (fun _ => by omega) (Or.inl rfl)
  · have hz0 : F (q (ps - 1) ^^^ 2 ^ p0) = 0 := by
      rw [h_lit0, nI_eq (by omega) (by decide)] at cz; exact cz
    have hc1 := kt_cN2 hV.2.1 hzN hz0
    refine ⟨_, c_enter hN hM1 hzN (by omega) (by omega) (by omega), fun M3 hq => zpV ⟨f1.trans hq.1, ?_⟩⟩
    have hA : ∀ x, x < 2 ^ T.1 → va_up lf (q (ps - 1)) (lf (q (ps - 1)) ^^^ 2 ^ p0) x < 2 ^ T.1 := by
      intro x hx
      by_cases e : x = q (ps - 1)
      · rw [e, up_same]; exact Nat.xor_lt_two_pow lfl (Nat.pow_lt_pow_right (by decide) hpT)
      · rw [up_ne _ _ e]; exact (hG.2.1 x hx).1
    have hB : ∀ x, x < 2 ^ T.1 → ∀ p, (va_up lf (q (ps - 1)) (lf (q (ps - 1)) ^^^ 2 ^ p0) x).testBit p = true → (lf x).testBit p = true := by
      intro x hx p hp
      by_cases e : x = q (ps - 1)
      · rw [e, up_same, Nat.testBit_xor, Nat.testBit_two_pow] at hp
        rw [e]
        by_cases ep : p0 = p
        · rw [← ep, p2] at hp; simp at hp
        · simp [ep] at hp; exact hp
      · rw [up_ne _ _ e] at hp; exact hp
    have hC : ∀ x, x < 2 ^ T.1 → ∀ p, (lf x).testBit p = true → (va_up lf (q (ps - 1)) (lf (q (ps - 1)) ^^^ 2 ^ p0) x).testBit p = false → 1 ≤ ps ∧ x = q (ps - 1) ∧ x ^^^ 2 ^ p = q (ps - 1) ^^^ 2 ^ p0 := by
      intro x hx p hp hp2
      by_cases e : x = q (ps - 1)
      · rw [e, up_same, Nat.testBit_xor, Nat.testBit_two_pow] at hp2
        rw [e] at hp
        by_cases ep : p0 = p
        · exact ⟨hps, e, by rw [e, ep]⟩
        · rw [hp] at hp2; simp [ep] at hp2
      · rw [up_ne _ _ e, hp] at hp2; exact absurd hp2 (by decide)
    obtain ⟨w1, w2⟩ := kt_enter hN hV hG hzN hz0 hA hB hC (fun _ => (Rch.rfl' T _).step hed)
    refine ⟨c + 1, _, _, ps + 1, _, os + 1, _, _, w1, w2, hq.2, by omega, fun x hx hx2 => ?_, fun x hx hx0 hxl => ?_⟩
    · by_cases e : x = q (ps - 1) ^^^ 2 ^ p0
      · rw [e, up_same]; omega
      · rw [up_ne _ _ e]; exact hi x hx hx2
    · have e : x ≠ q (ps - 1) ^^^ 2 ^ p0 := fun e => by rw [e, up_same] at hxl; omega
      rw [up_ne _ _ e] at hx0 hxl
      exact hK x hx hx0 hxl
end TarjC
