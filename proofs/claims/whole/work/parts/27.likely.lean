/-! chances, as whole numbers by 2520 a draw -/
def q_sh (T : TW) (c : Nat → Nat) (d : Nat) : Nat := c d * (2520 / s_pc (s_rl T d))
def q_p (T : TW) (c : Nat → Nat) (d : Nat) (t : Nat → Nat) : Nat → (Nat → Nat)
  | 0 => t
  | p + 1 => if (s_rl T d).testBit p then va_up (q_p T c d t p) (d ^^^ 2 ^ p) (q_p T c d t p (d ^^^ 2 ^ p) + q_sh T c d) else q_p T c d t p
def q_h (T : TW) (c : Nat → Nat) (d : Nat) (t : Nat → Nat) : Nat → Nat := if s_rl T d = 0 then va_up t d (t d + c d * 2520) else q_p T c d t T.1
def q_d (T : TW) (c : Nat → Nat) : Nat → (Nat → Nat)
  | 0 => fun _ => 0
  | d + 1 => if c d = 0 then q_d T c d else q_h T c d (q_d T c d)
def q_n (T : TW) (d0 : Nat) : Nat → (Nat → Nat)
  | 0 => fun a => if a = d0 then 1 else 0
  | k + 1 => q_d T (q_n T d0 k) (2 ^ T.1)
theorem s_sm_up {t : Nat → Nat} {z s : Nat} : ∀ {N : Nat}, z < N → s_sm (va_up t z (t z + s)) N = s_sm t N + s
  | 0, h => absurd h (Nat.not_lt_zero z)
  | N + 1, h => by
    show s_sm (va_up t z (t z + s)) N + va_up t z (t z + s) N = s_sm t N + t N + s
    by_cases e : z = N
    · subst e
      rw [up_same, s_sm_cong (g := t) (fun k hk => up_ne _ _ (by omega))]
      omega
    · rw [up_ne _ _ (fun x => e x.symm), s_sm_up (N := N) (by omega)]
      omega
theorem s_sm_part {f : Nat → Nat} {d : Nat} : ∀ {N : Nat}, d < N → f d ≤ s_sm f N
  | 0, h => absurd h (Nat.not_lt_zero d)
  | N + 1, h => by
    show f d ≤ s_sm f N + f N
    by_cases e : d = N
    · subst e; omega
    · have := s_sm_part (f := f) (d := d) (N := N) (by omega); omega
theorem q_p_sum {T : TW} {c t : Nat → Nat} {d : Nat} (h10 : T.1 ≤ 10) (hd : d < 2 ^ T.1) : ∀ p, p ≤ T.1 → s_sm (q_p T c d t p) (2 ^ T.1) = s_sm t (2 ^ T.1) + s_pcK (s_rl T d) p * q_sh T c d
  | 0, _ => by simp [q_p, s_pcK]
  | p + 1, h => by
    have ih := q_p_sum h10 hd (c := c) (t := t) p (by omega)
    have hz : d ^^^ 2 ^ p < 2 ^ T.1 := Nat.xor_lt_two_pow hd (Nat.pow_lt_pow_right (by decide) (by omega))
    unfold q_p s_pcK
    cases hb : (s_rl T d).testBit p with
    | true => simp only [if_true]; rw [s_sm_up hz, ih, Nat.add_mul]; omega
    | false => simp only [Bool.false_eq_true, if_false]; rw [ih, Nat.add_zero]
theorem s_pcK_high {x n : Nat} (hx : x < 2 ^ n) : ∀ k, n ≤ k → s_pcK x k = s_pcK x n
  | 0, h => by rw [show n = 0 by omega]
  | k + 1, h => by
    by_cases e : n = k + 1
    · rw [e]
    · unfold s_pcK
      rw [s_pcK_high hx k (by omega), Nat.testBit_lt_two_pow (Nat.lt_of_lt_of_le hx (Nat.pow_le_pow_right (by decide) (by omega)))]
      by_cases e0 : n = 0
      · subst e0; simp [s_pcK]
      · obtain ⟨m, rfl⟩ : ∃ m, n = m + 1 := ⟨n - 1, by omega⟩
        simp [s_pcK]
theorem q_h_sum {T : TW} {c t : Nat → Nat} {d : Nat} (h10 : T.1 ≤ 10) (hd : d < 2 ^ T.1) : s_sm (q_h T c d t) (2 ^ T.1) ≤ s_sm t (2 ^ T.1) + 2520 * c d := by
  unfold q_h
  by_cases h0 : s_rl T d = 0
  · rw [if_pos h0, s_sm_up hd]; omega
  · rw [if_neg h0, q_p_sum h10 hd T.1 (Nat.le_refl _)]
    have e : s_pcK (s_rl T d) T.1 = s_pc (s_rl T d) := (s_pcK_high (s_rl_lt T d) 10 h10).symm
    rw [e]
    unfold q_sh
    have : s_pc (s_rl T d) * (2520 / s_pc (s_rl T d)) ≤ 2520 := Nat.mul_div_le 2520 _
    have h2 := Nat.mul_le_mul_left (c d) this
    have e2 : s_pc (s_rl T d) * (c d * (2520 / s_pc (s_rl T d))) = c d * (s_pc (s_rl T d) * (2520 / s_pc (s_rl T d))) := by
      rw [Nat.mul_left_comm]
    rw [e2]; omega
theorem q_d_sum {T : TW} {c : Nat → Nat} (h10 : T.1 ≤ 10) : ∀ d, d ≤ 2 ^ T.1 → s_sm (q_d T c d) (2 ^ T.1) ≤ 2520 * s_sm c d
  | 0, _ => by
    have : ∀ N, s_sm (fun _ => 0) N = 0 := by
      intro N
      induction N with
      | zero => rfl
      | succ N ih => show s_sm (fun _ => 0) N + 0 = 0; rw [ih]
    show s_sm (fun _ => 0) _ ≤ _
    rw [this]; exact Nat.zero_le _
  | d + 1, h => by
    have ih := q_d_sum h10 (c := c) d (by omega)
    show s_sm (if c d = 0 then q_d T c d else q_h T c d (q_d T c d)) _ ≤ 2520 * (s_sm c d + c d)
    by_cases h0 : c d = 0
    · rw [if_pos h0]; omega
    · rw [if_neg h0]
      have := q_h_sum (c := c) (t := q_d T c d) h10 (show d < 2 ^ T.1 by omega)
      omega
theorem q_n_sum {T : TW} {d0 : Nat} (h10 : T.1 ≤ 10) : ∀ k, s_sm (q_n T d0 k) (2 ^ T.1) ≤ 2520 ^ k
  | 0 => by
    have : ∀ N, s_sm (q_n T d0 0) N ≤ if d0 < N then 1 else 0 := by
      intro N
      induction N with
      | zero => exact Nat.le_refl _
      | succ N ih =>
        show s_sm (q_n T d0 0) N + (if N = d0 then 1 else 0) ≤ _
        by_cases e : N = d0
        · subst e; rw [if_neg (by omega)] at ih; rw [if_pos rfl, if_pos (by omega)]; omega
        · rw [if_neg e]
          by_cases h : d0 < N
          · rw [if_pos h] at ih; rw [if_pos (by omega)]; omega
          · rw [if_neg h] at ih; rw [if_neg (by omega)]; omega
    have h := this (2 ^ T.1)
    by_cases e : d0 < 2 ^ T.1
    · rw [if_pos e] at h; simpa using h
    · rw [if_neg e] at h; omega
  | k + 1 => by
    have ih := q_n_sum (d0 := d0) h10 k
    have := q_d_sum (c := q_n T d0 k) h10 (2 ^ T.1) (Nat.le_refl _)
    show s_sm (q_d T (q_n T d0 k) (2 ^ T.1)) _ ≤ _
    rw [Nat.pow_succ]
    omega
theorem q_pow {k : Nat} (h : k ≤ 4) : 2520 ^ k < 2 ^ 46 := by
  rcases (show k = 0 ∨ k = 1 ∨ k = 2 ∨ k = 3 ∨ k = 4 by omega) with rfl | rfl | rfl | rfl | rfl <;> decide
def q_r (T : TW) (c : Nat → Nat) : Nat → Nat := s_sm (fun d => if s_rest T d then c d else 0)
theorem q_r_le (T : TW) (c : Nat → Nat) : ∀ n, q_r T c n ≤ s_sm c n
  | 0 => Nat.le_refl _
  | n + 1 => by
    have ih := q_r_le T c n
    show q_r T c n + (if s_rest T n then c n else 0) ≤ s_sm c n + c n
    by_cases h : s_rest T n = true
    · rw [if_pos h]; omega
    · rw [if_neg h]; omega
theorem lN_le0 {n : Nat} (h : n < 2 ^ 63) : lN n ≤ 0 ↔ n = 0 := by
  have := pk_lLE (a := n) (b := 0) h (by decide)
  rw [show lN 0 = 0 from rfl] at this
  rw [this]; omega
theorem lN_eq0 {n : Nat} (h : n < 2 ^ 63) : lN n = 0 ↔ n = 0 := by
  have := pk_lEQ (a := n) (b := 0) h (by decide)
  rwa [show lN 0 = 0 from rfl] at this
section LikelyC
variable {E F : ET} {M MX MM : Mem} {T : TW} {P : PW} {v : Nat}
theorem h_share {n : Nat} (h0 : 0 < n) (h : n ≤ 10) : ((2520 : Int32) / nI n).toInt64 = lN (2520 / n) := by
  have e : (2520 : Int32) / nI n = nI (2520 / n) := pk_div (a := 2520) (by decide) h0 (by omega)
  rw [e]
  exact nI_l (Nat.lt_of_le_of_lt (Nat.div_le_self _ _) (by decide))
theorem s_pc_zero : ∀ x, x < 1024 → (s_pc x = 0 ↔ x = 0) := by decide +kernel
theorem c_handOn (hR : RepX M T) {c t : Nat → Nat} (hc : ∀ a, a < 2 ^ T.1 → M.2 34 a = lN (c a)) (ht : ∀ a, a < 2 ^ T.1 → M.2 35 a = lN (t a)) {d : Nat} (hd : d < 2 ^ T.1) : CX0_handOn E [.ref (E.2.1 0), .int (nI d), .int (nI (s_rl T d))] M (z_pV (fun M1 => M1.1 = M.1 ∧ M1.2 34 = M.2 34 ∧ ∀ a, a < 2 ^ T.1 → M1.2 35 a = lN (q_h T c d t a))) := by
  have h10 := hR.2.1.2
  have h31 := hR.lt31
  have hp2 := hR.p2
  have hr := s_rl_lt T d
  have hpc := s_pc_le (s_rl T d)
  refine EX0_handOn (fun X hE hK => ⟨_, c_bitCount (by omega), ?_⟩)
  rw [h_lit0, nI_eq (by omega) (by omega), s_pc_zero _ (by omega), h_clK (by omega), hc d hd, ht d hd]
  refine ⟨fun h0 => ⟨h_inK (by omega), fun e => h0 e, ?_⟩, fun h0 => ⟨h_inK (by omega), h_inK (by omega), h_inK (by omega), fun M2 e2 => zpV ⟨by rw [e2]; rfl, ?_, fun a ha => ?_⟩⟩⟩
  · have hpos : 0 < s_pc (s_rl T d) := Nat.pos_of_ne_zero (fun e => h0 ((s_pc_zero _ (by omega)).mp e))
    rw [h_share hpos hpc, lN_mul]
    have eh : q_h T c d t = q_p T c d t T.1 := if_neg h0
    rw [eh]
    refine h_down (P := fun p => ∀ M1, M1.1 = M.1 → M1.2 34 = M.2 34 → (∀ a, a < 2 ^ T.1 → M1.2 35 a = lN (q_p T c d t p a)) → LX0_handOn_47 X (z_pV (fun M1 => M1.1 = M.1 ∧ M1.2 34 = M.2 34 ∧ ∀ a, a < 2 ^ T.1 → M1.2 35 a = lN (q_p T c d t T.1 a))) (nI d) (nI (s_rl T d)) (lN (q_sh T c d)) (nI p) M1) T.1 ?_ ?_ M rfl rfl ht
    · intro M1 f1 f2 f3
      exact BX0_handOn_47 hK ⟨_, c_size (hR.frame (by rw [f1]) (fun k _ _ => by rw [f1])), fun _ => zpV ⟨f1, f2, f3⟩, fun c => absurd (h_le h31 (Nat.le_refl _)) c⟩
    · intro p hp ih M1 f1 f2 f3
      have hz : d ^^^ 2 ^ p < 2 ^ T.1 := Nat.xor_lt_two_pow hd (Nat.pow_lt_pow_right (by decide) hp)
      refine BX0_handOn_47 hK ⟨_, c_size (hR.frame (by rw [f1]) (fun k _ _ => by rw [f1])), fun c => absurd c (h_nle h31 hp), fun _ => ?_⟩
      rw [h_shl (by omega), h_and, h_and2, nI_1]
      cases hb : (s_rl T d).testBit p with
      | false =>
        refine ⟨fun _ => ih M1 f1 f2 (fun a ha => ?_), fun c => absurd rfl c⟩
        rw [f3 a ha, show q_p T c d t (p + 1) = q_p T c d t p from if_neg (by rw [hb]; decide)]
      | true =>
        rw [if_pos rfl, h_xor, h_clK (show d ^^^ 2 ^ p < 1024 by omega), f3 _ hz, lN_add]
        refine ⟨fun c => absurd c (nI_ne0 (Nat.two_pow_pos p) (by have := Nat.pow_lt_pow_right (a := 2) (by decide) hp; omega)), fun _ => ⟨h_inK (by omega), h_inK (by omega), fun M2 e2 => ih M2 (by rw [e2]; exact f1) ?_ (fun a ha => ?_)⟩⟩
        · rw [e2, (z_sl_ne 34 (by decide)).2]; exact f2
        · rw [show q_p T c d t (p + 1) = va_up (q_p T c d t p) (d ^^^ 2 ^ p) (q_p T c d t p (d ^^^ 2 ^ p) + q_sh T c d) from if_pos hb, e2]
          by_cases e : a = d ^^^ 2 ^ p
          · rw [e, m_lsame, up_same]
          · rw [m_lne _ _ (by omega), up_ne _ _ e]; exact f3 a ha
  · rw [e2, (z_sl_ne 34 (by decide)).2]
  · rw [show q_h T c d t = va_up t d (t d + c d * 2520) from if_pos h0, e2]
    by_cases e : a = d
    · rw [e, m_lsame, up_same, show (2520 : Int64) = lN 2520 from rfl, lN_mul, lN_add]
    · rw [m_lne _ _ (by omega), up_ne _ _ e]; exact ht a ha
theorem c_drawOnce (hR : RepX M T) (hF : FreshR M T) {c : Nat → Nat} (hb : ∀ a, a < 2 ^ T.1 → c a < 2 ^ 63) (hc : ∀ a, a < 2 ^ T.1 → M.2 34 a = lN (c a)) : CX0_drawOnce E [.ref (E.2.1 0), .ref (E.2.1 24), .int (nI (2 ^ T.1))] M (z_pV (fun M1 => M1.1 = M.1 ∧ ∀ a, a < 2 ^ T.1 → M1.2 34 a = lN (q_d T c (2 ^ T.1) a))) := by
  have h10 := hR.2.1.2
  have hp2 := hR.p2
  refine EX0_drawOnce (fun X hE hK => ?_)
  generalize hQ : (z_pV (fun M1 => M1.1 = M.1 ∧ ∀ a, a < 2 ^ T.1 → M1.2 34 a = lN (q_d T c (2 ^ T.1) a))) = Q
  have h54 : ∀ M1, M1.1 = M.1 → (∀ a, a < 2 ^ T.1 → M1.2 35 a = lN (q_d T c (2 ^ T.1) a)) → LX0_drawOnce_54 X Q (nI (2 ^ T.1)) 0 M1 := by
    intro M1 f1 f2
    refine h_down (P := fun i => ∀ M1, M1.1 = M.1 → (∀ a, a < 2 ^ T.1 → M1.2 35 a = lN (q_d T c (2 ^ T.1) a)) → (∀ a, a < i → M1.2 34 a = lN (q_d T c (2 ^ T.1) a)) → LX0_drawOnce_54 X Q (nI (2 ^ T.1)) (nI i) M1) (2 ^ T.1) ?_ ?_ M1 f1 f2 (fun a ha => absurd ha (Nat.not_lt_zero a))
    · intro M1 f1 f2 f3
      refine BX0_drawOnce_54 hK ⟨fun _ => ?_, fun c => absurd (h_le (by omega) (Nat.le_refl _)) c⟩
      rw [← hQ]; exact zpV ⟨f1, f3⟩
    · intro i hi ih M1 f1 f2 f3
      refine BX0_drawOnce_54 hK ⟨fun c => absurd c (h_nle (by omega) hi), fun _ => ⟨h_inK (by omega), h_inK (by omega), fun M2 e2 => ?_⟩⟩
      rw [h_clK (by omega), f2 i hi] at e2
      rw [nI_1]
      refine ih M2 (by rw [e2]; exact f1) (fun a ha => by rw [e2, (z_sl_ne 35 (by decide)).2]; exact f2 a ha) (fun a ha => ?_)
      by_cases e : a = i
      · rw [e, e2, m_lsame]
      · rw [e2, m_lne _ _ (by omega)]; exact f3 a (by omega)
  have h22 : ∀ M1, M1.1 = M.1 → M1.2 34 = M.2 34 → (∀ a, a < 2 ^ T.1 → M1.2 35 a = lN (q_d T c 0 a)) → LX0_drawOnce_22 X Q (nI (2 ^ T.1)) 0 M1 := by
    intro M1 f1 f2 f3
    refine h_down (P := fun i => ∀ M1, M1.1 = M.1 → M1.2 34 = M.2 34 → (∀ a, a < 2 ^ T.1 → M1.2 35 a = lN (q_d T c i a)) → LX0_drawOnce_22 X Q (nI (2 ^ T.1)) (nI i) M1) (2 ^ T.1) ?_ ?_ M1 f1 f2 f3
    · intro M1 f1 f2 f3
      exact BX0_drawOnce_22 hK ⟨fun _ => h54 M1 f1 f3, fun c => absurd (h_le (by omega) (Nat.le_refl _)) c⟩
    · intro i hi ih M1 f1 f2 f3
      have hR1 := hR.frame (M' := M1) (by rw [f1]) (fun k _ _ => by rw [f1])
      refine BX0_drawOnce_22 hK ⟨fun c => absurd c (h_nle (by omega) hi), fun _ => ⟨h_inK (by omega), ?_⟩⟩
      rw [h_clK (by omega), f2, hc i hi, lg_cmp_le, lN_le0 (hb i hi), nI_1]
      refine ⟨fun c0 => ih M1 f1 f2 (fun a ha => ?_), fun c0 => ⟨h_inK (by omega), ?_⟩⟩
      · rw [f3 a ha, show q_d T c (i + 1) = q_d T c i from if_pos c0]
      · rw [f1, hF i hi]
        refine ⟨_, c_handOn hR1 (c := c) (t := q_d T c i) (fun a ha => by rw [f2]; exact hc a ha) f3 hi, fun M2 hq => ih M2 (by rw [hq.1]; exact f1) (by rw [hq.2.1]; exact f2) (fun a ha => ?_)⟩
        rw [hq.2.2 a ha, show q_d T c (i + 1) = q_h T c i (q_d T c i) from if_neg c0]
  refine h_down (P := fun i => ∀ M1, M1.1 = M.1 → M1.2 34 = M.2 34 → (∀ a, a < i → M1.2 35 a = 0) → LX0_drawOnce_2 X Q (nI (2 ^ T.1)) (nI i) M1) (2 ^ T.1) ?_ ?_ M rfl rfl (fun a ha => absurd ha (Nat.not_lt_zero a))
  · intro M1 f1 f2 f3
    exact BX0_drawOnce_2 hK ⟨fun _ => h22 M1 f1 f2 f3, fun c => absurd (h_le (by omega) (Nat.le_refl _)) c⟩
  · intro i hi ih M1 f1 f2 f3
    refine BX0_drawOnce_2 hK ⟨fun c => absurd c (h_nle (by omega) hi), fun _ => ⟨h_inK (by omega), fun M2 e2 => ?_⟩⟩
    rw [h_clK (by omega)] at e2
    rw [nI_1]
    refine ih M2 (by rw [e2]; exact f1) (by rw [e2, (z_sl_ne 34 (by decide)).2]; exact f2) (fun a ha => ?_)
    by_cases e : a = i
    · rw [e, e2, m_lsame]
    · rw [e2, m_lne _ _ (by omega)]; exact f3 a (by omega)
theorem c_gcd {a b : Nat} (ha : a < 2 ^ 46) (hab : b ≤ a) : CX0_commonDivisor E [.long (lN a), .long (lN b)] M (z_is (some (.long (lN (Nat.gcd a b)))) M) := by
  refine EX0_commonDivisor (fun X hE hK => ?_)
  have go : ∀ k, k ≤ 46 → ∀ a b i, a < 2 ^ k → b ≤ a → i + 2 * k ≤ 100 → LX0_commonDivisor_9 X (z_is (some (.long (lN (Nat.gcd a b)))) M) (lN a) (lN b) (nI i) M := by
    intro k
    induction k with
    | zero =>
      intro _ a b i h1 h2 h3
      have h1 : a < 1 := h1
      have ea : a = 0 := by omega
      have eb : b = 0 := by omega
      subst ea; subst eb
      exact BX0_commonDivisor_9 hK ⟨fun _ => zi rfl, fun _ => ⟨fun _ => zi rfl, fun c => absurd ((lg_cmp_eq _ _).mpr rfl) c⟩⟩
    | succ k ih =>
      intro hk46 a b i h1 h2 h3
      have hk : 2 ^ (k + 1) ≤ 2 ^ 46 := Nat.pow_le_pow_right (by decide) hk46
      have h63 : (2 : Nat) ^ 46 < 2 ^ 63 := by decide
      have hb63 : b < 2 ^ 63 := by omega
      have cb : lg_cmp (lN b) 0 = 0 ↔ b = 0 := by rw [lg_cmp_eq, lN_eq0 hb63]
      refine BX0_commonDivisor_9 hK ⟨fun c => absurd c (h_nle (b := 200) (by decide) (by omega)), fun _ => ?_⟩
      rw [cb]
      refine ⟨fun c => zi (by rw [c, Nat.gcd_zero_right]), fun c => ⟨fun e => c ((lN_eq0 hb63).mp e), ?_⟩⟩
      have hr := Nat.mod_lt a (show 0 < b by omega)
      rw [pk_lRem (by omega) (by omega) hb63, nI_1]
      have hr63 : a % b < 2 ^ 63 := by omega
      have cr : lg_cmp (lN (a % b)) 0 = 0 ↔ a % b = 0 := by rw [lg_cmp_eq, lN_eq0 hr63]
      have g1 : Nat.gcd a b = Nat.gcd b (a % b) := by rw [Nat.gcd_comm a b, Nat.gcd_rec b a, Nat.gcd_comm]
      rw [g1]
      refine BX0_commonDivisor_9 hK ⟨fun c => absurd c (h_nle (b := 200) (by decide) (by omega)), fun _ => ?_⟩
      rw [cr]
      refine ⟨fun c => zi (by rw [c, Nat.gcd_zero_right]), fun c => ⟨fun e => c ((lN_eq0 hr63).mp e), ?_⟩⟩
      have hr2 := Nat.mod_lt b (show 0 < a % b by omega)
      rw [pk_lRem (by omega) (by omega) hr63, nI_1]
      have g2 : Nat.gcd b (a % b) = Nat.gcd (a % b) (b % (a % b)) := by rw [Nat.gcd_comm b, Nat.gcd_rec (a % b) b, Nat.gcd_comm]
      rw [g2]
      have hhalf : a % b < 2 ^ k := by
        have h4 : b * (a / b) + a % b = a := Nat.div_add_mod a b
        have h5 : 1 ≤ a / b := Nat.div_pos h2 (by omega)
        have h6 : b ≤ b * (a / b) := Nat.le_mul_of_pos_right b h5
        have h7 : 2 ^ (k + 1) = 2 ^ k + 2 ^ k := by rw [Nat.pow_succ]; omega
        omega
      exact ih (by omega) _ _ _ hhalf (by omega) (by omega)
  exact go 46 (Nat.le_refl _) a b 0 ha hab (by omega)
theorem c_fraction (hX : InvX M T P v) {d n : Nat} (hd : d < 2 ^ T.1) (hn : n ≤ 4) (x3 : Int32) : CX0_fraction E [.ref (E.2.1 0), .int (nI d), .int (nI n), .int x3] M (z_pL (fun r M1 => r = (if x3 = 0 then lN (2520 ^ n / Nat.gcd (2520 ^ n) (q_r T (q_n T d n) (2 ^ T.1))) else lN (q_r T (q_n T d n) (2 ^ T.1) / Nat.gcd (2520 ^ n) (q_r T (q_n T d n) (2 ^ T.1)))) ∧ InvX M1 T P v)) := by
  have hR := hX.1
  have h10 := hR.2.1.2
  have hp2 := hR.p2
  refine EX0_fraction (fun X hE hK => ⟨_, c_restless hR hX.2.2.1, fun M1 h1 => ⟨_, c_dresses (h1.1.rep hR), ?_⟩⟩)
  have hI := hX.fr h1.1 h1.2.1 h1.2.2
  have hF := h1.2.2
  generalize hQ : (z_pL (fun r M1 => r = (if x3 = 0 then lN (2520 ^ n / Nat.gcd (2520 ^ n) (q_r T (q_n T d n) (2 ^ T.1))) else lN (q_r T (q_n T d n) (2 ^ T.1) / Nat.gcd (2520 ^ n) (q_r T (q_n T d n) (2 ^ T.1)))) ∧ InvX M1 T P v)) = Q
  have hpn := q_pow hn
  have hsum := q_n_sum (T := T) (d0 := d) h10 n
  have hrle := q_r_le T (q_n T d n) (2 ^ T.1)
  have h63 : (2 : Nat) ^ 46 < 2 ^ 63 := by decide
  have h89 : ∀ M2, M2.1 = M1.1 → (∀ a, a < 2 ^ T.1 → M2.2 34 a = lN (q_n T d n a)) → LX0_fraction_89 X Q x3 (nI (2 ^ T.1)) (lN (2520 ^ n)) 0 0 M2 := by
    intro M2 f1 f2
    refine h_down (P := fun i => LX0_fraction_89 X Q x3 (nI (2 ^ T.1)) (lN (2520 ^ n)) (lN (q_r T (q_n T d n) i)) (nI i) M2) (2 ^ T.1) ?_ ?_
    · have hg : 0 < Nat.gcd (2520 ^ n) (q_r T (q_n T d n) (2 ^ T.1)) := Nat.gcd_pos_of_pos_left _ (Nat.pow_pos (by decide))
      have hgl : Nat.gcd (2520 ^ n) (q_r T (q_n T d n) (2 ^ T.1)) ≤ 2520 ^ n := Nat.gcd_le_left _ (Nat.pow_pos (by decide))
      have hI2 : InvX M2 T P v := hI.scr (fun k _ => by rw [f1])
      refine BX0_fraction_89 hK ⟨fun _ => ⟨_, c_gcd hpn (by omega), fun _ => ⟨fun c => ⟨fun e => ?_, ?_⟩, fun c => ⟨fun e => ?_, ?_⟩⟩, fun c => ?_⟩, fun c => absurd (h_le (by omega) (Nat.le_refl _)) c⟩
      · have := (lN_eq0 (by omega)).mp e; omega
      · rw [pk_lDiv (by omega) hg (by omega), ← hQ]; exact zpL ⟨by rw [if_pos c], hI2⟩
      · have := (lN_eq0 (by omega)).mp e; omega
      · rw [pk_lDiv (by omega) hg (by omega), ← hQ]; exact zpL ⟨by rw [if_neg c], hI2⟩
      · rw [lg_cmp_gt] at c
        exact absurd ((pk_lLT (a := 0) (by decide) (by omega)).mpr hg) c
    · intro i hi ih
      have hF2 : FreshR M2 T := fun a ha => by rw [f1]; exact hF a ha
      refine BX0_fraction_89 hK ⟨fun c => absurd c (h_nle (by omega) hi), fun _ => ⟨h_inK (by omega), ?_⟩⟩
      rw [h_clK (by omega), h_rest0 hF2 h10 hi, f2 i hi, lN_add, nI_1]
      refine ⟨fun c => ?_, fun c => ⟨h_inK (by omega), ?_⟩⟩
      · have e : q_r T (q_n T d n) (i + 1) = q_r T (q_n T d n) i := by
          show q_r T (q_n T d n) i + (if s_rest T i then q_n T d n i else 0) = _
          rw [if_neg c]; rfl
        rw [e] at ih; exact ih
      · have e : q_r T (q_n T d n) (i + 1) = q_r T (q_n T d n) i + q_n T d n i := by
          show q_r T (q_n T d n) i + (if s_rest T i then q_n T d n i else 0) = _
          rw [if_pos c]
        rw [e] at ih; exact ih
  have h55 : ∀ M2, M2.1 = M1.1 → (∀ a, a < 2 ^ T.1 → M2.2 34 a = lN (q_n T d 0 a)) → LX0_fraction_55 X Q (nI n) x3 (nI (2 ^ T.1)) (lN (2520 ^ 0)) (nI 0) M2 := by
    intro M2 f1 f2
    refine h_down (P := fun k => ∀ M2, M2.1 = M1.1 → (∀ a, a < 2 ^ T.1 → M2.2 34 a = lN (q_n T d k a)) → LX0_fraction_55 X Q (nI n) x3 (nI (2 ^ T.1)) (lN (2520 ^ k)) (nI k) M2) n ?_ ?_ M2 f1 f2
    · intro M2 f1 f2
      exact BX0_fraction_55 hK ⟨fun _ => h89 M2 f1 f2, fun c => absurd (h_le (by omega) (Nat.le_refl _)) c⟩
    · intro k hk ih M2 f1 f2
      have hR2 := hI.1.frame (M' := M2) (by rw [f1]) (fun k _ _ => by rw [f1])
      have hF2 : FreshR M2 T := fun a ha => by rw [f1]; exact hF a ha
      have hs := q_n_sum (T := T) (d0 := d) h10 k
      have hpk := q_pow (k := k) (by omega)
      refine BX0_fraction_55 hK ⟨fun c => absurd c (h_nle (by omega) hk), fun _ => ⟨_, c_drawOnce hR2 hF2 (fun a ha => by have := s_sm_part (f := q_n T d k) ha; omega) f2, fun M3 hq => ?_⟩⟩
      rw [nI_1, show (2520 : Int64) = lN 2520 from rfl, lN_mul, ← Nat.pow_succ]
      exact ih M3 (by rw [hq.1]; exact f1) hq.2
  refine h_down (P := fun i => ∀ M2, M2.1 = M1.1 → (∀ a, a < i → M2.2 34 a = 0) → LX0_fraction_21 X Q (nI d) (nI n) x3 (nI (2 ^ T.1)) (nI i) M2) (2 ^ T.1) ?_ ?_ M1 rfl (fun a ha => absurd ha (Nat.not_lt_zero a))
  · intro M2 f1 f2
    refine BX0_fraction_21 hK ⟨fun _ => ⟨h_inK (by omega), fun M3 e3 => ?_⟩, fun c => absurd (h_le (by omega) (Nat.le_refl _)) c⟩
    rw [h_clK (by omega)] at e3
    refine h55 M3 (by rw [e3]; exact f1) (fun a ha => ?_)
    show M3.2 34 a = lN (if a = d then 1 else 0)
    by_cases e : a = d
    · rw [e, e3, m_lsame, if_pos rfl]; rfl
    · rw [e3, m_lne _ _ (by omega), if_neg e]; exact f2 a ha
  · intro i hi ih M2 f1 f2
    refine BX0_fraction_21 hK ⟨fun c => absurd c (h_nle (by omega) hi), fun _ => ⟨h_inK (by omega), fun M3 e3 => ?_⟩⟩
    rw [h_clK (by omega)] at e3
    rw [nI_1]
    refine ih M3 (by rw [e3]; exact f1) (fun a ha => ?_)
    by_cases e : a = i
    · rw [e, e3, m_lsame]
    · rw [e3, m_lne _ _ (by omega)]; exact f2 a (by omega)
end LikelyC
