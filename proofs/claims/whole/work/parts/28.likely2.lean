section Likely2
variable {E F : ET} {M MX MM : Mem} {T : TW} {P : PW} {v : Nat}
theorem n_draw (hM : InvM M T P) {c : Nat → Nat} (hb : ∀ a, a < 2 ^ T.1 → c a < 2 ^ 63) (hc : ∀ a, a < 2 ^ T.1 → M.2 12 a = lN (c a)) : CX10_draw E [.ref (E.2.1 0)] M (z_pV (fun M1 => M1.1 = M.1 ∧ ∀ a, a < 2 ^ T.1 → M1.2 12 a = lN (q_d T c (2 ^ T.1) a))) := by
  have hw := hM.2.1
  have hRM := hM.1
  have h10 := hw.1.2
  have hp2 : 2 ^ T.1 ≤ 1024 := Nat.pow_le_pow_right (n := 2) (by decide) h10
  have hpos := Nat.two_pow_pos T.1
  have fr : ∀ {M1 : Mem}, M1.1 = M.1 → RepM M1 T := fun {M1} e => by
    obtain ⟨b1, b2, b3, b4⟩ := hRM
    exact ⟨by rw [e]; exact b1, by rw [e]; exact b2, by rw [e]; exact b3, by rw [e]; exact b4⟩
  refine EX10_draw (fun X hE hK => ?_)
  generalize hQ : (z_pV (fun M1 => M1.1 = M.1 ∧ ∀ a, a < 2 ^ T.1 → M1.2 12 a = lN (q_d T c (2 ^ T.1) a))) = Q
  have h147 : ∀ M1, M1.1 = M.1 → (∀ a, a < 2 ^ T.1 → M1.2 13 a = lN (q_d T c (2 ^ T.1) a)) → LX10_draw_147 X Q 0 M1 := by
    intro M1 f1 f2
    refine h_down (P := fun i => ∀ M1, M1.1 = M.1 → (∀ a, a < 2 ^ T.1 → M1.2 13 a = lN (q_d T c (2 ^ T.1) a)) → (∀ a, a < i → M1.2 12 a = lN (q_d T c (2 ^ T.1) a)) → LX10_draw_147 X Q (nI i) M1) (2 ^ T.1) ?_ ?_ M1 f1 f2 (fun a ha => absurd ha (Nat.not_lt_zero a))
    · intro M1 f1 f2 f3
      refine BX10_draw_147 hK ⟨_, n_all (fr f1) hw, fun _ => ?_, fun c => absurd (nI_lt (by omega) (by omega)) c⟩
      rw [← hQ]; exact zpV ⟨f1, f3⟩
    · intro i hi ih M1 f1 f2 f3
      refine BX10_draw_147 hK ⟨_, n_all (fr f1) hw, fun c => absurd c (nI_nlt (by omega) (by omega)), fun _ => ⟨h_inK (by omega), h_inK (by omega), fun M2 e2 => ?_⟩⟩
      rw [h_clK (by omega), f2 i hi] at e2
      rw [nI_1]
      refine ih M2 (by rw [e2]; exact f1) (fun a ha => by rw [e2, (z_sl_ne 13 (by decide)).2]; exact f2 a ha) (fun a ha => ?_)
      by_cases e : a = i
      · rw [e, e2, m_lsame]
      · rw [e2, m_lne _ _ (by omega)]; exact f3 a (by omega)
  have h25 : ∀ M1, M1.1 = M.1 → M1.2 12 = M.2 12 → (∀ a, a < 2 ^ T.1 → M1.2 13 a = lN (q_d T c 0 a)) → LX10_draw_25 X Q 0 M1 := by
    intro M1 f1 f2 f3
    refine h_down (P := fun i => ∀ M1, M1.1 = M.1 → M1.2 12 = M.2 12 → (∀ a, a < 2 ^ T.1 → M1.2 13 a = lN (q_d T c i a)) → LX10_draw_25 X Q (nI i) M1) (2 ^ T.1) ?_ ?_ M1 f1 f2 f3
    · intro M1 f1 f2 f3
      exact BX10_draw_25 hK ⟨_, n_all (fr f1) hw, fun _ => h147 M1 f1 f3, fun c => absurd (nI_lt (by omega) (by omega)) c⟩
    · intro i hi ih M1 f1 f2 f3
      have hcm := s_cm_lt T i
      have hr := s_rl_lt T i
      have hpc := s_pc_le (s_rl T i)
      refine BX10_draw_25 hK ⟨_, n_all (fr f1) hw, fun c => absurd c (nI_nlt (by omega) (by omega)), fun _ => ⟨h_inK (by omega), ?_⟩⟩
      rw [h_clK (by omega), f2, hc i hi, f3 i hi, lg_cmp_le, lN_le0 (hb i hi), nI_1]
      refine ⟨fun c0 => ih M1 f1 f2 (fun a ha => ?_), fun c0 => ⟨_, n_all (fr f1) hw, _, n_calmOf (fr f1) hw (by omega), h_inK (by omega), ?_⟩⟩
      · rw [f3 a ha, show q_d T c (i + 1) = q_d T c i from if_pos c0]
      · rw [h_andnot (by omega) (by omega), s_rl_of_cm h10, h_lit0, nI_eq (by omega) (by omega)]
        have en : q_d T c (i + 1) = q_h T c i (q_d T c i) := if_neg c0
        rw [en] at ih
        -- the loop over the people, from the table t
        have loop : ∀ t, (∀ M2, M2.1 = M.1 → M2.2 12 = M.2 12 → (∀ a, a < 2 ^ T.1 → M2.2 13 a = lN (q_p T c i t T.1 a)) → LX10_draw_25 X Q (nI (i + 1)) M2) → ∀ M2, M2.1 = M.1 → M2.2 12 = M.2 12 → (∀ a, a < 2 ^ T.1 → M2.2 13 a = lN (t a)) → LX10_draw_86 X Q (nI i) (nI (s_rl T i)) 0 M2 := by
          intro t hfin M2 g1 g2 g3
          refine h_down (P := fun p => ∀ M2, M2.1 = M.1 → M2.2 12 = M.2 12 → (∀ a, a < 2 ^ T.1 → M2.2 13 a = lN (q_p T c i t p a)) → LX10_draw_86 X Q (nI i) (nI (s_rl T i)) (nI p) M2) T.1 ?_ ?_ M2 g1 g2 g3
          · intro M2 g1 g2 g3
            refine BX10_draw_86 hK ⟨fun _ => ?_, fun c => absurd (by rw [(fr g1).1]; exact h_le (by omega) (Nat.le_refl _)) c⟩
            rw [nI_1]; exact hfin M2 g1 g2 g3
          · intro p hp ih2 M2 g1 g2 g3
            have hz : i ^^^ 2 ^ p < 2 ^ T.1 := Nat.xor_lt_two_pow hi (Nat.pow_lt_pow_right (by decide) hp)
            refine BX10_draw_86 hK ⟨fun c => absurd c (by rw [(fr g1).1]; exact h_nle (by omega) hp), fun _ => ?_⟩
            rw [h_bit (by omega) (by omega), s_bit_1, nI_1]
            refine ⟨fun c5 => ih2 M2 g1 g2 (fun a ha => ?_), fun c5 => ⟨_, n_lone (by omega), h_inK (by omega), h_inK (by omega), _, n_ones (by omega), ?_⟩⟩
            · rw [g3 a ha, show q_p T c i t (p + 1) = q_p T c i t p from if_neg c5]
            · have h0 : s_rl T i ≠ 0 := fun e => by rw [e, Nat.zero_testBit] at c5; exact absurd c5 (by decide)
              have hpos2 : 0 < s_pc (s_rl T i) := Nat.pos_of_ne_zero (fun e => h0 ((s_pc_zero _ (by omega)).mp e))
              refine ⟨nI_ne0 hpos2 (by omega), h_inK (by omega), fun M3 e3 => ?_⟩
              rw [h_clK (show i ^^^ 2 ^ p < 1024 by omega), h_clK (show i < 1024 by omega), g3 _ hz, g2, hc i hi, h_share hpos2 hpc, lN_mul, lN_add] at e3
              refine ih2 M3 (by rw [e3]; exact g1) (by rw [e3, (z_sl_ne 12 (by decide)).2]; exact g2) (fun a ha => ?_)
              rw [show q_p T c i t (p + 1) = va_up (q_p T c i t p) (i ^^^ 2 ^ p) (q_p T c i t p (i ^^^ 2 ^ p) + q_sh T c i) from if_pos c5, e3]
              by_cases e : a = i ^^^ 2 ^ p
              · rw [e, m_lsame, up_same]; rfl
              · rw [m_lne _ _ (by omega), up_ne _ _ e]; exact g3 a ha
        refine ⟨fun h0 => ⟨h_inK (by omega), fun M2 e2 => ?_⟩, fun h0 => ⟨h_inK (by omega), h_inK (by omega), fun M2 e2 => ?_⟩⟩
        · rw [Int64.add_zero] at e2
          refine loop (q_d T c i) (fun M3 g1 g2 g3 => ih M3 g1 g2 (fun a ha => by rw [g3 a ha, show q_h T c i (q_d T c i) = q_p T c i (q_d T c i) T.1 from if_neg h0])) M2 (by rw [e2]; exact f1) (by rw [e2, (z_sl_ne 12 (by decide)).2]; exact f2) (fun a ha => ?_)
          by_cases e : a = i
          · rw [e, e2, m_lsame]
          · rw [e2, m_lne _ _ (by omega)]; exact f3 a ha
        · rw [show (2520 : Int64) = lN 2520 from rfl, lN_mul, lN_add] at e2
          have eh : q_h T c i (q_d T c i) = va_up (q_d T c i) i (q_d T c i i + c i * 2520) := if_pos h0
          have ep : ∀ t p, q_p T c i t p = t := by
            intro t p
            induction p with
            | zero => rfl
            | succ p ih3 => show (if (s_rl T i).testBit p then _ else q_p T c i t p) = t; rw [h0, Nat.zero_testBit, if_neg (by decide), ih3]
          refine loop (va_up (q_d T c i) i (q_d T c i i + c i * 2520)) (fun M3 g1 g2 g3 => ih M3 g1 g2 (fun a ha => by rw [g3 a ha, ep, eh])) M2 (by rw [e2]; exact f1) (by rw [e2, (z_sl_ne 12 (by decide)).2]; exact f2) (fun a ha => ?_)
          by_cases e : a = i
          · rw [e, e2, m_lsame, up_same, Nat.mul_comm 2520]
          · rw [e2, m_lne _ _ (by omega), up_ne _ _ e]; exact f3 a ha
  refine h_down (P := fun i => ∀ M1, M1.1 = M.1 → M1.2 12 = M.2 12 → (∀ a, a < i → M1.2 13 a = 0) → LX10_draw_2 X Q (nI i) M1) (2 ^ T.1) ?_ ?_ M rfl rfl (fun a ha => absurd ha (Nat.not_lt_zero a))
  · intro M1 f1 f2 f3
    exact BX10_draw_2 hK ⟨_, n_all (fr f1) hw, fun _ => h25 M1 f1 f2 f3, fun c => absurd (nI_lt (by omega) (by omega)) c⟩
  · intro i hi ih M1 f1 f2 f3
    refine BX10_draw_2 hK ⟨_, n_all (fr f1) hw, fun c => absurd c (nI_nlt (by omega) (by omega)), fun _ => ⟨h_inK (by omega), fun M2 e2 => ?_⟩⟩
    rw [h_clK (by omega)] at e2
    rw [nI_1]
    refine ih M2 (by rw [e2]; exact f1) (by rw [e2, (z_sl_ne 12 (by decide)).2]; exact f2) (fun a ha => ?_)
    by_cases e : a = i
    · rw [e, e2, m_lsame]
    · rw [e2, m_lne _ _ (by omega)]; exact f3 a (by omega)
theorem n_likely (hM : InvM M T P) {d n : Nat} (hd : d < 2 ^ T.1) (hn : n ≤ 4) (x3 : Int32) {X : XT} (hK : KX10_likely X) {Q : Option Value → Mem → Prop} (hq : ∀ M1, M1.1 = M.1 → Q (some (.long (if x3 = 0 then lN (2520 ^ n / Nat.gcd (2520 ^ n) (q_r T (q_n T d n) (2 ^ T.1))) else lN (q_r T (q_n T d n) (2 ^ T.1) / Nat.gcd (2520 ^ n) (q_r T (q_n T d n) (2 ^ T.1)))))) M1) : LX10_likely_27 X Q (nI d) (nI n) x3 0 M := by
  have hw := hM.2.1
  have hRM := hM.1
  have h10 := hw.1.2
  have hp2 : 2 ^ T.1 ≤ 1024 := Nat.pow_le_pow_right (n := 2) (by decide) h10
  have hpos := Nat.two_pow_pos T.1
  have frI : ∀ {M1 : Mem}, M1.1 = M.1 → InvM M1 T P := fun {M1} e => hM.fr ⟨fun k _ => by rw [e], by rw [e], by rw [e]⟩
  have hpn := q_pow hn
  have hsum := q_n_sum (T := T) (d0 := d) h10 n
  have hrle := q_r_le T (q_n T d n) (2 ^ T.1)
  have h63 : (2 : Nat) ^ 46 < 2 ^ 63 := by decide
  have h156 : ∀ M2, M2.1 = M.1 → ∀ b a, a < 2 ^ 46 → b < 2 ^ 46 → Nat.gcd a b = Nat.gcd (2520 ^ n) (q_r T (q_n T d n) (2 ^ T.1)) → LX10_likely_156 X Q x3 (lN (2520 ^ n)) (lN (q_r T (q_n T d n) (2 ^ T.1))) (lN a) (lN b) M2 := by
    intro M2 f1 b
    induction b using Nat.strongRecOn with
    | _ b ih =>
      intro a ha hb hg
      have hg0 : 0 < Nat.gcd (2520 ^ n) (q_r T (q_n T d n) (2 ^ T.1)) := Nat.gcd_pos_of_pos_left _ (Nat.pow_pos (by decide))
      refine BX10_likely_156 hK ?_
      rw [lg_cmp_eq, lN_eq0 (by omega)]
      refine ⟨fun c => ?_, fun c => ⟨fun e => c e, ?_⟩⟩
      · subst c
        rw [Nat.gcd_zero_right] at hg
        have ha0 : 0 < a := by omega
        refine ⟨fun c => ⟨fun e => ?_, ?_⟩, fun c => ⟨fun e => ?_, ?_⟩⟩
        · have := (lN_eq0 (by omega)).mp e; omega
        · have := hq M2 f1
          rw [if_pos c, ← hg] at this
          rw [pk_lDiv (by omega) ha0 (by omega)]; exact this
        · have := (lN_eq0 (by omega)).mp e; omega
        · have := hq M2 f1
          rw [if_neg c, ← hg] at this
          rw [pk_lDiv (by omega) ha0 (by omega)]; exact this
      · have hr := Nat.mod_lt a (show 0 < b by omega)
        rw [pk_lRem (by omega) (by omega) (by omega)]
        refine ih (a % b) hr b hb (by omega) ?_
        rw [← hg, Nat.gcd_comm a b, Nat.gcd_rec b a, Nat.gcd_comm]
  have h96 : ∀ M2, M2.1 = M.1 → (∀ a, a < 2 ^ T.1 → M2.2 12 a = lN (q_n T d n a)) → LX10_likely_96 X Q x3 (lN (2520 ^ n)) 0 0 M2 := by
    intro M2 f1 f2
    refine h_down (P := fun i => LX10_likely_96 X Q x3 (lN (2520 ^ n)) (lN (q_r T (q_n T d n) i)) (nI i) M2) (2 ^ T.1) ?_ ?_
    · exact BX10_likely_96 hK ⟨_, n_all (frI f1).1 hw, fun _ => h156 M2 f1 _ _ (by omega) hpn (Nat.gcd_comm _ _), fun c => absurd (nI_lt (by omega) (by omega)) c⟩
    · intro i hi ih
      have hbi : q_n T d n i < 2 ^ 63 := by have := s_sm_part (f := q_n T d n) hi; omega
      have e : q_r T (q_n T d n) (i + 1) = q_r T (q_n T d n) i + (if s_rest T i then q_n T d n i else 0) := rfl
      rw [e] at ih
      refine BX10_likely_96 hK ⟨_, n_all (frI f1).1 hw, fun c => absurd c (nI_nlt (by omega) (by omega)), fun _ => ⟨h_inK (by omega), ?_⟩⟩
      rw [h_clK (by omega), f2 i hi, lg_cmp_le, lN_le0 hbi, lN_add, nI_1, Int64.add_zero]
      refine ⟨fun c => ?_, fun c => ⟨_, n_isRest (frI f1).1 hw (by omega), fun c2 => ?_, fun c2 => ⟨h_inK (by omega), ?_⟩⟩⟩
      · have : (if s_rest T i then q_n T d n i else 0) = 0 := by rw [c]; simp
        rw [this, Nat.add_zero] at ih; exact ih
      · rw [s_bit_0] at c2
        rw [if_neg (by rw [c2]; decide), Nat.add_zero] at ih; exact ih
      · rw [s_bit_0] at c2
        rw [if_pos (by simpa using c2)] at ih; exact ih
  have h66 : ∀ M2, M2.1 = M.1 → (∀ a, a < 2 ^ T.1 → M2.2 12 a = lN (q_n T d 0 a)) → LX10_likely_66 X Q (nI n) x3 (lN (2520 ^ 0)) (nI 0) M2 := by
    intro M2 f1 f2
    refine h_down (P := fun k => ∀ M2, M2.1 = M.1 → (∀ a, a < 2 ^ T.1 → M2.2 12 a = lN (q_n T d k a)) → LX10_likely_66 X Q (nI n) x3 (lN (2520 ^ k)) (nI k) M2) n ?_ ?_ M2 f1 f2
    · intro M2 f1 f2
      exact BX10_likely_66 hK ⟨fun _ => h96 M2 f1 f2, fun c => absurd (h_le (by omega) (Nat.le_refl _)) c⟩
    · intro k hk ih M2 f1 f2
      have hs := q_n_sum (T := T) (d0 := d) h10 k
      have hpk := q_pow (k := k) (by omega)
      refine BX10_likely_66 hK ⟨fun c => absurd c (h_nle (by omega) hk), fun _ => ⟨_, n_draw (frI f1) (fun a ha => by have := s_sm_part (f := q_n T d k) ha; omega) f2, fun M3 hq => ?_⟩⟩
      rw [nI_1, show (2520 : Int64) = lN 2520 from rfl, lN_mul, ← Nat.pow_succ]
      exact ih M3 (by rw [hq.1]; exact f1) hq.2
  refine h_down (P := fun i => ∀ M2, M2.1 = M.1 → (∀ a, a < i → M2.2 12 a = lN (q_n T d 0 a)) → LX10_likely_27 X Q (nI d) (nI n) x3 (nI i) M2) (2 ^ T.1) ?_ ?_ M rfl (fun a ha => absurd ha (Nat.not_lt_zero a))
  · intro M2 f1 f2
    exact BX10_likely_27 hK ⟨_, n_all (frI f1).1 hw, fun _ => h66 M2 f1 f2, fun c => absurd (nI_lt (by omega) (by omega)) c⟩
  · intro i hi ih M2 f1 f2
    have put : ∀ M3, M3 = z_sl M2 12 i (lN (q_n T d 0 i)) → LX10_likely_27 X Q (nI d) (nI n) x3 (nI (i + 1)) M3 := fun M3 e3 => ih M3 (by rw [e3]; exact f1) (fun a ha => by
      by_cases e : a = i
      · rw [e, e3, m_lsame]
      · rw [e3, m_lne _ _ (by omega)]; exact f2 a (by omega))
    refine BX10_likely_27 hK ⟨_, n_all (frI f1).1 hw, fun c => absurd c (nI_nlt (by omega) (by omega)), fun _ => ?_⟩
    rw [nI_eq (by omega) (by omega), h_clK (by omega), nI_1]
    refine ⟨fun c => ⟨h_inK (by omega), fun M3 e3 => put M3 ?_⟩, fun c => ⟨h_inK (by omega), fun M3 e3 => put M3 ?_⟩⟩
    · rw [e3, show q_n T d 0 i = 0 from if_neg c]; rfl
    · rw [e3, show q_n T d 0 i = 1 from if_pos c]; rfl
theorem tt_likely (hX : InvX MX T P v) (hM : InvM MM T P) (x1 x2 x3 : Int32) : TopL (CX9_likely E [.ref (E.2.1 9), .int x1, .int x2, .int x3] MX) (CX10_likely F [.ref (F.2.1 0), .int x1, .int x2, .int x3] MM) (v + 10) := by
  have hR := hX.1
  have hRM := hM.1
  have hw := hX.2.1
  have hp2 := hR.p2
  rcases h_ix x1 (show 2 ^ T.1 < 2 ^ 31 by omega) with h1 | ⟨d, hd, rfl⟩
  · exact ⟨-2, T, P, EX9_likely ⟨_, c_isDress_no hR h1, fun _ => zpL ⟨rfl, hX.up (by omega)⟩, fun c => absurd rfl c⟩, EX10_likely (fun X hE hK => ⟨_, n_isDress_no hRM hw h1, fun _ => zpL ⟨rfl, hM⟩, fun c => absurd rfl c⟩)⟩
  · cases h2 : s_in x2 0 4 with
    | false =>
      refine ⟨-2, T, P, EX9_likely ⟨_, c_isDress_yes hR hd, fun c => absurd c (by decide), fun _ => ⟨_, c_within, fun c => ?_, fun _ => zpL ⟨rfl, hX.up (by omega)⟩⟩⟩, EX10_likely (fun X hE hK => ⟨_, n_isDress_yes hRM hw hd, fun c => absurd c (by decide), fun _ => ⟨_, c_in (a := 0) (b := 4), fun c => ?_, fun _ => zpL ⟨rfl, hM⟩⟩⟩)⟩
      · rw [h2] at c; exact absurd rfl c
      · rw [h2] at c; exact absurd rfl c
    | true =>
      obtain ⟨n, n1, n2, rfl⟩ := h_rng (B := 4) (A := 0) (by decide) rfl (by decide) h2
      refine ⟨_, T, P, EX9_likely ⟨_, c_isDress_yes hR hd, fun c => absurd c (by decide), fun _ => ⟨_, c_within, fun _ => ⟨_, c_fraction hX hd n2 x3, fun r M3 hq => zpL ⟨hq.1, hq.2.up (by omega)⟩⟩, fun c => ?_⟩⟩, EX10_likely (fun X hE hK => ⟨_, n_isDress_yes hRM hw hd, fun c => absurd c (by decide), fun _ => ⟨_, c_in (a := 0) (b := 4), fun _ => n_likely hM hd n2 x3 hK (fun M1 e1 => zpL ⟨rfl, hM.fr ⟨fun k _ => by rw [e1], by rw [e1], by rw [e1]⟩⟩), fun c => ?_⟩⟩)⟩
      · rw [h2] at c; exact absurd c (by decide)
      · rw [h2] at c; exact absurd c (by decide)
end Likely2
