def dX (k : Nat) : Int32 := if k = 0 then -1 else nI (k - 1)
def dM (k : Nat) : Int32 := if k = 0 then -9 else nI (k - 1)
theorem dX_neg {k : Nat} (hk : k < 2 ^ 31) : 0 ≤ dX k ↔ k ≠ 0 := by
  unfold dX
  by_cases h : k = 0
  · rw [if_pos h]; exact ⟨fun c => absurd c (by decide), fun c => absurd h c⟩
  · rw [if_neg h]; exact ⟨fun _ => h, fun _ => nI_pos' (by omega)⟩
theorem dM_neg {k : Nat} (hk : k < 2 ^ 31) : dM k = -9 ↔ k = 0 := by
  unfold dM
  by_cases h : k = 0
  · rw [if_pos h]; exact ⟨fun _ => h, fun _ => rfl⟩
  · rw [if_neg h]
    refine ⟨fun c => ?_, fun c => absurd c h⟩
    have : (-9 : Int32) < 0 := by decide
    rw [← c] at this
    exact absurd this (nI_pos (by omega))
theorem dX_succ {k : Nat} (h : k ≠ 0) : dX k + 1 = dX (k + 1) := by
  unfold dX
  rw [if_neg h, if_neg (Nat.succ_ne_zero k), nI_1]
  apply h_eqN; omega
theorem dM_succ {k : Nat} (h : k ≠ 0) : dM k + 1 = dM (k + 1) := by
  unfold dM
  rw [if_neg h, if_neg (Nat.succ_ne_zero k), nI_1]
  apply h_eqN; omega
theorem s_sm_ind (f : Nat → Bool) : ∀ n, s_sm (fun k => if f k then 1 else 0) n = s_ct f n
  | 0 => rfl
  | n + 1 => by
    have ih := s_sm_ind f n
    show s_sm (fun k => if f k then 1 else 0) n + (if f n then 1 else 0) = if f n then s_ct f n + 1 else s_ct f n
    rw [ih]
    cases f n <;> rfl
theorem s_sm_cong {f g : Nat → Nat} : ∀ {n : Nat}, (∀ k, k < n → f k = g k) → s_sm f n = s_sm g n
  | 0, _ => rfl
  | n + 1, h => by
    unfold s_sm
    rw [s_sm_cong (n := n) (fun k hk => h k (by omega)), h n (by omega)]
theorem s_ct_one {f : Nat → Bool} : ∀ {n : Nat}, (∀ i j, i < n → j < n → f i = true → f j = true → i = j) → (∃ k, k < n ∧ f k = true) → s_ct f n = 1
  | 0, _, h => absurd h.choose_spec.1 (Nat.not_lt_zero _)
  | n + 1, hu, h => by
    cases hf : f n with
    | true =>
      rw [s_ct_succ_yes hf]
      have : s_ct f n = 0 := s_ct_zero.mpr (fun k hk => by
        cases hk2 : f k with
        | false => rfl
        | true => have := hu k n (by omega) (by omega) hk2 hf; omega)
      omega
    | false =>
      rw [s_ct_succ_no hf]
      obtain ⟨k, k1, k2⟩ := h
      refine s_ct_one (n := n) (fun i j hi hj => hu i j (by omega) (by omega)) ⟨k, ?_, k2⟩
      by_cases e : k = n
      · rw [e, hf] at k2; exact absurd k2 (by decide)
      · omega
theorem b_count {T : TW} {d : Nat} {B : BS} (hB : b_I T d B) (r : Nat → Bool) : s_ct (fun k => r (B.1 k)) B.2.1 = s_ct (fun c => decide (B.2.2 c ≠ 0) && r c) (2 ^ T.1) := by
  have hpos := Nat.two_pow_pos T.1
  have h := s_sm_vals (fun k => if k < B.2.1 then B.1 k else 0) (fun c => if r c then 1 else 0) (2 ^ T.1) (fun k => by
    by_cases hk : k < B.2.1
    · simp only [if_pos hk]; exact (hB.2.1 k hk).1
    · simp only [if_neg hk]; exact hpos) B.2.1
  have e1 : s_sm (fun k => (fun c => if r c then 1 else 0) ((fun k => if k < B.2.1 then B.1 k else 0) k)) B.2.1 = s_ct (fun k => r (B.1 k)) B.2.1 := by
    rw [← s_sm_ind]
    exact s_sm_cong (fun k hk => by simp only [if_pos hk])
  rw [← e1, ← h, ← s_sm_ind]
  refine s_sm_cong (fun c hc => ?_)
  by_cases hD : B.2.2 c = 0
  · have z : s_ct (fun k => decide ((if k < B.2.1 then B.1 k else 0) = c)) B.2.1 = 0 := s_ct_zero.mpr (fun k hk => by
      simp only [if_pos hk, decide_eq_false_iff_not]
      intro e
      exact (hB.2.1 k hk).2 (by rw [e]; exact hD))
    rw [z]; simp [hD]
  · obtain ⟨k, k1, k2⟩ := hB.2.2.1 c hD
    have o : s_ct (fun k => decide ((if k < B.2.1 then B.1 k else 0) = c)) B.2.1 = 1 := s_ct_one (fun i j hi hj e1 e2 => by
      simp only [if_pos hi, decide_eq_true_eq] at e1
      simp only [if_pos hj, decide_eq_true_eq] at e2
      exact hB.2.2.2.1 i j hi hj (e1.trans e2.symm)) ⟨k, k1, by simp only [if_pos k1, decide_eq_true_eq]; exact k2⟩
    rw [o]; simp [hD]
section MayC
variable {E F : ET} {M MX MM : Mem} {T : TW} {P : PW} {v : Nat}
def SrX (M : Mem) (T : TW) (B : BS) : Prop := (∀ d, d < 2 ^ T.1 → M.1 29 d = dX (B.2.2 d)) ∧ ∀ k, k < B.2.1 → M.1 30 k = nI (B.1 k)
theorem c_search (hR : RepX M T) (hF : FreshR M T) {d : Nat} (hd : d < 2 ^ T.1) : CX0_search E [.ref (E.2.1 0), .int (nI d), .ref (E.2.1 24)] M (z_pI (fun r M1 => r = nI (b_all T d).2.1 ∧ (∀ k, k ≠ 29 → k ≠ 30 → M1.1 k = M.1 k) ∧ SrX M1 T (b_all T d))) := by
  have h10 := hR.2.1.2
  have h31 := hR.lt31
  have hp2 := hR.p2
  refine EX0_search (fun X hE hK => ⟨_, c_dresses hR, ?_⟩)
  generalize hQ : (z_pI (fun r M1 => r = nI (b_all T d).2.1 ∧ (∀ k, k ≠ 29 → k ≠ 30 → M1.1 k = M.1 k) ∧ SrX M1 T (b_all T d))) = Q
  have h51 : ∀ M1, (∀ k, k ≠ 29 → k ≠ 30 → M1.1 k = M.1 k) → SrX M1 T (b_out T d 0) → LX0_search_51 X Q (nI (2 ^ T.1)) (nI (b_out T d 0).2.1) (nI 0) M1 := by
    intro M1 f0 s0
    refine h_down (P := fun i => ∀ M1, i ≤ 2 ^ T.1 → (∀ k, k ≠ 29 → k ≠ 30 → M1.1 k = M.1 k) → SrX M1 T (b_out T d i) → LX0_search_51 X Q (nI (2 ^ T.1)) (nI (b_out T d i).2.1) (nI i) M1) (2 ^ T.1) ?_ ?_ M1 (Nat.zero_le _) f0 s0
    · intro M1 _ f1 s1
      have hle := (b_all_I hd).le
      refine BX0_search_51 hK ⟨fun _ => ?_, fun c => absurd (h_le (by omega) hle) c⟩
      rw [← hQ]; exact zpI ⟨rfl, f1, s1⟩
    · intro i hi ih M1 _ f1 s1
      obtain ⟨hI, -⟩ := b_out_ok hd i
      have hle := hI.le
      by_cases hm : (b_out T d i).2.1 ≤ i
      · refine BX0_search_51 hK ⟨fun _ => ?_, fun c => absurd (h_le (by omega) hm) c⟩
        rw [b_all_end hm (by omega)] at s1 ⊢
        rw [← hQ]; exact zpI ⟨rfl, f1, s1⟩
      · have hm : i < (b_out T d i).2.1 := by omega
        have hq := hI.2.1 i hm
        refine BX0_search_51 hK ⟨fun c => absurd c (h_nle (by omega) hm), fun _ => ⟨fun c => absurd c (h_nle (by omega) hi), fun _ => ⟨h_inK (by omega), ?_⟩⟩⟩
        rw [h_clK (by omega), s1.2 i hm]
        have eo : b_out T d (i + 1) = b_in T ((b_out T d i).1 i) (b_out T d i) T.1 := if_pos hm
        generalize hx : (b_out T d i).1 i = x at hq eo ⊢
        generalize hB : b_out T d i = B at hI eo s1 hq ⊢
        refine h_down (P := fun p => ∀ M2, p ≤ T.1 → (∀ k, k ≠ 29 → k ≠ 30 → M2.1 k = M.1 k) → SrX M2 T (b_in T x B p) → LX0_search_76 X Q (nI (2 ^ T.1)) (nI (b_in T x B p).2.1) (nI i) (nI x) (nI p) M2) T.1 ?_ ?_ M1 (Nat.zero_le _) f1 s1
        · intro M2 _ f2 s2
          have hR2 := hR.frame (M' := M2) (by rw [f2 7 (by decide) (by decide)]) (fun k _ _ => f2 k (by omega) (by omega))
          refine BX0_search_76 hK ⟨_, c_size hR2, fun _ => ?_, fun c => absurd (h_le h31 (Nat.le_refl _)) c⟩
          rw [nI_1, ← eo]
          rw [← eo] at s2
          exact ih M2 hi f2 s2
        · intro p hp ih2 M2 _ f2 s2
          have hR2 := hR.frame (M' := M2) (by rw [f2 7 (by decide) (by decide)]) (fun k _ _ => f2 k (by omega) (by omega))
          obtain ⟨j1, j2, -⟩ := b_in_ok hI hq.1 hq.2 p (by omega)
          have hz : x ^^^ 2 ^ p < 2 ^ T.1 := Nat.xor_lt_two_pow hq.1 (Nat.pow_lt_pow_right (by decide) hp)
          have eN : b_in T x B (p + 1) = b_st T x p (b_in T x B p) := rfl
          have hle2 := j1.le
          refine BX0_search_76 hK ⟨_, c_size hR2, fun c => absurd c (h_nle h31 hp), fun _ => ⟨h_inK (by omega), ?_⟩⟩
          rw [h_clK (show x < 1024 by omega), f2 24 (by decide) (by decide), hF x hq.1, h_shl (by omega), h_and, h_and2]
          cases hb : (s_rl T x).testBit p with
          | false =>
            refine ⟨fun _ => ?_, fun c => absurd rfl c⟩
            rw [nI_1]
            rw [eN, b_st_bit hb] at ih2
            exact ih2 M2 (by omega) f2 s2
          | true =>
            rw [if_pos rfl, h_xor, h_clK (show x ^^^ 2 ^ p < 1024 by omega), s2.1 _ hz, s2.1 _ hq.1]
            have D1 := j1.2.2.2.2.1 (x ^^^ 2 ^ p)
            have hvx := j2.ne hq.2
            refine ⟨fun c => absurd c (nI_ne0 (Nat.two_pow_pos p) (by have := Nat.pow_lt_pow_right (a := 2) (by decide) hp; omega)), fun _ => ⟨h_inK (by omega), ?_⟩⟩
            rw [dX_neg (by omega), nI_1]
            refine ⟨fun c => ?_, fun c => ⟨h_inK (by omega), h_inK (by omega), fun M3 e3 => ⟨h_inK ?_, fun M4 e4 => ?_⟩⟩⟩
            · rw [eN, b_st_old c] at ih2
              exact ih2 M2 (by omega) f2 s2
            · have c : (b_in T x B p).2.2 (x ^^^ 2 ^ p) = 0 := Classical.byContradiction c
              have hn := (b_st_ok j1 hp hq.1 hvx).1.le
              rw [b_st_yes hb c] at hn
              have hn : (b_in T x B p).2.1 + 1 ≤ 2 ^ T.1 := hn
              omega
            · have c : (b_in T x B p).2.2 (x ^^^ 2 ^ p) = 0 := Classical.byContradiction c
              have hn := (b_st_ok j1 hp hq.1 hvx).1.le
              rw [eN, b_st_yes hb c] at ih2
              rw [b_st_yes hb c] at hn
              have hn : (b_in T x B p).2.1 + 1 ≤ 2 ^ T.1 := hn
              rw [h_clK (show (b_in T x B p).2.1 < 1024 by omega)] at e4
              rw [dX_succ hvx] at e3
              rw [nI_1]
              refine ih2 M4 (by omega) (fun k k1 k2 => by rw [e4, m_cell _ _ k2, e3, m_cell _ _ k1]; exact f2 k k1 k2) ⟨fun a ha => ?_, fun k hk => ?_⟩
              · show M4.1 29 a = dX (va_up _ _ _ a)
                rw [e4, m_ne _ _ (by omega), e3]
                by_cases e : a = x ^^^ 2 ^ p
                · rw [e, m_same, up_same]
                · rw [m_ne _ _ (by omega), up_ne _ _ e]; exact s2.1 a ha
              · have hk : k < (b_in T x B p).2.1 + 1 := hk
                show M4.1 30 k = nI (va_up _ _ _ k)
                by_cases e : k = (b_in T x B p).2.1
                · rw [e, up_same, e4, m_same]
                · rw [up_ne _ _ e, e4, m_ne _ _ (by omega), e3, m_ne _ _ (by omega)]; exact s2.2 k (by omega)
  refine h_down (P := fun i => ∀ M1, (∀ k, k ≠ 29 → k ≠ 30 → M1.1 k = M.1 k) → (∀ a, a < i → M1.1 29 a = -1) → LX0_search_11 X Q (nI d) (nI (2 ^ T.1)) (nI i) M1) (2 ^ T.1) ?_ ?_ M (fun _ _ _ => rfl) (fun a ha => absurd ha (Nat.not_lt_zero a))
  · intro M1 f1 f2
    refine BX0_search_11 hK ⟨fun _ => ⟨h_inK (by omega), fun M2 e2 => ⟨h_inK (a := 0) (by decide), fun M3 e3 => ?_⟩⟩, fun c => absurd (h_le (by omega) (Nat.le_refl _)) c⟩
    rw [h_clK (by omega)] at e2
    have e3 : M3 = z_st M2 30 0 (nI d) := e3
    refine h51 M3 (fun k k1 k2 => by rw [e3, m_cell _ _ k2, e2, m_cell _ _ k1]; exact f1 k k1 k2) ⟨fun a ha => ?_, fun k hk => ?_⟩
    · show M3.1 29 a = dX (if a = d then 1 else 0)
      rw [e3, m_ne _ _ (by omega), e2]
      by_cases e : a = d
      · rw [e, m_same, if_pos rfl]; rfl
      · rw [m_ne _ _ (by omega), if_neg e]; exact f2 a ha
    · have hk : k < 1 := hk
      rw [show k = 0 by omega, e3, m_same]; rfl
  · intro i hi ih M1 f1 f2
    refine BX0_search_11 hK ⟨fun c => absurd c (h_nle (by omega) hi), fun _ => ⟨h_inK (by omega), fun M2 e2 => ?_⟩⟩
    rw [h_clK (by omega)] at e2
    rw [nI_1]
    refine ih M2 (fun k k1 k2 => by rw [e2, m_cell _ _ k1]; exact f1 k k1 k2) (fun a ha => ?_)
    by_cases e : a = i
    · rw [e, e2, m_same]
    · rw [e2, m_ne _ _ (by omega)]; exact f2 a (by omega)
/-! the reference -/
def CalmOK (M : Mem) (T : TW) : Prop := ∀ d, d < 2 ^ T.1 → M.1 11 d = nI (s_cm T d)
def SrM (M : Mem) (T : TW) (B : BS) : Prop := (∀ d, d < 2 ^ T.1 → M.1 9 d = dM (B.2.2 d)) ∧ (∀ k, k < B.2.1 → M.1 10 k = nI (B.1 k)) ∧ M.1 0 15 = nI B.2.1
theorem n_layCalms (hM : InvM M T P) : CX10_layCalms E [.ref (E.2.1 0)] M (z_pV (fun M1 => FrM M M1 ∧ CalmOK M1 T)) := by
  have h10 := hM.2.1.1.2
  have hp2 : 2 ^ T.1 ≤ 1024 := Nat.pow_le_pow_right (n := 2) (by decide) h10
  have hpos := Nat.two_pow_pos T.1
  refine EX10_layCalms (fun X hE hK => ?_)
  refine h_down (P := fun i => ∀ M1, FrM M M1 → (∀ d, d < i → M1.1 11 d = nI (s_cm T d)) → LX10_layCalms_2 X (z_pV (fun M1 => FrM M M1 ∧ CalmOK M1 T)) (nI i) M1) (2 ^ T.1) ?_ ?_ M (FrM.rfl' M) (fun d hd => absurd hd (Nat.not_lt_zero d))
  · intro M1 f1 f2
    exact BX10_layCalms_2 hK ⟨_, n_all (hM.fr f1).1 hM.2.1, fun _ => zpV ⟨f1, f2⟩, fun c => absurd (nI_lt (by omega) (by omega)) c⟩
  · intro i hi ih M1 f1 f2
    refine BX10_layCalms_2 hK ⟨_, n_all (hM.fr f1).1 hM.2.1, fun c => absurd c (nI_nlt (by omega) (by omega)), fun _ => ⟨_, n_calmOf (hM.fr f1).1 hM.2.1 (by omega), h_inK (by omega), fun M2 e2 => ?_⟩⟩
    rw [h_clK (by omega)] at e2
    rw [nI_1]
    refine ih M2 (f1.trans (by rw [e2]; exact FrM.st (by decide) (by decide))) (fun d hd => ?_)
    by_cases e : d = i
    · rw [e, e2, m_same]
    · rw [e2, m_ne _ _ (by omega)]; exact f2 d (by omega)
theorem n_lone {p x : Nat} (hp : p < 31) : CX10_loneOf E [.ref (E.2.1 0), .int (nI p), .int (nI x)] M (z_is (some (.int (nI (x ^^^ 2 ^ p)))) M) := EX10_loneOf (zi (by rw [h_shl hp, h_xor]))
theorem h_cmbit (hw : s_WF T) {x p : Nat} (hp : p < T.1) : (nI (s_cm T x) >>> (nI p &&& 31)) &&& 1 = s_bit (!(s_rl T x).testBit p) := by
  have h10 := hw.1.2
  have hcm := s_cm_lt T x
  have hp2 : 2 ^ T.1 ≤ 1024 := Nat.pow_le_pow_right (n := 2) (by decide) h10
  rw [h_bit (by omega) (by omega), s_cm_bit T h10, s_rl_bit]
  simp [hp]
theorem n_layFar (hM : InvM M T P) (hC : CalmOK M T) {d : Nat} (hd : d < 2 ^ T.1) : CX10_layFar E [.ref (E.2.1 0), .int (nI d)] M (z_pV (fun M1 => FrM M M1 ∧ CalmOK M1 T ∧ SrM M1 T (b_all T d))) := by
  have hw := hM.2.1
  have h10 := hw.1.2
  have hp2 : 2 ^ T.1 ≤ 1024 := Nat.pow_le_pow_right (n := 2) (by decide) h10
  have hpos := Nat.two_pow_pos T.1
  refine EX10_layFar (fun X hE hK => ?_)
  generalize hQ : (z_pV (fun M1 => FrM M M1 ∧ CalmOK M1 T ∧ SrM M1 T (b_all T d))) = Q
  have h45 : ∀ M1, FrM M M1 → CalmOK M1 T → SrM M1 T (b_out T d 0) → LX10_layFar_45 X Q (nI 0) M1 := by
    intro M1 f0 c0 s0
    refine h_down (P := fun i => ∀ M1, i ≤ 2 ^ T.1 → FrM M M1 → CalmOK M1 T → SrM M1 T (b_out T d i) → LX10_layFar_45 X Q (nI i) M1) (2 ^ T.1) ?_ ?_ M1 (Nat.zero_le _) f0 c0 s0
    · intro M1 _ f1 c1 s1
      have hle := (b_all_I hd).le
      refine BX10_layFar_45 hK ⟨fun _ => ?_, fun c => absurd (by rw [s1.2.2]; exact h_le (by omega) hle) c⟩
      rw [← hQ]; exact zpV ⟨f1, c1, s1⟩
    · intro i hi ih M1 _ f1 c1 s1
      obtain ⟨hI, -⟩ := b_out_ok hd i
      have hle := hI.le
      by_cases hm : (b_out T d i).2.1 ≤ i
      · refine BX10_layFar_45 hK ⟨fun _ => ?_, fun c => absurd (by rw [s1.2.2]; exact h_le (by omega) hm) c⟩
        rw [b_all_end hm (by omega)] at s1
        rw [← hQ]; exact zpV ⟨f1, c1, s1⟩
      · have hm : i < (b_out T d i).2.1 := by omega
        have hq := hI.2.1 i hm
        refine BX10_layFar_45 hK ⟨fun c => absurd c (by rw [s1.2.2]; exact h_nle (by omega) hm), fun _ => ⟨h_inK (by omega), ?_⟩⟩
        rw [h_clK (by omega), s1.2.1 i hm, h_clK (show (b_out T d i).1 i < 1024 by omega), c1 _ hq.1]
        refine ⟨h_inK (by omega), ?_⟩
        have eo : b_out T d (i + 1) = b_in T ((b_out T d i).1 i) (b_out T d i) T.1 := if_pos hm
        generalize hx : (b_out T d i).1 i = x at hq eo ⊢
        generalize hB : b_out T d i = B at hI eo s1 hq hm hx hle
        refine h_down (P := fun p => ∀ M2, p ≤ T.1 → FrM M M2 → CalmOK M2 T → SrM M2 T (b_in T x B p) → LX10_layFar_68 X Q (nI i) (nI (s_cm T x)) (nI p) M2) T.1 ?_ ?_ M1 (Nat.zero_le _) f1 c1 s1
        · intro M2 _ f2 c2 s2
          refine BX10_layFar_68 hK ⟨fun _ => ?_, fun c => absurd (by rw [(hM.fr f2).1.1]; exact h_le (by omega) (Nat.le_refl _)) c⟩
          rw [nI_1]
          rw [← eo] at s2
          exact ih M2 hi f2 c2 s2
        · intro p hp ih2 M2 _ f2 c2 s2
          obtain ⟨j1, j2, -⟩ := b_in_ok hI hq.1 hq.2 p (by omega)
          have hz : x ^^^ 2 ^ p < 2 ^ T.1 := Nat.xor_lt_two_pow hq.1 (Nat.pow_lt_pow_right (by decide) hp)
          have eN : b_in T x B (p + 1) = b_st T x p (b_in T x B p) := rfl
          have hle2 := j1.le
          have hvx := j2.ne hq.2
          have eqi : M2.1 10 i = nI x := by rw [s2.2.1 i (Nat.lt_of_lt_of_le hm j2.1), j2.2.1 i hm, hx]
          refine BX10_layFar_68 hK ⟨fun c => absurd c (by rw [(hM.fr f2).1.1]; exact h_nle (by omega) hp), fun _ => ⟨h_inK (by omega), ?_⟩⟩
          rw [h_clK (show i < 1024 by omega), eqi]
          refine ⟨_, n_lone (by omega), ?_⟩
          rw [h_cmbit hw hp, s_bit_0, nI_1]
          cases hb : (s_rl T x).testBit p with
          | false =>
            rw [eN, b_st_bit hb] at ih2
            exact ⟨fun _ => ih2 M2 (by omega) f2 c2 s2, fun c => absurd c (by decide)⟩
          | true =>
            have D1 := j1.2.2.2.2.1 (x ^^^ 2 ^ p)
            refine ⟨fun c => absurd rfl c, fun _ => ⟨h_inK (by omega), ?_⟩⟩
            rw [h_clK (show x ^^^ 2 ^ p < 1024 by omega), h_clK (show x < 1024 by omega), s2.1 _ hz, s2.1 _ hq.1, dM_neg (by omega)]
            refine ⟨fun c => ?_, fun c => ⟨h_inK (by omega), h_inK (by omega), h_inK (by omega), fun M3 e3 => ?_⟩⟩
            · rw [eN, b_st_old c] at ih2
              exact ih2 M2 (by omega) f2 c2 s2
            · have hn := (b_st_ok j1 hp hq.1 hvx).1.le
              rw [eN, b_st_yes hb c] at ih2
              rw [b_st_yes hb c] at hn
              have hn : (b_in T x B p).2.1 + 1 ≤ 2 ^ T.1 := hn
              rw [dM_succ hvx] at e3
              have m3 : M3.1 0 15 = nI (b_in T x B p).2.1 := by rw [e3, m_ne _ _ (by omega)]; exact s2.2.2
              rw [m3, h_clK (show (b_in T x B p).2.1 < 1024 by omega)]
              refine ⟨h_inK (by omega), fun M4 e4 M5 e5 => ?_⟩
              have m4 : M4.1 0 15 = nI (b_in T x B p).2.1 := by rw [e4, m_ne _ _ (by omega)]; exact m3
              rw [m4, nI_1] at e5
              refine ih2 M5 (by omega) ?_ (fun a ha => ?_) ⟨fun a ha => ?_, fun k hk => ?_, ?_⟩
              · refine f2.trans (FrM.trans (M1 := M3) ?_ (FrM.trans (M1 := M4) ?_ ?_))
                · rw [e3]; exact FrM.st (by decide) (by decide)
                · rw [e4]; exact FrM.st (by decide) (by decide)
                · rw [e5]; exact FrM.st0 (by decide) (by decide)
              · rw [e5, m_ne _ _ (by omega), e4, m_ne _ _ (by omega), e3, m_ne _ _ (by omega)]; exact c2 a ha
              · show M5.1 9 a = dM (va_up _ _ _ a)
                rw [e5, m_ne _ _ (by omega), e4, m_ne _ _ (by omega), e3]
                by_cases e : a = x ^^^ 2 ^ p
                · rw [e, m_same, up_same]
                · rw [m_ne _ _ (by omega), up_ne _ _ e]; exact s2.1 a ha
              · have hk : k < (b_in T x B p).2.1 + 1 := hk
                show M5.1 10 k = nI (va_up _ _ _ k)
                rw [e5, m_ne _ _ (by omega)]
                by_cases e : k = (b_in T x B p).2.1
                · rw [e, up_same, e4, m_same]
                · rw [up_ne _ _ e, e4, m_ne _ _ (by omega), e3, m_ne _ _ (by omega)]; exact s2.2.1 k (by omega)
              · show M5.1 0 15 = nI ((b_in T x B p).2.1 + 1)
                rw [e5, m_same]
  refine h_down (P := fun i => ∀ M1, FrM M M1 → CalmOK M1 T → (∀ a, a < i → M1.1 9 a = -9) → LX10_layFar_2 X Q (nI d) (nI i) M1) (2 ^ T.1) ?_ ?_ M (FrM.rfl' M) hC (fun a ha => absurd ha (Nat.not_lt_zero a))
  · intro M1 f1 c1 f2
    refine BX10_layFar_2 hK ⟨_, n_all (hM.fr f1).1 hw, fun _ => ⟨h_inK (by omega), fun M2 e2 => ⟨h_inK (a := 0) (by decide), fun M3 e3 M4 e4 => ?_⟩⟩, fun c => absurd (nI_lt (by omega) (by omega)) c⟩
    rw [h_clK (by omega)] at e2
    have e3 : M3 = z_st M2 10 0 (nI d) := e3
    refine h45 M4 ?_ (fun a ha => ?_) ⟨fun a ha => ?_, fun k hk => ?_, ?_⟩
    · refine f1.trans (FrM.trans (M1 := M2) ?_ (FrM.trans (M1 := M3) ?_ ?_))
      · rw [e2]; exact FrM.st (by decide) (by decide)
      · rw [e3]; exact FrM.st (by decide) (by decide)
      · rw [e4]; exact FrM.st0 (by decide) (by decide)
    · rw [e4, m_ne _ _ (by omega), e3, m_ne _ _ (by omega), e2, m_ne _ _ (by omega)]; exact c1 a ha
    · show M4.1 9 a = dM (if a = d then 1 else 0)
      rw [e4, m_ne _ _ (by omega), e3, m_ne _ _ (by omega), e2]
      by_cases e : a = d
      · rw [e, m_same, if_pos rfl]; rfl
      · rw [m_ne _ _ (by omega), if_neg e]; exact f2 a ha
    · have hk : k < 1 := hk
      rw [show k = 0 by omega, e4, m_ne _ _ (by omega), e3, m_same]; rfl
    · rw [e4, m_same]; rfl
  · intro i hi ih M1 f1 c1 f2
    refine BX10_layFar_2 hK ⟨_, n_all (hM.fr f1).1 hw, fun c => absurd c (nI_nlt (by omega) (by omega)), fun _ => ⟨h_inK (by omega), fun M2 e2 => ?_⟩⟩
    rw [h_clK (by omega)] at e2
    rw [nI_1]
    refine ih M2 (f1.trans (by rw [e2]; exact FrM.st (by decide) (by decide))) (fun a ha => by rw [e2, m_ne _ _ (by omega)]; exact c1 a ha) (fun a ha => ?_)
    by_cases e : a = i
    · rw [e, e2, m_same]
    · rw [e2, m_ne _ _ (by omega)]; exact f2 a (by omega)
end MayC
