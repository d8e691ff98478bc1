section TakeC
variable {E F : ET} {M MX MM : Mem} {T : TW} {P : PW} {v : Nat}
theorem s_mask_or0 (b c d : Bool) : nI (s_mask false b c d) ||| nI 1 = nI (s_mask true b c d) := by cases b <;> cases c <;> cases d <;> decide
theorem s_mask_or1 (a c d : Bool) : nI (s_mask a false c d) ||| nI 2 = nI (s_mask a true c d) := by cases a <;> cases c <;> cases d <;> decide
theorem s_mask_or2 (a b d : Bool) : nI (s_mask a b false d) ||| nI 4 = nI (s_mask a b true d) := by cases a <;> cases b <;> cases d <;> decide
theorem s_mask_or3 (a b c : Bool) : nI (s_mask a b c false) ||| nI 8 = nI (s_mask a b c true) := by cases a <;> cases b <;> cases c <;> decide
theorem h_or0 (x : Int32) : x ||| 0 = x := by
  apply h_ofBV
  rw [Int32.toBitVec_or]
  exact BitVec.or_zero
theorem n_fit {X : XT} {Q : Option Value → Mem → Prop} (hK : KX10_maybeOf X) (hM : InvM M T P) {p : Nat} (hp : p < T.1) {set kk : Int32} (hk : kk = 0 ∨ kk = 1 ∨ kk = 2 ∨ kk = 3) (h0 : s_fit T P p kk (P.1 - 1) = false → LX10_maybeOf_4 X Q (nI p) set (kk + 1) M) (h1 : s_fit T P p kk (P.1 - 1) = true → LX10_maybeOf_4 X Q (nI p) (set ||| ((1 : Int32) <<< (kk &&& 31))) (kk + 1) M) : LX10_maybeOf_15 X Q (nI p) set kk 1 0 M := by
  have h10 := hM.2.1.1.2
  have hp2 : 2 ^ T.1 ≤ 1024 := Nat.pow_le_pow_right (n := 2) (by decide) h10
  have pM := hM.2.2
  have h8 := pM.2.1
  refine h_down (P := fun i => LX10_maybeOf_15 X Q (nI p) set kk (s_bit (s_fit T P p kk i)) (nI i) M) (P.1 - 1) ?_ ?_
  · refine BX10_maybeOf_15 hK ⟨fun _ => ?_, fun c => absurd ?_ c⟩
    · rw [s_bit_0, h_or0]
      exact ⟨h0, fun c => h1 (by simpa using c)⟩
    · rw [pM.1, nI_1]; exact h_le (by omega) (by omega)
  · intro i hi ih
    have w1 := pM.2.2 i (by omega)
    have w2 := pM.2.2 (i + 1) (by omega)
    have ih' : LX10_maybeOf_15 X Q (nI p) set kk (s_bit (s_fit T P p kk i && (s_next kk (s_sum T p (P.2 i)) ((P.2 i).testBit p) == (P.2 (i + 1)).testBit p))) (nI (i + 1)) M := ih
    refine BX10_maybeOf_15 hK ⟨fun c => absurd c ?_, fun _ => ?_⟩
    · rw [pM.1, nI_1]; exact h_nle (by omega) (by omega)
    · rw [nI_1, s_bit_0, h_cl (show i < 2 ^ 31 by omega), h_cl (show i + 1 < 2 ^ 31 by omega), w1.1, w2.1, h_bit (by omega) (by omega)]
      refine ⟨fun c => ?_, fun c => ⟨h_in (by omega) (by decide), _, n_nextOf hM.1 hM.2.1 hk (by omega) (by omega), h_in (by omega) (by decide), ?_⟩⟩
      · rw [c, Bool.false_and] at ih'; exact ih'
      · have c : s_fit T P p kk i = true := by simpa using c
        rw [c, Bool.true_and] at ih'
        rw [s_bit_inj]
        refine ⟨fun c2 => ?_, fun c2 => ?_⟩
        · rw [beq_eq_false_iff_ne.mpr c2] at ih'; exact ih'
        · rw [beq_iff_eq.mpr c2] at ih'; exact ih'
theorem n_maybeOf (hM : InvM M T P) {p : Nat} (hp : p < T.1) : CX10_maybeOf E [.ref (E.2.1 0), .int (nI p)] M (z_is (some (.int (nI (s_mb T P p)))) M) := by
  rw [s_mb_eq]
  refine EX10_maybeOf (fun X hE hK => ?_)
  generalize hQ : (z_is (some (Value.int (nI (s_mask (s_fit T P p 0 (P.1 - 1)) (s_fit T P p 1 (P.1 - 1)) (s_fit T P p 2 (P.1 - 1)) (s_fit T P p 3 (P.1 - 1)))))) M) = Q
  have g4 : LX10_maybeOf_4 X Q (nI p) (nI (s_mask (s_fit T P p 0 (P.1 - 1)) (s_fit T P p 1 (P.1 - 1)) (s_fit T P p 2 (P.1 - 1)) (s_fit T P p 3 (P.1 - 1)))) 4 M := by
    refine BX10_maybeOf_4 hK ⟨fun _ => ?_, fun c => absurd (by decide : (4 : Int32) ≤ 4) c⟩
    rw [← hQ]; exact zi rfl
  have g3 : LX10_maybeOf_4 X Q (nI p) (nI (s_mask (s_fit T P p 0 (P.1 - 1)) (s_fit T P p 1 (P.1 - 1)) (s_fit T P p 2 (P.1 - 1)) false)) 3 M := by
    refine BX10_maybeOf_4 hK ⟨fun c => absurd c (by decide), fun _ => n_fit hK hM hp (Or.inr (Or.inr (Or.inr rfl))) (fun c => ?_) (fun c => ?_)⟩
    · rw [c] at g4; exact g4
    · rw [c] at g4; rw [h_shl3, s_mask_or3]; exact g4
  have g2 : LX10_maybeOf_4 X Q (nI p) (nI (s_mask (s_fit T P p 0 (P.1 - 1)) (s_fit T P p 1 (P.1 - 1)) false false)) 2 M := by
    refine BX10_maybeOf_4 hK ⟨fun c => absurd c (by decide), fun _ => n_fit hK hM hp (Or.inr (Or.inr (Or.inl rfl))) (fun c => ?_) (fun c => ?_)⟩
    · rw [c] at g3; exact g3
    · rw [c] at g3; rw [h_shl2, s_mask_or2]; exact g3
  have g1 : LX10_maybeOf_4 X Q (nI p) (nI (s_mask (s_fit T P p 0 (P.1 - 1)) false false false)) 1 M := by
    refine BX10_maybeOf_4 hK ⟨fun c => absurd c (by decide), fun _ => n_fit hK hM hp (Or.inr (Or.inl rfl)) (fun c => ?_) (fun c => ?_)⟩
    · rw [c] at g2; exact g2
    · rw [c] at g2; rw [h_shl1, s_mask_or1]; exact g2
  refine BX10_maybeOf_4 hK ⟨fun c => absurd c (by decide), fun _ => n_fit hK hM hp (Or.inl rfl) (fun c => ?_) (fun c => ?_)⟩
  · rw [c] at g1; exact g1
  · rw [c] at g1; rw [h_shl0]
    have := s_mask_or0 false false false
    rw [show nI (s_mask false false false false) = (0 : Int32) from rfl] at this
    rw [this]; exact g1
theorem tt_maybe (hX : InvX MX T P v) (hM : InvM MM T P) (x : Int32) : TopI (CX9_maybe E [.ref (E.2.1 9), .int x] MX) (CX10_maybe F [.ref (F.2.1 0), .int x] MM) (v + 10) := by
  have hR := hX.1
  rcases h_ix x hR.lt31 with h1 | ⟨p, hp, rfl⟩
  · exact ⟨-1, T, P, EX9_maybe ⟨_, c_has_no hR h1, fun c => absurd rfl c, fun _ => okX hX⟩, EX10_maybe ⟨_, n_isPerson_no hM.1 hX.2.1 h1, fun _ => okM hM, fun c => absurd rfl c⟩⟩
  · exact ⟨_, T, P, EX9_maybe ⟨_, c_has_yes hR hp, fun _ => ⟨_, c_kindsOf hX hp, okX hX⟩, fun c => absurd c (by decide)⟩, EX10_maybe ⟨_, n_isPerson_yes hM.1 hX.2.1 hp, fun c => absurd c (by decide), fun _ => ⟨_, n_maybeOf hM hp, okM hM⟩⟩⟩
def s_wy (T : TW) (P : PW) : Nat → Int64
  | 0 => 1
  | k + 1 => s_wy T P k * (nI (s_pc (s_mb T P k))).toInt64
theorem s_mb_lt (T : TW) (P : PW) (p : Nat) : s_mb T P p < 16 := s_mask_lt _ _ _ _
theorem c_expl (hX : InvX M T P v) : CX2_explanations E [.ref (E.2.1 2)] M (z_is (some (.long (s_wy T P T.1))) M) := by
  have hR := hX.1
  refine EX2_explanations (fun X hE hK => ?_)
  refine h_down (P := fun i => LX2_explanations_4 X (z_is (some (.long (s_wy T P T.1))) M) (s_wy T P i) (nI i) M) T.1 ?_ ?_
  · exact BX2_explanations_4 hK ⟨_, c_size hR, fun _ => zi rfl, fun c => absurd (h_le hR.lt31 (Nat.le_refl _)) c⟩
  · intro i hi ih
    have := s_mb_lt T P i
    refine BX2_explanations_4 hK ⟨_, c_size hR, fun c => absurd c (h_nle hR.lt31 hi), fun _ => ⟨_, c_kindsOf hX hi, _, c_bitCount (by omega), ?_⟩⟩
    rw [nI_1]; exact ih
theorem n_ways (hM : InvM M T P) : CX10_ways E [.ref (E.2.1 0)] M (z_is (some (.long (s_wy T P T.1))) M) := by
  have h10 := hM.2.1.1.2
  refine EX10_ways (fun X hE hK => ?_)
  refine h_down (P := fun i => LX10_ways_4 X (z_is (some (.long (s_wy T P T.1))) M) (s_wy T P i) (nI i) M) T.1 ?_ ?_
  · exact BX10_ways_4 hK ⟨fun _ => zi rfl, fun c => absurd (by rw [hM.1.1]; exact h_le (by omega) (Nat.le_refl _)) c⟩
  · intro i hi ih
    have := s_mb_lt T P i
    refine BX10_ways_4 hK ⟨fun c => absurd c (by rw [hM.1.1]; exact h_nle (by omega) hi), fun _ => ⟨_, n_maybeOf hM hi, _, n_ones (by omega), ?_⟩⟩
    rw [nI_1]; exact ih
theorem tt_ways (hX : InvX MX T P v) (hM : InvM MM T P) : TopL (CX9_ways E [.ref (E.2.1 9)] MX) (CX10_ways F [.ref (F.2.1 0)] MM) (v + 10) :=
  ⟨_, T, P, EX9_ways ⟨_, c_expl hX, zpL ⟨rfl, hX.up (by omega)⟩⟩, (n_ways hM).mono (fun rv M1 h => by obtain ⟨rfl, rfl⟩ := h; exact zpL ⟨rfl, hM⟩)⟩
theorem s_wy_ne {T : TW} {P : PW} : ∀ n, s_wy T P n ≠ 0 → ∀ p, p < n → s_mb T P p ≠ 0
  | 0, _, p, hp => absurd hp (Nat.not_lt_zero p)
  | n + 1, h, p, hp => by
    by_cases e : p = n
    · subst e
      intro e0
      apply h
      show s_wy T P p * (nI (s_pc (s_mb T P p))).toInt64 = 0
      rw [e0, show (nI (s_pc 0)).toInt64 = 0 from rfl, Int64.mul_zero]
    · refine s_wy_ne n (fun e0 => h ?_) p (by omega)
      show s_wy T P n * _ = 0
      rw [e0, Int64.zero_mul]
def s_lst (m : Nat) : Nat := if m.testBit 0 then 0 else if m.testBit 1 then 1 else if m.testBit 2 then 2 else 3
theorem s_lst_le (m : Nat) : s_lst m ≤ 3 := by
  unfold s_lst
  cases m.testBit 0 <;> cases m.testBit 1 <;> cases m.testBit 2 <;> decide
theorem s_lst_bits : ∀ m, m < 16 → m ≠ 0 → m.testBit (s_lst m) = true ∧ ∀ j, j < s_lst m → m.testBit j = false := by decide +kernel
theorem c_leastKind {m : Nat} (hm : m < 16) (h0 : m ≠ 0) : CX2_leastKind E [.int (nI m)] M (z_is (some (.int (nI (s_lst m)))) M) := by
  obtain ⟨h1, h2⟩ := s_lst_bits m hm h0
  have h3 := s_lst_le m
  refine EX2_leastKind (fun X hE hK => ?_)
  refine h_down (P := fun i => LX2_leastKind_2 X (z_is (some (.int (nI (s_lst m)))) M) (nI m) (nI i) M) (s_lst m) ?_ ?_
  · refine BX2_leastKind_2 hK ⟨fun _ => zi rfl, fun _ => ?_⟩
    rw [h_bit (by omega) (by omega), h1]
    exact ⟨fun _ => zi rfl, fun c => absurd c (by decide)⟩
  · intro i hi ih
    refine BX2_leastKind_2 hK ⟨fun c => absurd c (h_nle (b := 3) (by decide) (by omega)), fun _ => ?_⟩
    rw [h_bit (by omega) (by omega), h2 i hi, nI_1]
    exact ⟨fun c => absurd rfl c, fun _ => ih⟩
def tT (T : TW) (P : PW) (i : Nat) : TW := (T.1, T.2.1, (fun a => if a < i then nI (s_lst (s_mb T P a)) else T.2.2.1 a), T.2.2.2)
theorem s_fit_congr {T T' : TW} {p : Nat} {k : Int32} (h : ∀ d, s_sum T' p d = s_sum T p d) : ∀ i, s_fit T' P p k i = s_fit T P p k i
  | 0 => rfl
  | i + 1 => by
    unfold s_fit
    rw [s_fit_congr h i, h]
theorem s_mb_tT (i p : Nat) : s_mb (tT T P i) P p = s_mb T P p := by
  have h : ∀ d, s_sum (tT T P i) p d = s_sum T p d := fun d => s_sumK_congr (T := T) (T' := tT T P i) (fun _ => rfl) rfl _
  unfold s_mb
  rw [s_fit_congr h, s_fit_congr h, s_fit_congr h, s_fit_congr h]
theorem tT_zero : tT T P 0 = T := by
  unfold tT
  simp
theorem tT_kind (i : Nat) : (tT T P i).2.2.1 i = T.2.2.1 i := by
  show (if i < i then _ else _) = _
  simp
theorem tT_next (i : Nat) : tK (tT T P i) i (nI (s_lst (s_mb T P i))) = tT T P (i + 1) := by
  unfold tK tT
  refine Prod.ext rfl (Prod.ext rfl (Prod.ext (funext fun a => ?_) rfl))
  show (if a = i then nI (s_lst (s_mb T P i)) else if a < i then nI (s_lst (s_mb T P a)) else T.2.2.1 a) = if a < i + 1 then nI (s_lst (s_mb T P a)) else T.2.2.1 a
  by_cases e : a = i
  · subst e; simp
  · by_cases h : a < i
    · simp [e, h, show a < i + 1 by omega]
    · simp [e, h, show ¬ a < i + 1 by omega]
theorem tT_same {i : Nat} (h : nI (s_lst (s_mb T P i)) = T.2.2.1 i) : tT T P i = tT T P (i + 1) := by
  rw [← tT_next]
  unfold tK
  refine Prod.ext rfl (Prod.ext rfl (Prod.ext (funext fun a => ?_) rfl))
  show (tT T P i).2.2.1 a = if a = i then nI (s_lst (s_mb T P i)) else (tT T P i).2.2.1 a
  by_cases e : a = i
  · subst e; rw [if_pos rfl, tT_kind]; exact h.symm
  · rw [if_neg e]
theorem h_k03 {l : Nat} (h : l ≤ 3) : nI l = 0 ∨ nI l = 1 ∨ nI l = 2 ∨ nI l = 3 := by
  rcases (show l = 0 ∨ l = 1 ∨ l = 2 ∨ l = 3 by omega) with rfl | rfl | rfl | rfl
  · exact Or.inl rfl
  · exact Or.inr (Or.inl rfl)
  · exact Or.inr (Or.inr (Or.inl rfl))
  · exact Or.inr (Or.inr (Or.inr rfl))
def s_ow (T : TW) (P : PW) (p : Nat) : Bool := decide (¬ nI (s_lst (s_mb T P p)) = T.2.2.1 p)
theorem c_settle (hX : InvX M T P v) (hv : v < 900000) (hne : ∀ p, p < T.1 → s_mb T P p ≠ 0) : CX2_settleKinds E [.ref (E.2.1 2)] M (z_pI (fun r M1 => r = s_cnt (s_ow T P) T.1 ∧ InvX M1 (tT T P T.1) P (v + 10))) := by
  have h10 := hX.1.2.1.2
  refine EX2_settleKinds (fun X hE hK => ?_)
  refine h_down (P := fun i => ∀ M1, i ≤ T.1 → InvX M1 (tT T P i) P (v + i) → LX2_settleKinds_4 X (z_pI (fun r M1 => r = s_cnt (s_ow T P) T.1 ∧ InvX M1 (tT T P T.1) P (v + 10))) (s_cnt (s_ow T P) i) (nI i) M1) T.1 ?_ ?_ M (Nat.zero_le _) (by rw [tT_zero]; exact hX)
  · intro M1 _ hI
    exact BX2_settleKinds_4 hK ⟨_, c_size hI.1, fun _ => zpI ⟨rfl, hI.up (by omega)⟩, fun c => absurd (h_le (show T.1 < 2 ^ 31 by omega) (Nat.le_refl _)) c⟩
  · intro i hi ih M1 _ hI
    have hi10 : i < 10 := by omega
    have hmb := s_mb_lt T P i
    have hl := s_lst_le (s_mb T P i)
    refine BX2_settleKinds_4 hK ⟨_, c_size hI.1, fun c => absurd c (h_nle (by show T.1 < 2 ^ 31; omega) hi), fun _ => ?_⟩
    refine ⟨_, c_kindsOf hI (p := i) hi, ?_⟩
    rw [s_mb_tT, nI_1]
    refine ⟨_, c_leastKind hmb (hne i hi), _, c_kind hI.1 hi10, ?_⟩
    rw [tT_kind]
    refine ⟨fun c => ?_, fun c => ⟨_, c_setKind _ hi10, fun M5 e5 => ?_⟩⟩
    · have e : s_cnt (s_ow T P) (i + 1) = s_cnt (s_ow T P) i := by simp [s_cnt, s_ow, c]
      rw [← e]
      exact ih M1 hi (by rw [← tT_same c]; exact hI.up (by omega))
    · have e : s_cnt (s_ow T P) (i + 1) = s_cnt (s_ow T P) i + 1 := by simp [s_cnt, s_ow, c]
      rw [← e]
      refine ih M5 hi ?_
      rw [e5, ← tT_next]
      exact hI.kind (by omega) hi (h_k03 hl)
theorem tt_take (hX : InvX MX T P v) (hM : InvM MM T P) (hv : v < 900000) : TopI (CX9_take E [.ref (E.2.1 9)] MX) (CX10_take F [.ref (F.2.1 0)] MM) (v + 10) := by
  have h10 := hX.1.2.1.2
  by_cases h0 : s_wy T P T.1 = 0
  · have hc : lg_cmp (s_wy T P T.1) 0 = 0 := (lg_cmp_eq _ _).mpr h0
    exact ⟨-3, T, P, EX9_take ⟨_, c_expl hX, fun c => absurd hc c, fun _ => okX hX⟩, EX10_take (fun X hE hK => ⟨_, n_ways hM, fun c => absurd hc c, fun _ => okM hM⟩)⟩
  · have hc : ¬ lg_cmp (s_wy T P T.1) 0 = 0 := fun e => h0 ((lg_cmp_eq _ _).mp e)
    have hne := s_wy_ne T.1 h0
    refine ⟨s_cnt (s_ow T P) T.1, tT T P T.1, P, EX9_take ⟨_, c_expl hX, fun _ => ⟨_, c_settle hX hv hne, fun r M2 hq => zpI hq⟩, fun c => absurd c hc⟩, EX10_take (fun X hE hK => ⟨_, n_ways hM, fun _ => ?_, fun c => absurd c hc⟩)⟩
    refine h_down (P := fun i => ∀ M1, InvM M1 (tT T P i) P → LX10_take_16 X (z_pI (fun r M1 => r = s_cnt (s_ow T P) T.1 ∧ InvM M1 (tT T P T.1) P)) (s_cnt (s_ow T P) i) (nI i) M1) T.1 ?_ ?_ MM (by rw [tT_zero]; exact hM)
    · intro M1 hI
      exact BX10_take_16 hK ⟨fun _ => okM hI, fun c => absurd (by rw [hI.1.1]; exact h_le (by show T.1 < 2 ^ 31; omega) (Nat.le_refl _)) c⟩
    · intro i hi ih M1 hI
      have hi10 : i < 10 := by omega
      have hmb := s_mb_lt T P i
      have hl := s_lst_le (s_mb T P i)
      refine BX10_take_16 hK ⟨fun c => absurd c (by rw [hI.1.1]; exact h_nle (by show T.1 < 2 ^ 31; omega) hi), fun _ => ⟨_, n_maybeOf hI (p := i) hi, ?_⟩⟩
      rw [s_mb_tT]
      obtain ⟨b1, b2⟩ := s_lst_bits _ hmb (hne i hi)
      refine h_down (P := fun j => LX10_take_33 X (z_pI (fun r M1 => r = s_cnt (s_ow T P) T.1 ∧ InvM M1 (tT T P T.1) P)) (s_cnt (s_ow T P) i) (nI i) (nI (s_mb T P i)) (nI j) M1) (s_lst (s_mb T P i)) ?_ ?_
      · have hn : InvM (z_st M1 2 i (nI (s_lst (s_mb T P i)))) (tT T P (i + 1)) P := by rw [← tT_next]; exact hI.kind (h_k03 hl)
        refine BX10_take_33 hK ⟨fun _ => ⟨h_in10 hi10, ?_⟩, fun c => ?_⟩
        · rw [h_cl10 hi10, hI.1.2.2.1 i hi10, tT_kind, nI_1]
          refine ⟨fun c => ⟨h_in10 hi10, fun M2 e2 => ?_⟩, fun c => ⟨h_in10 hi10, fun M2 e2 => ?_⟩⟩
          · have e : s_cnt (s_ow T P) (i + 1) = s_cnt (s_ow T P) i + 1 := by simp [s_cnt, s_ow, show ¬ nI (s_lst (s_mb T P i)) = T.2.2.1 i from fun e => c e.symm]
            rw [← e]; exact ih M2 (by rw [e2]; exact hn)
          · have e : s_cnt (s_ow T P) (i + 1) = s_cnt (s_ow T P) i := by simp [s_cnt, s_ow, c.symm]
            rw [Int32.add_zero, ← e]; exact ih M2 (by rw [e2]; exact hn)
        · rw [h_bit (by omega) (by omega), b1] at c; exact absurd c (by decide)
      · intro j hj ih2
        refine BX10_take_33 hK ⟨fun c => ?_, fun _ => ?_⟩
        · rw [h_bit (by omega) (by omega), b2 j hj] at c; exact absurd rfl c
        · rw [nI_1]; exact ih2
end TakeC
