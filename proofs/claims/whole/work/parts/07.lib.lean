/-! numbers: loops downward from their end, bits -/
theorem h_down {P : Nat → Prop} (n : Nat) (hn : P n) (hs : ∀ i, i < n → P (i + 1) → P i) : P 0 := by
  have key : ∀ k, k ≤ n → P (n - k) := by
    intro k
    induction k with
    | zero => intro _; exact hn
    | succ k ih =>
      intro h
      have h1 := ih (by omega)
      exact hs (n - (k + 1)) (by omega) (by rw [show n - (k + 1) + 1 = n - k by omega]; exact h1)
  have h0 := key n (Nat.le_refl n)
  rwa [Nat.sub_self] at h0
theorem h_downF {P : Nat → Prop} (a n : Nat) (han : a ≤ n) (hn : P n) (hs : ∀ i, a ≤ i → i < n → P (i + 1) → P i) : P a := by
  have h := h_down (P := fun k => P (a + k)) (n - a) (by show P (a + (n - a)); rw [show a + (n - a) = n by omega]; exact hn) (fun i hi h1 => hs (a + i) (by omega) (by omega) h1)
  exact h
theorem h_lit0 : (0 : Int32) = nI 0 := rfl
theorem h_lit1 : (1 : Int32) = nI 1 := rfl
theorem h_in {a n : Nat} (h : a < n) (hn : n < 2 ^ 31) : vp_in (nI a) n := vp_in_nI h hn
theorem h_in10 {a : Nat} (h : a < 10) : vp_in (nI a) 10 := vp_in_nI h (by decide)
theorem h_inK {a : Nat} (h : a < 1024) : vp_in (nI a) 1024 := vp_in_nI h (by decide)
theorem h_cl {a : Nat} (h : a < 2 ^ 31) : (nI a).toNatClampNeg = a := nI_clamp h
theorem h_cl10 {a : Nat} (h : a < 10) : (nI a).toNatClampNeg = a := nI_clamp (by omega)
theorem h_clK {a : Nat} (h : a < 1024) : (nI a).toNatClampNeg = a := nI_clamp (by omega)
theorem h_le {a b : Nat} (hb : b < 2 ^ 31) (h : a ≤ b) : nI a ≤ nI b := nI_le h hb
theorem h_nle {a b : Nat} (hb : b < 2 ^ 31) (h : a < b) : ¬ nI b ≤ nI a := nI_ge h hb
theorem h_sm : ∀ p, p < 31 → (((nI p) &&& 31).toBitVec.smod 32).toNat = p := by decide +kernel
theorem h_shl {p : Nat} (hp : p < 31) : (1 : Int32) <<< (nI p &&& 31) = nI (2 ^ p) := by
  have h := pk_shlN (n := 1) (nI p &&& 31) p (h_sm p hp) (by rw [Nat.one_mul]; exact Nat.pow_lt_pow_right (by decide) (by omega))
  rw [Nat.one_mul] at h
  exact h
theorem h_shr {d p : Nat} (hd : d < 2 ^ 31) (hp : p < 31) : nI d >>> (nI p &&& 31) = nI (d / 2 ^ p) := pk_shrN hd (nI p &&& 31) p (h_sm p hp)
def s_bit (b : Bool) : Int32 := if b then 1 else 0
theorem h_bit {d p : Nat} (hd : d < 2 ^ 31) (hp : p < 31) : (nI d >>> (nI p &&& 31)) &&& 1 = s_bit (d.testBit p) := by
  rw [h_shr hd hp, pk_andN (Nat.lt_of_le_of_lt (Nat.div_le_self _ _) (by omega)) 1 (m := 1) (by decide), Nat.testBit_eq_decide_div_mod_eq]
  unfold s_bit
  have h2 : d / 2 ^ p % 2 < 2 := Nat.mod_lt _ (by decide)
  rw [show (2 : Nat) ^ 1 = 2 from rfl]
  by_cases h : d / 2 ^ p % 2 = 1
  · rw [h]; rfl
  · rw [show d / 2 ^ p % 2 = 0 by omega]; rfl
theorem s_bit_1 {b : Bool} : s_bit b = 1 ↔ b = true := by cases b <;> decide
theorem s_bit_0 {b : Bool} : s_bit b = 0 ↔ b = false := by cases b <;> decide
theorem s_bit_inj {a b : Bool} : s_bit a = s_bit b ↔ a = b := by cases a <;> cases b <;> decide
theorem h_eqN {a b : Nat} (h : a = b) : nI a = nI b := by rw [h]
theorem h_tb (x : Int32) : ∀ i, (x.toBitVec.toNat).testBit i = x.toBitVec.getLsbD i := fun i => rfl
theorem h_ofBV {a b : Int32} (h : a.toBitVec = b.toBitVec) : a = b := Int32.toBitVec_inj.mp h
theorem h_toBV (n : Nat) : (nI n).toBitVec = BitVec.ofNat 32 n := rfl
theorem h_or {a b : Nat} : nI a ||| nI b = nI (a ||| b) := by
  apply h_ofBV
  rw [Int32.toBitVec_or, h_toBV, h_toBV, h_toBV]
  exact (BitVec.ofNat_or ..).symm
theorem h_and {a b : Nat} : nI a &&& nI b = nI (a &&& b) := by
  apply h_ofBV
  rw [Int32.toBitVec_and, h_toBV, h_toBV, h_toBV]
  exact (BitVec.ofNat_and ..).symm
theorem h_xor {a b : Nat} : nI a ^^^ nI b = nI (a ^^^ b) := by
  apply h_ofBV
  rw [Int32.toBitVec_xor, h_toBV, h_toBV, h_toBV]
  exact (BitVec.ofNat_xor ..).symm
theorem h_m1 : (-1 : Int32) = nI 4294967295 := by decide
theorem h_andnot {a b : Nat} (ha : a < 1024) (hb : b < 1024) : nI a &&& (nI b ^^^ (-1)) = nI (a &&& (1023 ^^^ b)) := by
  rw [h_m1, h_xor, h_and]
  apply h_eqN
  apply Nat.eq_of_testBit_eq
  intro i
  rw [Nat.testBit_and, Nat.testBit_and, Nat.testBit_xor, Nat.testBit_xor]
  by_cases hi : i < 10
  · have h1 : (4294967295 : Nat).testBit i = true := by
      rw [show (4294967295 : Nat) = 2 ^ 32 - 1 from rfl, Nat.testBit_two_pow_sub_one]; simp; omega
    have h2 : (1023 : Nat).testBit i = true := by
      rw [show (1023 : Nat) = 2 ^ 10 - 1 from rfl, Nat.testBit_two_pow_sub_one]; simp; omega
    rw [h1, h2]
    cases b.testBit i <;> rfl
  · have h1 : a.testBit i = false := Nat.testBit_lt_two_pow (Nat.lt_of_lt_of_le ha (show 1024 ≤ 2 ^ i from Nat.pow_le_pow_right (n := 2) (by decide) (show 10 ≤ i by omega)))
    rw [h1]; rfl
/-! memory -/
theorem m_same (M : Mem) (k j : Nat) (v : Int32) : (z_st M k j v).1 k j = v := by rw [z_st_at]; simp [upd]
theorem m_ne (M : Mem) {k j a b : Nat} (v : Int32) (h : ¬ (a = k ∧ b = j)) : (z_st M k j v).1 a b = M.1 a b := by
  by_cases hk : a = k
  · subst hk
    rw [z_st_at]
    simp [upd, show ¬ b = j from fun e => h ⟨rfl, e⟩]
  · rw [(z_st_ne a hk).1]
theorem m_cell (M : Mem) {k j a : Nat} (v : Int32) (h : ¬ a = k) : (z_st M k j v).1 a = M.1 a := (z_st_ne a h).1
theorem m_2 (M : Mem) {k j : Nat} (v : Int32) : (z_st M k j v).2 = M.2 := rfl
theorem m_l1 (M : Mem) {k j : Nat} (v : Int64) : (z_sl M k j v).1 = M.1 := rfl
theorem m_lsame (M : Mem) (k j : Nat) (v : Int64) : (z_sl M k j v).2 k j = v := by rw [z_sl_at]; simp [vp_updL]
theorem m_lne (M : Mem) {k j a b : Nat} (v : Int64) (h : ¬ (a = k ∧ b = j)) : (z_sl M k j v).2 a b = M.2 a b := by
  by_cases hk : a = k
  · subst hk
    rw [z_sl_at]
    simp [vp_updL, show ¬ b = j from fun e => h ⟨rfl, e⟩]
  · rw [(z_sl_ne a hk).2]
/-! the town: people, weights, kinds, leans -/
abbrev TW : Type := Nat × (Nat → Nat → Int32) × (Nat → Int32) × (Nat → Int32)
def s_sumK (T : TW) (p d : Nat) : Nat → Int32
  | 0 => T.2.2.2 p
  | k + 1 => s_sumK T p d k + (if d.testBit k then T.2.1 p k else - T.2.1 p k)
def s_sum (T : TW) (p d : Nat) : Int32 := s_sumK T p d T.1
def s_next (kind sum : Int32) (w : Bool) : Bool := if kind = 3 then !w else if kind = 2 then w else if sum = 0 then w else if kind = 0 then decide (¬ sum ≤ 0) else decide (sum ≤ 0)
def s_calm (T : TW) (p d : Nat) : Bool := s_next (T.2.2.1 p) (s_sum T p d) (d.testBit p) == d.testBit p
def s_rlK (T : TW) (d : Nat) : Nat → Nat
  | 0 => 0
  | k + 1 => if s_calm T k d then s_rlK T d k else s_rlK T d k ||| 2 ^ k
def s_rl (T : TW) (d : Nat) : Nat := s_rlK T d T.1
def s_cnt (f : Nat → Bool) : Nat → Int32
  | 0 => 0
  | k + 1 => if f k then s_cnt f k + 1 else s_cnt f k
def s_WF (T : TW) : Prop := (1 ≤ T.1 ∧ T.1 ≤ 10) ∧ (∀ p o, p < 10 → o < 10 → ¬ T.2.1 p o < 0) ∧ (∀ p o, p < 10 → o < 10 → (T.1 ≤ p ∨ T.1 ≤ o) → T.2.1 p o = 0) ∧ (∀ p, p < 10 → T.2.2.1 p = 0 ∨ T.2.2.1 p = 1 ∨ T.2.2.1 p = 2 ∨ T.2.2.1 p = 3)
theorem s_rlK_bit (T : TW) (d : Nat) : ∀ k p, (s_rlK T d k).testBit p = (decide (p < k) && !s_calm T p d)
  | 0, p => by simp [s_rlK]
  | k + 1, p => by
    have ih := s_rlK_bit T d k p
    unfold s_rlK
    by_cases hc : s_calm T k d = true
    · rw [if_pos hc, ih]
      by_cases hp : p = k
      · subst hp; simp [hc]
      · have : decide (p < k + 1) = decide (p < k) := decide_eq_decide.mpr (by omega)
        rw [this]
    · rw [if_neg hc, Nat.testBit_or, ih, Nat.testBit_two_pow]
      by_cases hp : p = k
      · subst hp; simp [hc]
      · have : decide (p < k + 1) = decide (p < k) := decide_eq_decide.mpr (by omega)
        rw [this]; simp [show ¬ k = p from fun e => hp e.symm]
theorem s_rlK_lt (T : TW) (d : Nat) (k : Nat) : s_rlK T d k < 2 ^ k := by
  apply Nat.lt_pow_two_of_testBit
  intro i hi
  rw [s_rlK_bit]
  simp [show ¬ i < k by omega]
theorem s_rl_lt (T : TW) (d : Nat) : s_rl T d < 2 ^ T.1 := s_rlK_lt T d T.1
theorem s_rl_bit (T : TW) (d p : Nat) : (s_rl T d).testBit p = (decide (p < T.1) && !s_calm T p d) := s_rlK_bit T d T.1 p
