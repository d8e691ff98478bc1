/-! changes of the town, and the calls of the first part -/
def tW (T : TW) (p o : Nat) (w : Int32) : TW := (T.1, (fun a b => if a = p ∧ b = o then w else T.2.1 a b), T.2.2.1, T.2.2.2)
def tK (T : TW) (p : Nat) (k : Int32) : TW := (T.1, T.2.1, (fun a => if a = p then k else T.2.2.1 a), T.2.2.2)
def tL (T : TW) (p : Nat) (l : Int32) : TW := (T.1, T.2.1, T.2.2.1, (fun a => if a = p then l else T.2.2.2 a))
def t0 (n : Nat) : TW := (n, (fun _ _ => 0), (fun _ => 0), (fun _ => 0))
theorem s_sumK_congr {T T' : TW} {p d : Nat} (hw : ∀ o, T'.2.1 p o = T.2.1 p o) (hl : T'.2.2.2 p = T.2.2.2 p) : ∀ k, s_sumK T' p d k = s_sumK T p d k
  | 0 => hl
  | k + 1 => by unfold s_sumK; rw [s_sumK_congr hw hl k, hw]
theorem s_calm_congr {T T' : TW} {p d : Nat} (hn : T'.1 = T.1) (hw : ∀ o, T'.2.1 p o = T.2.1 p o) (hk : T'.2.2.1 p = T.2.2.1 p) (hl : T'.2.2.2 p = T.2.2.2 p) : s_calm T' p d = s_calm T p d := by
  unfold s_calm s_sum
  rw [hn, s_sumK_congr hw hl, hk]
theorem VerOK_ne {x : Int32} {w u : Nat} (h : VerOK x w) (hu : w < u) (hu2 : u < 2 ^ 31) : x ≠ nI u := by
  intro e
  rcases h with h | ⟨a, a1, a2⟩
  · rw [h] at e
    have : (-1 : Int32) < 0 := by decide
    rw [e] at this
    exact absurd this (nI_pos hu2)
  · rw [a2] at e
    have := (nI_eq (by omega) hu2).mp e
    omega
theorem InvX.chg {M M2 : Mem} {T T' : TW} {P : PW} {v p : Nat} (h : InvX M T P v) (hv : v < 1000000) (hp : p < T.1) (hn : T'.1 = T.1) (hR : RepX M2 T') (hWF : s_WF T') (hc : ∀ k, k < 10 ∨ 24 ≤ k → M2.1 k = M.1 k) (hcalm : ∀ q d, q ≠ p → s_calm T' q d = s_calm T q d) : InvX (x_chg M2 p) T' P (v + 1) := by
  obtain ⟨a1, a2, a3, a4, a5, a6, a7⟩ := h
  have h10 := a1.2.1.2
  have c7 : M2.1 7 = M.1 7 := hc 7 (by omega)
  have c8 : (x_chg M2 p).1 8 = M.1 8 := by rw [x_chg_cell _ _ (by decide), hc 8 (by omega)]
  obtain ⟨w, w1, w2, w3, w4⟩ := a4
  have v7 : (x_chg M2 p).1 7 7 = nI (w + 1) := by rw [x_chg_7, c7, w2, nI_1]
  refine ⟨hR.frame (x_chg_ne _ _ (by decide) (by decide)) (fun k _ _ => x_chg_cell _ _ (by omega)), hWF, ?_, ⟨w + 1, by omega, v7, ?_, ?_⟩, ?_, ?_, ?_⟩
  · obtain ⟨s, s1, s2, s3⟩ := a3
    refine ⟨s ||| 2 ^ p, Nat.or_lt_two_pow (n := 10) s1 (Nat.pow_lt_pow_right (by decide) (by omega)), by rw [x_chg_6, c7, s2, h_or], fun d hd => ?_⟩
    rw [hn] at hd ⊢
    obtain ⟨r, r1, r2, r3⟩ := s3 d hd
    refine ⟨r, r1, by rw [x_chg_cell _ _ (by decide), hc 24 (by omega)]; exact r2, fun q hq hb => ?_⟩
    have hb : (s ||| 2 ^ p).testBit q = false := hb
    rw [Nat.testBit_or, Nat.testBit_two_pow] at hb
    have hqp : ¬ p = q := fun e => by simp [e] at hb
    have hb2 : s.testBit q = false := by simpa [hqp] using hb
    rw [hcalm q d (fun e => hqp e.symm)]
    exact r3 q hq hb2
  · rw [c8]; exact w3.imp id (fun ⟨u, u1, u2⟩ => ⟨u, by omega, u2⟩)
  · rw [c8]; exact w4.imp id (fun ⟨u, u1, u2⟩ => ⟨u, by omega, u2⟩)
  · intro e
    rw [c8, v7] at e
    exact absurd e (VerOK_ne w3 (by omega) (by omega))
  · intro e
    rw [c8, v7] at e
    exact absurd e (VerOK_ne w4 (by omega) (by omega))
  · rw [x_chg_cell _ _ (by decide), hc 2 (by omega), x_chg_cell _ _ (by decide), hc 36 (by omega)]
    obtain ⟨b1, b2, b3⟩ := a7
    exact ⟨b1, b2, fun i hi => by rw [hn]; exact b3 i hi⟩
theorem WF_tW {T : TW} (h : s_WF T) {p o : Nat} {w : Int32} (hp : p < T.1) (ho : o < T.1) (hw : ¬ w < 0) : s_WF (tW T p o w) := by
  obtain ⟨a1, a2, a3, a4⟩ := h
  refine ⟨a1, fun a b ha hb => ?_, fun a b ha hb hab => ?_, a4⟩
  · show ¬ (if a = p ∧ b = o then w else T.2.1 a b) < 0
    by_cases e : a = p ∧ b = o
    · rw [if_pos e]; exact hw
    · rw [if_neg e]; exact a2 a b ha hb
  · show (if a = p ∧ b = o then w else T.2.1 a b) = 0
    have hab : T.1 ≤ a ∨ T.1 ≤ b := hab
    rw [if_neg (by omega)]; exact a3 a b ha hb hab
theorem WF_tK {T : TW} (h : s_WF T) {p : Nat} {k : Int32} (hk : k = 0 ∨ k = 1 ∨ k = 2 ∨ k = 3) : s_WF (tK T p k) := by
  obtain ⟨a1, a2, a3, a4⟩ := h
  refine ⟨a1, a2, a3, fun a ha => ?_⟩
  show (if a = p then k else T.2.2.1 a) = 0 ∨ (if a = p then k else T.2.2.1 a) = 1 ∨ (if a = p then k else T.2.2.1 a) = 2 ∨ (if a = p then k else T.2.2.1 a) = 3
  by_cases e : a = p
  · simp only [if_pos e]; exact hk
  · simp only [if_neg e]; exact a4 a ha
theorem WF_tL {T : TW} (h : s_WF T) {p : Nat} {l : Int32} : s_WF (tL T p l) := h
theorem WF_t0 {n : Nat} (h : 1 ≤ n ∧ n ≤ 10) : s_WF (t0 n) := ⟨h, fun _ _ _ _ => (by decide : ¬ (0 : Int32) < 0), fun _ _ _ _ _ => rfl, fun _ _ => Or.inl rfl⟩
section Chg
variable {M : Mem} {T : TW} {P : PW} {v : Nat}
theorem InvX.tie (h : InvX M T P v) (hv : v < 1000000) {p o : Nat} {w : Int32} (hp : p < T.1) (ho : o < T.1) (hw : ¬ w < 0) : InvX (x_chg (z_st M (10 + p) o w) p) (tW T p o w) P (v + 1) := by
  have h10 := h.1.2.1.2
  refine h.chg hv hp rfl ?_ (WF_tW h.2.1 hp ho hw) (fun k hk => m_cell _ _ (by omega)) (fun q d hq => s_calm_congr rfl (fun a => ?_) rfl rfl)
  · obtain ⟨b1, b2, b3, b4, b5⟩ := h.1
    refine ⟨by rw [m_ne _ _ (by omega)]; exact b1, b2, fun a b ha hb => ?_, fun a ha => by rw [m_ne _ _ (by omega)]; exact b4 a ha, fun a ha => by rw [m_ne _ _ (by omega)]; exact b5 a ha⟩
    show _ = if a = p ∧ b = o then w else T.2.1 a b
    by_cases e : a = p ∧ b = o
    · obtain ⟨rfl, rfl⟩ := e
      rw [m_same, if_pos ⟨rfl, rfl⟩]
    · rw [m_ne _ _ (by omega), if_neg e]; exact b3 a b ha hb
  · show (if q = p ∧ a = o then w else T.2.1 q a) = _
    rw [if_neg (fun e => hq e.1)]
theorem InvX.kind (h : InvX M T P v) (hv : v < 1000000) {p : Nat} {k : Int32} (hp : p < T.1) (hk : k = 0 ∨ k = 1 ∨ k = 2 ∨ k = 3) : InvX (x_chg (z_st M 21 p k) p) (tK T p k) P (v + 1) := by
  have h10 := h.1.2.1.2
  refine h.chg hv hp rfl ?_ (WF_tK h.2.1 hk) (fun k hk => m_cell _ _ (by omega)) (fun q d hq => s_calm_congr rfl (fun a => rfl) ?_ rfl)
  · obtain ⟨b1, b2, b3, b4, b5⟩ := h.1
    refine ⟨by rw [m_ne _ _ (by omega)]; exact b1, b2, fun a b ha hb => by rw [m_ne _ _ (by omega)]; exact b3 a b ha hb, fun a ha => ?_, fun a ha => by rw [m_ne _ _ (by omega)]; exact b5 a ha⟩
    show _ = if a = p then k else T.2.2.1 a
    by_cases e : a = p
    · subst e
      rw [m_same, if_pos rfl]
    · rw [m_ne _ _ (by omega), if_neg e]; exact b4 a ha
  · show (if q = p then k else T.2.2.1 q) = _
    rw [if_neg hq]
theorem InvX.lean (h : InvX M T P v) (hv : v < 1000000) {p : Nat} {k : Int32} (hp : p < T.1) : InvX (x_chg (z_st M 22 p k) p) (tL T p k) P (v + 1) := by
  have h10 := h.1.2.1.2
  refine h.chg hv hp rfl ?_ (WF_tL h.2.1) (fun k hk => m_cell _ _ (by omega)) (fun q d hq => s_calm_congr rfl (fun a => rfl) rfl ?_)
  · obtain ⟨b1, b2, b3, b4, b5⟩ := h.1
    refine ⟨by rw [m_ne _ _ (by omega)]; exact b1, b2, fun a b ha hb => by rw [m_ne _ _ (by omega)]; exact b3 a b ha hb, fun a ha => by rw [m_ne _ _ (by omega)]; exact b4 a ha, fun a ha => ?_⟩
    show _ = if a = p then k else T.2.2.2 a
    by_cases e : a = p
    · subst e
      rw [m_same, if_pos rfl]
    · rw [m_ne _ _ (by omega), if_neg e]; exact b5 a ha
  · show (if q = p then k else T.2.2.2 q) = _
    rw [if_neg hq]
theorem InvX.anew (h : InvX M T P v) (hv : v < 1000000) {n : Nat} (hn : 1 ≤ n ∧ n ≤ 10) {M1 : Mem} (hN : x_New n M 10 0 M1) (h24 : ∀ d, d < 1024 → M1.1 24 d = 0) {M2 : Mem} (e2 : M2 = z_st M1 2 2 0) : InvX M2 (t0 n) (0, fun _ => 0) (v + 10) := by
  obtain ⟨n1, n2, n3, n4, n5, n6, n7⟩ := hN
  obtain ⟨a1, a2, a3, a4, a5, a6, a7⟩ := h
  have c : ∀ k, k ≠ 2 → M2.1 k = M1.1 k := fun k hk => by rw [e2, m_cell _ _ hk]
  have c8 : M2.1 8 = M.1 8 := by rw [c 8 (by decide)]; exact n7 8 (by decide) (by decide) (by decide) (by decide) (by decide)
  obtain ⟨w, w1, w2, w3, w4⟩ := a4
  have hp2 : 2 ^ n ≤ 1024 := Nat.pow_le_pow_right (n := 2) (by decide) hn.2
  have v7 : M2.1 7 7 = nI (w + 10) := by rw [c 7 (by decide), n5, w2, nI_add]
  refine ⟨⟨by rw [c 7 (by decide)]; exact n1, hn, fun p o hp ho => by rw [c _ (by omega)]; exact n2 p o hp ho (Or.inl hp), fun p hp => by rw [c _ (by decide)]; exact (n3 p hp).1, fun p hp => by rw [c _ (by decide)]; exact (n3 p hp).2⟩, WF_t0 hn, ?_, ⟨w + 10, by omega, v7, ?_, ?_⟩, ?_, ?_, ?_⟩
  · obtain ⟨s, s1, s2, s3⟩ := n4
    refine ⟨s, s1, by rw [c 7 (by decide)]; exact s2, fun d hd => ⟨0, Nat.two_pow_pos _, ?_, fun p hp hb => ?_⟩⟩
    · have hd : d < 2 ^ n := hd
      rw [c 24 (by decide), h24 d (by omega)]; rfl
    · have hp : p < n := hp
      have hb : s.testBit p = false := hb
      rw [s3 p (by omega)] at hb
      exact absurd hb (by decide)
  · rw [c8]; exact w3.imp id (fun ⟨u, u1, u2⟩ => ⟨u, by omega, u2⟩)
  · rw [c8]; exact w4.imp id (fun ⟨u, u1, u2⟩ => ⟨u, by omega, u2⟩)
  · intro e
    rw [c8, v7] at e
    exact absurd e (VerOK_ne w3 (by omega) (by omega))
  · intro e
    rw [c8, v7] at e
    exact absurd e (VerOK_ne w4 (by omega) (by omega))
  · refine ⟨by rw [e2, m_same]; rfl, Nat.zero_le _, fun i hi => absurd hi (Nat.not_lt_zero i)⟩
theorem InvM.tie {p o : Nat} {w : Int32} (h : InvM M T P) (hp : p < T.1) (ho : o < T.1) (hw : ¬ w < 0) : InvM (z_st M 1 (10 * p + o) w) (tW T p o w) P := by
  have h10 := h.2.1.1.2
  obtain ⟨⟨b1, b2, b3, b4⟩, b5, b6⟩ := h
  refine ⟨⟨by rw [m_ne _ _ (by omega)]; exact b1, fun a b ha hb => ?_, fun a ha => by rw [m_ne _ _ (by omega)]; exact b3 a ha, fun a ha => by rw [m_ne _ _ (by omega)]; exact b4 a ha⟩, WF_tW b5 hp ho hw, ?_⟩
  · show _ = if a = p ∧ b = o then w else T.2.1 a b
    by_cases e : a = p ∧ b = o
    · obtain ⟨rfl, rfl⟩ := e
      rw [m_same, if_pos ⟨rfl, rfl⟩]
    · rw [m_ne _ _ (by omega), if_neg e]; exact b2 a b ha hb
  · rw [m_cell _ _ (by decide), m_cell _ _ (by decide)]; exact b6
theorem InvM.kind {p : Nat} {k : Int32} (h : InvM M T P) (hk : k = 0 ∨ k = 1 ∨ k = 2 ∨ k = 3) : InvM (z_st M 2 p k) (tK T p k) P := by
  obtain ⟨⟨b1, b2, b3, b4⟩, b5, b6⟩ := h
  refine ⟨⟨by rw [m_ne _ _ (by omega)]; exact b1, fun a b ha hb => by rw [m_ne _ _ (by omega)]; exact b2 a b ha hb, fun a ha => ?_, fun a ha => by rw [m_ne _ _ (by omega)]; exact b4 a ha⟩, WF_tK b5 hk, ?_⟩
  · show _ = if a = p then k else T.2.2.1 a
    by_cases e : a = p
    · subst e
      rw [m_same, if_pos rfl]
    · rw [m_ne _ _ (by omega), if_neg e]; exact b3 a ha
  · rw [m_cell _ _ (by decide), m_cell _ _ (by decide)]; exact b6
theorem InvM.lean {p : Nat} {k : Int32} (h : InvM M T P) : InvM (z_st M 3 p k) (tL T p k) P := by
  obtain ⟨⟨b1, b2, b3, b4⟩, b5, b6⟩ := h
  refine ⟨⟨by rw [m_ne _ _ (by omega)]; exact b1, fun a b ha hb => by rw [m_ne _ _ (by omega)]; exact b2 a b ha hb, fun a ha => by rw [m_ne _ _ (by omega)]; exact b3 a ha, fun a ha => ?_⟩, WF_tL b5, ?_⟩
  · show _ = if a = p then k else T.2.2.2 a
    by_cases e : a = p
    · subst e
      rw [m_same, if_pos rfl]
    · rw [m_ne _ _ (by omega), if_neg e]; exact b4 a ha
  · rw [m_cell _ _ (by decide), m_cell _ _ (by decide)]; exact b6
theorem z_st_id {k j : Nat} : z_st M k j (M.1 k j) = M := by
  unfold z_st
  apply Prod.ext
  · funext a
    by_cases e : a = k
    · subst e
      show va_up M.1 a (upd (M.1 a) j (M.1 a j)) a = M.1 a
      rw [show va_up M.1 a (upd (M.1 a) j (M.1 a j)) a = upd (M.1 a) j (M.1 a j) from if_pos rfl]
      funext b
      by_cases e2 : b = j
      · subst e2; simp [upd]
      · simp [upd, e2]
    · exact if_neg e
  · rfl
end Chg
