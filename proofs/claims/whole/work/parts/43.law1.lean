/-! THE CLAIM OUT OF ONE WALK OF THE LAW'S BODY. Your part is whole_start (and what it stands on); all else here is the same for every law, but numbers. -/
def R_law : String := "NotLikeThemLaw"
def lw_P (b : Addr) (xs : List Int32) (args : Array Value) (s : State) : Prop := args = #[.ref b] ∧ s.IntsAt b xs ∧ xs.length ≤ 3072 ∧ (Jvm.Cond.and given_1 narrow_1).before args s = true
def lw_Q (_ : Array Value) (s : State) (o : Outcome) (t : State) : Prop := o = .returned (some (.int 1)) ∧ Framed s o t [] 600000 7302250
def lw_Z (below : List Frame) (a : Array Value) (s : State) : State → Prop := fun t => ∃ o, t.status = .running ∧ Ended t below o ∧ lw_Q a s o t
/-- the law's own end, with 1 on the stack, nothing written that was there before, its room as the claim has it -/
theorem lw_ret {p : Program} {l : Launch} {e : Env} {s : State} {m : MethodId} {below : List Frame} {meth : Method} {c : Code} {b : Nat} (hx : p.tables.exec = Jvm.exec) (hb : c.code = code) (hr : meth.sig.returnType = ret) (hlocks : meth.locks = false) {pc : Nat} {H : Heap} {ls : Array Slot} (hdg : decode code pc = .ok (.ireturn, 1)) : W p l e room_1 s m #[Value.ref b] below meth c H [] 600000 7302250 (lw_Z below #[Value.ref b] s) (F0 m pc ls [.int 1]) := by
  intro T hT X
  obtain ⟨fs, hret, hrun, hended, hW, hframe⟩ := X.leave (v := some (.int 1)) (hlocks := hlocks) (fun h => by rw [hr] at h; cases h)
  have hmeth' : T.vm.method? m = some meth := X.method'
  refine ⟨T.setFrames fs, ?_, .returned (some (.int 1)), hrun, hended, rfl, ⟨_, rfl⟩, hW, hframe⟩
  jvm_step X.here [X.here.top, hx, hb, hdg, hmeth', hr, ret, narrow_b1]
  (try refine ⟨rfl, ?_⟩); (try refine ⟨rfl, ?_⟩)
  first | (intro acts; rw [hret _ acts rfl rfl rfl]) | rw [hret _ _ rfl rfl rfl]
  exact Steps.refl _
/-- what holds at the law's entry: the machine, the code, the tables' words (any of lw_tbl by 'hts w (by decide +kernel)'), the script of L ints xs at the cell b, what the Statement gives of the start (any of its parts by flat_of_before) -/
def lw_At (p : Program) (s : State) (m : MethodId) (meth : Method) (c : Code) (b L : Nat) (xs : Nat → Int32) : Prop :=
  p.tables.exec = Jvm.exec ∧ c.code = code ∧ meth.sig.returnType = ret ∧ c.maxLocals = 4 ∧ s.vm.findClass R_law = some m.cls ∧ (∀ w ∈ lw_tbl, w.before #[Value.ref b] s = true) ∧ va_X b L xs s s.heap ∧ b < s.heap.size ∧ meth.locks = false ∧ (Jvm.Cond.and given_1 narrow_1).before #[Value.ref b] s = true

/-! the law's walk: the class's system and the reference's, apart -/
abbrev kF (X : XT) (ad : Nat → Nat) : ET := (X.1.1, ad, X.1.2.2)
def Vc (X : XT) (ad : Nat → Nat) (b L : Nat) (xs : Nat → Int32) : Prop :=
  X.2.1.tables.exec = Jvm.exec ∧ X.2.2.2.2.2.2.2.2.code = code ∧ X.2.2.2.2.2.2.2.2.maxLocals = 4 ∧ X.2.2.2.1.vm.findClass R_law = some X.2.2.2.2.1.cls ∧ (∀ w ∈ lw_g, w.before X.2.2.2.2.2.1 X.2.2.2.1 = true) ∧ va_K X.1.2.2.1 zCl (z_tys X.1) X.2.2.2.1 ∧ z_I SX X.1 ∧ z_I SM (kF X ad) ∧ (∀ i j, i < 37 → j < 16 → X.1.2.1 i ≠ ad j) ∧ (∀ i, i < 37 → X.2.2.2.1.heap.size ≤ X.1.2.1 i) ∧ (∀ j, j < 16 → X.2.2.2.1.heap.size ≤ ad j) ∧ va_X b L xs X.2.2.2.1 X.2.2.2.1.heap ∧ b < X.2.2.2.1.heap.size
def V (X : XT) (ad : Nat → Nat) (Qf : State → Prop) (pc : Nat) (lv : List (Nat × Value)) (st : List Value) (MX MM : Mem) : Prop :=
  ∀ (H : Heap) (locs : List Loc) (ls : Array Slot), lv_has ls 4 lv → va_P X.1.2.2.1 zCl (z_wd SX X.1 MX) H → va_P X.1.2.2.1 zCl (z_wd SM (kF X ad) MM) H → va_S (fun q : Nat => X.2.2.2.1.heap.size ≤ q) X.2.2.2.1.heap H locs →
    W X.2.1 X.1.1 X.2.2.1 room_1 X.2.2.2.1 X.2.2.2.2.1 X.2.2.2.2.2.1 X.2.2.2.2.2.2.1 X.2.2.2.2.2.2.2.1 X.2.2.2.2.2.2.2.2 H locs 600000 7302250 Qf (F0 X.2.2.2.2.1 pc ls st)
def lvL (X : XT) (ad : Nat → Nat) (b i : Nat) : List (Nat × Value) := [(0, .ref b), (1, .ref (X.1.2.1 9)), (2, .ref (ad 0)), (3, .int (nI i))]
def kb (x : Int32) : Int32 := if x = 0 then 0 else 1
section VRows
variable {X : XT} {ad : Nat → Nat} {b L : Nat} {xs : Nat → Int32} {Qf : State → Prop} {pc : Nat} {lv : List (Nat × Value)} {st : List Value} {MX MM : Mem}
theorem v_iconst (h : Vc X ad b L xs) {n : Int} {v : Int32} (hd : decode code pc = .ok (.iconst n, 1)) (hv : Int32.ofInt n = v) (k : V X ad Qf (pc + 1) lv (.int v :: st) MX MM) : V X ad Qf pc lv st MX MM :=
  fun H locs ls hl hP hM hS => lv_iconst h.1 h.2.1 hd hv (k H locs ls hl hP hM hS)
theorem v_bipush (h : Vc X ad b L xs) {n : Int} {v : Int32} (hd : decode code pc = .ok (.bipush n, 2)) (hv : (Int8.ofInt n).toInt32 = v) (k : V X ad Qf (pc + 2) lv (.int v :: st) MX MM) : V X ad Qf pc lv st MX MM :=
  fun H locs ls hl hP hM hS => lv_bipush h.1 h.2.1 hd hv (k H locs ls hl hP hM hS)
theorem v_aload_n (h : Vc X ad b L xs) {n : Fin 4} {i : Nat} {x : Nat} (hd : decode code pc = .ok (.aload_n n, 1)) (hi : (n : Nat) = i) (q : Nat) (hq : lv[q]? = some (i, .ref x)) (k : V X ad Qf (pc + 1) lv (.ref x :: st) MX MM) : V X ad Qf pc lv st MX MM :=
  fun H locs ls hl hP hM hS => lv_aload_n h.1 h.2.1 hd hi (lv_at hl q hq) (k H locs ls hl hP hM hS)
theorem v_iload_n (h : Vc X ad b L xs) {n : Fin 4} {i : Nat} {x : Int32} (hd : decode code pc = .ok (.iload_n n, 1)) (hi : (n : Nat) = i) (q : Nat) (hq : lv[q]? = some (i, .int x)) (k : V X ad Qf (pc + 1) lv (.int x :: st) MX MM) : V X ad Qf pc lv st MX MM :=
  fun H locs ls hl hP hM hS => lv_iload_n h.1 h.2.1 hd hi (lv_at hl q hq) (k H locs ls hl hP hM hS)
theorem v_iadd (h : Vc X ad b L xs) {x y : Int32} (hd : decode code pc = .ok (.iadd, 1)) (k : V X ad Qf (pc + 1) lv (.int (x + y) :: st) MX MM) : V X ad Qf pc lv (.int y :: .int x :: st) MX MM :=
  fun H locs ls hl hP hM hS => lv_iadd h.1 h.2.1 hd (k H locs ls hl hP hM hS)
theorem v_isub (h : Vc X ad b L xs) {x y : Int32} (hd : decode code pc = .ok (.isub, 1)) (k : V X ad Qf (pc + 1) lv (.int (x - y) :: st) MX MM) : V X ad Qf pc lv (.int y :: .int x :: st) MX MM :=
  fun H locs ls hl hP hM hS => lv_isub h.1 h.2.1 hd (k H locs ls hl hP hM hS)
theorem v_iand (h : Vc X ad b L xs) {x y : Int32} (hd : decode code pc = .ok (.iand, 1)) (k : V X ad Qf (pc + 1) lv (.int (x &&& y) :: st) MX MM) : V X ad Qf pc lv (.int y :: .int x :: st) MX MM :=
  fun H locs ls hl hP hM hS => lv_iand h.1 h.2.1 hd (k H locs ls hl hP hM hS)
theorem v_lcmp (h : Vc X ad b L xs) {x y : Int64} (hd : decode code pc = .ok (.lcmp, 1)) (k : V X ad Qf (pc + 1) lv (.int (lg_cmp x y) :: st) MX MM) : V X ad Qf pc lv (.long y :: .long x :: st) MX MM :=
  fun H locs ls hl hP hM hS => W.lcmp h.1 h.2.1 hd (k H locs ls hl hP hM hS)
theorem v_goto (h : Vc X ad b L xs) {off : Int} (tgt : Nat) (hd : decode code pc = .ok (.goto off, 3)) (ht : (pc : Int) + off = (tgt : Int)) (k : V X ad Qf tgt lv st MX MM) : V X ad Qf pc lv st MX MM :=
  fun H locs ls hl hP hM hS => lv_goto h.1 h.2.1 hd ht (k H locs ls hl hP hM hS)
theorem v_icmp_eq (h : Vc X ad b L xs) {x y : Int32} {off : Int} (tgt : Nat) (hd : decode code pc = .ok (.if_icmp .eq off, 3)) (ht : (pc : Int) + off = (tgt : Int)) (kt : x = y → V X ad Qf tgt lv st MX MM) (kf : ¬ x = y → V X ad Qf (pc + 3) lv st MX MM) : V X ad Qf pc lv (.int y :: .int x :: st) MX MM :=
  fun H locs ls hl hP hM hS => lv_icmp_eq h.1 h.2.1 hd ht (fun c0 => kt c0 H locs ls hl hP hM hS) (fun c0 => kf c0 H locs ls hl hP hM hS)
theorem v_icmp_gt (h : Vc X ad b L xs) {x y : Int32} {off : Int} (tgt : Nat) (hd : decode code pc = .ok (.if_icmp .gt off, 3)) (ht : (pc : Int) + off = (tgt : Int)) (kt : y < x → V X ad Qf tgt lv st MX MM) (kf : ¬ y < x → V X ad Qf (pc + 3) lv st MX MM) : V X ad Qf pc lv (.int y :: .int x :: st) MX MM :=
  fun H locs ls hl hP hM hS => lv_icmp_gt h.1 h.2.1 hd ht (fun c0 => kt c0 H locs ls hl hP hM hS) (fun c0 => kf c0 H locs ls hl hP hM hS)
theorem v_if_eq (h : Vc X ad b L xs) {x : Int32} {off : Int} (tgt : Nat) (hd : decode code pc = .ok (.ifCond .eq off, 3)) (ht : (pc : Int) + off = (tgt : Int)) (kt : x = 0 → V X ad Qf tgt lv st MX MM) (kf : ¬ x = 0 → V X ad Qf (pc + 3) lv st MX MM) : V X ad Qf pc lv (.int x :: st) MX MM :=
  fun H locs ls hl hP hM hS => lv_if_eq h.1 h.2.1 hd ht (fun c0 => kt c0 H locs ls hl hP hM hS) (fun c0 => kf c0 H locs ls hl hP hM hS)
theorem v_iinc (h : Vc X ad b L xs) {i : Nat} {n : Int} {x v : Int32} (hd : decode code pc = .ok (.iinc i n, 3)) (q : Nat) (hq : lv[q]? = some (i, .int x)) (hv : x + Int32.ofInt n = v) (hn : i < 4) (lv' : List (Nat × Value)) (hl' : (i, Value.int v) :: lv.filter (fun q => !(q.1 == i) && !(q.1 + 1 == i && q.2.category == 2)) = lv') (k : V X ad Qf (pc + 3) lv' st MX MM) : V X ad Qf pc lv st MX MM :=
  fun H locs ls hl hP hM hS => lv_iinc h.1 h.2.1 hd hl hq hv hn hl' (fun ls2 hl2 => k H locs ls2 hl2 hP hM hS)
theorem v_sub (ks : List Nat) {lv' : List (Nat × Value)} (hk : lv_pick lv ks = lv') (k : V X ad Qf pc lv' st MX MM) : V X ad Qf pc lv st MX MM :=
  fun H locs ls hl hP hM hS => k H locs ls (lv_sub hl ks hk) hP hM hS
theorem v_tableOut (h : Vc X ad b L xs) {dflt lo hi : Int} {offs : Array Int} {len : Nat} {x : Int32} (tgt : Nat) (hd : decode code pc = .ok (.tableswitch dflt lo hi offs, len)) (hx : x.toInt < lo ∨ hi < x.toInt) (ht : (pc : Int) + dflt = (tgt : Int)) (k : V X ad Qf tgt lv st MX MM) : V X ad Qf pc lv (.int x :: st) MX MM :=
  fun H locs ls hl hP hM hS => lv_tableOut h.1 h.2.1 hd hx ht (k H locs ls hl hP hM hS)
theorem v_tableIn (h : Vc X ad b L xs) {dflt lo hi : Int} {offs : Array Int} {len : Nat} {x : Int32} {off : Int} (tgt : Nat) (hd : decode code pc = .ok (.tableswitch dflt lo hi offs, len)) (h1 : ¬ x.toInt < lo) (h2 : ¬ hi < x.toInt) (ho : offs[(x.toInt - lo).toNat]? = some off) (ht : (pc : Int) + off = (tgt : Int)) (k : V X ad Qf tgt lv st MX MM) : V X ad Qf pc lv (.int x :: st) MX MM :=
  fun H locs ls hl hP hM hS => lv_tableIn h.1 h.2.1 hd h1 h2 ho ht (k H locs ls hl hP hM hS)
theorem v_sld (h : Vc X ad b L xs) {j : Nat} (hj : j < L) (hL : L ≤ 3072) (hd : decode code pc = .ok (.iaload, 1)) (k : V X ad Qf (pc + 1) lv (.int (xs j) :: st) MX MM) : V X ad Qf pc lv (.int (nI j) :: .ref b :: st) MX MM := by
  intro H locs ls hl hP hM hS
  obtain ⟨_, _, _, _, _, _, _, _, _, _, _, hX, hbl⟩ := h
  refine va_sld (b := b) (L := L) (xs := xs) ‹_› ‹_› hX hbl (Nat.not_le.mpr hbl) hS (h_in (by omega) (by omega)) hd ?_
  rw [h_cl (by omega)]
  exact k H locs ls hl hP hM hS
theorem v_slen (h : Vc X ad b L xs) (hd : decode code pc = .ok (.arraylength, 1)) (k : V X ad Qf (pc + 1) lv (.int (nI L) :: st) MX MM) : V X ad Qf pc lv (.ref b :: st) MX MM := by
  intro H locs ls hl hP hM hS
  obtain ⟨_, _, _, _, _, _, _, _, _, _, _, hX, hbl⟩ := h
  exact va_slen (b := b) (L := L) (xs := xs) ‹_› ‹_› hX hbl (Nat.not_le.mpr hbl) hS hd (k H locs ls hl hP hM hS)
theorem v_arg (h : Vc X ad b L xs) (hL : L ≤ 3072) {i : Nat} (j : Nat) {n : Int} (hn : Int32.ofInt n = nI j) (d0 : decode code pc = .ok (.aload_n 0, 1)) (d1 : decode code (pc + 1) = .ok (.iload_n 3, 1)) (d2 : decode code (pc + 2) = .ok (.iconst n, 1)) (d3 : decode code (pc + 3) = .ok (.iadd, 1)) (d4 : decode code (pc + 4) = .ok (.iaload, 1)) (hj : i + j < L) (k : V X ad Qf (pc + 5) (lvL X ad b i) (.int (xs (i + j)) :: st) MX MM) : V X ad Qf pc (lvL X ad b i) st MX MM := by
  refine v_aload_n h d0 rfl 0 rfl ?_
  refine v_iload_n h d1 rfl 3 rfl ?_
  refine v_iconst h d2 hn ?_
  refine v_iadd h d3 ?_
  rw [nI_add]
  exact v_sld h hj hL d4 k
theorem v_bool (h : Vc X ad b L xs) {x : Int32} (d0 : decode code pc = .ok (.ifCond .eq 7, 3)) (d1 : decode code (pc + 3) = .ok (.iconst 1, 1)) (d2 : decode code (pc + 4) = .ok (.goto 4, 3)) (d3 : decode code (pc + 7) = .ok (.iconst 0, 1)) (k : V X ad Qf (pc + 8) lv (.int (kb x) :: st) MX MM) : V X ad Qf pc lv (.int x :: st) MX MM := by
  refine v_if_eq h (pc + 7) d0 (by omega) (fun c => ?_) (fun c => ?_)
  · refine v_iconst (v := 0) h d3 (by decide) ?_
    have e : kb x = 0 := if_pos c
    rw [e] at k
    exact k
  · refine v_iconst (v := 1) h d1 (by decide) ?_
    refine v_goto h (pc + 8) d2 (by omega) ?_
    have e : kb x = 1 := if_neg c
    rw [e] at k
    exact k
theorem v_callB {y : MethodName} {bytes : ByteArray} {maxL n d1 idx : Nat} {ret1 : Option FieldType} (h : Vc X ad b L xs) (hco : Cond.code y bytes maxL ret1 ∈ lw_g) (hini : Cond.initialized y.cls ∈ lw_g) (hlk : Cond.methodLink R_law idx y ∈ lw_g)
    (hy : y.cls ≠ "java/lang/invoke/MethodHandle" ∧ y.cls ≠ "java/lang/invoke/VarHandle" ∧ (parseMethodDescriptor y.desc).map (fun d => d.parameters.length) = some n) (hR : d1 + 1 ≤ 9) (hR2 : 8 + (maxL + 11) + 40 * d1 ≤ 364) :
    CallB room_1 X.2.2.2.1 X.2.2.2.2.2.1 R_law idx y bytes maxL ret1 (Cond.code y bytes maxL ret1 :: lw_g) (z_rm d1) 0 0 n := by
  have hts := h.2.2.2.2.1
  have hgood : ∀ w ∈ (Cond.code y bytes maxL ret1 :: lw_g), w ∈ lw_g ∧ ((w.onTables && w.keeps) = true ∨ ∃ ty, w = .arrayClass ty) := by
    intro w hw
    have hm' : w ∈ lw_g := by
      rcases List.mem_cons.mp hw with rfl | h
      · exact hco
      · exact h
    exact ⟨hm', good_of_word (List.all_eq_true.mp lw_good w hm')⟩
  exact callB_of n hts hgood rfl rfl rfl (hts _ hini) (hts _ hlk) hy ⟨hR, hR2⟩
theorem v_callX {y : MethodName} {bytes : ByteArray} {maxL n d1 idx : Nat} {ret1 : Option FieldType} {As rest : List Value} {Q1 : Option Value → Mem → Prop} (h : Vc X ad b L xs) (hyc : RX9 = y.cls) (hco : Cond.code y bytes maxL ret1 ∈ lw_g) (hini : Cond.initialized y.cls ∈ lw_g) (hlk : Cond.methodLink R_law idx y ∈ lw_g) (hins : Cond.instanceMethod y ∈ lw_g) (hsel : Cond.selects y.cls y y ∈ lw_g)
    (hy : y.cls ≠ "java/lang/invoke/MethodHandle" ∧ y.cls ≠ "java/lang/invoke/VarHandle" ∧ (parseMethodDescriptor y.desc).map (fun d => d.parameters.length) = some n) (hR : d1 + 1 ≤ 9) (hR2 : 8 + (maxL + 11) + 40 * d1 ≤ 364) (hn : As.length = n) (hw : (rest.map fun v => v.category).sum ≤ 8) (hd : decode code pc = .ok (.invokevirtual idx, 3))
    (hC : Ct SX X.1 y bytes maxL ret1 d1 (.ref (X.1.2.1 9) :: As) MX Q1) (kk : ∀ (rv : Option Value) (M1 : Mem), Q1 rv M1 → V X ad Qf (pc + 3) lv (rv.toList ++ rest) M1 MM) : V X ad Qf pc lv (As.reverse ++ .ref (X.1.2.1 9) :: rest) MX MM := by
  intro H locs ls hl hP hM hS
  have hB := v_callB h hco hini hlk hy hR hR2
  obtain ⟨hx, hb, hml, hown, hts, hK, hI, hI2, hap, ha1, ha2, hsc, hbl⟩ := h
  have hs9 : SX.1[9]? = some ((0, 9, [some 7, some 1, some 3, some 8, some 4, some 0, some 2, some 5]) : SC) := rfl
  have hrec := va_recv hK hP (ci := 9) (q0 := 9) rfl (z_wd_at hs9)
  rw [show (RX9, TX9, 8).1 = y.cls from hyc] at hrec
  have hr := va_runV (locs := locs) (cells := 600000) (slots := 7302250) (below := X.2.2.2.2.2.2.1) (e := X.2.2.1) (meth := X.2.2.2.2.2.2.2.1) (g := F0 X.2.2.2.2.1 pc ls (As.reverse ++ .ref (X.1.2.1 9) :: rest)) (As := As) (rest := rest) ⟨hx, hb, hml, hown, hts⟩ hC ⟨hB, hts _ hins, hts _ hsel⟩ ⟨z_blind, hrec, fun U hU hW => ⟨rfl, by rw [hU]; exact hP, va_K.moved hW.alike hK, hI⟩⟩ rfl hn hl.1 rfl (lv_room hw) hd ⟨Nat.le_of_ble_eq_true rfl, Nat.le_of_ble_eq_true rfl⟩
  intro T hT Xs
  obtain ⟨v, st₀, t, T', L', h0, X', hL', e1, e2, ⟨⟨rv, M1, hv, hq, hB1⟩, hz, hk⟩, stp⟩ := hr T hT Xs
  cases hv
  rw [h0] at hz hk
  have hP1 : va_P X.1.2.2.1 zCl (z_wd SX X.1 M1) T'.heap := by rw [e1]; exact hB1.1
  have hM1 : va_P X.1.2.2.1 zCl (z_wd SM (kF X ad) MM) T'.heap := hM.kept (fun k q hk0 => by
    rw [e1]
    refine hk q.1 (hM k q hk0).lt (fun ⟨i, hi, ei⟩ => ?_)
    have hkl : k < 16 := by have := (List.getElem?_eq_some_iff.mp hk0).1; rw [z_wd_len] at this; exact this
    obtain ⟨sc, hsc2⟩ : ∃ sc, SM.1[k]? = some sc := ⟨_, List.getElem?_eq_getElem hkl⟩
    rw [z_wd_at hsc2] at hk0
    cases hk0
    exact hap i k hi hkl ei.symm)
  have hS1 : va_S (fun q : Nat => X.2.2.2.1.heap.size ≤ q) X.2.2.2.1.heap T'.heap (locs ++ L') :=
    ⟨Nat.le_trans hS.1 (by rw [e1]; exact hz), fun q h1 h2 => by
      rw [e1, hk q (Nat.lt_of_lt_of_le h1 hS.1) (fun ⟨i, hi, ei⟩ => by have := ha1 i hi; omega)]
      exact hS.2.1 q h1 h2, fun q hq => by
      rcases List.mem_append.mp hq with h | h
      · exact hS.2.2 q h
      · obtain ⟨i, hi, ei⟩ := hL' q h
        show X.2.2.2.1.heap.size ≤ q.base
        rw [ei]; exact ha1 i hi⟩
  obtain ⟨t2, a1, b1⟩ := kk v M1 hq T'.heap (locs ++ L') ls hl hP1 hM1 hS1 T' rfl X'
  exact ⟨t2, stp t2 a1, b1⟩
theorem v_callM {y : MethodName} {bytes : ByteArray} {maxL n d1 idx : Nat} {ret1 : Option FieldType} {As rest : List Value} {Q1 : Option Value → Mem → Prop} (h : Vc X ad b L xs) (hyc : RX10 = y.cls) (hco : Cond.code y bytes maxL ret1 ∈ lw_g) (hini : Cond.initialized y.cls ∈ lw_g) (hlk : Cond.methodLink R_law idx y ∈ lw_g) (hins : Cond.instanceMethod y ∈ lw_g) (hsel : Cond.selects y.cls y y ∈ lw_g)
    (hy : y.cls ≠ "java/lang/invoke/MethodHandle" ∧ y.cls ≠ "java/lang/invoke/VarHandle" ∧ (parseMethodDescriptor y.desc).map (fun d => d.parameters.length) = some n) (hR : d1 + 1 ≤ 9) (hR2 : 8 + (maxL + 11) + 40 * d1 ≤ 364) (hn : As.length = n) (hw : (rest.map fun v => v.category).sum ≤ 8) (hd : decode code pc = .ok (.invokevirtual idx, 3))
    (hC : Ct SM (kF X ad) y bytes maxL ret1 d1 (.ref (ad 0) :: As) MM Q1) (kk : ∀ (rv : Option Value) (M1 : Mem), Q1 rv M1 → V X ad Qf (pc + 3) lv (rv.toList ++ rest) MX M1) : V X ad Qf pc lv (As.reverse ++ .ref (ad 0) :: rest) MX MM := by
  intro H locs ls hl hP hM hS
  have hB := v_callB h hco hini hlk hy hR hR2
  obtain ⟨hx, hb, hml, hown, hts, hK, hI, hI2, hap, ha1, ha2, hsc, hbl⟩ := h
  have hs0 : SM.1[0]? = some ((0, 10, [none, some 1, some 2, some 3, some 4, some 5, none, none, none, some 6, some 7, some 8, some 9, some 10, some 11, none, some 12, some 13, none, some 14, some 15]) : SC) := rfl
  have hrec := va_recv hK hM (ci := 10) (q0 := 0) rfl (z_wd_at hs0)
  rw [show (RX10, TX10, 21).1 = y.cls from hyc] at hrec
  have hr := va_runV (locs := locs) (cells := 600000) (slots := 7302250) (below := X.2.2.2.2.2.2.1) (e := X.2.2.1) (meth := X.2.2.2.2.2.2.2.1) (g := F0 X.2.2.2.2.1 pc ls (As.reverse ++ .ref (ad 0) :: rest)) (As := As) (rest := rest) ⟨hx, hb, hml, hown, hts⟩ hC ⟨hB, hts _ hins, hts _ hsel⟩ ⟨z_blind, hrec, fun U hU hW => ⟨rfl, by rw [hU]; exact hM, va_K.moved hW.alike hK, hI2⟩⟩ rfl hn hl.1 rfl (lv_room hw) hd ⟨Nat.le_of_ble_eq_true rfl, Nat.le_of_ble_eq_true rfl⟩
  intro T hT Xs
  obtain ⟨v, st₀, t, T', L', h0, X', hL', e1, e2, ⟨⟨rv, M1, hv, hq, hB1⟩, hz, hk⟩, stp⟩ := hr T hT Xs
  cases hv
  rw [h0] at hz hk
  have hM1 : va_P X.1.2.2.1 zCl (z_wd SM (kF X ad) M1) T'.heap := by rw [e1]; exact hB1.1
  have hP1 : va_P X.1.2.2.1 zCl (z_wd SX X.1 MX) T'.heap := hP.kept (fun k q hk0 => by
    rw [e1]
    refine hk q.1 (hP k q hk0).lt (fun ⟨i, hi, ei⟩ => ?_)
    have hkl : k < 37 := by have := (List.getElem?_eq_some_iff.mp hk0).1; rw [z_wd_len] at this; exact this
    obtain ⟨sc, hsc2⟩ : ∃ sc, SX.1[k]? = some sc := ⟨_, List.getElem?_eq_getElem hkl⟩
    rw [z_wd_at hsc2] at hk0
    cases hk0
    exact hap k i hkl hi ei)
  have hS1 : va_S (fun q : Nat => X.2.2.2.1.heap.size ≤ q) X.2.2.2.1.heap T'.heap (locs ++ L') :=
    ⟨Nat.le_trans hS.1 (by rw [e1]; exact hz), fun q h1 h2 => by
      rw [e1, hk q (Nat.lt_of_lt_of_le h1 hS.1) (fun ⟨i, hi, ei⟩ => by have h9 : q = ad i := ei; have := ha2 i hi; omega)]
      exact hS.2.1 q h1 h2, fun q hq => by
      rcases List.mem_append.mp hq with h | h
      · exact hS.2.2 q h
      · obtain ⟨i, hi, ei⟩ := hL' q h
        show X.2.2.2.1.heap.size ≤ q.base
        rw [ei]; exact ha2 i hi⟩
  obtain ⟨t2, a1, b1⟩ := kk v M1 hq T'.heap (locs ++ L') ls hl hP1 hM1 hS1 T' rfl X'
  exact ⟨t2, stp t2 a1, b1⟩
end VRows
