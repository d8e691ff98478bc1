/-! constructors: a world that grows -/
def kr (d mc ms : Nat) : Room := { frames := d, cells := mc, slots := ms, locals := 40 * d }
def kq_O (U : State) : Prop := (Cond.arrayOver (.array .int)).before #[] U = true
def Yc (X : XT) (own : String) (cc : ByteArray) (nL : Nat) (A : Nat → Prop) : Prop :=
  X.2.1.tables.exec = Jvm.exec ∧ X.2.2.2.2.2.2.2.2.code = cc ∧ X.2.2.2.2.2.2.2.2.maxLocals = nL ∧ X.2.2.2.1.vm.findClass own = some X.2.2.2.2.1.cls ∧ (∀ w ∈ lw_g, w.before X.2.2.2.2.2.1 X.2.2.2.1 = true) ∧ va_K X.1.2.2.1 zCl (z_tys X.1) X.2.2.2.1 ∧ kq_O X.2.2.2.1 ∧ (∀ q, X.2.2.2.1.heap.size ≤ q → A q)
def Yi (X : XT) : Prop := X.2.2.2.2.2.2.2.1.locks = false ∧ X.2.2.2.2.2.2.2.1.sig.returnType = none ∧ X.2.2.2.2.2.2.2.1.name = "<init>"
def Y (X : XT) (A : Nat → Prop) (R : Room) (nL : Nat) (Qf : State → Prop) (pc : Nat) (lv : List (Nat × Value)) (st : List Value) (ws : va_W) (cells slots : Nat) : Prop :=
  ∀ (H : Heap) (locs : List Loc) (ls : Array Slot), lv_has ls nL lv → va_P X.1.2.2.1 zCl ws H → va_D A ws → va_S A X.2.2.2.1.heap H locs →
    W X.2.1 X.1.1 X.2.2.1 R X.2.2.2.1 X.2.2.2.2.1 X.2.2.2.2.2.1 X.2.2.2.2.2.2.1 X.2.2.2.2.2.2.2.1 X.2.2.2.2.2.2.2.2 H locs cells slots Qf (F0 X.2.2.2.2.1 pc ls st)
def kq_at (E : ET) (A : Nat → Prop) (ws : va_W) (t : State) : Prop := va_P E.2.2.1 zCl ws t.heap ∧ va_K E.2.2.1 zCl (z_tys E) t ∧ va_D A ws
def CtI (E : ET) (y : MethodName) (cc : ByteArray) (nL d mc ms : Nat) (av : List Value) (ws : va_W) (post : va_W → Prop) : Prop :=
  ∀ sz : Nat, Met E.1 y (Cond.code y cc nL none :: lw_g) (kr d mc ms) (va_Pc av (fun U => U.heap.size = sz ∧ va_P E.2.2.1 zCl ws U.heap ∧ va_K E.2.2.1 zCl (z_tys E) U ∧ va_D (fun _ => True) ws ∧ kq_O U)) (va_Qv post (kq_at E (va_A ws sz)) (va_A ws sz)) mc ms (va_A ws sz)
def YQ (X : XT) (A : Nat → Prop) (mc ms : Nat) (post : va_W → Prop) : State → Prop := MQ X.2.2.2.2.2.2.1 (va_Qv post (kq_at X.1 A) A) X.2.2.2.2.2.1 X.2.2.2.1 mc ms A
theorem y_entry {E : ET} {y : MethodName} {cc : ByteArray} {nL d mc ms : Nat} {av : List Value} {ws : va_W} {post : va_W → Prop} (hy : plainName y.cls = true) (hnm : y.name = "<init>") (hlen : (lg_sl av).length ≤ nL) (h : ∀ (X : XT) (A : Nat → Prop), X.1 = E → Yc X y.cls cc nL A → Yi X → Y X A (kr d mc ms) nL (YQ X A mc ms post) 0 (lv_args 0 av) [] ws 0 0) : CtI E y cc nL d mc ms av ws post := by
  intro sz
  refine Met.ofW (cc := cc) (maxL := nL) (ret := none) hy rfl ?_
  intro p e s m args below meth c s₁ B hml hv
  obtain ⟨rfl, hsz, hP, hK, hD0, hO⟩ := hv
  subst hsz
  have hts := atoms_spec (ws := Cond.code y cc nL none :: lw_g) B.pre
  have hin : meth.name = y.name := (name_of_methodNamed B.named B.method).1
  have hz := h (E, p, e, s, m, av.toArray, below, meth, c) (va_A ws s.heap.size) rfl ⟨B.exec, B.bytes, hml, findClass_of_methodNamed B.named, fun w hw => hts w (List.mem_cons_of_mem _ hw), hK, hO, fun q hq => Or.inr hq⟩ ⟨B.notSynchronized, B.returns, hin.trans hnm⟩
  rw [lg_entry_eq]
  exact hz s.heap [] _ (lv_entry av hlen) hP hD0.self va_S.rf
section YRows
variable {X : XT} {own : String} {cc : ByteArray} {nL pc cells slots : Nat} {A : Nat → Prop} {R : Room} {Qf : State → Prop} {lv lv' : List (Nat × Value)} {st : List Value} {ws : va_W}
theorem y_iconst (hX : Yc X own cc nL A) {n : Int} {v : Int32} (hd : decode cc pc = .ok (.iconst n, 1)) (hv : Int32.ofInt n = v) (k : Y X A R nL Qf (pc + 1) lv (.int v :: st) ws cells slots) : Y X A R nL Qf pc lv st ws cells slots :=
  fun H locs ls hl hP hD hS => lv_iconst hX.1 hX.2.1 hd hv (k H locs ls hl hP hD hS)
theorem y_bipush (hX : Yc X own cc nL A) {n : Int} {v : Int32} (hd : decode cc pc = .ok (.bipush n, 2)) (hv : (Int8.ofInt n).toInt32 = v) (k : Y X A R nL Qf (pc + 2) lv (.int v :: st) ws cells slots) : Y X A R nL Qf pc lv st ws cells slots :=
  fun H locs ls hl hP hD hS => lv_bipush hX.1 hX.2.1 hd hv (k H locs ls hl hP hD hS)
theorem y_sipush (hX : Yc X own cc nL A) {n : Int} {v : Int32} (hd : decode cc pc = .ok (.sipush n, 3)) (hv : (Int16.ofInt n).toInt32 = v) (k : Y X A R nL Qf (pc + 3) lv (.int v :: st) ws cells slots) : Y X A R nL Qf pc lv st ws cells slots :=
  fun H locs ls hl hP hD hS => lv_sipush hX.1 hX.2.1 hd hv (k H locs ls hl hP hD hS)
theorem y_aload_n (hX : Yc X own cc nL A) {n : Fin 4} {i : Nat} {x : Nat} (hd : decode cc pc = .ok (.aload_n n, 1)) (hi : (n : Nat) = i) (q : Nat) (hq : lv[q]? = some (i, .ref x)) (k : Y X A R nL Qf (pc + 1) lv (.ref x :: st) ws cells slots) : Y X A R nL Qf pc lv st ws cells slots :=
  fun H locs ls hl hP hD hS => lv_aload_n hX.1 hX.2.1 hd hi (lv_at hl q hq) (k H locs ls hl hP hD hS)
theorem y_astore_n (hX : Yc X own cc nL A) {n : Fin 4} {i : Nat} {x : Nat} (hd : decode cc pc = .ok (.astore_n n, 1)) (hi : (n : Nat) = i) (hn : i < nL) (lv' : List (Nat × Value)) (hl' : (i, Value.ref x) :: lv.filter (fun q => !(q.1 == i) && !(q.1 + 1 == i && q.2.category == 2)) = lv') (k : Y X A R nL Qf (pc + 1) lv' st ws cells slots) : Y X A R nL Qf pc lv (.ref x :: st) ws cells slots :=
  fun H locs ls hl hP hD hS => lv_astore_n hX.1 hX.2.1 hd hi hl hn hl' (fun ls2 hl2 => k H locs ls2 hl2 hP hD hS)
theorem y_istore_n (hX : Yc X own cc nL A) {n : Fin 4} {i : Nat} {x : Int32} (hd : decode cc pc = .ok (.istore_n n, 1)) (hi : (n : Nat) = i) (hn : i < nL) (lv' : List (Nat × Value)) (hl' : (i, Value.int x) :: lv.filter (fun q => !(q.1 == i) && !(q.1 + 1 == i && q.2.category == 2)) = lv') (k : Y X A R nL Qf (pc + 1) lv' st ws cells slots) : Y X A R nL Qf pc lv (.int x :: st) ws cells slots :=
  fun H locs ls hl hP hD hS => lv_istore_n hX.1 hX.2.1 hd hi hl hn hl' (fun ls2 hl2 => k H locs ls2 hl2 hP hD hS)
theorem y_dup (hX : Yc X own cc nL A) {a : Nat} (hd : decode cc pc = .ok (.dup, 1)) (k : Y X A R nL Qf (pc + 1) lv (.ref a :: .ref a :: st) ws cells slots) : Y X A R nL Qf pc lv (.ref a :: st) ws cells slots :=
  fun H locs ls hl hP hD hS => lv_dup hX.1 hX.2.1 hd rfl (k H locs ls hl hP hD hS)
theorem y_widen {c1 s1 : Nat} (hc : cells ≤ c1) (hs : slots ≤ s1) (k : Y X A R nL Qf pc lv st ws c1 s1) : Y X A R nL Qf pc lv st ws cells slots :=
  fun H locs ls hl hP hD hS => W.widen (k := c1) (n := s1) hc hs (k H locs ls hl hP hD hS)
theorem y_obj {d mc ms : Nat} (hX : Yc X own cc nL A) {idx a : Nat} (hd1 : 1 ≤ d) (hlk : Cond.methodLink own idx objectInit ∈ lw_g) (hins : Cond.instanceMethod objectInit ∈ lw_g) (hco : Cond.code objectInit ⟨#[0xb1]⟩ 1 none ∈ lw_g) (hst : (st.map fun v => v.category).sum ≤ 8) (hd : decode cc pc = .ok (.invokespecial idx, 3)) (k : Y X A (kr d mc ms) nL Qf (pc + 3) lv st ws cells slots) : Y X A (kr d mc ms) nL Qf pc lv (.ref a :: st) ws cells slots := by
  intro H locs ls hl hP hD hS
  refine W.objInit hX.1 hX.2.1 hX.2.2.2.1 (hX.2.2.2.2.1 _ hlk) (hX.2.2.2.2.1 _ hins) (hX.2.2.2.2.1 _ hco) rfl (by rw [hX.2.2.1]; exact hl.1) rfl hd hd1 ?_ ?_
  · show _ ≤ 40 * d
    have h0 : (F0 X.2.2.2.2.1 pc ls (Value.ref a :: st)).monitorRoom = 0 := rfl
    omega
  · exact k H locs ls hl hP hD hS
theorem y_newI (hX : Yc X own cc nL A) {n : Int32} {N : Nat} (hw : Cond.arrayClass .int ∈ lw_g) (hd : decode cc pc = .ok (.newarray .int, 2)) (hn : ¬ n < 0) (hN : n.toNatClampNeg = N) (hb : N * 4 ≤ 536870912) (hc : cells + 1 ≤ R.cells) (hs : slots + N ≤ R.slots) (k : ∀ q, Y X A R nL Qf (pc + 2) lv (.ref q :: st) (ws ++ [(q, .inl (X.1.2.2.2.1, N, .inl (fun _ => 0)))]) (cells + 1) (slots + N)) : Y X A R nL Qf pc lv (.int n :: st) ws cells slots := by
  intro H locs ls hl hP hD hS
  refine va_newa (atype := .int) (ty := .int) (a0 := (N, .inl (fun _ => 0))) hX.1 hX.2.1 (hX.2.2.2.2.1 _ hw) rfl hX.2.2.2.2.2.1 hP hD hS hX.2.2.2.2.2.2.2 (fun cA => vp_cell_i cA N (fun _ => 0)) hn hN hb hc hs hd (fun q cA H1 hK1 hP1 hD1 hS1 => ?_)
  have h1 := (hK1.2 3 _ rfl).2
  have h2 := (hX.2.2.2.2.2.1.2 0 _ rfl).2
  have e : cA = X.1.2.2.2.1 := Option.some.inj (h1.symm.trans h2)
  subst e
  exact k q H1 locs ls hl hP1 hD1 hS1
theorem y_newJ (hX : Yc X own cc nL A) {n : Int32} {N : Nat} (hw : Cond.arrayClass .long ∈ lw_g) (hd : decode cc pc = .ok (.newarray .long, 2)) (hn : ¬ n < 0) (hN : n.toNatClampNeg = N) (hb : N * 8 ≤ 536870912) (hc : cells + 1 ≤ R.cells) (hs : slots + N ≤ R.slots) (k : ∀ q, Y X A R nL Qf (pc + 2) lv (.ref q :: st) (ws ++ [(q, .inl (X.1.2.2.2.2.1, N, .inr (.inl (fun _ => 0))))]) (cells + 1) (slots + N)) : Y X A R nL Qf pc lv (.int n :: st) ws cells slots := by
  intro H locs ls hl hP hD hS
  refine va_newa (atype := .long) (ty := .long) (a0 := (N, .inr (.inl (fun _ => 0)))) hX.1 hX.2.1 (hX.2.2.2.2.1 _ hw) rfl hX.2.2.2.2.2.1 hP hD hS hX.2.2.2.2.2.2.2 (fun cA => vp_cell_l cA N (fun _ => 0)) hn hN hb hc hs hd (fun q cA H1 hK1 hP1 hD1 hS1 => ?_)
  have h1 := (hK1.2 3 _ rfl).2
  have h2 := (hX.2.2.2.2.2.1.2 1 _ rfl).2
  have e : cA = X.1.2.2.2.2.1 := Option.some.inj (h1.symm.trans h2)
  subst e
  exact k q H1 locs ls hl hP1 hD1 hS1
theorem y_putF (hX : Yc X own cc nL A) (hi : Yi X) {idx : Nat} {v : Value} {a : Nat} (q0 f : Nat) {ci N : Nat} {C : String} {T : u_T} {fs : List Value} (ty0 : Nat → FieldType) (hty : ∀ k, k < N → parseFieldDescriptor (T k).2.2.1 = some (ty0 k)) (hnm : ∀ a, a < N → ∀ b, b < N → a ≠ b → (T a).2.1 ≠ (T b).2.1) (he : ws[q0]? = some (a, .inr (ci, fs))) (hc : zCl[ci]? = some (C, T, N)) (hin : ∀ w ∈ u_ws C T N, w ∈ lw_g) (hf : f < N) (hlk : Cond.fieldLink own idx (T f).1 (T f).2.1 (T f).2.2.1 ∈ lw_g) (hfin : (T f).2.2.2 = true) (hdecl : (T f).1 = own) (hn : narrow (ty0 f) v = v) (hfit : fits (ty0 f) v = true) (hl0 : f < fs.length) (hd : decode cc pc = .ok (.putfield idx, 3)) (ws' : va_W) (hws : ws.set q0 (a, .inr (ci, fs.set f v)) = ws') (k : Y X A R nL Qf (pc + 3) lv st ws' cells slots) : Y X A R nL Qf pc lv (v :: .ref a :: st) ws cells slots := by
  intro H locs ls hl hP hD hS
  refine va_putF (ci := ci) (v := v) (ty := ty0 f) hX.1 hX.2.1 hX.2.2.2.2.1 hin ty0 hty hnm hX.2.2.2.1 hX.2.2.2.2.2.1 hP hD hS q0 he hc f hf (hX.2.2.2.2.1 _ hlk) (fun _ h9 => h9) hfin hi.2.2 hdecl (hty f hf) hn hfit hl0 hd (fun H1 locs1 hP1 hD1 hS1 => ?_)
  subst hws
  exact k H1 locs1 ls hl hP1 hD1 hS1
theorem y_put (hX : Yc X own cc nL A) {idx : Nat} {v : Value} {a : Nat} (q0 f : Nat) {ci N : Nat} {C : String} {T : u_T} {fs : List Value} (ty0 : Nat → FieldType) (hty : ∀ k, k < N → parseFieldDescriptor (T k).2.2.1 = some (ty0 k)) (hnm : ∀ a, a < N → ∀ b, b < N → a ≠ b → (T a).2.1 ≠ (T b).2.1) (he : ws[q0]? = some (a, .inr (ci, fs))) (hc : zCl[ci]? = some (C, T, N)) (hin : ∀ w ∈ u_ws C T N, w ∈ lw_g) (hf : f < N) (hlk : Cond.fieldLink own idx (T f).1 (T f).2.1 (T f).2.2.1 ∈ lw_g) (hfin : (T f).2.2.2 = false) (hn : narrow (ty0 f) v = v) (hfit : fits (ty0 f) v = true) (hl0 : f < fs.length) (hd : decode cc pc = .ok (.putfield idx, 3)) (ws' : va_W) (hws : ws.set q0 (a, .inr (ci, fs.set f v)) = ws') (k : Y X A R nL Qf (pc + 3) lv st ws' cells slots) : Y X A R nL Qf pc lv (v :: .ref a :: st) ws cells slots := by
  intro H locs ls hl hP hD hS
  refine va_put (ci := ci) (v := v) (ty := ty0 f) hX.1 hX.2.1 hX.2.2.2.2.1 hin ty0 hty hnm hX.2.2.2.1 hX.2.2.2.2.2.1 hP hD hS q0 he hc f hf (hX.2.2.2.2.1 _ hlk) (fun _ h9 => h9) hfin (hty f hf) hn hfit hl0 hd (fun H1 locs1 hP1 hD1 hS1 => ?_)
  subst hws
  exact k H1 locs1 ls hl hP1 hD1 hS1
theorem y_get (hX : Yc X own cc nL A) {idx : Nat} {v : Value} {a : Nat} (q0 f : Nat) {ci N : Nat} {C : String} {T : u_T} {fs : List Value} (he : ws[q0]? = some (a, .inr (ci, fs))) (hc : zCl[ci]? = some (C, T, N)) (hin : ∀ w ∈ u_ws C T N, w ∈ lw_g) (hf : f < N) (hv : fs[f]? = some v) (hlk : Cond.fieldLink own idx (T f).1 (T f).2.1 (T f).2.2.1 ∈ lw_g) (hd : decode cc pc = .ok (.getfield idx, 3)) (k : Y X A R nL Qf (pc + 3) lv (v :: st) ws cells slots) : Y X A R nL Qf pc lv (.ref a :: st) ws cells slots :=
  fun H locs ls hl hP hD hS => va_get (ci := ci) hX.1 hX.2.1 hX.2.2.2.2.1 hin hX.2.2.2.1 hX.2.2.2.2.2.1 hP q0 he hc f hf (hX.2.2.2.2.1 _ hlk) (fun _ h9 => h9) hv hd (k H locs ls hl hP hD hS)
theorem y_new (hX : Yc X own cc nL A) {idx : Nat} {ci N : Nat} {C : String} {T : u_T} (fs : List Value) (ty0 : Nat → FieldType) (hty : ∀ k, k < N → parseFieldDescriptor (T k).2.2.1 = some (ty0 k)) (hc : zCl[ci]? = some (C, T, N)) (hin : ∀ w ∈ u_ws C T N, w ∈ lw_g) (hcl : Cond.classLink own idx C ∈ lw_g) (hinst : Cond.instantiable C N ∈ lw_g) (hini : Cond.initialized C ∈ lw_g) (hfs : ∀ j, j < N → defaultValue (ty0 j) = vp_V fs j) (hc1 : cells + 1 ≤ R.cells) (hs1 : slots + N ≤ R.slots) (hd : decode cc pc = .ok (.new idx, 3)) (k : ∀ q, Y X A R nL Qf (pc + 3) lv (.ref q :: st) (ws ++ [(q, .inr (ci, fs))]) (cells + 1) (slots + N)) : Y X A R nL Qf pc lv st ws cells slots :=
  fun H locs ls hl hP hD hS => va_new (ci := ci) (fs := fs) hX.1 hX.2.1 hX.2.2.2.2.1 hin ty0 hty hX.2.2.2.1 (hX.2.2.2.2.1 _ hcl) (hX.2.2.2.2.1 _ hinst) (hX.2.2.2.2.1 _ hini) hX.2.2.2.2.2.1 hP hD hS hX.2.2.2.2.2.2.2 hc hfs hc1 hs1 hd (fun q H1 hP1 hD1 hS1 => k q H1 locs ls hl hP1 hD1 hS1)
theorem y_ret {mc ms : Nat} {post : va_W → Prop} (hX : Yc X own cc nL A) (hi : Yi X) (hd : decode cc pc = .ok (.return_, 1)) (hp : post ws) : Y X A R nL (YQ X A mc ms post) pc lv [] ws mc ms :=
  fun H locs ls hl hP hD hS => W.vret hX.1 hX.2.1 hi.2.1 (fun t ht hW => ⟨⟨ws, rfl, hp, by rw [ht]; exact hP, va_K.moved hW.alike hX.2.2.2.2.2.1, hD⟩, hS.F ht⟩) hS.2.2 hd hi.1
end YRows
