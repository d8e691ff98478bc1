/-! A system of cells of a fixed shape: its memory (ints by cell and place, longs by cell and place), the kit's world of it, a walk's judgement Z over it, a row an instruction. -/
def lw_g : List Cond := lw_tbl.filter goodWord
theorem z_w {w : Cond} (h : w ∈ lw_tbl) (hg : goodWord w = true) : w ∈ lw_g := List.mem_filter.mpr ⟨h, hg⟩
theorem lw_good : lw_g.all goodWord = true := List.all_eq_true.mpr (fun w h => (List.mem_filter.mp h).2)
abbrev Mem : Type := (Nat → Nat → Int32) × (Nat → Nat → Int64)
def z_st (M : Mem) (k j : Nat) (v : Int32) : Mem := (va_up M.1 k (upd (M.1 k) j v), M.2)
def z_sl (M : Mem) (k j : Nat) (v : Int64) : Mem := (M.1, va_up M.2 k (vp_updL (M.2 k) j v))
abbrev SC : Type := Nat × Nat × List (Option Nat)
abbrev ST : Type := List SC × List vw_C
abbrev ET : Type := Launch × (Nat → Nat) × va_G × ClassId × ClassId × ClassId
def z_fv (ad : Nat → Nat) (M : Mem) (k : Nat) (j : Nat) (o : Option Nat) : Value := match o with
  | none => Value.int (M.1 k j)
  | some r => Value.ref (ad r)
def z_fs (ad : Nat → Nat) (M : Mem) (k : Nat) (rs : List (Option Nat)) : List Value := rs.mapIdx (z_fv ad M k)
def z_cell (E : ET) (M : Mem) (k : Nat) (sc : SC) : va_E := match sc.1 with
  | 0 => .inr (sc.2.1, z_fs E.2.1 M k sc.2.2)
  | 1 => .inl (E.2.2.2.1, sc.2.1, .inl (M.1 k))
  | 2 => .inl (E.2.2.2.2.1, sc.2.1, .inr (.inl (M.2 k)))
  | _ => .inl (E.2.2.2.2.2, sc.2.1, .inr (.inr (.inr (.inr (fun i => (sc.2.2[i]?).join.map E.2.1)))))
def z_wd (S : ST) (E : ET) (M : Mem) : va_W := S.1.mapIdx (fun k sc => (E.2.1 k, z_cell E M k sc))
def z_A (S : ST) (E : ET) : Nat → Prop := fun q => ∃ k, k < S.1.length ∧ q = E.2.1 k
def z_tys (E : ET) : List (ClassId × FieldType) := [(E.2.2.2.1, .int), (E.2.2.2.2.1, .long), (E.2.2.2.2.2, .array .int)]
def z_I (S : ST) (E : ET) : Prop := ∀ i j, i < S.1.length → j < S.1.length → E.2.1 i = E.2.1 j → i = j
def z_B (S : ST) (E : ET) (M : Mem) (U : State) : Prop := va_P E.2.2.1 S.2 (z_wd S E M) U.heap ∧ va_K E.2.2.1 S.2 (z_tys E) U ∧ z_I S E
def z_QQ (S : ST) (E : ET) (Q : Option Value → Mem → Prop) : Array Value → State → Outcome → State → Prop := fun _ st o t => (∃ (rv : Option Value) (M1 : Mem), o = .returned rv ∧ Q rv M1 ∧ z_B S E M1 t) ∧ va_F (z_A S E) st t
def z_rm (d : Nat) : Room := { frames := d, cells := 0, slots := 0, locals := 40 * d }
def z_is (rv : Option Value) (M1 : Mem) : Option Value → Mem → Prop := fun a b => a = rv ∧ b = M1
/-- the contract of a method over a system: called with av at the memory M it returns, with Q of its answer and the memory then; nothing but the system's cells is changed -/
def Ct (S : ST) (E : ET) (y : MethodName) (cc : ByteArray) (nL : Nat) (ret : Option FieldType) (d : Nat) (av : List Value) (M : Mem) (Q : Option Value → Mem → Prop) : Prop :=
  Met E.1 y (Cond.code y cc nL ret :: lw_g) (z_rm d) (va_Pc av (z_B S E M)) (z_QQ S E Q) 0 0 (z_A S E)
abbrev XT : Type := ET × Program × Env × State × MethodId × Array Value × List Frame × Method × Code
def Cx (S : ST) (X : XT) (own : String) (cc : ByteArray) (nL : Nat) (ret : Option FieldType) : Prop :=
  X.2.1.tables.exec = Jvm.exec ∧ X.2.2.2.2.2.2.2.2.code = cc ∧ X.2.2.2.2.2.2.2.2.maxLocals = nL ∧ X.2.2.2.1.vm.findClass own = some X.2.2.2.2.1.cls ∧ (∀ w ∈ lw_g, w.before X.2.2.2.2.2.1 X.2.2.2.1 = true) ∧ va_K X.1.2.2.1 S.2 (z_tys X.1) X.2.2.2.1 ∧ z_I S X.1 ∧ X.2.2.2.2.2.2.2.1.locks = false ∧ X.2.2.2.2.2.2.2.1.sig.returnType = ret
def Z (S : ST) (X : XT) (d nL : Nat) (Q : Option Value → Mem → Prop) (pc : Nat) (lv : List (Nat × Value)) (st : List Value) (M : Mem) : Prop :=
  ∀ (H : Heap) (locs : List Loc) (ls : Array Slot), lv_has ls nL lv → va_P X.1.2.2.1 S.2 (z_wd S X.1 M) H → va_S (z_A S X.1) X.2.2.2.1.heap H locs →
    W X.2.1 X.1.1 X.2.2.1 (z_rm d) X.2.2.2.1 X.2.2.2.2.1 X.2.2.2.2.2.1 X.2.2.2.2.2.2.1 X.2.2.2.2.2.2.2.1 X.2.2.2.2.2.2.2.2 H locs 0 0 (MQ X.2.2.2.2.2.2.1 (z_QQ S X.1 Q) X.2.2.2.2.2.1 X.2.2.2.1 0 0 (z_A S X.1)) (F0 X.2.2.2.2.1 pc ls st)
theorem z_wd_at {S : ST} {E : ET} {M : Mem} {k : Nat} {sc : SC} (h : S.1[k]? = some sc) : (z_wd S E M)[k]? = some (E.2.1 k, z_cell E M k sc) := by
  unfold z_wd
  rw [List.getElem?_mapIdx, h]
  rfl
theorem z_wd_len {S : ST} {E : ET} {M : Mem} : (z_wd S E M).length = S.1.length := by
  unfold z_wd
  rw [List.length_mapIdx]
theorem z_D {S : ST} {E : ET} (hI : z_I S E) (M : Mem) : va_D (z_A S E) (z_wd S E M) := by
  have key : ∀ (k : Nat) (q : Nat × va_E), (z_wd S E M)[k]? = some q → k < S.1.length ∧ q.1 = E.2.1 k := by
    intro k q h
    have hl : k < (z_wd S E M).length := (List.getElem?_eq_some_iff.mp h).1
    rw [z_wd_len] at hl
    obtain ⟨sc, hsc⟩ : ∃ sc, S.1[k]? = some sc := ⟨S.1[k], List.getElem?_eq_getElem hl⟩
    rw [z_wd_at hsc] at h
    cases h
    exact ⟨hl, rfl⟩
  refine ⟨fun i j p q hi hj e => ?_, fun k q h => ?_⟩
  · obtain ⟨a1, a2⟩ := key i p hi
    obtain ⟨b1, b2⟩ := key j q hj
    exact hI i j a1 b1 (by rw [← a2, ← b2, e])
  · obtain ⟨a1, a2⟩ := key k q h
    exact ⟨k, a1, a2⟩
theorem z_fs_at {ad : Nat → Nat} {M : Mem} {k f : Nat} {rs : List (Option Nat)} {o : Option Nat} (h : rs[f]? = some o) : (z_fs ad M k rs)[f]? = some (z_fv ad M k f o) := by
  unfold z_fs
  rw [List.getElem?_mapIdx, h]
  rfl
theorem z_cell_other {E : ET} {M M1 : Mem} {k : Nat} {sc : SC} (h1 : M1.1 k = M.1 k) (h2 : M1.2 k = M.2 k) : z_cell E M1 k sc = z_cell E M k sc := by
  have hf : z_fv E.2.1 M1 k = z_fv E.2.1 M k := by
    funext j o
    cases o with
    | none => show Value.int (M1.1 k j) = Value.int (M.1 k j); rw [h1]
    | some r => rfl
  have hfs : z_fs E.2.1 M1 k sc.2.2 = z_fs E.2.1 M k sc.2.2 := by unfold z_fs; rw [hf]
  unfold z_cell
  rw [h1, h2, hfs]
/-- one cell changed: the world with that cell put anew is the world of the new memory -/
theorem z_wd_set {S : ST} {E : ET} {M M1 : Mem} {k : Nat} {sc : SC} (h : S.1[k]? = some sc) (hn : ∀ j, j ≠ k → M1.1 j = M.1 j ∧ M1.2 j = M.2 j) : (z_wd S E M).set k (E.2.1 k, z_cell E M1 k sc) = z_wd S E M1 := by
  apply List.ext_getElem?
  intro i
  rw [List.getElem?_set]
  by_cases hi : k = i
  · subst hi
    rw [if_pos rfl, z_wd_len, if_pos (List.getElem?_eq_some_iff.mp h).1, z_wd_at h]
  · rw [if_neg hi]
    cases hs : S.1[i]? with
    | none =>
      have e1 : (z_wd S E M)[i]? = none := by
        rw [List.getElem?_eq_none_iff, z_wd_len]; exact List.getElem?_eq_none_iff.mp hs
      have e2 : (z_wd S E M1)[i]? = none := by
        rw [List.getElem?_eq_none_iff, z_wd_len]; exact List.getElem?_eq_none_iff.mp hs
      rw [e1, e2]
    | some sc' =>
      rw [z_wd_at hs, z_wd_at hs]
      have := hn i (fun e => hi e.symm)
      rw [z_cell_other this.1 this.2]
theorem z_st_ne {M : Mem} {k j : Nat} {v : Int32} : ∀ i, i ≠ k → (z_st M k j v).1 i = M.1 i ∧ (z_st M k j v).2 i = M.2 i := fun i hi => ⟨if_neg hi, rfl⟩
theorem z_sl_ne {M : Mem} {k j : Nat} {v : Int64} : ∀ i, i ≠ k → (z_sl M k j v).1 i = M.1 i ∧ (z_sl M k j v).2 i = M.2 i := fun i hi => ⟨rfl, if_neg hi⟩
theorem z_st_at (M : Mem) (k j : Nat) (v : Int32) : (z_st M k j v).1 k = upd (M.1 k) j v := if_pos rfl
theorem z_sl_at (M : Mem) (k j : Nat) (v : Int64) : (z_sl M k j v).2 k = vp_updL (M.2 k) j v := if_pos rfl
theorem z_fs_set {ad : Nat → Nat} {M : Mem} {k f : Nat} {rs : List (Option Nat)} {v : Int32} (h : rs[f]? = some none) : (z_fs ad M k rs).set f (.int v) = z_fs ad (z_st M k f v) k rs := by
  apply List.ext_getElem?
  intro i
  have hl : f < rs.length := (List.getElem?_eq_some_iff.mp h).1
  rw [List.getElem?_set]
  by_cases hi : f = i
  · subst hi
    rw [if_pos rfl]
    have : f < (z_fs ad M k rs).length := by unfold z_fs; rw [List.length_mapIdx]; exact hl
    rw [if_pos this, z_fs_at h]
    show some (Value.int v) = some (Value.int ((z_st M k f v).1 k f))
    rw [z_st_at]
    simp [upd]
  · rw [if_neg hi]
    unfold z_fs
    rw [List.getElem?_mapIdx, List.getElem?_mapIdx]
    cases hr : rs[i]? with
    | none => rfl
    | some o =>
      cases o with
      | some r => rfl
      | none =>
        show some (Value.int (M.1 k i)) = some (Value.int ((z_st M k f v).1 k i))
        rw [z_st_at]
        simp [upd, show ¬ i = f from fun e => hi e.symm]
theorem z_entry {S : ST} {E : ET} {y : MethodName} {cc : ByteArray} {nL : Nat} {ret : Option FieldType} {d : Nat} {av : List Value} {M : Mem} {Q : Option Value → Mem → Prop} (hy : plainName y.cls = true) (hlen : (lg_sl av).length ≤ nL) (h : ∀ X : XT, X.1 = E → Cx S X y.cls cc nL ret → Z S X d nL Q 0 (lv_args 0 av) [] M) : Ct S E y cc nL ret d av M Q := by
  refine Met.ofW (cc := cc) (maxL := nL) (ret := ret) hy rfl ?_
  intro p e s m args below meth c s₁ B hml hv
  obtain ⟨rfl, hP, hK, hI⟩ := hv
  have hts := atoms_spec (ws := Cond.code y cc nL ret :: lw_g) B.pre
  have hz := h (E, p, e, s, m, av.toArray, below, meth, c) rfl ⟨B.exec, B.bytes, hml, findClass_of_methodNamed B.named, fun w hw => hts w (List.mem_cons_of_mem _ hw), hK, hI, B.notSynchronized, B.returns⟩
  rw [lg_entry_eq]
  exact hz s.heap [] _ (lv_entry av hlen) hP va_S.rf
section ZRows
variable {S : ST} {X : XT} {own : String} {cc : ByteArray} {nL d pc : Nat} {ret : Option FieldType} {Q : Option Value → Mem → Prop} {lv lv' : List (Nat × Value)} {st : List Value} {M : Mem}
theorem z_sub (ks : List Nat) (hk : lv_pick lv ks = lv') (k : Z S X d nL Q pc lv' st M) : Z S X d nL Q pc lv st M :=
  fun H locs ls hl hP hS => k H locs ls (lv_sub hl ks hk) hP hS
theorem z_iconst (hX : Cx S X own cc nL ret) {n : Int} {v : Int32} (hd : decode cc pc = .ok (.iconst n, 1)) (hv : Int32.ofInt n = v) (k : Z S X d nL Q (pc + 1) lv (.int v :: st) M) : Z S X d nL Q pc lv (st) M :=
  fun H locs ls hl hP hS => lv_iconst hX.1 hX.2.1 hd hv (k H locs ls hl hP hS)
theorem z_bipush (hX : Cx S X own cc nL ret) {n : Int} {v : Int32} (hd : decode cc pc = .ok (.bipush n, 2)) (hv : (Int8.ofInt n).toInt32 = v) (k : Z S X d nL Q (pc + 2) lv (.int v :: st) M) : Z S X d nL Q pc lv (st) M :=
  fun H locs ls hl hP hS => lv_bipush hX.1 hX.2.1 hd hv (k H locs ls hl hP hS)
theorem z_sipush (hX : Cx S X own cc nL ret) {n : Int} {v : Int32} (hd : decode cc pc = .ok (.sipush n, 3)) (hv : (Int16.ofInt n).toInt32 = v) (k : Z S X d nL Q (pc + 3) lv (.int v :: st) M) : Z S X d nL Q pc lv (st) M :=
  fun H locs ls hl hP hS => lv_sipush hX.1 hX.2.1 hd hv (k H locs ls hl hP hS)
theorem z_lconst (hX : Cx S X own cc nL ret) {n : Fin 2} {v : Int64} (hd : decode cc pc = .ok (.lconst n, 1)) (hv : Int64.ofNat (n : Nat) = v) (k : Z S X d nL Q (pc + 1) lv (.long v :: st) M) : Z S X d nL Q pc lv (st) M :=
  fun H locs ls hl hP hS => lv_lconst hX.1 hX.2.1 hd hv (k H locs ls hl hP hS)
theorem z_ldc2 (hX : Cx S X own cc nL ret) {index : Nat} {v : Int64} (hd : decode cc pc = .ok (.ldc2_w index, 3)) (hw : Cond.constantLong own index v ∈ lw_g) (k : Z S X d nL Q (pc + 3) lv (.long v :: st) M) : Z S X d nL Q pc lv (st) M :=
  fun H locs ls hl hP hS => lv_ldc2 hX.1 hX.2.1 hX.2.2.2.1 (hX.2.2.2.2.1 _ hw) hd (k H locs ls hl hP hS)
theorem z_ldcw (hX : Cx S X own cc nL ret) {index : Nat} {v : Int32} (hd : decode cc pc = .ok (.ldc_w index, 3)) (hw : Cond.constant own index v ∈ lw_g) (k : Z S X d nL Q (pc + 3) lv (.int v :: st) M) : Z S X d nL Q pc lv (st) M :=
  fun H locs ls hl hP hS => lv_ldcw hX.1 hX.2.1 hX.2.2.2.1 (hX.2.2.2.2.1 _ hw) hd (k H locs ls hl hP hS)
theorem z_iload (hX : Cx S X own cc nL ret) {i : Nat} {x : Int32} (hd : decode cc pc = .ok (.iload i, 2)) (q : Nat) (hq : lv[q]? = some (i, .int x)) (k : Z S X d nL Q (pc + 2) lv (.int x :: st) M) : Z S X d nL Q pc lv (st) M :=
  fun H locs ls hl hP hS => lv_iload hX.1 hX.2.1 hd (lv_at hl q hq) (k H locs ls hl hP hS)
theorem z_iload_n (hX : Cx S X own cc nL ret) {n : Fin 4} {i : Nat} {x : Int32} (hd : decode cc pc = .ok (.iload_n n, 1)) (hi : (n : Nat) = i) (q : Nat) (hq : lv[q]? = some (i, .int x)) (k : Z S X d nL Q (pc + 1) lv (.int x :: st) M) : Z S X d nL Q pc lv (st) M :=
  fun H locs ls hl hP hS => lv_iload_n hX.1 hX.2.1 hd hi (lv_at hl q hq) (k H locs ls hl hP hS)
theorem z_lload (hX : Cx S X own cc nL ret) {i : Nat} {x : Int64} (hd : decode cc pc = .ok (.lload i, 2)) (q : Nat) (hq : lv[q]? = some (i, .long x)) (k : Z S X d nL Q (pc + 2) lv (.long x :: st) M) : Z S X d nL Q pc lv (st) M :=
  fun H locs ls hl hP hS => lv_lload hX.1 hX.2.1 hd (lv_at hl q hq) (k H locs ls hl hP hS)
theorem z_lload_n (hX : Cx S X own cc nL ret) {n : Fin 4} {i : Nat} {x : Int64} (hd : decode cc pc = .ok (.lload_n n, 1)) (hi : (n : Nat) = i) (q : Nat) (hq : lv[q]? = some (i, .long x)) (k : Z S X d nL Q (pc + 1) lv (.long x :: st) M) : Z S X d nL Q pc lv (st) M :=
  fun H locs ls hl hP hS => lv_lload_n hX.1 hX.2.1 hd hi (lv_at hl q hq) (k H locs ls hl hP hS)
theorem z_aload (hX : Cx S X own cc nL ret) {i : Nat} {x : Nat} (hd : decode cc pc = .ok (.aload i, 2)) (q : Nat) (hq : lv[q]? = some (i, .ref x)) (k : Z S X d nL Q (pc + 2) lv (.ref x :: st) M) : Z S X d nL Q pc lv (st) M :=
  fun H locs ls hl hP hS => lv_aload hX.1 hX.2.1 hd (lv_at hl q hq) (k H locs ls hl hP hS)
theorem z_aload_n (hX : Cx S X own cc nL ret) {n : Fin 4} {i : Nat} {x : Nat} (hd : decode cc pc = .ok (.aload_n n, 1)) (hi : (n : Nat) = i) (q : Nat) (hq : lv[q]? = some (i, .ref x)) (k : Z S X d nL Q (pc + 1) lv (.ref x :: st) M) : Z S X d nL Q pc lv (st) M :=
  fun H locs ls hl hP hS => lv_aload_n hX.1 hX.2.1 hd hi (lv_at hl q hq) (k H locs ls hl hP hS)
theorem z_istore (hX : Cx S X own cc nL ret) {i : Nat} {x : Int32} (hd : decode cc pc = .ok (.istore i, 2)) (hn : i < nL) (lv' : List (Nat × Value)) (hl' : (i, Value.int x) :: lv.filter (fun q => !(q.1 == i) && !(q.1 + 1 == i && q.2.category == 2)) = lv') (k : Z S X d nL Q (pc + 2) lv' st M) : Z S X d nL Q pc lv (Value.int x :: st) M :=
  fun H locs ls hl hP hS => lv_istore hX.1 hX.2.1 hd hl hn hl' (fun ls2 hl2 => k H locs ls2 hl2 hP hS)
theorem z_istore_n (hX : Cx S X own cc nL ret) {n : Fin 4} {i : Nat} {x : Int32} (hd : decode cc pc = .ok (.istore_n n, 1)) (hi : (n : Nat) = i) (hn : i < nL) (lv' : List (Nat × Value)) (hl' : (i, Value.int x) :: lv.filter (fun q => !(q.1 == i) && !(q.1 + 1 == i && q.2.category == 2)) = lv') (k : Z S X d nL Q (pc + 1) lv' st M) : Z S X d nL Q pc lv (Value.int x :: st) M :=
  fun H locs ls hl hP hS => lv_istore_n hX.1 hX.2.1 hd hi hl hn hl' (fun ls2 hl2 => k H locs ls2 hl2 hP hS)
theorem z_lstore (hX : Cx S X own cc nL ret) {i : Nat} {x : Int64} (hd : decode cc pc = .ok (.lstore i, 2)) (hn : i + 1 < nL) (lv' : List (Nat × Value)) (hl' : (i, Value.long x) :: lv.filter (fun q => !(q.1 == i) && (!(q.1 == i + 1) && !(q.1 + 1 == i && q.2.category == 2))) = lv') (k : Z S X d nL Q (pc + 2) lv' st M) : Z S X d nL Q pc lv (Value.long x :: st) M :=
  fun H locs ls hl hP hS => lv_lstore hX.1 hX.2.1 hd hl hn hl' (fun ls2 hl2 => k H locs ls2 hl2 hP hS)
theorem z_lstore_n (hX : Cx S X own cc nL ret) {n : Fin 4} {i : Nat} {x : Int64} (hd : decode cc pc = .ok (.lstore_n n, 1)) (hi : (n : Nat) = i) (hn : i + 1 < nL) (lv' : List (Nat × Value)) (hl' : (i, Value.long x) :: lv.filter (fun q => !(q.1 == i) && (!(q.1 == i + 1) && !(q.1 + 1 == i && q.2.category == 2))) = lv') (k : Z S X d nL Q (pc + 1) lv' st M) : Z S X d nL Q pc lv (Value.long x :: st) M :=
  fun H locs ls hl hP hS => lv_lstore_n hX.1 hX.2.1 hd hi hl hn hl' (fun ls2 hl2 => k H locs ls2 hl2 hP hS)
theorem z_astore (hX : Cx S X own cc nL ret) {i : Nat} {x : Nat} (hd : decode cc pc = .ok (.astore i, 2)) (hn : i < nL) (lv' : List (Nat × Value)) (hl' : (i, Value.ref x) :: lv.filter (fun q => !(q.1 == i) && !(q.1 + 1 == i && q.2.category == 2)) = lv') (k : Z S X d nL Q (pc + 2) lv' st M) : Z S X d nL Q pc lv (Value.ref x :: st) M :=
  fun H locs ls hl hP hS => lv_astore hX.1 hX.2.1 hd hl hn hl' (fun ls2 hl2 => k H locs ls2 hl2 hP hS)
theorem z_astore_n (hX : Cx S X own cc nL ret) {n : Fin 4} {i : Nat} {x : Nat} (hd : decode cc pc = .ok (.astore_n n, 1)) (hi : (n : Nat) = i) (hn : i < nL) (lv' : List (Nat × Value)) (hl' : (i, Value.ref x) :: lv.filter (fun q => !(q.1 == i) && !(q.1 + 1 == i && q.2.category == 2)) = lv') (k : Z S X d nL Q (pc + 1) lv' st M) : Z S X d nL Q pc lv (Value.ref x :: st) M :=
  fun H locs ls hl hP hS => lv_astore_n hX.1 hX.2.1 hd hi hl hn hl' (fun ls2 hl2 => k H locs ls2 hl2 hP hS)
theorem z_iinc (hX : Cx S X own cc nL ret) {i : Nat} {n : Int} {x v : Int32} (hd : decode cc pc = .ok (.iinc i n, 3)) (q : Nat) (hq : lv[q]? = some (i, .int x)) (hv : x + Int32.ofInt n = v) (hn : i < nL) (lv' : List (Nat × Value)) (hl' : (i, Value.int v) :: lv.filter (fun q => !(q.1 == i) && !(q.1 + 1 == i && q.2.category == 2)) = lv') (k : Z S X d nL Q (pc + 3) lv' st M) : Z S X d nL Q pc lv st M :=
  fun H locs ls hl hP hS => lv_iinc hX.1 hX.2.1 hd hl hq hv hn hl' (fun ls2 hl2 => k H locs ls2 hl2 hP hS)
theorem z_dup (hX : Cx S X own cc nL ret) {a : Value} (hd : decode cc pc = .ok (.dup, 1)) (ha : a.category = 1) (k : Z S X d nL Q (pc + 1) lv (a :: a :: st) M) : Z S X d nL Q pc lv (a :: st) M :=
  fun H locs ls hl hP hS => lv_dup hX.1 hX.2.1 hd ha (k H locs ls hl hP hS)
theorem z_pop (hX : Cx S X own cc nL ret) {a : Value} (hd : decode cc pc = .ok (.pop, 1)) (ha : a.category = 1) (k : Z S X d nL Q (pc + 1) lv st M) : Z S X d nL Q pc lv (a :: st) M :=
  fun H locs ls hl hP hS => lv_pop hX.1 hX.2.1 hd ha (k H locs ls hl hP hS)
theorem z_dup_x1 (hX : Cx S X own cc nL ret) {a b : Value} (hd : decode cc pc = .ok (.dup_x1, 1)) (ha : a.category = 1) (hb : b.category = 1) (k : Z S X d nL Q (pc + 1) lv (a :: b :: a :: st) M) : Z S X d nL Q pc lv (a :: b :: st) M :=
  fun H locs ls hl hP hS => lv_dup_x1 hX.1 hX.2.1 hd ha hb (k H locs ls hl hP hS)
theorem z_dup2 (hX : Cx S X own cc nL ret) {a b : Value} (hd : decode cc pc = .ok (.dup2, 1)) (ha : a.category = 1) (hb : b.category = 1) (k : Z S X d nL Q (pc + 1) lv (a :: b :: a :: b :: st) M) : Z S X d nL Q pc lv (a :: b :: st) M :=
  fun H locs ls hl hP hS => lv_dup2_11 hX.1 hX.2.1 hd ha hb (k H locs ls hl hP hS)
theorem z_iadd (hX : Cx S X own cc nL ret) {x y : Int32} (hd : decode cc pc = .ok (.iadd, 1))  (k : Z S X d nL Q (pc + 1) lv (.int (x + y) :: st) M) : Z S X d nL Q pc lv (.int y :: .int x :: st) M :=
  fun H locs ls hl hP hS => lv_iadd hX.1 hX.2.1 hd (k H locs ls hl hP hS)
theorem z_isub (hX : Cx S X own cc nL ret) {x y : Int32} (hd : decode cc pc = .ok (.isub, 1))  (k : Z S X d nL Q (pc + 1) lv (.int (x - y) :: st) M) : Z S X d nL Q pc lv (.int y :: .int x :: st) M :=
  fun H locs ls hl hP hS => lv_isub hX.1 hX.2.1 hd (k H locs ls hl hP hS)
theorem z_imul (hX : Cx S X own cc nL ret) {x y : Int32} (hd : decode cc pc = .ok (.imul, 1))  (k : Z S X d nL Q (pc + 1) lv (.int (x * y) :: st) M) : Z S X d nL Q pc lv (.int y :: .int x :: st) M :=
  fun H locs ls hl hP hS => lv_imul hX.1 hX.2.1 hd (k H locs ls hl hP hS)
theorem z_iand (hX : Cx S X own cc nL ret) {x y : Int32} (hd : decode cc pc = .ok (.iand, 1))  (k : Z S X d nL Q (pc + 1) lv (.int (x &&& y) :: st) M) : Z S X d nL Q pc lv (.int y :: .int x :: st) M :=
  fun H locs ls hl hP hS => lv_iand hX.1 hX.2.1 hd (k H locs ls hl hP hS)
theorem z_ior (hX : Cx S X own cc nL ret) {x y : Int32} (hd : decode cc pc = .ok (.ior, 1))  (k : Z S X d nL Q (pc + 1) lv (.int (x ||| y) :: st) M) : Z S X d nL Q pc lv (.int y :: .int x :: st) M :=
  fun H locs ls hl hP hS => lv_ior hX.1 hX.2.1 hd (k H locs ls hl hP hS)
theorem z_ixor (hX : Cx S X own cc nL ret) {x y : Int32} (hd : decode cc pc = .ok (.ixor, 1))  (k : Z S X d nL Q (pc + 1) lv (.int (x ^^^ y) :: st) M) : Z S X d nL Q pc lv (.int y :: .int x :: st) M :=
  fun H locs ls hl hP hS => lv_ixor hX.1 hX.2.1 hd (k H locs ls hl hP hS)
theorem z_ishl (hX : Cx S X own cc nL ret) {x y : Int32} (hd : decode cc pc = .ok (.ishl, 1))  (k : Z S X d nL Q (pc + 1) lv (.int (x <<< (y &&& 31)) :: st) M) : Z S X d nL Q pc lv (.int y :: .int x :: st) M :=
  fun H locs ls hl hP hS => lv_ishl hX.1 hX.2.1 hd (k H locs ls hl hP hS)
theorem z_ishr (hX : Cx S X own cc nL ret) {x y : Int32} (hd : decode cc pc = .ok (.ishr, 1))  (k : Z S X d nL Q (pc + 1) lv (.int (x >>> (y &&& 31)) :: st) M) : Z S X d nL Q pc lv (.int y :: .int x :: st) M :=
  fun H locs ls hl hP hS => lv_ishr hX.1 hX.2.1 hd (k H locs ls hl hP hS)
theorem z_iushr (hX : Cx S X own cc nL ret) {x y : Int32} (hd : decode cc pc = .ok (.iushr, 1))  (k : Z S X d nL Q (pc + 1) lv (.int (x.toUInt32 >>> (y.toUInt32 &&& Int32.toUInt32 31)).toInt32 :: st) M) : Z S X d nL Q pc lv (.int y :: .int x :: st) M :=
  fun H locs ls hl hP hS => lv_iushr hX.1 hX.2.1 hd rfl (k H locs ls hl hP hS)
theorem z_idiv (hX : Cx S X own cc nL ret) {x y : Int32} (hd : decode cc pc = .ok (.idiv, 1)) (hy : ¬ y = 0) (k : Z S X d nL Q (pc + 1) lv (.int (x / y) :: st) M) : Z S X d nL Q pc lv (.int y :: .int x :: st) M :=
  fun H locs ls hl hP hS => lv_idiv hX.1 hX.2.1 hd hy (k H locs ls hl hP hS)
theorem z_ineg (hX : Cx S X own cc nL ret) {x : Int32} (hd : decode cc pc = .ok (.ineg, 1))  (k : Z S X d nL Q (pc + 1) lv (.int (-x) :: st) M) : Z S X d nL Q pc lv (.int x :: st) M :=
  fun H locs ls hl hP hS => lv_ineg hX.1 hX.2.1 hd (k H locs ls hl hP hS)
theorem z_i2l (hX : Cx S X own cc nL ret) {x : Int32} (hd : decode cc pc = .ok (.i2l, 1))  (k : Z S X d nL Q (pc + 1) lv (.long x.toInt64 :: st) M) : Z S X d nL Q pc lv (.int x :: st) M :=
  fun H locs ls hl hP hS => lv_i2l hX.1 hX.2.1 hd rfl (k H locs ls hl hP hS)
theorem z_ladd (hX : Cx S X own cc nL ret) {x y : Int64} (hd : decode cc pc = .ok (.ladd, 1))  (k : Z S X d nL Q (pc + 1) lv (.long (x + y) :: st) M) : Z S X d nL Q pc lv (.long y :: .long x :: st) M :=
  fun H locs ls hl hP hS => lv_ladd hX.1 hX.2.1 hd (k H locs ls hl hP hS)
theorem z_lmul (hX : Cx S X own cc nL ret) {x y : Int64} (hd : decode cc pc = .ok (.lmul, 1))  (k : Z S X d nL Q (pc + 1) lv (.long (x * y) :: st) M) : Z S X d nL Q pc lv (.long y :: .long x :: st) M :=
  fun H locs ls hl hP hS => lv_lmul hX.1 hX.2.1 hd (k H locs ls hl hP hS)
theorem z_ldiv (hX : Cx S X own cc nL ret) {x y : Int64} (hd : decode cc pc = .ok (.ldiv, 1)) (hy : ¬ y = 0) (k : Z S X d nL Q (pc + 1) lv (.long (x / y) :: st) M) : Z S X d nL Q pc lv (.long y :: .long x :: st) M :=
  fun H locs ls hl hP hS => lv_ldiv hX.1 hX.2.1 hd hy (k H locs ls hl hP hS)
theorem z_lrem (hX : Cx S X own cc nL ret) {x y : Int64} (hd : decode cc pc = .ok (.lrem, 1)) (hy : ¬ y = 0) (k : Z S X d nL Q (pc + 1) lv (.long (x - x / y * y) :: st) M) : Z S X d nL Q pc lv (.long y :: .long x :: st) M :=
  fun H locs ls hl hP hS => lv_lrem hX.1 hX.2.1 hd hy (k H locs ls hl hP hS)
theorem z_lcmp (hX : Cx S X own cc nL ret) {x y : Int64} (hd : decode cc pc = .ok (.lcmp, 1))  (k : Z S X d nL Q (pc + 1) lv (.int (lg_cmp x y) :: st) M) : Z S X d nL Q pc lv (.long y :: .long x :: st) M :=
  fun H locs ls hl hP hS => W.lcmp hX.1 hX.2.1 hd (k H locs ls hl hP hS)
theorem z_icmp_eq (hX : Cx S X own cc nL ret) {x y : Int32} {off : Int} (tgt : Nat) (hd : decode cc pc = .ok (.if_icmp .eq off, 3)) (ht : (pc : Int) + off = (tgt : Int)) (kt : x = y → Z S X d nL Q tgt lv st M) (kf : ¬ x = y → Z S X d nL Q (pc + 3) lv st M) : Z S X d nL Q pc lv (.int y :: .int x :: st) M :=
  fun H locs ls hl hP hS => lv_icmp_eq hX.1 hX.2.1 hd ht (fun c0 => kt c0 H locs ls hl hP hS) (fun c0 => kf c0 H locs ls hl hP hS)
theorem z_icmp_ne (hX : Cx S X own cc nL ret) {x y : Int32} {off : Int} (tgt : Nat) (hd : decode cc pc = .ok (.if_icmp .ne off, 3)) (ht : (pc : Int) + off = (tgt : Int)) (kt : ¬ x = y → Z S X d nL Q tgt lv st M) (kf : x = y → Z S X d nL Q (pc + 3) lv st M) : Z S X d nL Q pc lv (.int y :: .int x :: st) M :=
  fun H locs ls hl hP hS => lv_icmp_ne hX.1 hX.2.1 hd ht (fun c0 => kt c0 H locs ls hl hP hS) (fun c0 => kf c0 H locs ls hl hP hS)
theorem z_icmp_lt (hX : Cx S X own cc nL ret) {x y : Int32} {off : Int} (tgt : Nat) (hd : decode cc pc = .ok (.if_icmp .lt off, 3)) (ht : (pc : Int) + off = (tgt : Int)) (kt : x < y → Z S X d nL Q tgt lv st M) (kf : ¬ x < y → Z S X d nL Q (pc + 3) lv st M) : Z S X d nL Q pc lv (.int y :: .int x :: st) M :=
  fun H locs ls hl hP hS => lv_icmp_lt hX.1 hX.2.1 hd ht (fun c0 => kt c0 H locs ls hl hP hS) (fun c0 => kf c0 H locs ls hl hP hS)
theorem z_icmp_ge (hX : Cx S X own cc nL ret) {x y : Int32} {off : Int} (tgt : Nat) (hd : decode cc pc = .ok (.if_icmp .ge off, 3)) (ht : (pc : Int) + off = (tgt : Int)) (kt : y ≤ x → Z S X d nL Q tgt lv st M) (kf : ¬ y ≤ x → Z S X d nL Q (pc + 3) lv st M) : Z S X d nL Q pc lv (.int y :: .int x :: st) M :=
  fun H locs ls hl hP hS => lv_icmp_ge hX.1 hX.2.1 hd ht (fun c0 => kt c0 H locs ls hl hP hS) (fun c0 => kf c0 H locs ls hl hP hS)
theorem z_icmp_gt (hX : Cx S X own cc nL ret) {x y : Int32} {off : Int} (tgt : Nat) (hd : decode cc pc = .ok (.if_icmp .gt off, 3)) (ht : (pc : Int) + off = (tgt : Int)) (kt : y < x → Z S X d nL Q tgt lv st M) (kf : ¬ y < x → Z S X d nL Q (pc + 3) lv st M) : Z S X d nL Q pc lv (.int y :: .int x :: st) M :=
  fun H locs ls hl hP hS => lv_icmp_gt hX.1 hX.2.1 hd ht (fun c0 => kt c0 H locs ls hl hP hS) (fun c0 => kf c0 H locs ls hl hP hS)
theorem z_icmp_le (hX : Cx S X own cc nL ret) {x y : Int32} {off : Int} (tgt : Nat) (hd : decode cc pc = .ok (.if_icmp .le off, 3)) (ht : (pc : Int) + off = (tgt : Int)) (kt : x ≤ y → Z S X d nL Q tgt lv st M) (kf : ¬ x ≤ y → Z S X d nL Q (pc + 3) lv st M) : Z S X d nL Q pc lv (.int y :: .int x :: st) M :=
  fun H locs ls hl hP hS => lv_icmp_le hX.1 hX.2.1 hd ht (fun c0 => kt c0 H locs ls hl hP hS) (fun c0 => kf c0 H locs ls hl hP hS)
theorem z_if_eq (hX : Cx S X own cc nL ret) {x : Int32} {off : Int} (tgt : Nat) (hd : decode cc pc = .ok (.ifCond .eq off, 3)) (ht : (pc : Int) + off = (tgt : Int)) (kt : x = 0 → Z S X d nL Q tgt lv st M) (kf : ¬ x = 0 → Z S X d nL Q (pc + 3) lv st M) : Z S X d nL Q pc lv (.int x :: st) M :=
  fun H locs ls hl hP hS => lv_if_eq hX.1 hX.2.1 hd ht (fun c0 => kt c0 H locs ls hl hP hS) (fun c0 => kf c0 H locs ls hl hP hS)
theorem z_if_ne (hX : Cx S X own cc nL ret) {x : Int32} {off : Int} (tgt : Nat) (hd : decode cc pc = .ok (.ifCond .ne off, 3)) (ht : (pc : Int) + off = (tgt : Int)) (kt : ¬ x = 0 → Z S X d nL Q tgt lv st M) (kf : x = 0 → Z S X d nL Q (pc + 3) lv st M) : Z S X d nL Q pc lv (.int x :: st) M :=
  fun H locs ls hl hP hS => lv_if_ne hX.1 hX.2.1 hd ht (fun c0 => kt c0 H locs ls hl hP hS) (fun c0 => kf c0 H locs ls hl hP hS)
theorem z_if_lt (hX : Cx S X own cc nL ret) {x : Int32} {off : Int} (tgt : Nat) (hd : decode cc pc = .ok (.ifCond .lt off, 3)) (ht : (pc : Int) + off = (tgt : Int)) (kt : x < 0 → Z S X d nL Q tgt lv st M) (kf : ¬ x < 0 → Z S X d nL Q (pc + 3) lv st M) : Z S X d nL Q pc lv (.int x :: st) M :=
  fun H locs ls hl hP hS => lv_if_lt hX.1 hX.2.1 hd ht (fun c0 => kt c0 H locs ls hl hP hS) (fun c0 => kf c0 H locs ls hl hP hS)
theorem z_if_ge (hX : Cx S X own cc nL ret) {x : Int32} {off : Int} (tgt : Nat) (hd : decode cc pc = .ok (.ifCond .ge off, 3)) (ht : (pc : Int) + off = (tgt : Int)) (kt : 0 ≤ x → Z S X d nL Q tgt lv st M) (kf : ¬ 0 ≤ x → Z S X d nL Q (pc + 3) lv st M) : Z S X d nL Q pc lv (.int x :: st) M :=
  fun H locs ls hl hP hS => lv_if_ge hX.1 hX.2.1 hd ht (fun c0 => kt c0 H locs ls hl hP hS) (fun c0 => kf c0 H locs ls hl hP hS)
theorem z_if_gt (hX : Cx S X own cc nL ret) {x : Int32} {off : Int} (tgt : Nat) (hd : decode cc pc = .ok (.ifCond .gt off, 3)) (ht : (pc : Int) + off = (tgt : Int)) (kt : 0 < x → Z S X d nL Q tgt lv st M) (kf : ¬ 0 < x → Z S X d nL Q (pc + 3) lv st M) : Z S X d nL Q pc lv (.int x :: st) M :=
  fun H locs ls hl hP hS => lv_if_gt hX.1 hX.2.1 hd ht (fun c0 => kt c0 H locs ls hl hP hS) (fun c0 => kf c0 H locs ls hl hP hS)
theorem z_if_le (hX : Cx S X own cc nL ret) {x : Int32} {off : Int} (tgt : Nat) (hd : decode cc pc = .ok (.ifCond .le off, 3)) (ht : (pc : Int) + off = (tgt : Int)) (kt : x ≤ 0 → Z S X d nL Q tgt lv st M) (kf : ¬ x ≤ 0 → Z S X d nL Q (pc + 3) lv st M) : Z S X d nL Q pc lv (.int x :: st) M :=
  fun H locs ls hl hP hS => lv_if_le hX.1 hX.2.1 hd ht (fun c0 => kt c0 H locs ls hl hP hS) (fun c0 => kf c0 H locs ls hl hP hS)
theorem z_goto (hX : Cx S X own cc nL ret) {off : Int} (tgt : Nat) (hd : decode cc pc = .ok (.goto off, 3)) (ht : (pc : Int) + off = (tgt : Int)) (k : Z S X d nL Q tgt lv st M) : Z S X d nL Q pc lv st M :=
  fun H locs ls hl hP hS => lv_goto hX.1 hX.2.1 hd ht (k H locs ls hl hP hS)
theorem z_tableOut (hX : Cx S X own cc nL ret) {dflt lo hi : Int} {offs : Array Int} {len : Nat} {x : Int32} (tgt : Nat) (hd : decode cc pc = .ok (.tableswitch dflt lo hi offs, len)) (h : x.toInt < lo ∨ hi < x.toInt) (ht : (pc : Int) + dflt = (tgt : Int)) (k : Z S X d nL Q tgt lv st M) : Z S X d nL Q pc lv (.int x :: st) M :=
  fun H locs ls hl hP hS => lv_tableOut hX.1 hX.2.1 hd h ht (k H locs ls hl hP hS)
theorem z_tableIn (hX : Cx S X own cc nL ret) {dflt lo hi : Int} {offs : Array Int} {len : Nat} {x : Int32} {off : Int} (tgt : Nat) (hd : decode cc pc = .ok (.tableswitch dflt lo hi offs, len)) (h1 : ¬ x.toInt < lo) (h2 : ¬ hi < x.toInt) (ho : offs[(x.toInt - lo).toNat]? = some off) (ht : (pc : Int) + off = (tgt : Int)) (k : Z S X d nL Q tgt lv st M) : Z S X d nL Q pc lv (.int x :: st) M :=
  fun H locs ls hl hP hS => lv_tableIn hX.1 hX.2.1 hd h1 h2 ho ht (k H locs ls hl hP hS)
theorem z_getI (hX : Cx S X own cc nL ret) {idx : Nat} (k f : Nat) {ci N : Nat} {C : String} {T : u_T} {rs : List (Option Nat)} (hs : S.1[k]? = some (0, ci, rs)) (hc : S.2[ci]? = some (C, T, N)) (hin : ∀ w ∈ u_ws C T N, w ∈ lw_g) (hf : f < N) (hr : rs[f]? = some none) (hlk : Cond.fieldLink own idx (T f).1 (T f).2.1 (T f).2.2.1 ∈ lw_g) (hd : decode cc pc = .ok (.getfield idx, 3)) (kk : Z S X d nL Q (pc + 3) lv (.int (M.1 k f) :: st) M) : Z S X d nL Q pc lv (.ref (X.1.2.1 k) :: st) M :=
  fun H locs ls hl hP hS => va_get (ci := ci) hX.1 hX.2.1 hX.2.2.2.2.1 hin hX.2.2.2.1 hX.2.2.2.2.2.1 hP k (z_wd_at hs) hc f hf (hX.2.2.2.2.1 _ hlk) (fun _ h9 => h9) (z_fs_at hr) hd (kk H locs ls hl hP hS)
theorem z_getR (hX : Cx S X own cc nL ret) {idx : Nat} (k f r : Nat) {ci N : Nat} {C : String} {T : u_T} {rs : List (Option Nat)} (hs : S.1[k]? = some (0, ci, rs)) (hc : S.2[ci]? = some (C, T, N)) (hin : ∀ w ∈ u_ws C T N, w ∈ lw_g) (hf : f < N) (hr : rs[f]? = some (some r)) (hlk : Cond.fieldLink own idx (T f).1 (T f).2.1 (T f).2.2.1 ∈ lw_g) (hd : decode cc pc = .ok (.getfield idx, 3)) (kk : Z S X d nL Q (pc + 3) lv (.ref (X.1.2.1 r) :: st) M) : Z S X d nL Q pc lv (.ref (X.1.2.1 k) :: st) M :=
  fun H locs ls hl hP hS => va_get (ci := ci) hX.1 hX.2.1 hX.2.2.2.2.1 hin hX.2.2.2.1 hX.2.2.2.2.2.1 hP k (z_wd_at hs) hc f hf (hX.2.2.2.2.1 _ hlk) (fun _ h9 => h9) (z_fs_at hr) hd (kk H locs ls hl hP hS)
theorem z_put (hX : Cx S X own cc nL ret) {idx : Nat} {v : Int32} (k f : Nat) {ci N : Nat} {C : String} {T : u_T} {rs : List (Option Nat)} (ty0 : Nat → FieldType) (hty : ∀ k, k < N → parseFieldDescriptor (T k).2.2.1 = some (ty0 k)) (hnm : ∀ a, a < N → ∀ b, b < N → a ≠ b → (T a).2.1 ≠ (T b).2.1) (hs : S.1[k]? = some (0, ci, rs)) (hc : S.2[ci]? = some (C, T, N)) (hin : ∀ w ∈ u_ws C T N, w ∈ lw_g) (hf : f < N) (hr : rs[f]? = some none) (hlk : Cond.fieldLink own idx (T f).1 (T f).2.1 (T f).2.2.1 ∈ lw_g) (hfin : (T f).2.2.2 = false) (hti : ty0 f = .int) (hd : decode cc pc = .ok (.putfield idx, 3)) (kk : Z S X d nL Q (pc + 3) lv st (z_st M k f v)) : Z S X d nL Q pc lv (.int v :: .ref (X.1.2.1 k) :: st) M := by
  intro H locs ls hl hP hS
  refine va_put (ci := ci) (ty := .int) hX.1 hX.2.1 hX.2.2.2.2.1 hin ty0 hty hnm hX.2.2.2.1 hX.2.2.2.2.2.1 hP (z_D hX.2.2.2.2.2.2.1 M) hS k (z_wd_at hs) hc f hf (hX.2.2.2.2.1 _ hlk) (fun _ h9 => h9) hfin (by rw [hty f hf, hti]) rfl rfl (by unfold z_fs; rw [List.length_mapIdx]; exact (List.getElem?_eq_some_iff.mp hr).1) hd (fun H1 locs1 hP1 _ hS1 => ?_)
  refine kk H1 locs1 ls hl ?_ hS1
  have e : (X.1.2.1 k, (Sum.inr (ci, (z_fs X.1.2.1 M k rs).set f (.int v)) : va_E)) = (X.1.2.1 k, z_cell X.1 (z_st M k f v) k (0, ci, rs)) := by
    rw [z_fs_set hr]; rfl
  rw [← z_wd_set hs z_st_ne, ← e]
  exact hP1
theorem z_iald (hX : Cx S X own cc nL ret) {i : Int32} (k : Nat) {n : Nat} {rs : List (Option Nat)} (hs : S.1[k]? = some (1, n, rs)) (hin : vp_in i n) (hd : decode cc pc = .ok (.iaload, 1)) (kk : Z S X d nL Q (pc + 1) lv (.int (M.1 k i.toNatClampNeg) :: st) M) : Z S X d nL Q pc lv (.int i :: .ref (X.1.2.1 k) :: st) M :=
  fun H locs ls hl hP hS => va_iald hX.1 hX.2.1 hX.2.2.2.2.2.1 hP k 0 (z_wd_at hs) rfl hin hd (kk H locs ls hl hP hS)
theorem z_lald (hX : Cx S X own cc nL ret) {i : Int32} (k : Nat) {n : Nat} {rs : List (Option Nat)} (hs : S.1[k]? = some (2, n, rs)) (hin : vp_in i n) (hd : decode cc pc = .ok (.laload, 1)) (kk : Z S X d nL Q (pc + 1) lv (.long (M.2 k i.toNatClampNeg) :: st) M) : Z S X d nL Q pc lv (.int i :: .ref (X.1.2.1 k) :: st) M :=
  fun H locs ls hl hP hS => va_lald hX.1 hX.2.1 hX.2.2.2.2.2.1 hP k 1 (z_wd_at hs) rfl hin hd (kk H locs ls hl hP hS)
theorem z_aald (hX : Cx S X own cc nL ret) {i : Int32} (k : Nat) {n r : Nat} {rs : List (Option Nat)} (hs : S.1[k]? = some (3, n, rs)) (hin : vp_in i n) (hr : rs[i.toNatClampNeg]? = some (some r)) (hd : decode cc pc = .ok (.aaload, 1)) (kk : Z S X d nL Q (pc + 1) lv (.ref (X.1.2.1 r) :: st) M) : Z S X d nL Q pc lv (.int i :: .ref (X.1.2.1 k) :: st) M := by
  intro H locs ls hl hP hS
  have hlt : i.toNatClampNeg < n := Nat.not_le.mp fun q => hin (Or.inr q)
  have hv : va_rf ((rs[i.toNatClampNeg]?).join.map X.1.2.1) = .ref (X.1.2.1 r) := by rw [hr]; rfl
  exact W.aald (v := .ref (X.1.2.1 r)) (ty := .array .int) hX.1 hX.2.1 (hP k _ (z_wd_at hs)) ((hX.2.2.2.2.2.1.2 2 _ rfl).1 n (fun j => va_rf ((rs[j]?).join.map X.1.2.1))) rfl (fun q => by cases q) (by show ¬ (i < 0 ∨ (arrV _ _ _).slots.size ≤ _); rw [arrV_size]; exact hin) (by show (arrV _ _ _).slots[_]? = _; rw [arrV_read _ _ hlt, hv]) rfl rfl hd (kk H locs ls hl hP hS)
theorem z_iast (hX : Cx S X own cc nL ret) {i x : Int32} (k : Nat) {n : Nat} {rs : List (Option Nat)} (hs : S.1[k]? = some (1, n, rs)) (hin : vp_in i n) (hd : decode cc pc = .ok (.iastore, 1)) (kk : Z S X d nL Q (pc + 1) lv st (z_st M k i.toNatClampNeg x)) : Z S X d nL Q pc lv (.int x :: .int i :: .ref (X.1.2.1 k) :: st) M := by
  intro H locs ls hl hP hS
  refine va_iast hX.1 hX.2.1 hX.2.2.2.2.2.1 hP (z_D hX.2.2.2.2.2.2.1 M) hS k 0 (z_wd_at hs) rfl hin hd (fun H1 locs1 hP1 _ hS1 => ?_)
  refine kk H1 locs1 ls hl ?_ hS1
  have e : (X.1.2.1 k, (Sum.inl (X.1.2.2.2.1, n, .inl (upd (M.1 k) i.toNatClampNeg x)) : va_E)) = (X.1.2.1 k, z_cell X.1 (z_st M k i.toNatClampNeg x) k (1, n, rs)) := by
    rw [← z_st_at]; rfl
  rw [← z_wd_set hs z_st_ne, ← e]
  exact hP1
theorem z_last (hX : Cx S X own cc nL ret) {i : Int32} {x : Int64} (k : Nat) {n : Nat} {rs : List (Option Nat)} (hs : S.1[k]? = some (2, n, rs)) (hin : vp_in i n) (hd : decode cc pc = .ok (.lastore, 1)) (kk : Z S X d nL Q (pc + 1) lv st (z_sl M k i.toNatClampNeg x)) : Z S X d nL Q pc lv (.long x :: .int i :: .ref (X.1.2.1 k) :: st) M := by
  intro H locs ls hl hP hS
  refine va_last hX.1 hX.2.1 hX.2.2.2.2.2.1 hP (z_D hX.2.2.2.2.2.2.1 M) hS k 1 (z_wd_at hs) rfl hin hd (fun H1 locs1 hP1 _ hS1 => ?_)
  refine kk H1 locs1 ls hl ?_ hS1
  have e : (X.1.2.1 k, (Sum.inl (X.1.2.2.2.2.1, n, .inr (.inl (vp_updL (M.2 k) i.toNatClampNeg x))) : va_E)) = (X.1.2.1 k, z_cell X.1 (z_sl M k i.toNatClampNeg x) k (2, n, rs)) := by
    rw [← z_sl_at]; rfl
  rw [← z_wd_set hs z_sl_ne, ← e]
  exact hP1
theorem z_mmax (hX : Cx S X own cc nL ret) {idx : Nat} {x y : Int32} (hlk : Cond.methodLink own idx Lib.Math.max.name ∈ lw_g) (hst : Cond.static Lib.Math.max.name ∈ lw_g) (hini : Cond.initialized "java/lang/Math" ∈ lw_g) (hco : Cond.code Lib.Math.max.name Lib.Math.max.code 2 (some .int) ∈ lw_g) (hfr : 1 ≤ d) (hw : (st.map fun v => v.category).sum ≤ 8) (hd : decode cc pc = .ok (.invokestatic idx, 3)) (kk : Z S X d nL Q (pc + 3) lv (.int (if x < y then y else x) :: st) M) : Z S X d nL Q pc lv (.int y :: .int x :: st) M :=
  fun H locs ls hl hP hS => va_mmax hX.1 hX.2.1 (hX.2.2.1.trans hl.1.symm) hX.2.2.2.1 (hX.2.2.2.2.1 _ hlk) (hX.2.2.2.2.1 _ hst) (hX.2.2.2.2.1 _ hini) (hX.2.2.2.2.1 _ hco) hfr (by show _ + 13 ≤ 40 * d; omega) (Nat.zero_le _) (Nat.zero_le _) hd (kk H locs ls hl hP hS)
theorem z_mmin (hX : Cx S X own cc nL ret) {idx : Nat} {x y : Int32} (hlk : Cond.methodLink own idx Lib.Math.min.name ∈ lw_g) (hst : Cond.static Lib.Math.min.name ∈ lw_g) (hini : Cond.initialized "java/lang/Math" ∈ lw_g) (hco : Cond.code Lib.Math.min.name Lib.Math.min.code 2 (some .int) ∈ lw_g) (hfr : 1 ≤ d) (hw : (st.map fun v => v.category).sum ≤ 8) (hd : decode cc pc = .ok (.invokestatic idx, 3)) (kk : Z S X d nL Q (pc + 3) lv (.int (if y < x then y else x) :: st) M) : Z S X d nL Q pc lv (.int y :: .int x :: st) M :=
  fun H locs ls hl hP hS => va_mmin hX.1 hX.2.1 (hX.2.2.1.trans hl.1.symm) hX.2.2.2.1 (hX.2.2.2.2.1 _ hlk) (hX.2.2.2.2.1 _ hst) (hX.2.2.2.2.1 _ hini) (hX.2.2.2.2.1 _ hco) hfr (by show _ + 13 ≤ 40 * d; omega) (Nat.zero_le _) (Nat.zero_le _) hd (kk H locs ls hl hP hS)
-- returns
theorem z_fin {H : Heap} {locs : List Loc} {rv : Option Value} (hX : Cx S X own cc nL ret) (hP : va_P X.1.2.2.1 S.2 (z_wd S X.1 M) H) (hS : va_S (z_A S X.1) X.2.2.2.1.heap H locs) (hq : Q rv M) : ∀ t : State, t.heap = H → X.2.2.2.1.WarmedH t.vm → z_QQ S X.1 Q X.2.2.2.2.2.1 X.2.2.2.1 (.returned rv) t :=
  fun t ht hW => ⟨⟨rv, M, rfl, hq, by rw [ht]; exact hP, va_K.moved hW.alike hX.2.2.2.2.2.1, hX.2.2.2.2.2.2.1⟩, hS.F ht⟩
theorem z_iret {v : Int32} (hX : Cx S X own cc nL (some .int)) (hd : decode cc pc = .ok (.ireturn, 1)) (hq : Q (some (.int v)) M) : Z S X d nL Q pc lv [.int v] M :=
  fun H locs ls hl hP hS => W.iret hX.1 hX.2.1 hX.2.2.2.2.2.2.2.2 (z_fin hX hP hS hq) hS.2.2 hd hX.2.2.2.2.2.2.2.1
theorem z_zret {v : Int32} (hX : Cx S X own cc nL (some .boolean)) (hd : decode cc pc = .ok (.ireturn, 1)) (hv : v = 0 ∨ v = 1) (hq : Q (some (.int v)) M) : Z S X d nL Q pc lv [.int v] M :=
  fun H locs ls hl hP hS => W.zret hX.1 hX.2.1 hX.2.2.2.2.2.2.2.2 (by rcases hv with rfl | rfl <;> rfl) (z_fin hX hP hS hq) hS.2.2 hd hX.2.2.2.2.2.2.2.1
theorem z_lret {v : Int64} (hX : Cx S X own cc nL (some .long)) (hd : decode cc pc = .ok (.lreturn, 1)) (hq : Q (some (.long v)) M) : Z S X d nL Q pc lv [.long v] M :=
  fun H locs ls hl hP hS => W.lret hX.1 hX.2.1 hX.2.2.2.2.2.2.2.2 (z_fin hX hP hS hq) hS.2.2 hd hX.2.2.2.2.2.2.2.1
theorem z_vret (hX : Cx S X own cc nL none) (hd : decode cc pc = .ok (.return_, 1)) (hq : Q none M) : Z S X d nL Q pc lv [] M :=
  fun H locs ls hl hP hS => W.vret hX.1 hX.2.1 hX.2.2.2.2.2.2.2.2 (z_fin hX hP hS hq) hS.2.2 hd hX.2.2.2.2.2.2.2.1
theorem z_aret {a : Nat} {t0 : FieldType} (hX : Cx S X own cc nL (some (.array t0))) (hd : decode cc pc = .ok (.areturn, 1)) (hq : Q (some (.ref a)) M) : Z S X d nL Q pc lv [.ref a] M :=
  fun H locs ls hl hP hS => W.aret hX.1 hX.2.1 hX.2.2.2.2.2.2.2.2 (Or.inr ⟨t0, rfl⟩) (Or.inr ⟨a, rfl⟩) (z_fin hX hP hS hq) hS.2.2 hd hX.2.2.2.2.2.2.2.1
-- calls
theorem z_run {st0 rest : List Value} {ls : Array Slot} {H : Heap} {locs : List Loc} {a : Array Value} {Q1 : Option Value → Mem → Prop} (hX : Cx S X own cc nL ret)
    (hr : va_Run X.2.1 X.1.1 X.2.2.1 (z_rm d) X.2.2.2.1 X.2.2.2.2.1 X.2.2.2.2.2.1 X.2.2.2.2.2.2.1 X.2.2.2.2.2.2.2.1 X.2.2.2.2.2.2.2.2 H locs 0 0 0 0 (F0 X.2.2.2.2.1 pc ls st0) rest (z_QQ S X.1 Q1 a) (z_A S X.1))
    (hl : lv_has ls nL lv) (hS : va_S (z_A S X.1) X.2.2.2.1.heap H locs)
    (kk : ∀ (rv : Option Value) (M1 : Mem), Q1 rv M1 → Z S X d nL Q (pc + 3) lv (rv.toList ++ rest) M1) :
    W X.2.1 X.1.1 X.2.2.1 (z_rm d) X.2.2.2.1 X.2.2.2.2.1 X.2.2.2.2.2.1 X.2.2.2.2.2.2.1 X.2.2.2.2.2.2.2.1 X.2.2.2.2.2.2.2.2 H locs 0 0 (MQ X.2.2.2.2.2.2.1 (z_QQ S X.1 Q) X.2.2.2.2.2.1 X.2.2.2.1 0 0 (z_A S X.1)) (F0 X.2.2.2.2.1 pc ls st0) := by
  intro T hT Xs
  obtain ⟨v, st₀, t, T', L, h0, X', hL, e1, e2, ⟨⟨rv, M1, hv, hq, hB⟩, hz, hk⟩, stp⟩ := hr T hT Xs
  cases hv
  rw [h0] at hz hk
  have hP1 : va_P X.1.2.2.1 S.2 (z_wd S X.1 M1) T'.heap := by rw [e1]; exact hB.1
  have hS1 : va_S (z_A S X.1) X.2.2.2.1.heap T'.heap (locs ++ L) :=
    ⟨Nat.le_trans hS.1 (by rw [e1]; exact hz), fun q h1 h2 => by rw [e1, hk q (Nat.lt_of_lt_of_le h1 hS.1) h2]; exact hS.2.1 q h1 h2, fun q hq => by
      rcases List.mem_append.mp hq with h | h
      · exact hS.2.2 q h
      · exact hL q h⟩
  obtain ⟨t2, a1, b1⟩ := kk v M1 hq T'.heap (locs ++ L) ls hl hP1 hS1 T' rfl X'
  exact ⟨t2, stp t2 a1, b1⟩
theorem z_blind {E : ET} {av : List Value} : FrameBlind (va_Pc av (z_B S E M)) :=
  fun a U g mk q => by
    obtain ⟨q0, qP, qK, qI⟩ := q
    exact ⟨q0, qP, va_K.moved (u := U) (U := U.calling g mk a) (Vm.Alike.refl U.vm) qK, qI⟩
theorem z_callB {y : MethodName} {bytes : ByteArray} {maxL n d1 idx : Nat} {ret1 : Option FieldType} (hX : Cx S X own cc nL ret) (hg : lw_g.all goodWord = true) (hco : Cond.code y bytes maxL ret1 ∈ lw_g) (hini : Cond.initialized y.cls ∈ lw_g) (hlk : Cond.methodLink own idx y ∈ lw_g)
    (hy : y.cls ≠ "java/lang/invoke/MethodHandle" ∧ y.cls ≠ "java/lang/invoke/VarHandle" ∧ (parseMethodDescriptor y.desc).map (fun d => d.parameters.length) = some n) (hR : d1 + 1 ≤ d) (hm : maxL ≤ 21) :
    CallB (z_rm d) X.2.2.2.1 X.2.2.2.2.2.1 own idx y bytes maxL ret1 (Cond.code y bytes maxL ret1 :: lw_g) (z_rm d1) 0 0 n := by
  have hts := hX.2.2.2.2.1
  have hgood : ∀ w ∈ (Cond.code y bytes maxL ret1 :: lw_g), w ∈ lw_g ∧ ((w.onTables && w.keeps) = true ∨ ∃ ty, w = .arrayClass ty) := by
    intro w hw
    have hm' : w ∈ lw_g := by
      rcases List.mem_cons.mp hw with rfl | h
      · exact hco
      · exact h
    exact ⟨hm', good_of_word (List.all_eq_true.mp hg w hm')⟩
  refine callB_of n hts hgood rfl rfl rfl (hts _ hini) (hts _ hlk) hy ⟨hR, ?_⟩
  show 8 + (maxL + 11) + 40 * d1 ≤ 40 * d
  omega
theorem z_callV {y : MethodName} {bytes : ByteArray} {maxL n d1 idx : Nat} {ret1 : Option FieldType} {As rest : List Value} {Q1 : Option Value → Mem → Prop} (hX : Cx S X own cc nL ret) (hg : lw_g.all goodWord = true) (kc : Nat) {ci : Nat} {rs : List (Option Nat)} {r : vw_C} (hs : S.1[kc]? = some (0, ci, rs)) (hc : S.2[ci]? = some r) (hrc : r.1 = y.cls) (hco : Cond.code y bytes maxL ret1 ∈ lw_g) (hini : Cond.initialized y.cls ∈ lw_g) (hlk : Cond.methodLink own idx y ∈ lw_g) (hins : Cond.instanceMethod y ∈ lw_g) (hsel : Cond.selects y.cls y y ∈ lw_g)
    (hy : y.cls ≠ "java/lang/invoke/MethodHandle" ∧ y.cls ≠ "java/lang/invoke/VarHandle" ∧ (parseMethodDescriptor y.desc).map (fun d => d.parameters.length) = some n) (hR : d1 + 1 ≤ d) (hm : maxL ≤ 21) (hn : As.length = n) (hw : (rest.map fun v => v.category).sum ≤ 8) (hd : decode cc pc = .ok (.invokevirtual idx, 3))
    (hC : Ct S X.1 y bytes maxL ret1 d1 (.ref (X.1.2.1 kc) :: As) M Q1) (kk : ∀ (rv : Option Value) (M1 : Mem), Q1 rv M1 → Z S X d nL Q (pc + 3) lv (rv.toList ++ rest) M1) : Z S X d nL Q pc lv (As.reverse ++ .ref (X.1.2.1 kc) :: rest) M := by
  intro H locs ls hl hP hS
  refine z_run (a := (Value.ref (X.1.2.1 kc) :: As).toArray) hX ?_ hl hS kk
  have hrec := va_recv hX.2.2.2.2.2.1 hP hc (z_wd_at hs)
  rw [hrc] at hrec
  exact va_runV (As := As) (rest := rest) ⟨hX.1, hX.2.1, hX.2.2.1, hX.2.2.2.1, hX.2.2.2.2.1⟩ hC ⟨z_callB hX hg hco hini hlk hy hR hm, hX.2.2.2.2.1 _ hins, hX.2.2.2.2.1 _ hsel⟩
    ⟨z_blind, hrec, fun U hU hW => ⟨rfl, by rw [hU]; exact hP, va_K.moved hW.alike hX.2.2.2.2.2.1, hX.2.2.2.2.2.2.1⟩⟩ rfl hn hl.1 rfl (lv_room hw) hd ⟨Nat.zero_le _, Nat.zero_le _⟩
theorem z_callS {y : MethodName} {bytes : ByteArray} {maxL n d1 idx : Nat} {ret1 : Option FieldType} {As rest : List Value} {Q1 : Option Value → Mem → Prop} (hX : Cx S X own cc nL ret) (hg : lw_g.all goodWord = true) (hco : Cond.code y bytes maxL ret1 ∈ lw_g) (hini : Cond.initialized y.cls ∈ lw_g) (hlk : Cond.methodLink own idx y ∈ lw_g) (hst : Cond.static y ∈ lw_g)
    (hy : y.cls ≠ "java/lang/invoke/MethodHandle" ∧ y.cls ≠ "java/lang/invoke/VarHandle" ∧ (parseMethodDescriptor y.desc).map (fun d => d.parameters.length) = some n) (hR : d1 + 1 ≤ d) (hm : maxL ≤ 21) (hn : As.length = n) (hw : (rest.map fun v => v.category).sum ≤ 8) (hd : decode cc pc = .ok (.invokestatic idx, 3))
    (hC : Ct S X.1 y bytes maxL ret1 d1 As M Q1) (kk : ∀ (rv : Option Value) (M1 : Mem), Q1 rv M1 → Z S X d nL Q (pc + 3) lv (rv.toList ++ rest) M1) : Z S X d nL Q pc lv (As.reverse ++ rest) M := by
  intro H locs ls hl hP hS
  refine z_run (a := As.toArray) hX ?_ hl hS kk
  exact va_runS (As := As) (rest := rest) ⟨hX.1, hX.2.1, hX.2.2.1, hX.2.2.2.1, hX.2.2.2.2.1⟩ hC ⟨z_callB hX hg hco hini hlk hy hR hm, hX.2.2.2.2.1 _ hst⟩
    ⟨z_blind, fun U hU hW => ⟨rfl, by rw [hU]; exact hP, va_K.moved hW.alike hX.2.2.2.2.2.1, hX.2.2.2.2.2.2.1⟩⟩ rfl hn hl.1 rfl (lv_room hw) hd ⟨Nat.zero_le _, Nat.zero_le _⟩
end ZRows
/-- a contract's exact answer, weakened -/
theorem Ct.mono {S : ST} {E : ET} {y : MethodName} {cc : ByteArray} {nL : Nat} {ret : Option FieldType} {d : Nat} {av : List Value} {M : Mem} {Q Q' : Option Value → Mem → Prop} (h : Ct S E y cc nL ret d av M Q) (hq : ∀ rv M1, Q rv M1 → Q' rv M1) : Ct S E y cc nL ret d av M Q' := by
  intro p e ha hc hk s m args below hf happ hp hq0
  obtain ⟨k, o, h1, h2, h3, ⟨⟨⟨rv, M1, e1, e2, e3⟩, e4⟩, e5⟩⟩ := h p e ha hc hk s m args below hf happ hp hq0
  exact ⟨k, o, h1, h2, h3, ⟨⟨⟨rv, M1, e1, hq _ _ e2, e3⟩, e4⟩, e5⟩⟩
