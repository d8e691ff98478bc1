def kq_T0 : TW := (4, fun _ _ => 0, fun _ => 0, fun _ => 0)
theorem kq_WF : s_WF kq_T0 := ⟨by decide, fun _ _ _ _ => (by decide : ¬ (0 : Int32) < 0), fun _ _ _ _ _ => rfl, fun _ _ => Or.inl rfl⟩
theorem kq_inv : InvX kq_M0 kq_T0 (0, fun _ => 0) 0 := by
  refine ⟨⟨rfl, by decide, fun p o hp ho => ?_, fun p hp => rfl, fun p hp => rfl⟩, kq_WF, ⟨1023, by decide, rfl, fun d hd => ⟨0, by decide, rfl, fun p hp hk => ?_⟩⟩, ⟨0, Nat.le_refl _, rfl, Or.inl rfl, Or.inl rfl⟩, fun e => absurd e (by decide), fun e => absurd e (by decide), ⟨rfl, by decide, fun i hi => absurd hi (Nat.not_lt_zero i)⟩⟩
  · show (if 10 + p = 7 then _ else if 10 + p = 8 then _ else fun _ => 0) o = 0
    rw [if_neg (by omega), if_neg (by omega)]
  · have hp4 : p < 4 := hp
    have hk : Nat.testBit 1023 p = false := hk
    rw [h_1023] at hk
    simp at hk
    omega
theorem kq_invM : InvM kq_MM0 kq_T0 (0, fun _ => 0) := ⟨⟨rfl, fun p o hp ho => rfl, fun p hp => rfl, fun p hp => rfl⟩, kq_WF, ⟨rfl, by decide, fun i hi => absurd hi (Nat.not_lt_zero i)⟩⟩
theorem kq_O.spec {u : State} (h : kq_O u) : ∃ (c : ClassId) (k : Class) (comp : ClassId), u.vm.findClass ("[" ++ (FieldType.array FieldType.int).toString) = some c ∧ u.vm.classes[c]? = some k ∧ k.kind = .array comp (.array .int) := by
  unfold kq_O Cond.before Cond.holds at h
  simp only [Cond.value] at h
  cases hc : u.vm.findClass (FieldType.array FieldType.int).toString with
  | none => rw [hc] at h; exact absurd h (by simp)
  | some comp =>
    rw [hc] at h
    rw [Option.bind_some] at h
    generalize hk : Array.findIdx? _ u.vm.classes = o at h
    cases o with
    | none => exact absurd h (by simp)
    | some c =>
      rw [Option.bind_some] at h
      cases hx : u.vm.classes[c]? with
      | none => rw [hx] at h; exact absurd h (by simp)
      | some k =>
        rw [hx] at h
        rw [Option.map_some] at h
        cases hkd : k.kind with
        | array cm ty =>
          rw [hkd] at h
          simp at h
          exact ⟨c, k, cm, h.2, hx, by rw [hkd, h.1]⟩
        | _ => rw [hkd] at h; simp at h
theorem y_callL {X : XT} {own : String} {cc : ByteArray} {nL pc cells slots : Nat} {A : Nat → Prop} {R : Room} {Qf : State → Prop} {lv : List (Nat × Value)} {w0 : va_W} {x : Nat × va_E} (nn : Nat) (hlen : w0.length = nn) (hnd : va_nd (List.range nn) = true) {y : MethodName} {bytes : ByteArray} {maxL n d1 mc1 ms1 idx a : Nat} {As rest : List Value} {post : va_W → Prop} (hX : Yc X own cc nL A) (hco : Cond.code y bytes maxL none ∈ lw_g) (hini : Cond.initialized y.cls ∈ lw_g) (hlk : Cond.methodLink own idx y ∈ lw_g) (hins : Cond.instanceMethod y ∈ lw_g) (hnm : y.name = "<init>")
    (hy : y.cls ≠ "java/lang/invoke/MethodHandle" ∧ y.cls ≠ "java/lang/invoke/VarHandle" ∧ (parseMethodDescriptor y.desc).map (fun d => d.parameters.length) = some n) (hR : d1 + 1 ≤ R.frames) (hR2 : 8 + (maxL + 11) + 40 * d1 ≤ R.locals) (hc1 : cells + mc1 ≤ R.cells) (hs1 : slots + ms1 ≤ R.slots) (hn : As.length = n) (hw : (rest.map fun v => v.category).sum ≤ 8) (hd : decode cc pc = .ok (.invokespecial idx, 3))
    (hct : CtI X.1 y bytes maxL d1 mc1 ms1 (.ref a :: As) [x] post) (kk : ∀ w1, post w1 → Y X A R nL Qf (pc + 3) lv rest (w0 ++ w1) (cells + mc1) (slots + ms1)) : Y X A R nL Qf pc lv (As.reverse ++ .ref a :: rest) (w0 ++ [x]) cells slots := by
  subst hlen
  refine y_call hX hco hini hlk hins hnm hy hR hR2 hc1 hs1 hn hw hd [x] w0 [w0.length] (List.range w0.length) ?_ ?_ rfl hnd (fun i hi h2 => ?_) hct kk
  · show [(w0 ++ [x])[w0.length]?] = [some x]
    rw [List.getElem?_append_right (Nat.le_refl _), Nat.sub_self]
    rfl
  · apply List.ext_getElem?
    intro k
    rw [List.getElem?_map, List.getElem?_map]
    by_cases hk : k < w0.length
    · rw [List.getElem?_range hk, List.getElem?_eq_getElem hk]
      show some ((w0 ++ [x])[k]?) = some (some w0[k])
      rw [List.getElem?_append_left hk, List.getElem?_eq_getElem hk]
    · rw [List.getElem?_eq_none (by rw [List.length_range]; omega), List.getElem?_eq_none (by omega)]
      rfl
  · rw [List.mem_range] at hi
    rw [List.mem_singleton] at h2
    omega
theorem kq_rc {args : Array Value} {s : State} {t : FieldType} (h : (Cond.arrayClass t).before args s = true) : ∃ c : ClassId, ArrOfT s c t ∧ s.vm.findClass ("[" ++ t.toString) = some c := by
  obtain ⟨c, k, comp, h1, h2, h3⟩ := Cond.arrayClass_spec h
  exact ⟨c, fun N z => ⟨(fun q hq => by cases hq), k, h2, comp, h3⟩, h1⟩
theorem law_ret {X : XT} {ad : Nat → Nat} {b L : Nat} {xs : Nat → Int32} (hV : Vc X ad b L xs) (ha : X.2.2.2.2.2.1 = #[Value.ref b]) (hr : X.2.2.2.2.2.2.2.1.sig.returnType = ret) (hlocks : X.2.2.2.2.2.2.2.1.locks = false) (i : Nat) (MX MM : Mem) : V X ad (lw_Z X.2.2.2.2.2.2.1 #[Value.ref b] X.2.2.2.1) 1203 (lvL X ad b i) [] MX MM := by
  refine v_iconst (v := 1) hV dL_law_1203 (by decide) ?_
  intro H locs ls hl hP hM hS
  refine va_forget (fun q hq => hS.2.2 q hq) ?_
  rw [ha]
  exact lw_ret hV.1 hV.2.1 hr hlocks dL_law_1204
theorem z_at1 {S1 S2 : ST} {E1 E2 : ET} {M1 M2 : Mem} {i : Nat} (hi : i < S1.1.length) : ∃ x, (z_wd S1 E1 M1 ++ z_wd S2 E2 M2)[i]? = some (E1.2.1 i, x) := by
  obtain ⟨sc, h1⟩ : ∃ sc, S1.1[i]? = some sc := ⟨_, List.getElem?_eq_getElem hi⟩
  exact ⟨_, by rw [List.getElem?_append_left (by rw [z_wd_len]; exact hi), z_wd_at h1]⟩
theorem z_at2 {S1 S2 : ST} {E1 E2 : ET} {M1 M2 : Mem} {j : Nat} (hj : j < S2.1.length) : ∃ x, (z_wd S1 E1 M1 ++ z_wd S2 E2 M2)[S1.1.length + j]? = some (E2.2.1 j, x) := by
  obtain ⟨sc, h1⟩ : ∃ sc, S2.1[j]? = some sc := ⟨_, List.getElem?_eq_getElem hj⟩
  exact ⟨_, by rw [List.getElem?_append_right (by rw [z_wd_len]; omega), z_wd_len, Nat.add_sub_cancel_left, z_wd_at h1]⟩
theorem z_two {S1 S2 : ST} {E1 E2 : ET} {M1 M2 : Mem} {A : Nat → Prop} (hD : va_D A (z_wd S1 E1 M1 ++ z_wd S2 E2 M2)) : z_I S1 E1 ∧ z_I S2 E2 ∧ (∀ i j, i < S1.1.length → j < S2.1.length → E1.2.1 i ≠ E2.2.1 j) ∧ (∀ i, i < S1.1.length → A (E1.2.1 i)) ∧ (∀ j, j < S2.1.length → A (E2.2.1 j)) := by
  refine ⟨fun i j hi hj e0 => ?_, fun i j hi hj e0 => ?_, fun i j hi hj e0 => ?_, fun i hi => ?_, fun j hj => ?_⟩
  · obtain ⟨x, h1⟩ := z_at1 (S2 := S2) (E1 := E1) (E2 := E2) (M1 := M1) (M2 := M2) hi
    obtain ⟨y, h2⟩ := z_at1 (S2 := S2) (E1 := E1) (E2 := E2) (M1 := M1) (M2 := M2) hj
    exact hD.1 i j _ _ h1 h2 e0
  · obtain ⟨x, h1⟩ := z_at2 (S1 := S1) (E1 := E1) (E2 := E2) (M1 := M1) (M2 := M2) hi
    obtain ⟨y, h2⟩ := z_at2 (S1 := S1) (E1 := E1) (E2 := E2) (M1 := M1) (M2 := M2) hj
    have := hD.1 _ _ _ _ h1 h2 e0
    omega
  · obtain ⟨x, h1⟩ := z_at1 (S2 := S2) (E1 := E1) (E2 := E2) (M1 := M1) (M2 := M2) hi
    obtain ⟨y, h2⟩ := z_at2 (S1 := S1) (E1 := E1) (E2 := E2) (M1 := M1) (M2 := M2) hj
    have := hD.1 _ _ _ _ h1 h2 e0
    omega
  · obtain ⟨x, h1⟩ := z_at1 (S2 := S2) (E1 := E1) (E2 := E2) (M1 := M1) (M2 := M2) hi
    exact hD.2 _ _ h1
  · obtain ⟨x, h1⟩ := z_at2 (S1 := S1) (E1 := E1) (E2 := E2) (M1 := M1) (M2 := M2) hj
    exact hD.2 _ _ h1
theorem z_twoP {D : va_G} {cl : List vw_C} {w1 w2 : va_W} {H : Heap} (hP : va_P D cl (w1 ++ w2) H) : va_P D cl w1 H ∧ va_P D cl w2 H :=
  ⟨fun k x hk => hP k x (by rw [List.getElem?_append_left (List.getElem?_eq_some_iff.mp hk).1]; exact hk), fun k x hk => hP (w1.length + k) x (by rw [List.getElem?_append_right (by omega), Nat.add_sub_cancel_left]; exact hk)⟩
theorem law_lv {X : XT} {ad : Nat → Nat} {b : Nat} : lv_pick [(3, Value.int 0), (2, .ref (ad 0)), (1, .ref (X.1.2.1 9)), (0, .ref b)] [3, 2, 1, 0] = lvL X ad b 0 := rfl
theorem law_Vc {E : ET} {p : Program} {e : Env} {s : State} {m : MethodId} {below : List Frame} {meth : Method} {c : Code} {b L : Nat} {xs : Nat → Int32} (C0 : lw_At p s m meth c b L xs) (hK : va_K E.2.2.1 zCl (z_tys E) s) {aX aM : Nat → Nat} (hD : va_D (fun q : Nat => s.heap.size ≤ q) (z_wd SX (E.1, aX, E.2.2) kq_M0 ++ z_wd SM (E.1, aM, E.2.2) kq_MM0)) : Vc ((E.1, aX, E.2.2), p, e, s, m, #[Value.ref b], below, meth, c) aM b L xs := by
  obtain ⟨hx, hb, hr, hml, hown, hts, hsc, hbl, hlocks, hgv⟩ := id C0
  have htg : ∀ w ∈ lw_g, w.before #[Value.ref b] s = true := fun w hw => hts w (List.mem_filter.mp hw).1
  have lX : SX.1.length = 37 := rfl
  have lM : SM.1.length = 16 := rfl
  obtain ⟨h1, h2, h3, h4, h5⟩ := z_two hD
  rw [lX] at h3 h4
  rw [lM] at h3 h5
  exact ⟨hx, hb, hml, hown, htg, hK, h1, h2, h3, h4, h5, hsc, hbl⟩
theorem law_after {E : ET} {p : Program} {e : Env} {s : State} {m : MethodId} {below : List Frame} {meth : Method} {c : Code} {b L : Nat} {xs : Nat → Int32} (hL : L ≤ 3072) (C0 : lw_At p s m meth c b L xs) (hK : va_K E.2.2.1 zCl (z_tys E) s) (aX aM : Nat → Nat) : Y (E, p, e, s, m, #[Value.ref b], below, meth, c) (fun q : Nat => s.heap.size ≤ q) room_1 4 (lw_Z below #[Value.ref b] s) 18 [(3, .int 0), (2, .ref (aM 0)), (1, .ref (aX 9)), (0, .ref b)] [] (z_wd SX (E.1, aX, E.2.2) kq_M0 ++ z_wd SM (E.1, aM, E.2.2) kq_MM0) 600000 7302250 := by
  intro H locs ls hl hP hD hS
  have hV : Vc ((E.1, aX, E.2.2), p, e, s, m, #[Value.ref b], below, meth, c) aM b L xs := law_Vc C0 hK hD
  obtain ⟨hPX, hPM⟩ := z_twoP hP
  obtain ⟨hx, hb, hr, hml, hown, hts, hsc, hbl, hlocks, hgv⟩ := C0
  have hret : ∀ i MX MM, V ((E.1, aX, E.2.2), p, e, s, m, #[Value.ref b], below, meth, c) aM (lw_Z below #[Value.ref b] s) 1203 (lvL ((E.1, aX, E.2.2), p, e, s, m, #[Value.ref b], below, meth, c) aM b i) [] MX MM := fun i MX MM => law_ret hV rfl hr hlocks i MX MM
  have hloop := v_loop hV hL hret (L + 1) 0 0 kq_T0 (0, fun _ => 0) kq_M0 kq_MM0 (by omega) (by omega) (by omega) kq_inv kq_invM
  have hl2 := lv_sub hl [3, 2, 1, 0] (law_lv (X := ((E.1, aX, E.2.2), p, e, s, m, #[Value.ref b], below, meth, c)) (ad := aM) (b := b))
  exact hloop H locs ls hl2 hPX hPM hS
set_option maxHeartbeats 4000000 in
theorem law_begin {E : ET} {p : Program} {e : Env} {s : State} {m : MethodId} {below : List Frame} {meth : Method} {c : Code} {b L : Nat} {xs : Nat → Int32} (hL : L ≤ 3072) (C0 : lw_At p s m meth c b L xs) (hK : va_K E.2.2.1 zCl (z_tys E) s) (hO : kq_O s) : Y (E, p, e, s, m, #[Value.ref b], below, meth, c) (fun q : Nat => s.heap.size ≤ q) room_1 4 (lw_Z below #[Value.ref b] s) 0 (lv_args 0 [Value.ref b]) [] [] 0 0 := by
  obtain ⟨hx, hb, hr, hml, hown, hts, hsc, hbl, hlocks, hgv⟩ := id C0
  have htg : ∀ w ∈ lw_g, w.before #[Value.ref b] s = true := fun w hw => hts w (List.mem_filter.mp hw).1
  have hY : Yc (E, p, e, s, m, #[Value.ref b], below, meth, c) R_law code 4 (fun q : Nat => s.heap.size ≤ q) := ⟨hx, hb, hml, hown, htg, hK, hO, fun _ h => h⟩
  refine y_new hY [.null, .null, .null, .null, .null, .null, .null, .null] tyX9 tyX9_ok (ci := 9) rfl inX9 (z_w (List.mem_append_right _ (List.mem_of_getElem? (i := 14) (by decide +kernel))) rfl) (z_w (List.mem_append_right _ (List.mem_of_getElem? (i := 15) (by decide +kernel))) rfl) wnX9 (fun j hj => by rcases (show j = 0 ∨ j = 1 ∨ j = 2 ∨ j = 3 ∨ j = 4 ∨ j = 5 ∨ j = 6 ∨ j = 7 by omega) with rfl | rfl | rfl | rfl | rfl | rfl | rfl | rfl <;> rfl) (by decide) (by decide) dL_law_0 (fun q => ?_)
  refine y_dup hY dL_law_3 ?_
  refine y_callL (w0 := []) 0 rfl rfl (n := 0) (As := []) (rest := [.ref q]) hY (z_w (List.mem_append_right _ (List.mem_of_getElem? (i := 18) (by decide +kernel))) rfl) wnX9 (z_w (List.mem_append_right _ (List.mem_of_getElem? (i := 16) (by decide +kernel))) rfl) (z_w (List.mem_append_right _ (List.mem_of_getElem? (i := 17) (by decide +kernel))) rfl) rfl ⟨by decide, by decide, by decide +kernel⟩ (by decide) (by decide) (by decide) (by decide) rfl (Nat.le_of_ble_eq_true rfl) dL_law_4 i_X9 (fun w1 hp => ?_)
  refine Exists.elim hp (fun aX hq => ?_)
  have ea := hq.1
  have hw : w1 = z_wd SX (E.1, aX, E.2.2) kq_M0 := hq.2
  refine y_ws (ws' := z_wd SX (E.1, aX, E.2.2) kq_M0) (by rw [List.nil_append]; exact hw) ?_
  refine y_astore_n hY dL_law_7 rfl (by decide) [(1, .ref q), (0, .ref b)] rfl ?_
  refine y_new hY [.int 0, .null, .null, .null, .null, .null, .int 0, .int 0, .int 0, .null, .null, .null, .null, .null, .null, .int 0, .null, .null, .int 0, .null, .null] tyX10 tyX10_ok (ci := 10) rfl inX10 (z_w (List.mem_append_right _ (List.mem_of_getElem? (i := 751) (by decide +kernel))) rfl) (z_w (List.mem_append_right _ (List.mem_of_getElem? (i := 752) (by decide +kernel))) rfl) wnX10 (fun j hj => by rcases (show j = 0 ∨ j = 1 ∨ j = 2 ∨ j = 3 ∨ j = 4 ∨ j = 5 ∨ j = 6 ∨ j = 7 ∨ j = 8 ∨ j = 9 ∨ j = 10 ∨ j = 11 ∨ j = 12 ∨ j = 13 ∨ j = 14 ∨ j = 15 ∨ j = 16 ∨ j = 17 ∨ j = 18 ∨ j = 19 ∨ j = 20 by omega) with rfl | rfl | rfl | rfl | rfl | rfl | rfl | rfl | rfl | rfl | rfl | rfl | rfl | rfl | rfl | rfl | rfl | rfl | rfl | rfl | rfl <;> rfl) (by decide) (by decide) dL_law_8 (fun q2 => ?_)
  refine y_dup hY dL_law_11 ?_
  refine y_callL 37 z_wd_len (by decide) (n := 0) (As := []) (rest := [.ref q2]) hY (z_w (List.mem_append_right _ (List.mem_of_getElem? (i := 755) (by decide +kernel))) rfl) wnX10 (z_w (List.mem_append_right _ (List.mem_of_getElem? (i := 753) (by decide +kernel))) rfl) (z_w (List.mem_append_right _ (List.mem_of_getElem? (i := 754) (by decide +kernel))) rfl) rfl ⟨by decide, by decide, by decide +kernel⟩ (by decide) (by decide) (by decide) (by decide) rfl (Nat.le_of_ble_eq_true rfl) dL_law_12 i_X10 (fun w2 hp2 => ?_)
  refine Exists.elim hp2 (fun aM hq2 => ?_)
  have ea2 := hq2.1
  have hw2 : w2 = z_wd SM (E.1, aM, E.2.2) kq_MM0 := hq2.2
  rw [hw2]
  refine y_astore_n hY dL_law_15 rfl (by decide) [(2, .ref q2), (1, .ref q), (0, .ref b)] rfl ?_
  refine y_iconst (v := 0) hY dL_law_16 (by decide) ?_
  refine y_istore_n hY dL_law_17 rfl (by decide) [(3, .int 0), (2, .ref q2), (1, .ref q), (0, .ref b)] rfl ?_
  refine y_widen (c1 := 600000) (s1 := 7302250) (by decide) (by decide) ?_
  rw [← ea, ← ea2]
  exact law_after hL C0 hK aX aM
theorem whole_start {p : Program} {e : Env} {s : State} {m : MethodId} {below : List Frame} {meth : Method} {c : Code} (l : Launch) {b L : Nat} {xs : Nat → Int32} (hL : L ≤ 3072) (C0 : lw_At p s m meth c b L xs) : W p l e room_1 s m #[Value.ref b] below meth c s.heap [] 0 0 (lw_Z below #[Value.ref b] s) (entryFrame m ([Value.ref b] : List Value).toArray 4) := by
  obtain ⟨hx, hb, hr, hml, hown, hts, hsc, hbl, hlocks, hgv⟩ := id C0
  have htg : ∀ w ∈ lw_g, w.before #[Value.ref b] s = true := fun w hw => hts w (List.mem_filter.mp hw).1
  have hO : kq_O s := hts (Cond.arrayOver (.array .int)) (List.mem_append_right _ (List.mem_of_getElem? (i := 61) (by decide +kernel)))
  obtain ⟨c0, i0, k0⟩ := u_known (C := RX0) (T := TX0) (N := 5) (n := 5) htg inX0 (htg (.instantiable RX0 5) (z_w (List.mem_append_right _ (List.mem_of_getElem? (i := 176) (by decide +kernel))) rfl))
  obtain ⟨c1, i1, k1⟩ := u_known (C := RX1) (T := TX1) (N := 1) (n := 1) htg inX1 (htg (.instantiable RX1 1) (z_w (List.mem_append_right _ (List.mem_of_getElem? (i := 88) (by decide +kernel))) rfl))
  obtain ⟨c2, i2, k2⟩ := u_known (C := RX2) (T := TX2) (N := 3) (n := 3) htg inX2 (htg (.instantiable RX2 3) (z_w (List.mem_append_right _ (List.mem_of_getElem? (i := 199) (by decide +kernel))) rfl))
  obtain ⟨c3, i3, k3⟩ := u_known (C := RX3) (T := TX3) (N := 1) (n := 1) htg inX3 (htg (.instantiable RX3 1) (z_w (List.mem_append_right _ (List.mem_of_getElem? (i := 98) (by decide +kernel))) rfl))
  obtain ⟨c4, i4, k4⟩ := u_known (C := RX4) (T := TX4) (N := 9) (n := 9) htg inX4 (htg (.instantiable RX4 9) (z_w (List.mem_append_right _ (List.mem_of_getElem? (i := 142) (by decide +kernel))) rfl))
  obtain ⟨c5, i5, k5⟩ := u_known (C := RX5) (T := TX5) (N := 4) (n := 4) htg inX5 (htg (.instantiable RX5 4) (z_w (List.mem_append_right _ (List.mem_of_getElem? (i := 215) (by decide +kernel))) rfl))
  obtain ⟨c6, i6, k6⟩ := u_known (C := RX6) (T := TX6) (N := 5) (n := 5) htg inX6 (htg (.instantiable RX6 5) (z_w (List.mem_append_right _ (List.mem_of_getElem? (i := 23) (by decide +kernel))) rfl))
  obtain ⟨c7, i7, k7⟩ := u_known (C := RX7) (T := TX7) (N := 8) (n := 8) htg inX7 (htg (.instantiable RX7 8) (z_w (List.mem_append_right _ (List.mem_of_getElem? (i := 55) (by decide +kernel))) rfl))
  obtain ⟨c8, i8, k8⟩ := u_known (C := RX8) (T := TX8) (N := 9) (n := 9) htg inX8 (htg (.instantiable RX8 9) (z_w (List.mem_append_right _ (List.mem_of_getElem? (i := 108) (by decide +kernel))) rfl))
  obtain ⟨c9, i9, k9⟩ := u_known (C := RX9) (T := TX9) (N := 8) (n := 8) htg inX9 (htg (.instantiable RX9 8) (z_w (List.mem_append_right _ (List.mem_of_getElem? (i := 15) (by decide +kernel))) rfl))
  obtain ⟨c10, i10, k10⟩ := u_known (C := RX10) (T := TX10) (N := 21) (n := 21) htg inX10 (htg (.instantiable RX10 21) (z_w (List.mem_append_right _ (List.mem_of_getElem? (i := 752) (by decide +kernel))) rfl))
  obtain ⟨dC, dI, hKc⟩ : ∃ (dC : Nat → ClassId) (dI : Nat → Nat → Nat), ∀ (k : Nat) (q : vw_C), zCl[k]? = some q → u_Kn s q.1 q.2.1 q.2.2 (dC k) (dI k) := by
    refine ⟨fun k => if k = 0 then c0 else if k = 1 then c1 else if k = 2 then c2 else if k = 3 then c3 else if k = 4 then c4 else if k = 5 then c5 else if k = 6 then c6 else if k = 7 then c7 else if k = 8 then c8 else if k = 9 then c9 else c10, fun k => if k = 0 then i0 else if k = 1 then i1 else if k = 2 then i2 else if k = 3 then i3 else if k = 4 then i4 else if k = 5 then i5 else if k = 6 then i6 else if k = 7 then i7 else if k = 8 then i8 else if k = 9 then i9 else i10, ?_⟩
    intro k q hq
    match k, hq with
    | 0, hq => cases hq; exact k0
    | 1, hq => cases hq; exact k1
    | 2, hq => cases hq; exact k2
    | 3, hq => cases hq; exact k3
    | 4, hq => cases hq; exact k4
    | 5, hq => cases hq; exact k5
    | 6, hq => cases hq; exact k6
    | 7, hq => cases hq; exact k7
    | 8, hq => cases hq; exact k8
    | 9, hq => cases hq; exact k9
    | 10, hq => cases hq; exact k10
    | k + 11, hq => simp [zCl] at hq
  obtain ⟨cI, hI1, hI2⟩ := kq_rc (htg (.arrayClass .int) (z_w (List.mem_append_right _ (List.mem_of_getElem? (i := 53) (by decide +kernel))) rfl))
  obtain ⟨cJ, hJ1, hJ2⟩ := kq_rc (htg (.arrayClass .long) (z_w (List.mem_append_right _ (List.mem_of_getElem? (i := 197) (by decide +kernel))) rfl))
  obtain ⟨cA, kA, compA, hA1, hA2, hA3⟩ := hO.spec
  obtain ⟨E, hE, hK⟩ : ∃ E : ET, E.1 = l ∧ va_K E.2.2.1 zCl (z_tys E) s := by
    refine ⟨(l, (fun _ => 0), (dC, dI), cI, cJ, cA), rfl, hKc, fun k q hq => ?_⟩
    match k, hq with
    | 0, hq => cases hq; exact ⟨hI1, hI2⟩
    | 1, hq => cases hq; exact ⟨hJ1, hJ2⟩
    | 2, hq => cases hq; exact ⟨fun N z => ⟨(fun q hq => by cases hq), kA, hA2, compA, hA3⟩, hA1⟩
    | k + 3, hq => simp [z_tys] at hq
  subst hE
  rw [lg_entry_eq]
  exact law_begin hL C0 hK hO s.heap [] _ (lv_entry [Value.ref b] (n := 4) (Nat.le_of_ble_eq_true rfl)) (fun k q h => by simp at h) ⟨fun i j p q h => by simp at h, fun k q h => by simp at h⟩ va_S.rf
