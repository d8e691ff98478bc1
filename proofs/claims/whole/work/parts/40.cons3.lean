def kq_ad (l : List Nat) (k : Nat) : Nat := l.getD k 0
def kq_M0 : Mem := (fun k => if k = 7 then (fun j => if j = 5 then 4 else if j = 6 then 1023 else 0) else if k = 8 then (fun j => if j = 6 then -1 else if j = 8 then -1 else 0) else fun _ => 0, fun _ _ => 0)
def kq_MM0 : Mem := (fun k => if k = 0 then (fun j => if j = 0 then 4 else 0) else fun _ => 0, fun _ _ => 0)
theorem kq_fun (r ad : Nat → Nat) (h : ∀ i, i < 10 → ad (10 + i) = r i) : (fun i => if i < 10 then some (r i) else none) = (fun i => (([some 10, some 11, some 12, some 13, some 14, some 15, some 16, some 17, some 18, some 19] : List (Option Nat))[i]?).join.map ad) := by
  funext i
  by_cases hi : i < 10
  · rw [if_pos hi, ← h i hi]
    rcases (show i = 0 ∨ i = 1 ∨ i = 2 ∨ i = 3 ∨ i = 4 ∨ i = 5 ∨ i = 6 ∨ i = 7 ∨ i = 8 ∨ i = 9 by omega) with rfl | rfl | rfl | rfl | rfl | rfl | rfl | rfl | rfl | rfl <;> rfl
  · rw [if_neg hi, List.getElem?_eq_none (by simp; omega)]
    rfl
def kq_mi {α β : Type} (f : Nat → α → β) : Nat → List α → List β
  | _, [] => []
  | i, a :: as => f i a :: kq_mi f (i + 1) as
theorem kq_mi_at {α β : Type} (f : Nat → α → β) : ∀ (l : List α) (i k : Nat), (kq_mi f i l)[k]? = (l[k]?).map (f (i + k))
  | [], i, k => by simp [kq_mi]
  | a :: as, i, 0 => by simp [kq_mi]
  | a :: as, i, k + 1 => by
    show (kq_mi f (i + 1) as)[k]? = (as[k]?).map (f (i + (k + 1)))
    rw [kq_mi_at f as (i + 1) k, show i + 1 + k = i + (k + 1) by omega]
theorem kq_mi_eq {α β : Type} (f : Nat → α → β) (l : List α) : kq_mi f 0 l = l.mapIdx f := by
  apply List.ext_getElem?
  intro k
  rw [kq_mi_at, List.getElem?_mapIdx, Nat.zero_add]
def kq_cell (E : ET) (M : Mem) (k : Nat) (sc : SC) : va_E := match sc.1 with
  | 0 => .inr (sc.2.1, kq_mi (z_fv E.2.1 M k) 0 sc.2.2)
  | 1 => .inl (E.2.2.2.1, sc.2.1, .inl (M.1 k))
  | 2 => .inl (E.2.2.2.2.1, sc.2.1, .inr (.inl (M.2 k)))
  | _ => .inl (E.2.2.2.2.2, sc.2.1, .inr (.inr (.inr (.inr (fun i => (sc.2.2[i]?).join.map E.2.1)))))
theorem kq_cell_eq (E : ET) (M : Mem) (k : Nat) (sc : SC) : kq_cell E M k sc = z_cell E M k sc := by
  obtain ⟨n, x, rs⟩ := sc
  match n with
  | 0 => show (Sum.inr (x, kq_mi (z_fv E.2.1 M k) 0 rs) : va_E) = .inr (x, z_fs E.2.1 M k rs); rw [kq_mi_eq]; rfl
  | 1 => rfl
  | 2 => rfl
  | n + 3 => rfl
def kq_wd (S : ST) (E : ET) (M : Mem) : va_W := kq_mi (fun k sc => (E.2.1 k, kq_cell E M k sc)) 0 S.1
theorem kq_wd_eq (S : ST) (E : ET) (M : Mem) : kq_wd S E M = z_wd S E M := by
  unfold kq_wd z_wd
  rw [kq_mi_eq]
  congr 1
  funext k sc
  rw [kq_cell_eq]
section YRows3
variable {X : XT} {own : String} {cc : ByteArray} {nL pc cells slots : Nat} {A : Nat → Prop} {R : Room} {Qf : State → Prop} {lv lv' : List (Nat × Value)} {st : List Value} {ws ws' : va_W}
theorem y_ws (h : ws = ws') (k : Y X A R nL Qf pc lv st ws' cells slots) : Y X A R nL Qf pc lv st ws cells slots := by
  rw [h]; exact k
theorem y_perm (is : List Nat) (ws' : va_W) (hn : va_nd is = true) (hs : is.map (fun i => ws[i]?) = ws'.map some) (k : Y X A R nL Qf pc lv st ws' cells slots) : Y X A R nL Qf pc lv st ws cells slots := by
  intro H locs ls hl hP hD hS
  refine k H locs ls hl (fun k q hk => ?_) (hD.sub is hn hs) hS
  have h1 : (is.map (fun i => ws[i]?))[k]? = some (some q) := by rw [hs, List.getElem?_map, hk]; rfl
  rw [List.getElem?_map] at h1
  cases hi : is[k]? with
  | none => rw [hi] at h1; cases h1
  | some i =>
    rw [hi] at h1
    exact hP i q (Option.some.inj h1)
end YRows3
set_option maxHeartbeats 4000000 in
set_option maxRecDepth 100000 in
theorem i_X6 {E : ET} {a : Nat} : CtI E yX6_init cX6_init 1 1 5 5120 [.ref a] [(a, .inr (6, [.null, .null, .null, .null, .null]))] (fun w => ∃ (q1 : Nat) (q2 : Nat) (q3 : Nat) (q4 : Nat) (q5 : Nat), w = [(a, .inr (6, [.ref q1, .ref q2, .ref q3, .ref q4, .ref q5])), (q1, .inl (E.2.2.2.1, 1024, .inl (fun _ => 0))), (q2, .inl (E.2.2.2.1, 1024, .inl (fun _ => 0))), (q3, .inl (E.2.2.2.1, 1024, .inl (fun _ => 0))), (q4, .inl (E.2.2.2.1, 1024, .inl (fun _ => 0))), (q5, .inl (E.2.2.2.1, 1024, .inl (fun _ => 0)))]) := by
  refine y_entry (by decide) rfl (Nat.le_of_ble_eq_true rfl) (fun X A hE hX hi => ?_)
  subst hE
  refine y_aload_n hX dX6_init_0 rfl 0 rfl ?_
  refine y_obj hX (by decide) (z_w (List.mem_append_right _ (List.mem_of_getElem? (i := 27) (by decide +kernel))) rfl) (z_w (List.mem_append_right _ (List.mem_of_getElem? (i := 20) (by decide +kernel))) rfl) (z_w (List.mem_append_right _ (List.mem_of_getElem? (i := 21) (by decide +kernel))) rfl) (Nat.le_of_ble_eq_true rfl) dX6_init_1 ?_
  refine y_aload_n hX dX6_init_4 rfl 0 rfl ?_
  refine y_sipush (v := 1024) hX dX6_init_5 (by decide) ?_
  refine y_newI (N := 1024) hX (z_w (List.mem_append_right _ (List.mem_of_getElem? (i := 53) (by decide +kernel))) rfl) dX6_init_8 (by decide) (by decide) (by decide) (by decide) (by decide) (fun q1 => ?_)
  refine y_ws (ws' := [(a, .inr (6, [.null, .null, .null, .null, .null])), (q1, .inl (X.1.2.2.2.1, 1024, .inl (fun _ => 0)))]) rfl ?_
  refine y_putF hX hi 0 0 tyX6 tyX6_ok nmX6 rfl rfl inX6 (by decide) (z_w (List.mem_append_right _ (List.mem_of_getElem? (i := 28) (by decide +kernel))) rfl) rfl rfl rfl rfl (Nat.le_of_ble_eq_true rfl) dX6_init_10 [(a, .inr (6, [.ref q1, .null, .null, .null, .null])), (q1, .inl (X.1.2.2.2.1, 1024, .inl (fun _ => 0)))] rfl ?_
  refine y_aload_n hX dX6_init_13 rfl 0 rfl ?_
  refine y_sipush (v := 1024) hX dX6_init_14 (by decide) ?_
  refine y_newI (N := 1024) hX (z_w (List.mem_append_right _ (List.mem_of_getElem? (i := 53) (by decide +kernel))) rfl) dX6_init_17 (by decide) (by decide) (by decide) (by decide) (by decide) (fun q2 => ?_)
  refine y_ws (ws' := [(a, .inr (6, [.ref q1, .null, .null, .null, .null])), (q1, .inl (X.1.2.2.2.1, 1024, .inl (fun _ => 0))), (q2, .inl (X.1.2.2.2.1, 1024, .inl (fun _ => 0)))]) rfl ?_
  refine y_putF hX hi 0 1 tyX6 tyX6_ok nmX6 rfl rfl inX6 (by decide) (z_w (List.mem_append_right _ (List.mem_of_getElem? (i := 32) (by decide +kernel))) rfl) rfl rfl rfl rfl (Nat.le_of_ble_eq_true rfl) dX6_init_19 [(a, .inr (6, [.ref q1, .ref q2, .null, .null, .null])), (q1, .inl (X.1.2.2.2.1, 1024, .inl (fun _ => 0))), (q2, .inl (X.1.2.2.2.1, 1024, .inl (fun _ => 0)))] rfl ?_
  refine y_aload_n hX dX6_init_22 rfl 0 rfl ?_
  refine y_sipush (v := 1024) hX dX6_init_23 (by decide) ?_
  refine y_newI (N := 1024) hX (z_w (List.mem_append_right _ (List.mem_of_getElem? (i := 53) (by decide +kernel))) rfl) dX6_init_26 (by decide) (by decide) (by decide) (by decide) (by decide) (fun q3 => ?_)
  refine y_ws (ws' := [(a, .inr (6, [.ref q1, .ref q2, .null, .null, .null])), (q1, .inl (X.1.2.2.2.1, 1024, .inl (fun _ => 0))), (q2, .inl (X.1.2.2.2.1, 1024, .inl (fun _ => 0))), (q3, .inl (X.1.2.2.2.1, 1024, .inl (fun _ => 0)))]) rfl ?_
  refine y_putF hX hi 0 2 tyX6 tyX6_ok nmX6 rfl rfl inX6 (by decide) (z_w (List.mem_append_right _ (List.mem_of_getElem? (i := 37) (by decide +kernel))) rfl) rfl rfl rfl rfl (Nat.le_of_ble_eq_true rfl) dX6_init_28 [(a, .inr (6, [.ref q1, .ref q2, .ref q3, .null, .null])), (q1, .inl (X.1.2.2.2.1, 1024, .inl (fun _ => 0))), (q2, .inl (X.1.2.2.2.1, 1024, .inl (fun _ => 0))), (q3, .inl (X.1.2.2.2.1, 1024, .inl (fun _ => 0)))] rfl ?_
  refine y_aload_n hX dX6_init_31 rfl 0 rfl ?_
  refine y_sipush (v := 1024) hX dX6_init_32 (by decide) ?_
  refine y_newI (N := 1024) hX (z_w (List.mem_append_right _ (List.mem_of_getElem? (i := 53) (by decide +kernel))) rfl) dX6_init_35 (by decide) (by decide) (by decide) (by decide) (by decide) (fun q4 => ?_)
  refine y_ws (ws' := [(a, .inr (6, [.ref q1, .ref q2, .ref q3, .null, .null])), (q1, .inl (X.1.2.2.2.1, 1024, .inl (fun _ => 0))), (q2, .inl (X.1.2.2.2.1, 1024, .inl (fun _ => 0))), (q3, .inl (X.1.2.2.2.1, 1024, .inl (fun _ => 0))), (q4, .inl (X.1.2.2.2.1, 1024, .inl (fun _ => 0)))]) rfl ?_
  refine y_putF hX hi 0 3 tyX6 tyX6_ok nmX6 rfl rfl inX6 (by decide) (z_w (List.mem_append_right _ (List.mem_of_getElem? (i := 39) (by decide +kernel))) rfl) rfl rfl rfl rfl (Nat.le_of_ble_eq_true rfl) dX6_init_37 [(a, .inr (6, [.ref q1, .ref q2, .ref q3, .ref q4, .null])), (q1, .inl (X.1.2.2.2.1, 1024, .inl (fun _ => 0))), (q2, .inl (X.1.2.2.2.1, 1024, .inl (fun _ => 0))), (q3, .inl (X.1.2.2.2.1, 1024, .inl (fun _ => 0))), (q4, .inl (X.1.2.2.2.1, 1024, .inl (fun _ => 0)))] rfl ?_
  refine y_aload_n hX dX6_init_40 rfl 0 rfl ?_
  refine y_sipush (v := 1024) hX dX6_init_41 (by decide) ?_
  refine y_newI (N := 1024) hX (z_w (List.mem_append_right _ (List.mem_of_getElem? (i := 53) (by decide +kernel))) rfl) dX6_init_44 (by decide) (by decide) (by decide) (by decide) (by decide) (fun q5 => ?_)
  refine y_ws (ws' := [(a, .inr (6, [.ref q1, .ref q2, .ref q3, .ref q4, .null])), (q1, .inl (X.1.2.2.2.1, 1024, .inl (fun _ => 0))), (q2, .inl (X.1.2.2.2.1, 1024, .inl (fun _ => 0))), (q3, .inl (X.1.2.2.2.1, 1024, .inl (fun _ => 0))), (q4, .inl (X.1.2.2.2.1, 1024, .inl (fun _ => 0))), (q5, .inl (X.1.2.2.2.1, 1024, .inl (fun _ => 0)))]) rfl ?_
  refine y_putF hX hi 0 4 tyX6 tyX6_ok nmX6 rfl rfl inX6 (by decide) (z_w (List.mem_append_right _ (List.mem_of_getElem? (i := 41) (by decide +kernel))) rfl) rfl rfl rfl rfl (Nat.le_of_ble_eq_true rfl) dX6_init_46 [(a, .inr (6, [.ref q1, .ref q2, .ref q3, .ref q4, .ref q5])), (q1, .inl (X.1.2.2.2.1, 1024, .inl (fun _ => 0))), (q2, .inl (X.1.2.2.2.1, 1024, .inl (fun _ => 0))), (q3, .inl (X.1.2.2.2.1, 1024, .inl (fun _ => 0))), (q4, .inl (X.1.2.2.2.1, 1024, .inl (fun _ => 0))), (q5, .inl (X.1.2.2.2.1, 1024, .inl (fun _ => 0)))] rfl ?_
  exact y_ret hX hi dX6_init_49 ⟨q1, q2, q3, q4, q5, rfl⟩
set_option maxHeartbeats 4000000 in
set_option maxRecDepth 100000 in
theorem i_X7 {E : ET} {a : Nat} : CtI E yX7_init cX7_init 1 1 15 2178 [.ref a] [(a, .inr (7, [.null, .null, .null, .null, .null, .int 0, .int 0, .int 0]))] (fun w => ∃ (q1 : Nat) (r : Nat → Nat) (q2 : Nat) (q3 : Nat) (q4 : Nat) (q5 : Nat), w = [(a, .inr (7, [.ref q1, .ref q2, .ref q3, .ref q4, .ref q5, .int 4, .int 1023, .int 0])), (q1, .inl (E.2.2.2.2.2, 10, .inr (.inr (.inr (.inr (fun i => if i < 10 then some (r i) else none)))))), ((r 0), .inl (E.2.2.2.1, 10, .inl (fun _ => 0))), ((r 1), .inl (E.2.2.2.1, 10, .inl (fun _ => 0))), ((r 2), .inl (E.2.2.2.1, 10, .inl (fun _ => 0))), ((r 3), .inl (E.2.2.2.1, 10, .inl (fun _ => 0))), ((r 4), .inl (E.2.2.2.1, 10, .inl (fun _ => 0))), ((r 5), .inl (E.2.2.2.1, 10, .inl (fun _ => 0))), ((r 6), .inl (E.2.2.2.1, 10, .inl (fun _ => 0))), ((r 7), .inl (E.2.2.2.1, 10, .inl (fun _ => 0))), ((r 8), .inl (E.2.2.2.1, 10, .inl (fun _ => 0))), ((r 9), .inl (E.2.2.2.1, 10, .inl (fun _ => 0))), (q2, .inl (E.2.2.2.1, 10, .inl (fun _ => 0))), (q3, .inl (E.2.2.2.1, 10, .inl (fun _ => 0))), (q4, .inl (E.2.2.2.1, 1024, .inl (fun _ => 0))), (q5, .inl (E.2.2.2.1, 1024, .inl (fun _ => 0)))]) := by
  refine y_entry (by decide) rfl (Nat.le_of_ble_eq_true rfl) (fun X A hE hX hi => ?_)
  subst hE
  refine y_aload_n hX dX7_init_0 rfl 0 rfl ?_
  refine y_obj hX (by decide) (z_w (List.mem_append_right _ (List.mem_of_getElem? (i := 59) (by decide +kernel))) rfl) (z_w (List.mem_append_right _ (List.mem_of_getElem? (i := 20) (by decide +kernel))) rfl) (z_w (List.mem_append_right _ (List.mem_of_getElem? (i := 21) (by decide +kernel))) rfl) (Nat.le_of_ble_eq_true rfl) dX7_init_1 ?_
  refine y_aload_n hX dX7_init_4 rfl 0 rfl ?_
  refine y_bipush (v := 10) hX dX7_init_5 (by decide) ?_
  refine y_bipush (v := 10) hX dX7_init_7 (by decide) ?_
  refine y_mna hX (z_w (List.mem_append_right _ (List.mem_of_getElem? (i := 60) (by decide +kernel))) rfl) (z_w (List.mem_append_right _ (List.mem_of_getElem? (i := 53) (by decide +kernel))) rfl) (by decide) (by decide) dX7_init_9 (fun q1 r => ?_)
  refine y_ws (ws' := [(a, .inr (7, [.null, .null, .null, .null, .null, .int 0, .int 0, .int 0])), (q1, .inl (X.1.2.2.2.2.2, 10, .inr (.inr (.inr (.inr (fun i => if i < 10 then some (r i) else none)))))), ((r 0), .inl (X.1.2.2.2.1, 10, .inl (fun _ => 0))), ((r 1), .inl (X.1.2.2.2.1, 10, .inl (fun _ => 0))), ((r 2), .inl (X.1.2.2.2.1, 10, .inl (fun _ => 0))), ((r 3), .inl (X.1.2.2.2.1, 10, .inl (fun _ => 0))), ((r 4), .inl (X.1.2.2.2.1, 10, .inl (fun _ => 0))), ((r 5), .inl (X.1.2.2.2.1, 10, .inl (fun _ => 0))), ((r 6), .inl (X.1.2.2.2.1, 10, .inl (fun _ => 0))), ((r 7), .inl (X.1.2.2.2.1, 10, .inl (fun _ => 0))), ((r 8), .inl (X.1.2.2.2.1, 10, .inl (fun _ => 0))), ((r 9), .inl (X.1.2.2.2.1, 10, .inl (fun _ => 0)))]) rfl ?_
  refine y_putF hX hi 0 0 tyX7 tyX7_ok nmX7 rfl rfl inX7 (by decide) (z_w (List.mem_append_right _ (List.mem_of_getElem? (i := 62) (by decide +kernel))) rfl) rfl rfl rfl rfl (Nat.le_of_ble_eq_true rfl) dX7_init_13 [(a, .inr (7, [.ref q1, .null, .null, .null, .null, .int 0, .int 0, .int 0])), (q1, .inl (X.1.2.2.2.2.2, 10, .inr (.inr (.inr (.inr (fun i => if i < 10 then some (r i) else none)))))), ((r 0), .inl (X.1.2.2.2.1, 10, .inl (fun _ => 0))), ((r 1), .inl (X.1.2.2.2.1, 10, .inl (fun _ => 0))), ((r 2), .inl (X.1.2.2.2.1, 10, .inl (fun _ => 0))), ((r 3), .inl (X.1.2.2.2.1, 10, .inl (fun _ => 0))), ((r 4), .inl (X.1.2.2.2.1, 10, .inl (fun _ => 0))), ((r 5), .inl (X.1.2.2.2.1, 10, .inl (fun _ => 0))), ((r 6), .inl (X.1.2.2.2.1, 10, .inl (fun _ => 0))), ((r 7), .inl (X.1.2.2.2.1, 10, .inl (fun _ => 0))), ((r 8), .inl (X.1.2.2.2.1, 10, .inl (fun _ => 0))), ((r 9), .inl (X.1.2.2.2.1, 10, .inl (fun _ => 0)))] rfl ?_
  refine y_aload_n hX dX7_init_16 rfl 0 rfl ?_
  refine y_bipush (v := 10) hX dX7_init_17 (by decide) ?_
  refine y_newI (N := 10) hX (z_w (List.mem_append_right _ (List.mem_of_getElem? (i := 53) (by decide +kernel))) rfl) dX7_init_19 (by decide) (by decide) (by decide) (by decide) (by decide) (fun q2 => ?_)
  refine y_ws (ws' := [(a, .inr (7, [.ref q1, .null, .null, .null, .null, .int 0, .int 0, .int 0])), (q1, .inl (X.1.2.2.2.2.2, 10, .inr (.inr (.inr (.inr (fun i => if i < 10 then some (r i) else none)))))), ((r 0), .inl (X.1.2.2.2.1, 10, .inl (fun _ => 0))), ((r 1), .inl (X.1.2.2.2.1, 10, .inl (fun _ => 0))), ((r 2), .inl (X.1.2.2.2.1, 10, .inl (fun _ => 0))), ((r 3), .inl (X.1.2.2.2.1, 10, .inl (fun _ => 0))), ((r 4), .inl (X.1.2.2.2.1, 10, .inl (fun _ => 0))), ((r 5), .inl (X.1.2.2.2.1, 10, .inl (fun _ => 0))), ((r 6), .inl (X.1.2.2.2.1, 10, .inl (fun _ => 0))), ((r 7), .inl (X.1.2.2.2.1, 10, .inl (fun _ => 0))), ((r 8), .inl (X.1.2.2.2.1, 10, .inl (fun _ => 0))), ((r 9), .inl (X.1.2.2.2.1, 10, .inl (fun _ => 0))), (q2, .inl (X.1.2.2.2.1, 10, .inl (fun _ => 0)))]) rfl ?_
  refine y_putF hX hi 0 1 tyX7 tyX7_ok nmX7 rfl rfl inX7 (by decide) (z_w (List.mem_append_right _ (List.mem_of_getElem? (i := 63) (by decide +kernel))) rfl) rfl rfl rfl rfl (Nat.le_of_ble_eq_true rfl) dX7_init_21 [(a, .inr (7, [.ref q1, .ref q2, .null, .null, .null, .int 0, .int 0, .int 0])), (q1, .inl (X.1.2.2.2.2.2, 10, .inr (.inr (.inr (.inr (fun i => if i < 10 then some (r i) else none)))))), ((r 0), .inl (X.1.2.2.2.1, 10, .inl (fun _ => 0))), ((r 1), .inl (X.1.2.2.2.1, 10, .inl (fun _ => 0))), ((r 2), .inl (X.1.2.2.2.1, 10, .inl (fun _ => 0))), ((r 3), .inl (X.1.2.2.2.1, 10, .inl (fun _ => 0))), ((r 4), .inl (X.1.2.2.2.1, 10, .inl (fun _ => 0))), ((r 5), .inl (X.1.2.2.2.1, 10, .inl (fun _ => 0))), ((r 6), .inl (X.1.2.2.2.1, 10, .inl (fun _ => 0))), ((r 7), .inl (X.1.2.2.2.1, 10, .inl (fun _ => 0))), ((r 8), .inl (X.1.2.2.2.1, 10, .inl (fun _ => 0))), ((r 9), .inl (X.1.2.2.2.1, 10, .inl (fun _ => 0))), (q2, .inl (X.1.2.2.2.1, 10, .inl (fun _ => 0)))] rfl ?_
  refine y_aload_n hX dX7_init_24 rfl 0 rfl ?_
  refine y_bipush (v := 10) hX dX7_init_25 (by decide) ?_
  refine y_newI (N := 10) hX (z_w (List.mem_append_right _ (List.mem_of_getElem? (i := 53) (by decide +kernel))) rfl) dX7_init_27 (by decide) (by decide) (by decide) (by decide) (by decide) (fun q3 => ?_)
  refine y_ws (ws' := [(a, .inr (7, [.ref q1, .ref q2, .null, .null, .null, .int 0, .int 0, .int 0])), (q1, .inl (X.1.2.2.2.2.2, 10, .inr (.inr (.inr (.inr (fun i => if i < 10 then some (r i) else none)))))), ((r 0), .inl (X.1.2.2.2.1, 10, .inl (fun _ => 0))), ((r 1), .inl (X.1.2.2.2.1, 10, .inl (fun _ => 0))), ((r 2), .inl (X.1.2.2.2.1, 10, .inl (fun _ => 0))), ((r 3), .inl (X.1.2.2.2.1, 10, .inl (fun _ => 0))), ((r 4), .inl (X.1.2.2.2.1, 10, .inl (fun _ => 0))), ((r 5), .inl (X.1.2.2.2.1, 10, .inl (fun _ => 0))), ((r 6), .inl (X.1.2.2.2.1, 10, .inl (fun _ => 0))), ((r 7), .inl (X.1.2.2.2.1, 10, .inl (fun _ => 0))), ((r 8), .inl (X.1.2.2.2.1, 10, .inl (fun _ => 0))), ((r 9), .inl (X.1.2.2.2.1, 10, .inl (fun _ => 0))), (q2, .inl (X.1.2.2.2.1, 10, .inl (fun _ => 0))), (q3, .inl (X.1.2.2.2.1, 10, .inl (fun _ => 0)))]) rfl ?_
  refine y_putF hX hi 0 2 tyX7 tyX7_ok nmX7 rfl rfl inX7 (by decide) (z_w (List.mem_append_right _ (List.mem_of_getElem? (i := 64) (by decide +kernel))) rfl) rfl rfl rfl rfl (Nat.le_of_ble_eq_true rfl) dX7_init_29 [(a, .inr (7, [.ref q1, .ref q2, .ref q3, .null, .null, .int 0, .int 0, .int 0])), (q1, .inl (X.1.2.2.2.2.2, 10, .inr (.inr (.inr (.inr (fun i => if i < 10 then some (r i) else none)))))), ((r 0), .inl (X.1.2.2.2.1, 10, .inl (fun _ => 0))), ((r 1), .inl (X.1.2.2.2.1, 10, .inl (fun _ => 0))), ((r 2), .inl (X.1.2.2.2.1, 10, .inl (fun _ => 0))), ((r 3), .inl (X.1.2.2.2.1, 10, .inl (fun _ => 0))), ((r 4), .inl (X.1.2.2.2.1, 10, .inl (fun _ => 0))), ((r 5), .inl (X.1.2.2.2.1, 10, .inl (fun _ => 0))), ((r 6), .inl (X.1.2.2.2.1, 10, .inl (fun _ => 0))), ((r 7), .inl (X.1.2.2.2.1, 10, .inl (fun _ => 0))), ((r 8), .inl (X.1.2.2.2.1, 10, .inl (fun _ => 0))), ((r 9), .inl (X.1.2.2.2.1, 10, .inl (fun _ => 0))), (q2, .inl (X.1.2.2.2.1, 10, .inl (fun _ => 0))), (q3, .inl (X.1.2.2.2.1, 10, .inl (fun _ => 0)))] rfl ?_
  refine y_aload_n hX dX7_init_32 rfl 0 rfl ?_
  refine y_sipush (v := 1024) hX dX7_init_33 (by decide) ?_
  refine y_newI (N := 1024) hX (z_w (List.mem_append_right _ (List.mem_of_getElem? (i := 53) (by decide +kernel))) rfl) dX7_init_36 (by decide) (by decide) (by decide) (by decide) (by decide) (fun q4 => ?_)
  refine y_ws (ws' := [(a, .inr (7, [.ref q1, .ref q2, .ref q3, .null, .null, .int 0, .int 0, .int 0])), (q1, .inl (X.1.2.2.2.2.2, 10, .inr (.inr (.inr (.inr (fun i => if i < 10 then some (r i) else none)))))), ((r 0), .inl (X.1.2.2.2.1, 10, .inl (fun _ => 0))), ((r 1), .inl (X.1.2.2.2.1, 10, .inl (fun _ => 0))), ((r 2), .inl (X.1.2.2.2.1, 10, .inl (fun _ => 0))), ((r 3), .inl (X.1.2.2.2.1, 10, .inl (fun _ => 0))), ((r 4), .inl (X.1.2.2.2.1, 10, .inl (fun _ => 0))), ((r 5), .inl (X.1.2.2.2.1, 10, .inl (fun _ => 0))), ((r 6), .inl (X.1.2.2.2.1, 10, .inl (fun _ => 0))), ((r 7), .inl (X.1.2.2.2.1, 10, .inl (fun _ => 0))), ((r 8), .inl (X.1.2.2.2.1, 10, .inl (fun _ => 0))), ((r 9), .inl (X.1.2.2.2.1, 10, .inl (fun _ => 0))), (q2, .inl (X.1.2.2.2.1, 10, .inl (fun _ => 0))), (q3, .inl (X.1.2.2.2.1, 10, .inl (fun _ => 0))), (q4, .inl (X.1.2.2.2.1, 1024, .inl (fun _ => 0)))]) rfl ?_
  refine y_putF hX hi 0 3 tyX7 tyX7_ok nmX7 rfl rfl inX7 (by decide) (z_w (List.mem_append_right _ (List.mem_of_getElem? (i := 65) (by decide +kernel))) rfl) rfl rfl rfl rfl (Nat.le_of_ble_eq_true rfl) dX7_init_38 [(a, .inr (7, [.ref q1, .ref q2, .ref q3, .ref q4, .null, .int 0, .int 0, .int 0])), (q1, .inl (X.1.2.2.2.2.2, 10, .inr (.inr (.inr (.inr (fun i => if i < 10 then some (r i) else none)))))), ((r 0), .inl (X.1.2.2.2.1, 10, .inl (fun _ => 0))), ((r 1), .inl (X.1.2.2.2.1, 10, .inl (fun _ => 0))), ((r 2), .inl (X.1.2.2.2.1, 10, .inl (fun _ => 0))), ((r 3), .inl (X.1.2.2.2.1, 10, .inl (fun _ => 0))), ((r 4), .inl (X.1.2.2.2.1, 10, .inl (fun _ => 0))), ((r 5), .inl (X.1.2.2.2.1, 10, .inl (fun _ => 0))), ((r 6), .inl (X.1.2.2.2.1, 10, .inl (fun _ => 0))), ((r 7), .inl (X.1.2.2.2.1, 10, .inl (fun _ => 0))), ((r 8), .inl (X.1.2.2.2.1, 10, .inl (fun _ => 0))), ((r 9), .inl (X.1.2.2.2.1, 10, .inl (fun _ => 0))), (q2, .inl (X.1.2.2.2.1, 10, .inl (fun _ => 0))), (q3, .inl (X.1.2.2.2.1, 10, .inl (fun _ => 0))), (q4, .inl (X.1.2.2.2.1, 1024, .inl (fun _ => 0)))] rfl ?_
  refine y_aload_n hX dX7_init_41 rfl 0 rfl ?_
  refine y_sipush (v := 1024) hX dX7_init_42 (by decide) ?_
  refine y_newI (N := 1024) hX (z_w (List.mem_append_right _ (List.mem_of_getElem? (i := 53) (by decide +kernel))) rfl) dX7_init_45 (by decide) (by decide) (by decide) (by decide) (by decide) (fun q5 => ?_)
  refine y_ws (ws' := [(a, .inr (7, [.ref q1, .ref q2, .ref q3, .ref q4, .null, .int 0, .int 0, .int 0])), (q1, .inl (X.1.2.2.2.2.2, 10, .inr (.inr (.inr (.inr (fun i => if i < 10 then some (r i) else none)))))), ((r 0), .inl (X.1.2.2.2.1, 10, .inl (fun _ => 0))), ((r 1), .inl (X.1.2.2.2.1, 10, .inl (fun _ => 0))), ((r 2), .inl (X.1.2.2.2.1, 10, .inl (fun _ => 0))), ((r 3), .inl (X.1.2.2.2.1, 10, .inl (fun _ => 0))), ((r 4), .inl (X.1.2.2.2.1, 10, .inl (fun _ => 0))), ((r 5), .inl (X.1.2.2.2.1, 10, .inl (fun _ => 0))), ((r 6), .inl (X.1.2.2.2.1, 10, .inl (fun _ => 0))), ((r 7), .inl (X.1.2.2.2.1, 10, .inl (fun _ => 0))), ((r 8), .inl (X.1.2.2.2.1, 10, .inl (fun _ => 0))), ((r 9), .inl (X.1.2.2.2.1, 10, .inl (fun _ => 0))), (q2, .inl (X.1.2.2.2.1, 10, .inl (fun _ => 0))), (q3, .inl (X.1.2.2.2.1, 10, .inl (fun _ => 0))), (q4, .inl (X.1.2.2.2.1, 1024, .inl (fun _ => 0))), (q5, .inl (X.1.2.2.2.1, 1024, .inl (fun _ => 0)))]) rfl ?_
  refine y_putF hX hi 0 4 tyX7 tyX7_ok nmX7 rfl rfl inX7 (by decide) (z_w (List.mem_append_right _ (List.mem_of_getElem? (i := 66) (by decide +kernel))) rfl) rfl rfl rfl rfl (Nat.le_of_ble_eq_true rfl) dX7_init_47 [(a, .inr (7, [.ref q1, .ref q2, .ref q3, .ref q4, .ref q5, .int 0, .int 0, .int 0])), (q1, .inl (X.1.2.2.2.2.2, 10, .inr (.inr (.inr (.inr (fun i => if i < 10 then some (r i) else none)))))), ((r 0), .inl (X.1.2.2.2.1, 10, .inl (fun _ => 0))), ((r 1), .inl (X.1.2.2.2.1, 10, .inl (fun _ => 0))), ((r 2), .inl (X.1.2.2.2.1, 10, .inl (fun _ => 0))), ((r 3), .inl (X.1.2.2.2.1, 10, .inl (fun _ => 0))), ((r 4), .inl (X.1.2.2.2.1, 10, .inl (fun _ => 0))), ((r 5), .inl (X.1.2.2.2.1, 10, .inl (fun _ => 0))), ((r 6), .inl (X.1.2.2.2.1, 10, .inl (fun _ => 0))), ((r 7), .inl (X.1.2.2.2.1, 10, .inl (fun _ => 0))), ((r 8), .inl (X.1.2.2.2.1, 10, .inl (fun _ => 0))), ((r 9), .inl (X.1.2.2.2.1, 10, .inl (fun _ => 0))), (q2, .inl (X.1.2.2.2.1, 10, .inl (fun _ => 0))), (q3, .inl (X.1.2.2.2.1, 10, .inl (fun _ => 0))), (q4, .inl (X.1.2.2.2.1, 1024, .inl (fun _ => 0))), (q5, .inl (X.1.2.2.2.1, 1024, .inl (fun _ => 0)))] rfl ?_
  refine y_aload_n hX dX7_init_50 rfl 0 rfl ?_
  refine y_iconst (v := 4) hX dX7_init_51 (by decide) ?_
  refine y_put hX 0 5 tyX7 tyX7_ok nmX7 rfl rfl inX7 (by decide) (z_w (List.mem_append_right _ (List.mem_of_getElem? (i := 67) (by decide +kernel))) rfl) rfl rfl rfl (Nat.le_of_ble_eq_true rfl) dX7_init_52 [(a, .inr (7, [.ref q1, .ref q2, .ref q3, .ref q4, .ref q5, .int 4, .int 0, .int 0])), (q1, .inl (X.1.2.2.2.2.2, 10, .inr (.inr (.inr (.inr (fun i => if i < 10 then some (r i) else none)))))), ((r 0), .inl (X.1.2.2.2.1, 10, .inl (fun _ => 0))), ((r 1), .inl (X.1.2.2.2.1, 10, .inl (fun _ => 0))), ((r 2), .inl (X.1.2.2.2.1, 10, .inl (fun _ => 0))), ((r 3), .inl (X.1.2.2.2.1, 10, .inl (fun _ => 0))), ((r 4), .inl (X.1.2.2.2.1, 10, .inl (fun _ => 0))), ((r 5), .inl (X.1.2.2.2.1, 10, .inl (fun _ => 0))), ((r 6), .inl (X.1.2.2.2.1, 10, .inl (fun _ => 0))), ((r 7), .inl (X.1.2.2.2.1, 10, .inl (fun _ => 0))), ((r 8), .inl (X.1.2.2.2.1, 10, .inl (fun _ => 0))), ((r 9), .inl (X.1.2.2.2.1, 10, .inl (fun _ => 0))), (q2, .inl (X.1.2.2.2.1, 10, .inl (fun _ => 0))), (q3, .inl (X.1.2.2.2.1, 10, .inl (fun _ => 0))), (q4, .inl (X.1.2.2.2.1, 1024, .inl (fun _ => 0))), (q5, .inl (X.1.2.2.2.1, 1024, .inl (fun _ => 0)))] rfl ?_
  refine y_aload_n hX dX7_init_55 rfl 0 rfl ?_
  refine y_sipush (v := 1023) hX dX7_init_56 (by decide) ?_
  refine y_put hX 0 6 tyX7 tyX7_ok nmX7 rfl rfl inX7 (by decide) (z_w (List.mem_append_right _ (List.mem_of_getElem? (i := 68) (by decide +kernel))) rfl) rfl rfl rfl (Nat.le_of_ble_eq_true rfl) dX7_init_59 [(a, .inr (7, [.ref q1, .ref q2, .ref q3, .ref q4, .ref q5, .int 4, .int 1023, .int 0])), (q1, .inl (X.1.2.2.2.2.2, 10, .inr (.inr (.inr (.inr (fun i => if i < 10 then some (r i) else none)))))), ((r 0), .inl (X.1.2.2.2.1, 10, .inl (fun _ => 0))), ((r 1), .inl (X.1.2.2.2.1, 10, .inl (fun _ => 0))), ((r 2), .inl (X.1.2.2.2.1, 10, .inl (fun _ => 0))), ((r 3), .inl (X.1.2.2.2.1, 10, .inl (fun _ => 0))), ((r 4), .inl (X.1.2.2.2.1, 10, .inl (fun _ => 0))), ((r 5), .inl (X.1.2.2.2.1, 10, .inl (fun _ => 0))), ((r 6), .inl (X.1.2.2.2.1, 10, .inl (fun _ => 0))), ((r 7), .inl (X.1.2.2.2.1, 10, .inl (fun _ => 0))), ((r 8), .inl (X.1.2.2.2.1, 10, .inl (fun _ => 0))), ((r 9), .inl (X.1.2.2.2.1, 10, .inl (fun _ => 0))), (q2, .inl (X.1.2.2.2.1, 10, .inl (fun _ => 0))), (q3, .inl (X.1.2.2.2.1, 10, .inl (fun _ => 0))), (q4, .inl (X.1.2.2.2.1, 1024, .inl (fun _ => 0))), (q5, .inl (X.1.2.2.2.1, 1024, .inl (fun _ => 0)))] rfl ?_
  refine y_aload_n hX dX7_init_62 rfl 0 rfl ?_
  refine y_iconst (v := 0) hX dX7_init_63 (by decide) ?_
  refine y_put hX 0 7 tyX7 tyX7_ok nmX7 rfl rfl inX7 (by decide) (z_w (List.mem_append_right _ (List.mem_of_getElem? (i := 69) (by decide +kernel))) rfl) rfl rfl rfl (Nat.le_of_ble_eq_true rfl) dX7_init_64 [(a, .inr (7, [.ref q1, .ref q2, .ref q3, .ref q4, .ref q5, .int 4, .int 1023, .int 0])), (q1, .inl (X.1.2.2.2.2.2, 10, .inr (.inr (.inr (.inr (fun i => if i < 10 then some (r i) else none)))))), ((r 0), .inl (X.1.2.2.2.1, 10, .inl (fun _ => 0))), ((r 1), .inl (X.1.2.2.2.1, 10, .inl (fun _ => 0))), ((r 2), .inl (X.1.2.2.2.1, 10, .inl (fun _ => 0))), ((r 3), .inl (X.1.2.2.2.1, 10, .inl (fun _ => 0))), ((r 4), .inl (X.1.2.2.2.1, 10, .inl (fun _ => 0))), ((r 5), .inl (X.1.2.2.2.1, 10, .inl (fun _ => 0))), ((r 6), .inl (X.1.2.2.2.1, 10, .inl (fun _ => 0))), ((r 7), .inl (X.1.2.2.2.1, 10, .inl (fun _ => 0))), ((r 8), .inl (X.1.2.2.2.1, 10, .inl (fun _ => 0))), ((r 9), .inl (X.1.2.2.2.1, 10, .inl (fun _ => 0))), (q2, .inl (X.1.2.2.2.1, 10, .inl (fun _ => 0))), (q3, .inl (X.1.2.2.2.1, 10, .inl (fun _ => 0))), (q4, .inl (X.1.2.2.2.1, 1024, .inl (fun _ => 0))), (q5, .inl (X.1.2.2.2.1, 1024, .inl (fun _ => 0)))] rfl ?_
  exact y_ret hX hi dX7_init_67 ⟨q1, r, q2, q3, q4, q5, rfl⟩
set_option maxHeartbeats 4000000 in
set_option maxRecDepth 100000 in
theorem i_X1 {E : ET} {a t : Nat} : CtI E yX1_init cX1_init 2 1 0 0 [.ref a, .ref t] [(a, .inr (1, [.null]))] (fun w => w = [(a, .inr (1, [.ref t]))]) := by
  refine y_entry (by decide) rfl (Nat.le_of_ble_eq_true rfl) (fun X A hE hX hi => ?_)
  subst hE
  refine y_aload_n hX dX1_init_0 rfl 0 rfl ?_
  refine y_obj hX (by decide) (z_w (List.mem_append_right _ (List.mem_of_getElem? (i := 92) (by decide +kernel))) rfl) (z_w (List.mem_append_right _ (List.mem_of_getElem? (i := 20) (by decide +kernel))) rfl) (z_w (List.mem_append_right _ (List.mem_of_getElem? (i := 21) (by decide +kernel))) rfl) (Nat.le_of_ble_eq_true rfl) dX1_init_1 ?_
  refine y_aload_n hX dX1_init_4 rfl 0 rfl ?_
  refine y_aload_n hX dX1_init_5 rfl 1 rfl ?_
  refine y_putF hX hi 0 0 tyX1 tyX1_ok nmX1 rfl rfl inX1 (by decide) (z_w (List.mem_append_right _ (List.mem_of_getElem? (i := 93) (by decide +kernel))) rfl) rfl rfl rfl rfl (Nat.le_of_ble_eq_true rfl) dX1_init_6 [(a, .inr (1, [.ref t]))] rfl ?_
  exact y_ret hX hi dX1_init_9 rfl
set_option maxHeartbeats 4000000 in
set_option maxRecDepth 100000 in
theorem i_X3 {E : ET} {a t : Nat} : CtI E yX3_init cX3_init 2 1 0 0 [.ref a, .ref t] [(a, .inr (3, [.null]))] (fun w => w = [(a, .inr (3, [.ref t]))]) := by
  refine y_entry (by decide) rfl (Nat.le_of_ble_eq_true rfl) (fun X A hE hX hi => ?_)
  subst hE
  refine y_aload_n hX dX3_init_0 rfl 0 rfl ?_
  refine y_obj hX (by decide) (z_w (List.mem_append_right _ (List.mem_of_getElem? (i := 102) (by decide +kernel))) rfl) (z_w (List.mem_append_right _ (List.mem_of_getElem? (i := 20) (by decide +kernel))) rfl) (z_w (List.mem_append_right _ (List.mem_of_getElem? (i := 21) (by decide +kernel))) rfl) (Nat.le_of_ble_eq_true rfl) dX3_init_1 ?_
  refine y_aload_n hX dX3_init_4 rfl 0 rfl ?_
  refine y_aload_n hX dX3_init_5 rfl 1 rfl ?_
  refine y_putF hX hi 0 0 tyX3 tyX3_ok nmX3 rfl rfl inX3 (by decide) (z_w (List.mem_append_right _ (List.mem_of_getElem? (i := 103) (by decide +kernel))) rfl) rfl rfl rfl rfl (Nat.le_of_ble_eq_true rfl) dX3_init_6 [(a, .inr (3, [.ref t]))] rfl ?_
  exact y_ret hX hi dX3_init_9 rfl
set_option maxHeartbeats 4000000 in
set_option maxRecDepth 100000 in
theorem i_X8 {E : ET} {a t : Nat} : CtI E yX8_init cX8_init 2 1 4 4096 [.ref a, .ref t] [(a, .inr (8, [.null, .null, .null, .null, .null, .int 0, .int 0, .int 0, .int 0]))] (fun w => ∃ (q1 : Nat) (q2 : Nat) (q3 : Nat) (q4 : Nat), w = [(a, .inr (8, [.ref t, .ref q1, .ref q2, .ref q3, .ref q4, .int 0, .int (-1), .int 0, .int (-1)])), (q1, .inl (E.2.2.2.1, 1024, .inl (fun _ => 0))), (q2, .inl (E.2.2.2.1, 1024, .inl (fun _ => 0))), (q3, .inl (E.2.2.2.1, 1024, .inl (fun _ => 0))), (q4, .inl (E.2.2.2.1, 1024, .inl (fun _ => 0)))]) := by
  refine y_entry (by decide) rfl (Nat.le_of_ble_eq_true rfl) (fun X A hE hX hi => ?_)
  subst hE
  refine y_aload_n hX dX8_init_0 rfl 0 rfl ?_
  refine y_obj hX (by decide) (z_w (List.mem_append_right _ (List.mem_of_getElem? (i := 112) (by decide +kernel))) rfl) (z_w (List.mem_append_right _ (List.mem_of_getElem? (i := 20) (by decide +kernel))) rfl) (z_w (List.mem_append_right _ (List.mem_of_getElem? (i := 21) (by decide +kernel))) rfl) (Nat.le_of_ble_eq_true rfl) dX8_init_1 ?_
  refine y_aload_n hX dX8_init_4 rfl 0 rfl ?_
  refine y_sipush (v := 1024) hX dX8_init_5 (by decide) ?_
  refine y_newI (N := 1024) hX (z_w (List.mem_append_right _ (List.mem_of_getElem? (i := 53) (by decide +kernel))) rfl) dX8_init_8 (by decide) (by decide) (by decide) (by decide) (by decide) (fun q1 => ?_)
  refine y_ws (ws' := [(a, .inr (8, [.null, .null, .null, .null, .null, .int 0, .int 0, .int 0, .int 0])), (q1, .inl (X.1.2.2.2.1, 1024, .inl (fun _ => 0)))]) rfl ?_
  refine y_putF hX hi 0 1 tyX8 tyX8_ok nmX8 rfl rfl inX8 (by decide) (z_w (List.mem_append_right _ (List.mem_of_getElem? (i := 114) (by decide +kernel))) rfl) rfl rfl rfl rfl (Nat.le_of_ble_eq_true rfl) dX8_init_10 [(a, .inr (8, [.null, .ref q1, .null, .null, .null, .int 0, .int 0, .int 0, .int 0])), (q1, .inl (X.1.2.2.2.1, 1024, .inl (fun _ => 0)))] rfl ?_
  refine y_aload_n hX dX8_init_13 rfl 0 rfl ?_
  refine y_sipush (v := 1024) hX dX8_init_14 (by decide) ?_
  refine y_newI (N := 1024) hX (z_w (List.mem_append_right _ (List.mem_of_getElem? (i := 53) (by decide +kernel))) rfl) dX8_init_17 (by decide) (by decide) (by decide) (by decide) (by decide) (fun q2 => ?_)
  refine y_ws (ws' := [(a, .inr (8, [.null, .ref q1, .null, .null, .null, .int 0, .int 0, .int 0, .int 0])), (q1, .inl (X.1.2.2.2.1, 1024, .inl (fun _ => 0))), (q2, .inl (X.1.2.2.2.1, 1024, .inl (fun _ => 0)))]) rfl ?_
  refine y_putF hX hi 0 2 tyX8 tyX8_ok nmX8 rfl rfl inX8 (by decide) (z_w (List.mem_append_right _ (List.mem_of_getElem? (i := 115) (by decide +kernel))) rfl) rfl rfl rfl rfl (Nat.le_of_ble_eq_true rfl) dX8_init_19 [(a, .inr (8, [.null, .ref q1, .ref q2, .null, .null, .int 0, .int 0, .int 0, .int 0])), (q1, .inl (X.1.2.2.2.1, 1024, .inl (fun _ => 0))), (q2, .inl (X.1.2.2.2.1, 1024, .inl (fun _ => 0)))] rfl ?_
  refine y_aload_n hX dX8_init_22 rfl 0 rfl ?_
  refine y_sipush (v := 1024) hX dX8_init_23 (by decide) ?_
  refine y_newI (N := 1024) hX (z_w (List.mem_append_right _ (List.mem_of_getElem? (i := 53) (by decide +kernel))) rfl) dX8_init_26 (by decide) (by decide) (by decide) (by decide) (by decide) (fun q3 => ?_)
  refine y_ws (ws' := [(a, .inr (8, [.null, .ref q1, .ref q2, .null, .null, .int 0, .int 0, .int 0, .int 0])), (q1, .inl (X.1.2.2.2.1, 1024, .inl (fun _ => 0))), (q2, .inl (X.1.2.2.2.1, 1024, .inl (fun _ => 0))), (q3, .inl (X.1.2.2.2.1, 1024, .inl (fun _ => 0)))]) rfl ?_
  refine y_putF hX hi 0 3 tyX8 tyX8_ok nmX8 rfl rfl inX8 (by decide) (z_w (List.mem_append_right _ (List.mem_of_getElem? (i := 116) (by decide +kernel))) rfl) rfl rfl rfl rfl (Nat.le_of_ble_eq_true rfl) dX8_init_28 [(a, .inr (8, [.null, .ref q1, .ref q2, .ref q3, .null, .int 0, .int 0, .int 0, .int 0])), (q1, .inl (X.1.2.2.2.1, 1024, .inl (fun _ => 0))), (q2, .inl (X.1.2.2.2.1, 1024, .inl (fun _ => 0))), (q3, .inl (X.1.2.2.2.1, 1024, .inl (fun _ => 0)))] rfl ?_
  refine y_aload_n hX dX8_init_31 rfl 0 rfl ?_
  refine y_sipush (v := 1024) hX dX8_init_32 (by decide) ?_
  refine y_newI (N := 1024) hX (z_w (List.mem_append_right _ (List.mem_of_getElem? (i := 53) (by decide +kernel))) rfl) dX8_init_35 (by decide) (by decide) (by decide) (by decide) (by decide) (fun q4 => ?_)
  refine y_ws (ws' := [(a, .inr (8, [.null, .ref q1, .ref q2, .ref q3, .null, .int 0, .int 0, .int 0, .int 0])), (q1, .inl (X.1.2.2.2.1, 1024, .inl (fun _ => 0))), (q2, .inl (X.1.2.2.2.1, 1024, .inl (fun _ => 0))), (q3, .inl (X.1.2.2.2.1, 1024, .inl (fun _ => 0))), (q4, .inl (X.1.2.2.2.1, 1024, .inl (fun _ => 0)))]) rfl ?_
  refine y_putF hX hi 0 4 tyX8 tyX8_ok nmX8 rfl rfl inX8 (by decide) (z_w (List.mem_append_right _ (List.mem_of_getElem? (i := 117) (by decide +kernel))) rfl) rfl rfl rfl rfl (Nat.le_of_ble_eq_true rfl) dX8_init_37 [(a, .inr (8, [.null, .ref q1, .ref q2, .ref q3, .ref q4, .int 0, .int 0, .int 0, .int 0])), (q1, .inl (X.1.2.2.2.1, 1024, .inl (fun _ => 0))), (q2, .inl (X.1.2.2.2.1, 1024, .inl (fun _ => 0))), (q3, .inl (X.1.2.2.2.1, 1024, .inl (fun _ => 0))), (q4, .inl (X.1.2.2.2.1, 1024, .inl (fun _ => 0)))] rfl ?_
  refine y_aload_n hX dX8_init_40 rfl 0 rfl ?_
  refine y_iconst (v := 0) hX dX8_init_41 (by decide) ?_
  refine y_put hX 0 5 tyX8 tyX8_ok nmX8 rfl rfl inX8 (by decide) (z_w (List.mem_append_right _ (List.mem_of_getElem? (i := 118) (by decide +kernel))) rfl) rfl rfl rfl (Nat.le_of_ble_eq_true rfl) dX8_init_42 [(a, .inr (8, [.null, .ref q1, .ref q2, .ref q3, .ref q4, .int 0, .int 0, .int 0, .int 0])), (q1, .inl (X.1.2.2.2.1, 1024, .inl (fun _ => 0))), (q2, .inl (X.1.2.2.2.1, 1024, .inl (fun _ => 0))), (q3, .inl (X.1.2.2.2.1, 1024, .inl (fun _ => 0))), (q4, .inl (X.1.2.2.2.1, 1024, .inl (fun _ => 0)))] rfl ?_
  refine y_aload_n hX dX8_init_45 rfl 0 rfl ?_
  refine y_iconst (v := (-1)) hX dX8_init_46 (by decide) ?_
  refine y_put hX 0 6 tyX8 tyX8_ok nmX8 rfl rfl inX8 (by decide) (z_w (List.mem_append_right _ (List.mem_of_getElem? (i := 119) (by decide +kernel))) rfl) rfl rfl rfl (Nat.le_of_ble_eq_true rfl) dX8_init_47 [(a, .inr (8, [.null, .ref q1, .ref q2, .ref q3, .ref q4, .int 0, .int (-1), .int 0, .int 0])), (q1, .inl (X.1.2.2.2.1, 1024, .inl (fun _ => 0))), (q2, .inl (X.1.2.2.2.1, 1024, .inl (fun _ => 0))), (q3, .inl (X.1.2.2.2.1, 1024, .inl (fun _ => 0))), (q4, .inl (X.1.2.2.2.1, 1024, .inl (fun _ => 0)))] rfl ?_
  refine y_aload_n hX dX8_init_50 rfl 0 rfl ?_
  refine y_iconst (v := 0) hX dX8_init_51 (by decide) ?_
  refine y_put hX 0 7 tyX8 tyX8_ok nmX8 rfl rfl inX8 (by decide) (z_w (List.mem_append_right _ (List.mem_of_getElem? (i := 120) (by decide +kernel))) rfl) rfl rfl rfl (Nat.le_of_ble_eq_true rfl) dX8_init_52 [(a, .inr (8, [.null, .ref q1, .ref q2, .ref q3, .ref q4, .int 0, .int (-1), .int 0, .int 0])), (q1, .inl (X.1.2.2.2.1, 1024, .inl (fun _ => 0))), (q2, .inl (X.1.2.2.2.1, 1024, .inl (fun _ => 0))), (q3, .inl (X.1.2.2.2.1, 1024, .inl (fun _ => 0))), (q4, .inl (X.1.2.2.2.1, 1024, .inl (fun _ => 0)))] rfl ?_
  refine y_aload_n hX dX8_init_55 rfl 0 rfl ?_
  refine y_iconst (v := (-1)) hX dX8_init_56 (by decide) ?_
  refine y_put hX 0 8 tyX8 tyX8_ok nmX8 rfl rfl inX8 (by decide) (z_w (List.mem_append_right _ (List.mem_of_getElem? (i := 121) (by decide +kernel))) rfl) rfl rfl rfl (Nat.le_of_ble_eq_true rfl) dX8_init_57 [(a, .inr (8, [.null, .ref q1, .ref q2, .ref q3, .ref q4, .int 0, .int (-1), .int 0, .int (-1)])), (q1, .inl (X.1.2.2.2.1, 1024, .inl (fun _ => 0))), (q2, .inl (X.1.2.2.2.1, 1024, .inl (fun _ => 0))), (q3, .inl (X.1.2.2.2.1, 1024, .inl (fun _ => 0))), (q4, .inl (X.1.2.2.2.1, 1024, .inl (fun _ => 0)))] rfl ?_
  refine y_aload_n hX dX8_init_60 rfl 0 rfl ?_
  refine y_aload_n hX dX8_init_61 rfl 1 rfl ?_
  refine y_putF hX hi 0 0 tyX8 tyX8_ok nmX8 rfl rfl inX8 (by decide) (z_w (List.mem_append_right _ (List.mem_of_getElem? (i := 113) (by decide +kernel))) rfl) rfl rfl rfl rfl (Nat.le_of_ble_eq_true rfl) dX8_init_62 [(a, .inr (8, [.ref t, .ref q1, .ref q2, .ref q3, .ref q4, .int 0, .int (-1), .int 0, .int (-1)])), (q1, .inl (X.1.2.2.2.1, 1024, .inl (fun _ => 0))), (q2, .inl (X.1.2.2.2.1, 1024, .inl (fun _ => 0))), (q3, .inl (X.1.2.2.2.1, 1024, .inl (fun _ => 0))), (q4, .inl (X.1.2.2.2.1, 1024, .inl (fun _ => 0)))] rfl ?_
  exact y_ret hX hi dX8_init_65 ⟨q1, q2, q3, q4, rfl⟩
set_option maxHeartbeats 4000000 in
set_option maxRecDepth 100000 in
theorem i_X4 {E : ET} {a t sp s1 s2 s3 s4 s5 : Nat} : CtI E yX4_init cX4_init 3 1 0 0 [.ref a, .ref t, .ref sp] [(a, .inr (4, [.null, .null, .null, .null, .null, .null, .int 0, .int 0, .int 0])), (sp, .inr (6, [.ref s1, .ref s2, .ref s3, .ref s4, .ref s5]))] (fun w => w = [(a, .inr (4, [.ref t, .ref s1, .ref s2, .ref s3, .ref s4, .ref s5, .int 0, .int 0, .int 0])), (sp, .inr (6, [.ref s1, .ref s2, .ref s3, .ref s4, .ref s5]))]) := by
  refine y_entry (by decide) rfl (Nat.le_of_ble_eq_true rfl) (fun X A hE hX hi => ?_)
  subst hE
  refine y_aload_n hX dX4_init_0 rfl 0 rfl ?_
  refine y_obj hX (by decide) (z_w (List.mem_append_right _ (List.mem_of_getElem? (i := 146) (by decide +kernel))) rfl) (z_w (List.mem_append_right _ (List.mem_of_getElem? (i := 20) (by decide +kernel))) rfl) (z_w (List.mem_append_right _ (List.mem_of_getElem? (i := 21) (by decide +kernel))) rfl) (Nat.le_of_ble_eq_true rfl) dX4_init_1 ?_
  refine y_aload_n hX dX4_init_4 rfl 0 rfl ?_
  refine y_aload_n hX dX4_init_5 rfl 1 rfl ?_
  refine y_putF hX hi 0 0 tyX4 tyX4_ok nmX4 rfl rfl inX4 (by decide) (z_w (List.mem_append_right _ (List.mem_of_getElem? (i := 147) (by decide +kernel))) rfl) rfl rfl rfl rfl (Nat.le_of_ble_eq_true rfl) dX4_init_6 [(a, .inr (4, [.ref t, .null, .null, .null, .null, .null, .int 0, .int 0, .int 0])), (sp, .inr (6, [.ref s1, .ref s2, .ref s3, .ref s4, .ref s5]))] rfl ?_
  refine y_aload_n hX dX4_init_9 rfl 0 rfl ?_
  refine y_aload_n hX dX4_init_10 rfl 2 rfl ?_
  refine y_get (v := .ref s1) hX 1 0 rfl rfl inX6 (by decide) rfl (z_w (List.mem_append_right _ (List.mem_of_getElem? (i := 29) (by decide +kernel))) rfl) dX4_init_11 ?_
  refine y_putF hX hi 0 1 tyX4 tyX4_ok nmX4 rfl rfl inX4 (by decide) (z_w (List.mem_append_right _ (List.mem_of_getElem? (i := 148) (by decide +kernel))) rfl) rfl rfl rfl rfl (Nat.le_of_ble_eq_true rfl) dX4_init_14 [(a, .inr (4, [.ref t, .ref s1, .null, .null, .null, .null, .int 0, .int 0, .int 0])), (sp, .inr (6, [.ref s1, .ref s2, .ref s3, .ref s4, .ref s5]))] rfl ?_
  refine y_aload_n hX dX4_init_17 rfl 0 rfl ?_
  refine y_aload_n hX dX4_init_18 rfl 2 rfl ?_
  refine y_get (v := .ref s2) hX 1 1 rfl rfl inX6 (by decide) rfl (z_w (List.mem_append_right _ (List.mem_of_getElem? (i := 33) (by decide +kernel))) rfl) dX4_init_19 ?_
  refine y_putF hX hi 0 2 tyX4 tyX4_ok nmX4 rfl rfl inX4 (by decide) (z_w (List.mem_append_right _ (List.mem_of_getElem? (i := 149) (by decide +kernel))) rfl) rfl rfl rfl rfl (Nat.le_of_ble_eq_true rfl) dX4_init_22 [(a, .inr (4, [.ref t, .ref s1, .ref s2, .null, .null, .null, .int 0, .int 0, .int 0])), (sp, .inr (6, [.ref s1, .ref s2, .ref s3, .ref s4, .ref s5]))] rfl ?_
  refine y_aload_n hX dX4_init_25 rfl 0 rfl ?_
  refine y_aload_n hX dX4_init_26 rfl 2 rfl ?_
  refine y_get (v := .ref s3) hX 1 2 rfl rfl inX6 (by decide) rfl (z_w (List.mem_append_right _ (List.mem_of_getElem? (i := 36) (by decide +kernel))) rfl) dX4_init_27 ?_
  refine y_putF hX hi 0 3 tyX4 tyX4_ok nmX4 rfl rfl inX4 (by decide) (z_w (List.mem_append_right _ (List.mem_of_getElem? (i := 150) (by decide +kernel))) rfl) rfl rfl rfl rfl (Nat.le_of_ble_eq_true rfl) dX4_init_30 [(a, .inr (4, [.ref t, .ref s1, .ref s2, .ref s3, .null, .null, .int 0, .int 0, .int 0])), (sp, .inr (6, [.ref s1, .ref s2, .ref s3, .ref s4, .ref s5]))] rfl ?_
  refine y_aload_n hX dX4_init_33 rfl 0 rfl ?_
  refine y_aload_n hX dX4_init_34 rfl 2 rfl ?_
  refine y_get (v := .ref s4) hX 1 3 rfl rfl inX6 (by decide) rfl (z_w (List.mem_append_right _ (List.mem_of_getElem? (i := 38) (by decide +kernel))) rfl) dX4_init_35 ?_
  refine y_putF hX hi 0 4 tyX4 tyX4_ok nmX4 rfl rfl inX4 (by decide) (z_w (List.mem_append_right _ (List.mem_of_getElem? (i := 151) (by decide +kernel))) rfl) rfl rfl rfl rfl (Nat.le_of_ble_eq_true rfl) dX4_init_38 [(a, .inr (4, [.ref t, .ref s1, .ref s2, .ref s3, .ref s4, .null, .int 0, .int 0, .int 0])), (sp, .inr (6, [.ref s1, .ref s2, .ref s3, .ref s4, .ref s5]))] rfl ?_
  refine y_aload_n hX dX4_init_41 rfl 0 rfl ?_
  refine y_aload_n hX dX4_init_42 rfl 2 rfl ?_
  refine y_get (v := .ref s5) hX 1 4 rfl rfl inX6 (by decide) rfl (z_w (List.mem_append_right _ (List.mem_of_getElem? (i := 40) (by decide +kernel))) rfl) dX4_init_43 ?_
  refine y_putF hX hi 0 5 tyX4 tyX4_ok nmX4 rfl rfl inX4 (by decide) (z_w (List.mem_append_right _ (List.mem_of_getElem? (i := 152) (by decide +kernel))) rfl) rfl rfl rfl rfl (Nat.le_of_ble_eq_true rfl) dX4_init_46 [(a, .inr (4, [.ref t, .ref s1, .ref s2, .ref s3, .ref s4, .ref s5, .int 0, .int 0, .int 0])), (sp, .inr (6, [.ref s1, .ref s2, .ref s3, .ref s4, .ref s5]))] rfl ?_
  exact y_ret hX hi dX4_init_49 rfl
set_option maxHeartbeats 4000000 in
set_option maxRecDepth 100000 in
theorem i_X0 {E : ET} {a t sp s1 s2 s3 s4 s5 : Nat} : CtI E yX0_init cX0_init 3 1 2 2048 [.ref a, .ref t, .ref sp] [(a, .inr (0, [.null, .null, .null, .null, .null])), (sp, .inr (6, [.ref s1, .ref s2, .ref s3, .ref s4, .ref s5]))] (fun w => ∃ (q1 : Nat) (q2 : Nat), w = [(a, .inr (0, [.ref t, .ref s1, .ref s2, .ref q1, .ref q2])), (sp, .inr (6, [.ref s1, .ref s2, .ref s3, .ref s4, .ref s5])), (q1, .inl (E.2.2.2.2.1, 1024, .inr (.inl (fun _ => 0)))), (q2, .inl (E.2.2.2.2.1, 1024, .inr (.inl (fun _ => 0))))]) := by
  refine y_entry (by decide) rfl (Nat.le_of_ble_eq_true rfl) (fun X A hE hX hi => ?_)
  subst hE
  refine y_aload_n hX dX0_init_0 rfl 0 rfl ?_
  refine y_obj hX (by decide) (z_w (List.mem_append_right _ (List.mem_of_getElem? (i := 180) (by decide +kernel))) rfl) (z_w (List.mem_append_right _ (List.mem_of_getElem? (i := 20) (by decide +kernel))) rfl) (z_w (List.mem_append_right _ (List.mem_of_getElem? (i := 21) (by decide +kernel))) rfl) (Nat.le_of_ble_eq_true rfl) dX0_init_1 ?_
  refine y_aload_n hX dX0_init_4 rfl 0 rfl ?_
  refine y_sipush (v := 1024) hX dX0_init_5 (by decide) ?_
  refine y_newJ (N := 1024) hX (z_w (List.mem_append_right _ (List.mem_of_getElem? (i := 197) (by decide +kernel))) rfl) dX0_init_8 (by decide) (by decide) (by decide) (by decide) (by decide) (fun q1 => ?_)
  refine y_ws (ws' := [(a, .inr (0, [.null, .null, .null, .null, .null])), (sp, .inr (6, [.ref s1, .ref s2, .ref s3, .ref s4, .ref s5])), (q1, .inl (X.1.2.2.2.2.1, 1024, .inr (.inl (fun _ => 0))))]) rfl ?_
  refine y_putF hX hi 0 3 tyX0 tyX0_ok nmX0 rfl rfl inX0 (by decide) (z_w (List.mem_append_right _ (List.mem_of_getElem? (i := 184) (by decide +kernel))) rfl) rfl rfl rfl rfl (Nat.le_of_ble_eq_true rfl) dX0_init_10 [(a, .inr (0, [.null, .null, .null, .ref q1, .null])), (sp, .inr (6, [.ref s1, .ref s2, .ref s3, .ref s4, .ref s5])), (q1, .inl (X.1.2.2.2.2.1, 1024, .inr (.inl (fun _ => 0))))] rfl ?_
  refine y_aload_n hX dX0_init_13 rfl 0 rfl ?_
  refine y_sipush (v := 1024) hX dX0_init_14 (by decide) ?_
  refine y_newJ (N := 1024) hX (z_w (List.mem_append_right _ (List.mem_of_getElem? (i := 197) (by decide +kernel))) rfl) dX0_init_17 (by decide) (by decide) (by decide) (by decide) (by decide) (fun q2 => ?_)
  refine y_ws (ws' := [(a, .inr (0, [.null, .null, .null, .ref q1, .null])), (sp, .inr (6, [.ref s1, .ref s2, .ref s3, .ref s4, .ref s5])), (q1, .inl (X.1.2.2.2.2.1, 1024, .inr (.inl (fun _ => 0)))), (q2, .inl (X.1.2.2.2.2.1, 1024, .inr (.inl (fun _ => 0))))]) rfl ?_
  refine y_putF hX hi 0 4 tyX0 tyX0_ok nmX0 rfl rfl inX0 (by decide) (z_w (List.mem_append_right _ (List.mem_of_getElem? (i := 185) (by decide +kernel))) rfl) rfl rfl rfl rfl (Nat.le_of_ble_eq_true rfl) dX0_init_19 [(a, .inr (0, [.null, .null, .null, .ref q1, .ref q2])), (sp, .inr (6, [.ref s1, .ref s2, .ref s3, .ref s4, .ref s5])), (q1, .inl (X.1.2.2.2.2.1, 1024, .inr (.inl (fun _ => 0)))), (q2, .inl (X.1.2.2.2.2.1, 1024, .inr (.inl (fun _ => 0))))] rfl ?_
  refine y_aload_n hX dX0_init_22 rfl 0 rfl ?_
  refine y_aload_n hX dX0_init_23 rfl 1 rfl ?_
  refine y_putF hX hi 0 0 tyX0 tyX0_ok nmX0 rfl rfl inX0 (by decide) (z_w (List.mem_append_right _ (List.mem_of_getElem? (i := 181) (by decide +kernel))) rfl) rfl rfl rfl rfl (Nat.le_of_ble_eq_true rfl) dX0_init_24 [(a, .inr (0, [.ref t, .null, .null, .ref q1, .ref q2])), (sp, .inr (6, [.ref s1, .ref s2, .ref s3, .ref s4, .ref s5])), (q1, .inl (X.1.2.2.2.2.1, 1024, .inr (.inl (fun _ => 0)))), (q2, .inl (X.1.2.2.2.2.1, 1024, .inr (.inl (fun _ => 0))))] rfl ?_
  refine y_aload_n hX dX0_init_27 rfl 0 rfl ?_
  refine y_aload_n hX dX0_init_28 rfl 2 rfl ?_
  refine y_get (v := .ref s1) hX 1 0 rfl rfl inX6 (by decide) rfl (z_w (List.mem_append_right _ (List.mem_of_getElem? (i := 31) (by decide +kernel))) rfl) dX0_init_29 ?_
  refine y_putF hX hi 0 1 tyX0 tyX0_ok nmX0 rfl rfl inX0 (by decide) (z_w (List.mem_append_right _ (List.mem_of_getElem? (i := 182) (by decide +kernel))) rfl) rfl rfl rfl rfl (Nat.le_of_ble_eq_true rfl) dX0_init_32 [(a, .inr (0, [.ref t, .ref s1, .null, .ref q1, .ref q2])), (sp, .inr (6, [.ref s1, .ref s2, .ref s3, .ref s4, .ref s5])), (q1, .inl (X.1.2.2.2.2.1, 1024, .inr (.inl (fun _ => 0)))), (q2, .inl (X.1.2.2.2.2.1, 1024, .inr (.inl (fun _ => 0))))] rfl ?_
  refine y_aload_n hX dX0_init_35 rfl 0 rfl ?_
  refine y_aload_n hX dX0_init_36 rfl 2 rfl ?_
  refine y_get (v := .ref s2) hX 1 1 rfl rfl inX6 (by decide) rfl (z_w (List.mem_append_right _ (List.mem_of_getElem? (i := 35) (by decide +kernel))) rfl) dX0_init_37 ?_
  refine y_putF hX hi 0 2 tyX0 tyX0_ok nmX0 rfl rfl inX0 (by decide) (z_w (List.mem_append_right _ (List.mem_of_getElem? (i := 183) (by decide +kernel))) rfl) rfl rfl rfl rfl (Nat.le_of_ble_eq_true rfl) dX0_init_40 [(a, .inr (0, [.ref t, .ref s1, .ref s2, .ref q1, .ref q2])), (sp, .inr (6, [.ref s1, .ref s2, .ref s3, .ref s4, .ref s5])), (q1, .inl (X.1.2.2.2.2.1, 1024, .inr (.inl (fun _ => 0)))), (q2, .inl (X.1.2.2.2.2.1, 1024, .inr (.inl (fun _ => 0))))] rfl ?_
  exact y_ret hX hi dX0_init_43 ⟨q1, q2, rfl⟩
set_option maxHeartbeats 4000000 in
set_option maxRecDepth 100000 in
theorem i_X2 {E : ET} {a t : Nat} : CtI E yX2_init cX2_init 2 1 1 8 [.ref a, .ref t] [(a, .inr (2, [.null, .null, .int 0]))] (fun w => ∃ (q1 : Nat), w = [(a, .inr (2, [.ref t, .ref q1, .int 0])), (q1, .inl (E.2.2.2.1, 8, .inl (fun _ => 0)))]) := by
  refine y_entry (by decide) rfl (Nat.le_of_ble_eq_true rfl) (fun X A hE hX hi => ?_)
  subst hE
  refine y_aload_n hX dX2_init_0 rfl 0 rfl ?_
  refine y_obj hX (by decide) (z_w (List.mem_append_right _ (List.mem_of_getElem? (i := 203) (by decide +kernel))) rfl) (z_w (List.mem_append_right _ (List.mem_of_getElem? (i := 20) (by decide +kernel))) rfl) (z_w (List.mem_append_right _ (List.mem_of_getElem? (i := 21) (by decide +kernel))) rfl) (Nat.le_of_ble_eq_true rfl) dX2_init_1 ?_
  refine y_aload_n hX dX2_init_4 rfl 0 rfl ?_
  refine y_bipush (v := 8) hX dX2_init_5 (by decide) ?_
  refine y_newI (N := 8) hX (z_w (List.mem_append_right _ (List.mem_of_getElem? (i := 53) (by decide +kernel))) rfl) dX2_init_7 (by decide) (by decide) (by decide) (by decide) (by decide) (fun q1 => ?_)
  refine y_ws (ws' := [(a, .inr (2, [.null, .null, .int 0])), (q1, .inl (X.1.2.2.2.1, 8, .inl (fun _ => 0)))]) rfl ?_
  refine y_putF hX hi 0 1 tyX2 tyX2_ok nmX2 rfl rfl inX2 (by decide) (z_w (List.mem_append_right _ (List.mem_of_getElem? (i := 205) (by decide +kernel))) rfl) rfl rfl rfl rfl (Nat.le_of_ble_eq_true rfl) dX2_init_9 [(a, .inr (2, [.null, .ref q1, .int 0])), (q1, .inl (X.1.2.2.2.1, 8, .inl (fun _ => 0)))] rfl ?_
  refine y_aload_n hX dX2_init_12 rfl 0 rfl ?_
  refine y_iconst (v := 0) hX dX2_init_13 (by decide) ?_
  refine y_put hX 0 2 tyX2 tyX2_ok nmX2 rfl rfl inX2 (by decide) (z_w (List.mem_append_right _ (List.mem_of_getElem? (i := 206) (by decide +kernel))) rfl) rfl rfl rfl (Nat.le_of_ble_eq_true rfl) dX2_init_14 [(a, .inr (2, [.null, .ref q1, .int 0])), (q1, .inl (X.1.2.2.2.1, 8, .inl (fun _ => 0)))] rfl ?_
  refine y_aload_n hX dX2_init_17 rfl 0 rfl ?_
  refine y_aload_n hX dX2_init_18 rfl 1 rfl ?_
  refine y_putF hX hi 0 0 tyX2 tyX2_ok nmX2 rfl rfl inX2 (by decide) (z_w (List.mem_append_right _ (List.mem_of_getElem? (i := 204) (by decide +kernel))) rfl) rfl rfl rfl rfl (Nat.le_of_ble_eq_true rfl) dX2_init_19 [(a, .inr (2, [.ref t, .ref q1, .int 0])), (q1, .inl (X.1.2.2.2.1, 8, .inl (fun _ => 0)))] rfl ?_
  exact y_ret hX hi dX2_init_22 ⟨q1, rfl⟩
set_option maxHeartbeats 4000000 in
set_option maxRecDepth 100000 in
theorem i_X5 {E : ET} {a t wk sp s1 s2 s3 s4 s5 : Nat} : CtI E yX5_init cX5_init 4 1 0 0 [.ref a, .ref t, .ref wk, .ref sp] [(a, .inr (5, [.null, .null, .null, .null])), (sp, .inr (6, [.ref s1, .ref s2, .ref s3, .ref s4, .ref s5]))] (fun w => w = [(a, .inr (5, [.ref t, .ref wk, .ref s1, .ref s2])), (sp, .inr (6, [.ref s1, .ref s2, .ref s3, .ref s4, .ref s5]))]) := by
  refine y_entry (by decide) rfl (Nat.le_of_ble_eq_true rfl) (fun X A hE hX hi => ?_)
  subst hE
  refine y_aload_n hX dX5_init_0 rfl 0 rfl ?_
  refine y_obj hX (by decide) (z_w (List.mem_append_right _ (List.mem_of_getElem? (i := 219) (by decide +kernel))) rfl) (z_w (List.mem_append_right _ (List.mem_of_getElem? (i := 20) (by decide +kernel))) rfl) (z_w (List.mem_append_right _ (List.mem_of_getElem? (i := 21) (by decide +kernel))) rfl) (Nat.le_of_ble_eq_true rfl) dX5_init_1 ?_
  refine y_aload_n hX dX5_init_4 rfl 0 rfl ?_
  refine y_aload_n hX dX5_init_5 rfl 1 rfl ?_
  refine y_putF hX hi 0 0 tyX5 tyX5_ok nmX5 rfl rfl inX5 (by decide) (z_w (List.mem_append_right _ (List.mem_of_getElem? (i := 220) (by decide +kernel))) rfl) rfl rfl rfl rfl (Nat.le_of_ble_eq_true rfl) dX5_init_6 [(a, .inr (5, [.ref t, .null, .null, .null])), (sp, .inr (6, [.ref s1, .ref s2, .ref s3, .ref s4, .ref s5]))] rfl ?_
  refine y_aload_n hX dX5_init_9 rfl 0 rfl ?_
  refine y_aload_n hX dX5_init_10 rfl 2 rfl ?_
  refine y_putF hX hi 0 1 tyX5 tyX5_ok nmX5 rfl rfl inX5 (by decide) (z_w (List.mem_append_right _ (List.mem_of_getElem? (i := 221) (by decide +kernel))) rfl) rfl rfl rfl rfl (Nat.le_of_ble_eq_true rfl) dX5_init_11 [(a, .inr (5, [.ref t, .ref wk, .null, .null])), (sp, .inr (6, [.ref s1, .ref s2, .ref s3, .ref s4, .ref s5]))] rfl ?_
  refine y_aload_n hX dX5_init_14 rfl 0 rfl ?_
  refine y_aload_n hX dX5_init_15 rfl 3 rfl ?_
  refine y_get (v := .ref s1) hX 1 0 rfl rfl inX6 (by decide) rfl (z_w (List.mem_append_right _ (List.mem_of_getElem? (i := 30) (by decide +kernel))) rfl) dX5_init_16 ?_
  refine y_putF hX hi 0 2 tyX5 tyX5_ok nmX5 rfl rfl inX5 (by decide) (z_w (List.mem_append_right _ (List.mem_of_getElem? (i := 222) (by decide +kernel))) rfl) rfl rfl rfl rfl (Nat.le_of_ble_eq_true rfl) dX5_init_19 [(a, .inr (5, [.ref t, .ref wk, .ref s1, .null])), (sp, .inr (6, [.ref s1, .ref s2, .ref s3, .ref s4, .ref s5]))] rfl ?_
  refine y_aload_n hX dX5_init_22 rfl 0 rfl ?_
  refine y_aload_n hX dX5_init_23 rfl 3 rfl ?_
  refine y_get (v := .ref s2) hX 1 1 rfl rfl inX6 (by decide) rfl (z_w (List.mem_append_right _ (List.mem_of_getElem? (i := 34) (by decide +kernel))) rfl) dX5_init_24 ?_
  refine y_putF hX hi 0 3 tyX5 tyX5_ok nmX5 rfl rfl inX5 (by decide) (z_w (List.mem_append_right _ (List.mem_of_getElem? (i := 223) (by decide +kernel))) rfl) rfl rfl rfl rfl (Nat.le_of_ble_eq_true rfl) dX5_init_27 [(a, .inr (5, [.ref t, .ref wk, .ref s1, .ref s2])), (sp, .inr (6, [.ref s1, .ref s2, .ref s3, .ref s4, .ref s5]))] rfl ?_
  exact y_ret hX hi dX5_init_30 rfl
