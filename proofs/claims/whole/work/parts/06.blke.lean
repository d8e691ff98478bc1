set_option maxRecDepth 100000 in
set_option maxHeartbeats 4000000 in
theorem EX10_in {E : ET} {Q : Option Value → Mem → Prop} {x0 x2 x4 : Int64} {M : Mem} (h : (((lg_cmp x0 x2) < 0 → Q (some (.int 0)) M) ∧ (¬ (lg_cmp x0 x2) < 0 → ((0 < (lg_cmp x0 x4) → Q (some (.int 0)) M) ∧ (¬ 0 < (lg_cmp x0 x4) → Q (some (.int 1)) M))))) : CX10_in E [.long x0, .long x2, .long x4] M Q := by
  refine z_entry (by decide +kernel) (Nat.le_of_ble_eq_true rfl) (fun X hE hX => ?_)
  subst hE
  show Z SM X 0 6 Q 0 [(0, .long x0), (2, .long x2), (4, .long x4)] [] M
  refine z_lload_n hX dX10_in_0 rfl 0 rfl ?_
  refine z_lload_n hX dX10_in_1 rfl 1 rfl ?_
  refine z_lcmp hX dX10_in_2 ?_
  refine z_if_lt hX 17 dX10_in_3 (by decide) (fun c0 => ?_) (fun c0 => ?_)
  · replace h := h.1 c0
    refine z_iconst (v := 0) hX dX10_in_17 (by decide) ?_
    exact z_zret hX dX10_in_18 (Or.inl rfl) h
  · replace h := h.2 c0
    refine z_lload_n hX dX10_in_6 rfl 0 rfl ?_
    refine z_lload hX dX10_in_7 2 rfl ?_
    refine z_lcmp hX dX10_in_9 ?_
    refine z_if_gt hX 17 dX10_in_10 (by decide) (fun c0 => ?_) (fun c0 => ?_)
    · replace h := h.1 c0
      refine z_iconst (v := 0) hX dX10_in_17 (by decide) ?_
      exact z_zret hX dX10_in_18 (Or.inl rfl) h
    · replace h := h.2 c0
      refine z_iconst (v := 1) hX dX10_in_13 (by decide) ?_
      refine z_goto hX 18 dX10_in_14 (by decide) ?_
      exact z_zret hX dX10_in_18 (Or.inr rfl) h
abbrev LX10_ones_4 (X : XT) (Q : Option Value → Mem → Prop) (x0 : Int32) (x1 : Int32) (x2 : Int32) (M : Mem) : Prop := Z SM X 0 3 Q 4 [(0, .int x0), (1, .int x1), (2, .int x2)] [] M
set_option maxRecDepth 100000 in
set_option maxHeartbeats 4000000 in
theorem EX10_ones {E : ET} {Q : Option Value → Mem → Prop} {x0 : Int32} {M : Mem} (h : ∀ X : XT, X.1 = E → KX10_ones X → LX10_ones_4 X Q x0 (0 : Int32) (0 : Int32) M) : CX10_ones E [.int x0] M Q := by
  refine z_entry (by decide +kernel) (Nat.le_of_ble_eq_true rfl) (fun X hE hX => ?_)
  subst hE
  replace h := h X rfl hX
  show Z SM X 0 3 Q 0 [(0, .int x0)] [] M
  refine z_iconst (v := 0) hX dX10_ones_0 (by decide) ?_
  refine z_istore_n hX dX10_ones_1 rfl (by decide) [(1, .int (0 : Int32)), (0, .int x0)] rfl ?_
  refine z_iconst (v := 0) hX dX10_ones_2 (by decide) ?_
  refine z_istore_n hX dX10_ones_3 rfl (by decide) [(2, .int (0 : Int32)), (1, .int (0 : Int32)), (0, .int x0)] rfl ?_
  exact z_sub [2, 1, 0] rfl h
set_option maxRecDepth 100000 in
set_option maxHeartbeats 4000000 in
theorem BX10_ones_4 {X : XT} {Q : Option Value → Mem → Prop} (hX : KX10_ones X) {x0 x1 x2 : Int32} {M : Mem} (h : (((10 : Int32) ≤ x2 → Q (some (.int x1)) M) ∧ (¬ (10 : Int32) ≤ x2 → LX10_ones_4 X Q x0 (x1 + ((x0 >>> (x2 &&& 31)) &&& (1 : Int32))) (x2 + (1 : Int32)) M))) : LX10_ones_4 X Q x0 x1 x2 M := by
  show Z SM X 0 3 Q 4 [(0, .int x0), (1, .int x1), (2, .int x2)] [] M
  refine z_iload_n hX dX10_ones_4 rfl 2 rfl ?_
  refine z_bipush (v := 10) hX dX10_ones_5 (by decide) ?_
  refine z_icmp_ge hX 24 dX10_ones_7 (by decide) (fun c0 => ?_) (fun c0 => ?_)
  · replace h := h.1 c0
    refine z_iload_n hX dX10_ones_24 rfl 1 rfl ?_
    exact z_iret hX dX10_ones_25 h
  · replace h := h.2 c0
    refine z_iload_n hX dX10_ones_10 rfl 1 rfl ?_
    refine z_iload_n hX dX10_ones_11 rfl 0 rfl ?_
    refine z_iload_n hX dX10_ones_12 rfl 2 rfl ?_
    refine z_ishr hX dX10_ones_13 ?_
    refine z_iconst (v := 1) hX dX10_ones_14 (by decide) ?_
    refine z_iand hX dX10_ones_15 ?_
    refine z_iadd hX dX10_ones_16 ?_
    refine z_istore_n hX dX10_ones_17 rfl (by decide) [(1, .int (x1 + ((x0 >>> (x2 &&& 31)) &&& (1 : Int32)))), (0, .int x0), (2, .int x2)] rfl ?_
    refine z_iinc (v := x2 + (1 : Int32)) hX dX10_ones_18 2 rfl rfl (by decide) [(2, .int (x2 + (1 : Int32))), (1, .int (x1 + ((x0 >>> (x2 &&& 31)) &&& (1 : Int32)))), (0, .int x0)] rfl ?_
    refine z_goto hX 4 dX10_ones_21 (by decide) ?_
    exact z_sub [2, 1, 0] rfl h
set_option maxRecDepth 100000 in
set_option maxHeartbeats 4000000 in
theorem EX10_isPerson {E : ET} {Q : Option Value → Mem → Prop} {x1 : Int32} {M : Mem} (h : ∃ (r1 : Int32), CX10_in E [.long x1.toInt64, .long (0 : Int64), .long (((M.1 0 0) - (1 : Int32)).toInt64)] M (z_is (some (.int r1)) M) ∧ ((r1 = 0 ∨ r1 = 1) ∧ Q (some (.int r1)) M)) : CX10_isPerson E [.ref (E.2.1 0), .int x1] M Q := by
  refine z_entry (by decide +kernel) (Nat.le_of_ble_eq_true rfl) (fun X hE hX => ?_)
  subst hE
  show Z SM X 1 2 Q 0 [(0, .ref (X.1.2.1 0)), (1, .int x1)] [] M
  refine z_iload_n hX dX10_isPerson_0 rfl 1 rfl ?_
  refine z_i2l hX dX10_isPerson_1 ?_
  refine z_lconst (v := 0) hX dX10_isPerson_2 (by decide) ?_
  refine z_aload_n hX dX10_isPerson_3 rfl 0 rfl ?_
  refine gfX10_7 hX dX10_isPerson_4 ?_
  refine z_iconst (v := 1) hX dX10_isPerson_7 (by decide) ?_
  refine z_isub hX dX10_isPerson_8 ?_
  refine z_i2l hX dX10_isPerson_9 ?_
  obtain ⟨r1, c9, h⟩ := h
  refine mcX10_60 hX dX10_isPerson_10 (by decide) (Nat.le_of_ble_eq_true rfl) c9 ?_
  exact z_zret hX dX10_isPerson_13 h.1 h.2
set_option maxRecDepth 100000 in
set_option maxHeartbeats 4000000 in
theorem EX10_isDress {E : ET} {Q : Option Value → Mem → Prop} {x1 : Int32} {M : Mem} (h : ∃ (r1 : Int32), CX10_in E [.long x1.toInt64, .long (0 : Int64), .long ((((1 : Int32) <<< ((M.1 0 0) &&& 31)) - (1 : Int32)).toInt64)] M (z_is (some (.int r1)) M) ∧ ((r1 = 0 ∨ r1 = 1) ∧ Q (some (.int r1)) M)) : CX10_isDress E [.ref (E.2.1 0), .int x1] M Q := by
  refine z_entry (by decide +kernel) (Nat.le_of_ble_eq_true rfl) (fun X hE hX => ?_)
  subst hE
  show Z SM X 1 2 Q 0 [(0, .ref (X.1.2.1 0)), (1, .int x1)] [] M
  refine z_iload_n hX dX10_isDress_0 rfl 1 rfl ?_
  refine z_i2l hX dX10_isDress_1 ?_
  refine z_lconst (v := 0) hX dX10_isDress_2 (by decide) ?_
  refine z_iconst (v := 1) hX dX10_isDress_3 (by decide) ?_
  refine z_aload_n hX dX10_isDress_4 rfl 0 rfl ?_
  refine gfX10_7 hX dX10_isDress_5 ?_
  refine z_ishl hX dX10_isDress_8 ?_
  refine z_iconst (v := 1) hX dX10_isDress_9 (by decide) ?_
  refine z_isub hX dX10_isDress_10 ?_
  refine z_i2l hX dX10_isDress_11 ?_
  obtain ⟨r1, c9, h⟩ := h
  refine mcX10_60 hX dX10_isDress_12 (by decide) (Nat.le_of_ble_eq_true rfl) c9 ?_
  exact z_zret hX dX10_isDress_15 h.1 h.2
set_option maxRecDepth 100000 in
set_option maxHeartbeats 4000000 in
theorem EX10_isWay {E : ET} {Q : Option Value → Mem → Prop} {x0 : Int32} {M : Mem} (h : ∃ (r1 : Int32), CX10_in E [.long x0.toInt64, .long (0 : Int64), .long (1 : Int64)] M (z_is (some (.int r1)) M) ∧ ((r1 = 0 ∨ r1 = 1) ∧ Q (some (.int r1)) M)) : CX10_isWay E [.int x0] M Q := by
  refine z_entry (by decide +kernel) (Nat.le_of_ble_eq_true rfl) (fun X hE hX => ?_)
  subst hE
  show Z SM X 1 1 Q 0 [(0, .int x0)] [] M
  refine z_iload_n hX dX10_isWay_0 rfl 0 rfl ?_
  refine z_i2l hX dX10_isWay_1 ?_
  refine z_lconst (v := 0) hX dX10_isWay_2 (by decide) ?_
  refine z_lconst (v := 1) hX dX10_isWay_3 (by decide) ?_
  obtain ⟨r1, c9, h⟩ := h
  refine mcX10_60 hX dX10_isWay_4 (by decide) (Nat.le_of_ble_eq_true rfl) c9 ?_
  exact z_zret hX dX10_isWay_7 h.1 h.2
abbrev LX10_people_32 (X : XT) (Q : Option Value → Mem → Prop) (x2 : Int32) (x3 : Int32) (M : Mem) : Prop := Z SM X 1 4 Q 32 [(0, .ref (X.1.2.1 0)), (2, .int x2), (3, .int x3)] [] M
abbrev LX10_people_53 (X : XT) (Q : Option Value → Mem → Prop) (x2 : Int32) (x3 : Int32) (M : Mem) : Prop := Z SM X 1 4 Q 53 [(0, .ref (X.1.2.1 0)), (2, .int x2), (3, .int x3)] [] M
set_option maxRecDepth 100000 in
set_option maxHeartbeats 4000000 in
theorem EX10_people {E : ET} {Q : Option Value → Mem → Prop} {x1 : Int32} {M : Mem} (h : ∀ X : XT, X.1 = E → KX10_people X → (∃ (r1 : Int32), CX10_in X.1 [.long x1.toInt64, .long (1 : Int64), .long (10 : Int64)] M (z_is (some (.int r1)) M) ∧ ((¬ r1 = 0 → (∀ M2 : Mem, M2 = z_st M 0 0 x1 → (∀ M3 : Mem, M3 = z_st M2 0 18 (0 : Int32) → LX10_people_32 X Q (M.1 0 0) (0 : Int32) M3))) ∧ (r1 = 0 → Q (some (.int (-2 : Int32))) M)))) : CX10_people E [.ref (E.2.1 0), .int x1] M Q := by
  refine z_entry (by decide +kernel) (Nat.le_of_ble_eq_true rfl) (fun X hE hX => ?_)
  subst hE
  replace h := h X rfl hX
  show Z SM X 1 4 Q 0 [(0, .ref (X.1.2.1 0)), (1, .int x1)] [] M
  refine z_iload_n hX dX10_people_0 rfl 1 rfl ?_
  refine z_i2l hX dX10_people_1 ?_
  refine z_lconst (v := 1) hX dX10_people_2 (by decide) ?_
  refine z_ldc2 (v := 10) hX dX10_people_3 (z_w (List.mem_append_right _ (List.mem_of_getElem? (i := 825) (by decide +kernel))) rfl) ?_
  obtain ⟨r1, c9, h⟩ := h
  refine mcX10_60 hX dX10_people_6 (by decide) (Nat.le_of_ble_eq_true rfl) c9 ?_
  refine z_if_ne hX 15 dX10_people_9 (by decide) (fun c0 => ?_) (fun c0 => ?_)
  · replace h := h.1 c0
    refine z_aload_n hX dX10_people_15 rfl 0 rfl ?_
    refine gfX10_7 hX dX10_people_16 ?_
    refine z_istore_n hX dX10_people_19 rfl (by decide) [(2, .int (M.1 0 0)), (0, .ref (X.1.2.1 0)), (1, .int x1)] rfl ?_
    refine z_aload_n hX dX10_people_20 rfl 1 rfl ?_
    refine z_iload_n hX dX10_people_21 rfl 2 rfl ?_
    refine pfX10_7 hX dX10_people_22 (fun M2 eM2 => ?_)
    replace h := h M2 eM2
    refine z_aload_n hX dX10_people_25 rfl 1 rfl ?_
    refine z_iconst (v := 0) hX dX10_people_26 (by decide) ?_
    refine pfX10_66 hX dX10_people_27 (fun M3 eM3 => ?_)
    replace h := h M3 eM3
    refine z_iconst (v := 0) hX dX10_people_30 (by decide) ?_
    refine z_istore_n hX dX10_people_31 rfl (by decide) [(3, .int (0 : Int32)), (2, .int (M.1 0 0)), (0, .ref (X.1.2.1 0)), (1, .int x1)] rfl ?_
    exact z_sub [2, 1, 0] rfl h
  · replace h := h.2 c0
    refine z_bipush (v := -2) hX dX10_people_12 (by decide) ?_
    exact z_iret hX dX10_people_14 h
set_option maxRecDepth 100000 in
set_option maxHeartbeats 4000000 in
theorem BX10_people_32 {X : XT} {Q : Option Value → Mem → Prop} (hX : KX10_people X) {x2 x3 : Int32} {M : Mem} (h : (((100 : Int32) ≤ x3 → LX10_people_53 X Q x2 (0 : Int32) M) ∧ (¬ (100 : Int32) ≤ x3 → (vp_in x3 100 ∧ (∀ M1 : Mem, M1 = z_st M 1 x3.toNatClampNeg (0 : Int32) → LX10_people_32 X Q x2 (x3 + (1 : Int32)) M1))))) : LX10_people_32 X Q x2 x3 M := by
  show Z SM X 1 4 Q 32 [(0, .ref (X.1.2.1 0)), (2, .int x2), (3, .int x3)] [] M
  refine z_iload_n hX dX10_people_32 rfl 2 rfl ?_
  refine z_bipush (v := 100) hX dX10_people_33 (by decide) ?_
  refine z_icmp_ge hX 51 dX10_people_35 (by decide) (fun c0 => ?_) (fun c0 => ?_)
  · replace h := h.1 c0
    refine z_iconst (v := 0) hX dX10_people_51 (by decide) ?_
    refine z_istore_n hX dX10_people_52 rfl (by decide) [(3, .int (0 : Int32)), (0, .ref (X.1.2.1 0)), (2, .int x2)] rfl ?_
    exact z_sub [1, 2, 0] rfl h
  · replace h := h.2 c0
    refine z_aload_n hX dX10_people_38 rfl 0 rfl ?_
    refine gfX10_13 hX dX10_people_39 ?_
    refine z_iload_n hX dX10_people_42 rfl 2 rfl ?_
    refine z_iconst (v := 0) hX dX10_people_43 (by decide) ?_
    refine z_iastM hX 1 rfl h.1 dX10_people_44 (fun M1 eM1 => ?_)
    replace h := h.2 M1 eM1
    refine z_iinc (v := x3 + (1 : Int32)) hX dX10_people_45 2 rfl rfl (by decide) [(3, .int (x3 + (1 : Int32))), (0, .ref (X.1.2.1 0)), (2, .int x2)] rfl ?_
    refine z_goto hX 32 dX10_people_48 (by decide) ?_
    exact z_sub [1, 2, 0] rfl h
set_option maxRecDepth 100000 in
set_option maxHeartbeats 4000000 in
theorem BX10_people_53 {X : XT} {Q : Option Value → Mem → Prop} (hX : KX10_people X) {x2 x3 : Int32} {M : Mem} (h : (((10 : Int32) ≤ x3 → Q (some (.int x2)) M) ∧ (¬ (10 : Int32) ≤ x3 → (vp_in x3 10 ∧ (∀ M1 : Mem, M1 = z_st M 2 x3.toNatClampNeg (0 : Int32) → (vp_in x3 10 ∧ (∀ M2 : Mem, M2 = z_st M1 3 x3.toNatClampNeg (0 : Int32) → LX10_people_53 X Q x2 (x3 + (1 : Int32)) M2))))))) : LX10_people_53 X Q x2 x3 M := by
  show Z SM X 1 4 Q 53 [(0, .ref (X.1.2.1 0)), (2, .int x2), (3, .int x3)] [] M
  refine z_iload_n hX dX10_people_53 rfl 2 rfl ?_
  refine z_bipush (v := 10) hX dX10_people_54 (by decide) ?_
  refine z_icmp_ge hX 79 dX10_people_56 (by decide) (fun c0 => ?_) (fun c0 => ?_)
  · replace h := h.1 c0
    refine z_iload_n hX dX10_people_79 rfl 1 rfl ?_
    exact z_iret hX dX10_people_80 h
  · replace h := h.2 c0
    refine z_aload_n hX dX10_people_59 rfl 0 rfl ?_
    refine gfX10_17 hX dX10_people_60 ?_
    refine z_iload_n hX dX10_people_63 rfl 2 rfl ?_
    refine z_iconst (v := 0) hX dX10_people_64 (by decide) ?_
    refine z_iastM hX 2 rfl h.1 dX10_people_65 (fun M1 eM1 => ?_)
    replace h := h.2 M1 eM1
    refine z_aload_n hX dX10_people_66 rfl 0 rfl ?_
    refine gfX10_20 hX dX10_people_67 ?_
    refine z_iload_n hX dX10_people_70 rfl 2 rfl ?_
    refine z_iconst (v := 0) hX dX10_people_71 (by decide) ?_
    refine z_iastM hX 3 rfl h.1 dX10_people_72 (fun M2 eM2 => ?_)
    replace h := h.2 M2 eM2
    refine z_iinc (v := x3 + (1 : Int32)) hX dX10_people_73 2 rfl rfl (by decide) [(3, .int (x3 + (1 : Int32))), (0, .ref (X.1.2.1 0)), (2, .int x2)] rfl ?_
    refine z_goto hX 53 dX10_people_76 (by decide) ?_
    exact z_sub [1, 2, 0] rfl h
set_option maxRecDepth 100000 in
set_option maxHeartbeats 4000000 in
theorem EX10_tie {E : ET} {Q : Option Value → Mem → Prop} {x1 x2 x3 : Int32} {M : Mem} (h : ∃ (r1 : Int32), CX10_isPerson E [.ref (E.2.1 0), .int x1] M (z_is (some (.int r1)) M) ∧ ((r1 = 0 → Q (some (.int (-1 : Int32))) M) ∧ (¬ r1 = 0 → (∃ (r2 : Int32), CX10_isPerson E [.ref (E.2.1 0), .int x2] M (z_is (some (.int r2)) M) ∧ ((¬ r2 = 0 → (∃ (r3 : Int32), CX10_in E [.long x3.toInt64, .long (0 : Int64), .long (9 : Int64)] M (z_is (some (.int r3)) M) ∧ ((¬ r3 = 0 → ((¬ x1 = x2 → (vp_in (((10 : Int32) * x1) + x2) 100 ∧ (vp_in (((10 : Int32) * x1) + x2) 100 ∧ (∀ M4 : Mem, M4 = z_st M 1 (((10 : Int32) * x1) + x2).toNatClampNeg x3 → Q (some (.int (M.1 1 (((10 : Int32) * x1) + x2).toNatClampNeg))) M4)))) ∧ (x1 = x2 → Q (some (.int (-3 : Int32))) M))) ∧ (r3 = 0 → Q (some (.int (-2 : Int32))) M)))) ∧ (r2 = 0 → Q (some (.int (-1 : Int32))) M)))))) : CX10_tie E [.ref (E.2.1 0), .int x1, .int x2, .int x3] M Q := by
  refine z_entry (by decide +kernel) (Nat.le_of_ble_eq_true rfl) (fun X hE hX => ?_)
  subst hE
  show Z SM X 2 5 Q 0 [(0, .ref (X.1.2.1 0)), (1, .int x1), (2, .int x2), (3, .int x3)] [] M
  refine z_aload_n hX dX10_tie_0 rfl 0 rfl ?_
  refine z_iload_n hX dX10_tie_1 rfl 1 rfl ?_
  obtain ⟨r1, c9, h⟩ := h
  refine mcX10_69 hX dX10_tie_2 (by decide) (Nat.le_of_ble_eq_true rfl) c9 ?_
  refine z_if_eq hX 16 dX10_tie_5 (by decide) (fun c0 => ?_) (fun c0 => ?_)
  · replace h := h.1 c0
    refine z_iconst (v := -1) hX dX10_tie_16 (by decide) ?_
    exact z_iret hX dX10_tie_17 h
  · replace h := h.2 c0
    refine z_aload_n hX dX10_tie_8 rfl 0 rfl ?_
    refine z_iload_n hX dX10_tie_9 rfl 2 rfl ?_
    obtain ⟨r2, c9, h⟩ := h
    refine mcX10_69 hX dX10_tie_10 (by decide) (Nat.le_of_ble_eq_true rfl) c9 ?_
    refine z_if_ne hX 18 dX10_tie_13 (by decide) (fun c0 => ?_) (fun c0 => ?_)
    · replace h := h.1 c0
      refine z_iload_n hX dX10_tie_18 rfl 3 rfl ?_
      refine z_i2l hX dX10_tie_19 ?_
      refine z_lconst (v := 0) hX dX10_tie_20 (by decide) ?_
      refine z_ldc2 (v := 9) hX dX10_tie_21 (z_w (List.mem_append_right _ (List.mem_of_getElem? (i := 837) (by decide +kernel))) rfl) ?_
      obtain ⟨r3, c9, h⟩ := h
      refine mcX10_60 hX dX10_tie_24 (by decide) (Nat.le_of_ble_eq_true rfl) c9 ?_
      refine z_if_ne hX 33 dX10_tie_27 (by decide) (fun c0 => ?_) (fun c0 => ?_)
      · replace h := h.1 c0
        refine z_iload_n hX dX10_tie_33 rfl 1 rfl ?_
        refine z_iload_n hX dX10_tie_34 rfl 2 rfl ?_
        refine z_icmp_ne hX 41 dX10_tie_35 (by decide) (fun c0 => ?_) (fun c0 => ?_)
        · replace h := h.1 c0
          refine z_aload_n hX dX10_tie_41 rfl 0 rfl ?_
          refine gfX10_13 hX dX10_tie_42 ?_
          refine z_bipush (v := 10) hX dX10_tie_45 (by decide) ?_
          refine z_iload_n hX dX10_tie_47 rfl 1 rfl ?_
          refine z_imul hX dX10_tie_48 ?_
          refine z_iload_n hX dX10_tie_49 rfl 2 rfl ?_
          refine z_iadd hX dX10_tie_50 ?_
          refine z_iald hX 1 rfl h.1 dX10_tie_51 ?_
          replace h := h.2
          refine z_istore hX dX10_tie_52 (by decide) [(4, .int (M.1 1 (((10 : Int32) * x1) + x2).toNatClampNeg)), (0, .ref (X.1.2.1 0)), (1, .int x1), (2, .int x2), (3, .int x3)] rfl ?_
          refine z_aload_n hX dX10_tie_54 rfl 1 rfl ?_
          refine gfX10_13 hX dX10_tie_55 ?_
          refine z_bipush (v := 10) hX dX10_tie_58 (by decide) ?_
          refine z_iload_n hX dX10_tie_60 rfl 2 rfl ?_
          refine z_imul hX dX10_tie_61 ?_
          refine z_iload_n hX dX10_tie_62 rfl 3 rfl ?_
          refine z_iadd hX dX10_tie_63 ?_
          refine z_iload_n hX dX10_tie_64 rfl 4 rfl ?_
          refine z_iastM hX 1 rfl h.1 dX10_tie_65 (fun M4 eM4 => ?_)
          replace h := h.2 M4 eM4
          refine z_iload hX dX10_tie_66 0 rfl ?_
          exact z_iret hX dX10_tie_68 h
        · replace h := h.2 c0
          refine z_bipush (v := -3) hX dX10_tie_38 (by decide) ?_
          exact z_iret hX dX10_tie_40 h
      · replace h := h.2 c0
        refine z_bipush (v := -2) hX dX10_tie_30 (by decide) ?_
        exact z_iret hX dX10_tie_32 h
    · replace h := h.2 c0
      refine z_iconst (v := -1) hX dX10_tie_16 (by decide) ?_
      exact z_iret hX dX10_tie_17 h
set_option maxRecDepth 100000 in
set_option maxHeartbeats 4000000 in
theorem EX10_set {E : ET} {Q : Option Value → Mem → Prop} {x1 x2 x3 : Int32} {M : Mem} (h : ∃ (r1 : Int32), CX10_isPerson E [.ref (E.2.1 0), .int x1] M (z_is (some (.int r1)) M) ∧ ((¬ r1 = 0 → ((¬ x2 = 0 → ((¬ x2 = (1 : Int32) → Q (some (.int (-2 : Int32))) M) ∧ (x2 = (1 : Int32) → (∃ (r2 : Int32), CX10_in E [.long x3.toInt64, .long (-9 : Int64), .long (9 : Int64)] M (z_is (some (.int r2)) M) ∧ ((¬ r2 = 0 → ((¬ x2 = 0 → (vp_in x1 10 ∧ ((¬ x2 = 0 → (vp_in x1 10 ∧ (vp_in x1 10 ∧ (∀ M3 : Mem, M3 = z_st M 2 x1.toNatClampNeg (M.1 2 x1.toNatClampNeg) → ((¬ x2 = (1 : Int32) → (vp_in x1 10 ∧ (vp_in x1 10 ∧ (∀ M4 : Mem, M4 = z_st M3 3 x1.toNatClampNeg (M3.1 3 x1.toNatClampNeg) → Q (some (.int (M.1 3 x1.toNatClampNeg))) M4)))) ∧ (x2 = (1 : Int32) → (vp_in x1 10 ∧ (∀ M5 : Mem, M5 = z_st M3 3 x1.toNatClampNeg x3 → Q (some (.int (M.1 3 x1.toNatClampNeg))) M5)))))))) ∧ (x2 = 0 → (vp_in x1 10 ∧ (∀ M6 : Mem, M6 = z_st M 2 x1.toNatClampNeg x3 → ((¬ x2 = (1 : Int32) → (vp_in x1 10 ∧ (vp_in x1 10 ∧ (∀ M7 : Mem, M7 = z_st M6 3 x1.toNatClampNeg (M6.1 3 x1.toNatClampNeg) → Q (some (.int (M.1 3 x1.toNatClampNeg))) M7)))) ∧ (x2 = (1 : Int32) → (vp_in x1 10 ∧ (∀ M8 : Mem, M8 = z_st M6 3 x1.toNatClampNeg x3 → Q (some (.int (M.1 3 x1.toNatClampNeg))) M8)))))))))) ∧ (x2 = 0 → (vp_in x1 10 ∧ ((¬ x2 = 0 → (vp_in x1 10 ∧ (vp_in x1 10 ∧ (∀ M9 : Mem, M9 = z_st M 2 x1.toNatClampNeg (M.1 2 x1.toNatClampNeg) → ((¬ x2 = (1 : Int32) → (vp_in x1 10 ∧ (vp_in x1 10 ∧ (∀ M10 : Mem, M10 = z_st M9 3 x1.toNatClampNeg (M9.1 3 x1.toNatClampNeg) → Q (some (.int (M.1 2 x1.toNatClampNeg))) M10)))) ∧ (x2 = (1 : Int32) → (vp_in x1 10 ∧ (∀ M11 : Mem, M11 = z_st M9 3 x1.toNatClampNeg x3 → Q (some (.int (M.1 2 x1.toNatClampNeg))) M11)))))))) ∧ (x2 = 0 → (vp_in x1 10 ∧ (∀ M12 : Mem, M12 = z_st M 2 x1.toNatClampNeg x3 → ((¬ x2 = (1 : Int32) → (vp_in x1 10 ∧ (vp_in x1 10 ∧ (∀ M13 : Mem, M13 = z_st M12 3 x1.toNatClampNeg (M12.1 3 x1.toNatClampNeg) → Q (some (.int (M.1 2 x1.toNatClampNeg))) M13)))) ∧ (x2 = (1 : Int32) → (vp_in x1 10 ∧ (∀ M14 : Mem, M14 = z_st M12 3 x1.toNatClampNeg x3 → Q (some (.int (M.1 2 x1.toNatClampNeg))) M14)))))))))))) ∧ (r2 = 0 → Q (some (.int (-2 : Int32))) M)))))) ∧ (x2 = 0 → (∃ (r15 : Int32), CX10_in E [.long x3.toInt64, .long (0 : Int64), .long (3 : Int64)] M (z_is (some (.int r15)) M) ∧ ((¬ r15 = 0 → ((¬ x2 = 0 → (vp_in x1 10 ∧ ((¬ x2 = 0 → (vp_in x1 10 ∧ (vp_in x1 10 ∧ (∀ M16 : Mem, M16 = z_st M 2 x1.toNatClampNeg (M.1 2 x1.toNatClampNeg) → ((¬ x2 = (1 : Int32) → (vp_in x1 10 ∧ (vp_in x1 10 ∧ (∀ M17 : Mem, M17 = z_st M16 3 x1.toNatClampNeg (M16.1 3 x1.toNatClampNeg) → Q (some (.int (M.1 3 x1.toNatClampNeg))) M17)))) ∧ (x2 = (1 : Int32) → (vp_in x1 10 ∧ (∀ M18 : Mem, M18 = z_st M16 3 x1.toNatClampNeg x3 → Q (some (.int (M.1 3 x1.toNatClampNeg))) M18)))))))) ∧ (x2 = 0 → (vp_in x1 10 ∧ (∀ M19 : Mem, M19 = z_st M 2 x1.toNatClampNeg x3 → ((¬ x2 = (1 : Int32) → (vp_in x1 10 ∧ (vp_in x1 10 ∧ (∀ M20 : Mem, M20 = z_st M19 3 x1.toNatClampNeg (M19.1 3 x1.toNatClampNeg) → Q (some (.int (M.1 3 x1.toNatClampNeg))) M20)))) ∧ (x2 = (1 : Int32) → (vp_in x1 10 ∧ (∀ M21 : Mem, M21 = z_st M19 3 x1.toNatClampNeg x3 → Q (some (.int (M.1 3 x1.toNatClampNeg))) M21)))))))))) ∧ (x2 = 0 → (vp_in x1 10 ∧ ((¬ x2 = 0 → (vp_in x1 10 ∧ (vp_in x1 10 ∧ (∀ M22 : Mem, M22 = z_st M 2 x1.toNatClampNeg (M.1 2 x1.toNatClampNeg) → ((¬ x2 = (1 : Int32) → (vp_in x1 10 ∧ (vp_in x1 10 ∧ (∀ M23 : Mem, M23 = z_st M22 3 x1.toNatClampNeg (M22.1 3 x1.toNatClampNeg) → Q (some (.int (M.1 2 x1.toNatClampNeg))) M23)))) ∧ (x2 = (1 : Int32) → (vp_in x1 10 ∧ (∀ M24 : Mem, M24 = z_st M22 3 x1.toNatClampNeg x3 → Q (some (.int (M.1 2 x1.toNatClampNeg))) M24)))))))) ∧ (x2 = 0 → (vp_in x1 10 ∧ (∀ M25 : Mem, M25 = z_st M 2 x1.toNatClampNeg x3 → ((¬ x2 = (1 : Int32) → (vp_in x1 10 ∧ (vp_in x1 10 ∧ (∀ M26 : Mem, M26 = z_st M25 3 x1.toNatClampNeg (M25.1 3 x1.toNatClampNeg) → Q (some (.int (M.1 2 x1.toNatClampNeg))) M26)))) ∧ (x2 = (1 : Int32) → (vp_in x1 10 ∧ (∀ M27 : Mem, M27 = z_st M25 3 x1.toNatClampNeg x3 → Q (some (.int (M.1 2 x1.toNatClampNeg))) M27)))))))))))) ∧ (r15 = 0 → ((¬ x2 = (1 : Int32) → Q (some (.int (-2 : Int32))) M) ∧ (x2 = (1 : Int32) → (∃ (r28 : Int32), CX10_in E [.long x3.toInt64, .long (-9 : Int64), .long (9 : Int64)] M (z_is (some (.int r28)) M) ∧ ((¬ r28 = 0 → ((¬ x2 = 0 → (vp_in x1 10 ∧ ((¬ x2 = 0 → (vp_in x1 10 ∧ (vp_in x1 10 ∧ (∀ M29 : Mem, M29 = z_st M 2 x1.toNatClampNeg (M.1 2 x1.toNatClampNeg) → ((¬ x2 = (1 : Int32) → (vp_in x1 10 ∧ (vp_in x1 10 ∧ (∀ M30 : Mem, M30 = z_st M29 3 x1.toNatClampNeg (M29.1 3 x1.toNatClampNeg) → Q (some (.int (M.1 3 x1.toNatClampNeg))) M30)))) ∧ (x2 = (1 : Int32) → (vp_in x1 10 ∧ (∀ M31 : Mem, M31 = z_st M29 3 x1.toNatClampNeg x3 → Q (some (.int (M.1 3 x1.toNatClampNeg))) M31)))))))) ∧ (x2 = 0 → (vp_in x1 10 ∧ (∀ M32 : Mem, M32 = z_st M 2 x1.toNatClampNeg x3 → ((¬ x2 = (1 : Int32) → (vp_in x1 10 ∧ (vp_in x1 10 ∧ (∀ M33 : Mem, M33 = z_st M32 3 x1.toNatClampNeg (M32.1 3 x1.toNatClampNeg) → Q (some (.int (M.1 3 x1.toNatClampNeg))) M33)))) ∧ (x2 = (1 : Int32) → (vp_in x1 10 ∧ (∀ M34 : Mem, M34 = z_st M32 3 x1.toNatClampNeg x3 → Q (some (.int (M.1 3 x1.toNatClampNeg))) M34)))))))))) ∧ (x2 = 0 → (vp_in x1 10 ∧ ((¬ x2 = 0 → (vp_in x1 10 ∧ (vp_in x1 10 ∧ (∀ M35 : Mem, M35 = z_st M 2 x1.toNatClampNeg (M.1 2 x1.toNatClampNeg) → ((¬ x2 = (1 : Int32) → (vp_in x1 10 ∧ (vp_in x1 10 ∧ (∀ M36 : Mem, M36 = z_st M35 3 x1.toNatClampNeg (M35.1 3 x1.toNatClampNeg) → Q (some (.int (M.1 2 x1.toNatClampNeg))) M36)))) ∧ (x2 = (1 : Int32) → (vp_in x1 10 ∧ (∀ M37 : Mem, M37 = z_st M35 3 x1.toNatClampNeg x3 → Q (some (.int (M.1 2 x1.toNatClampNeg))) M37)))))))) ∧ (x2 = 0 → (vp_in x1 10 ∧ (∀ M38 : Mem, M38 = z_st M 2 x1.toNatClampNeg x3 → ((¬ x2 = (1 : Int32) → (vp_in x1 10 ∧ (vp_in x1 10 ∧ (∀ M39 : Mem, M39 = z_st M38 3 x1.toNatClampNeg (M38.1 3 x1.toNatClampNeg) → Q (some (.int (M.1 2 x1.toNatClampNeg))) M39)))) ∧ (x2 = (1 : Int32) → (vp_in x1 10 ∧ (∀ M40 : Mem, M40 = z_st M38 3 x1.toNatClampNeg x3 → Q (some (.int (M.1 2 x1.toNatClampNeg))) M40)))))))))))) ∧ (r28 = 0 → Q (some (.int (-2 : Int32))) M))))))))))) ∧ (r1 = 0 → Q (some (.int (-1 : Int32))) M))) : CX10_set E [.ref (E.2.1 0), .int x1, .int x2, .int x3] M Q := by
  refine z_entry (by decide +kernel) (Nat.le_of_ble_eq_true rfl) (fun X hE hX => ?_)
  subst hE
  show Z SM X 2 5 Q 0 [(0, .ref (X.1.2.1 0)), (1, .int x1), (2, .int x2), (3, .int x3)] [] M
  refine z_aload_n hX dX10_set_0 rfl 0 rfl ?_
  refine z_iload_n hX dX10_set_1 rfl 1 rfl ?_
  obtain ⟨r1, c9, h⟩ := h
  refine mcX10_69 hX dX10_set_2 (by decide) (Nat.le_of_ble_eq_true rfl) c9 ?_
  refine z_if_ne hX 10 dX10_set_5 (by decide) (fun c0 => ?_) (fun c0 => ?_)
  · replace h := h.1 c0
    refine z_iload_n hX dX10_set_10 rfl 2 rfl ?_
    refine z_if_ne hX 26 dX10_set_11 (by decide) (fun c0 => ?_) (fun c0 => ?_)
    · replace h := h.1 c0
      refine z_iload_n hX dX10_set_26 rfl 2 rfl ?_
      refine z_iconst (v := 1) hX dX10_set_27 (by decide) ?_
      refine z_icmp_ne hX 45 dX10_set_28 (by decide) (fun c0 => ?_) (fun c0 => ?_)
      · replace h := h.1 c0
        refine z_bipush (v := -2) hX dX10_set_45 (by decide) ?_
        exact z_iret hX dX10_set_47 h
      · replace h := h.2 c0
        refine z_iload_n hX dX10_set_31 rfl 3 rfl ?_
        refine z_i2l hX dX10_set_32 ?_
        refine z_ldc2 (v := -9) hX dX10_set_33 (z_w (List.mem_append_right _ (List.mem_of_getElem? (i := 843) (by decide +kernel))) rfl) ?_
        refine z_ldc2 (v := 9) hX dX10_set_36 (z_w (List.mem_append_right _ (List.mem_of_getElem? (i := 837) (by decide +kernel))) rfl) ?_
        obtain ⟨r2, c9, h⟩ := h
        refine mcX10_60 hX dX10_set_39 (by decide) (Nat.le_of_ble_eq_true rfl) c9 ?_
        refine z_if_ne hX 48 dX10_set_42 (by decide) (fun c0 => ?_) (fun c0 => ?_)
        · replace h := h.1 c0
          refine z_iload_n hX dX10_set_48 rfl 2 rfl ?_
          refine z_if_ne hX 61 dX10_set_49 (by decide) (fun c0 => ?_) (fun c0 => ?_)
          · replace h := h.1 c0
            refine z_aload_n hX dX10_set_61 rfl 0 rfl ?_
            refine gfX10_20 hX dX10_set_62 ?_
            refine z_iload_n hX dX10_set_65 rfl 1 rfl ?_
            refine z_iald hX 3 rfl h.1 dX10_set_66 ?_
            replace h := h.2
            refine z_istore hX dX10_set_67 (by decide) [(4, .int (M.1 3 x1.toNatClampNeg)), (0, .ref (X.1.2.1 0)), (1, .int x1), (2, .int x2), (3, .int x3)] rfl ?_
            refine z_aload_n hX dX10_set_69 rfl 1 rfl ?_
            refine gfX10_17 hX dX10_set_70 ?_
            refine z_iload_n hX dX10_set_73 rfl 2 rfl ?_
            refine z_iload_n hX dX10_set_74 rfl 3 rfl ?_
            refine z_if_ne hX 82 dX10_set_75 (by decide) (fun c0 => ?_) (fun c0 => ?_)
            · replace h := h.1 c0
              refine z_aload_n hX dX10_set_82 rfl 1 rfl ?_
              refine gfX10_17 hX dX10_set_83 ?_
              refine z_iload_n hX dX10_set_86 rfl 2 rfl ?_
              refine z_iald hX 2 rfl h.1 dX10_set_87 ?_
              replace h := h.2
              refine z_iastM hX 2 rfl h.1 dX10_set_88 (fun M3 eM3 => ?_)
              replace h := h.2 M3 eM3
              refine z_aload_n hX dX10_set_89 rfl 1 rfl ?_
              refine gfX10_20 hX dX10_set_90 ?_
              refine z_iload_n hX dX10_set_93 rfl 2 rfl ?_
              refine z_iload_n hX dX10_set_94 rfl 3 rfl ?_
              refine z_iconst (v := 1) hX dX10_set_95 (by decide) ?_
              refine z_icmp_ne hX 103 dX10_set_96 (by decide) (fun c0 => ?_) (fun c0 => ?_)
              · replace h := h.1 c0
                refine z_aload_n hX dX10_set_103 rfl 1 rfl ?_
                refine gfX10_20 hX dX10_set_104 ?_
                refine z_iload_n hX dX10_set_107 rfl 2 rfl ?_
                refine z_iald hX 3 rfl h.1 dX10_set_108 ?_
                replace h := h.2
                refine z_iastM hX 3 rfl h.1 dX10_set_109 (fun M4 eM4 => ?_)
                replace h := h.2 M4 eM4
                refine z_iload hX dX10_set_110 0 rfl ?_
                exact z_iret hX dX10_set_112 h
              · replace h := h.2 c0
                refine z_iload_n hX dX10_set_99 rfl 4 rfl ?_
                refine z_goto hX 109 dX10_set_100 (by decide) ?_
                refine z_iastM hX 3 rfl h.1 dX10_set_109 (fun M5 eM5 => ?_)
                replace h := h.2 M5 eM5
                refine z_iload hX dX10_set_110 0 rfl ?_
                exact z_iret hX dX10_set_112 h
            · replace h := h.2 c0
              refine z_iload_n hX dX10_set_78 rfl 4 rfl ?_
              refine z_goto hX 88 dX10_set_79 (by decide) ?_
              refine z_iastM hX 2 rfl h.1 dX10_set_88 (fun M6 eM6 => ?_)
              replace h := h.2 M6 eM6
              refine z_aload_n hX dX10_set_89 rfl 1 rfl ?_
              refine gfX10_20 hX dX10_set_90 ?_
              refine z_iload_n hX dX10_set_93 rfl 2 rfl ?_
              refine z_iload_n hX dX10_set_94 rfl 3 rfl ?_
              refine z_iconst (v := 1) hX dX10_set_95 (by decide) ?_
              refine z_icmp_ne hX 103 dX10_set_96 (by decide) (fun c0 => ?_) (fun c0 => ?_)
              · replace h := h.1 c0
                refine z_aload_n hX dX10_set_103 rfl 1 rfl ?_
                refine gfX10_20 hX dX10_set_104 ?_
                refine z_iload_n hX dX10_set_107 rfl 2 rfl ?_
                refine z_iald hX 3 rfl h.1 dX10_set_108 ?_
                replace h := h.2
                refine z_iastM hX 3 rfl h.1 dX10_set_109 (fun M7 eM7 => ?_)
                replace h := h.2 M7 eM7
                refine z_iload hX dX10_set_110 0 rfl ?_
                exact z_iret hX dX10_set_112 h
              · replace h := h.2 c0
                refine z_iload_n hX dX10_set_99 rfl 4 rfl ?_
                refine z_goto hX 109 dX10_set_100 (by decide) ?_
                refine z_iastM hX 3 rfl h.1 dX10_set_109 (fun M8 eM8 => ?_)
                replace h := h.2 M8 eM8
                refine z_iload hX dX10_set_110 0 rfl ?_
                exact z_iret hX dX10_set_112 h
          · replace h := h.2 c0
            refine z_aload_n hX dX10_set_52 rfl 0 rfl ?_
            refine gfX10_17 hX dX10_set_53 ?_
            refine z_iload_n hX dX10_set_56 rfl 1 rfl ?_
            refine z_iald hX 2 rfl h.1 dX10_set_57 ?_
            replace h := h.2
            refine z_goto hX 67 dX10_set_58 (by decide) ?_
            refine z_istore hX dX10_set_67 (by decide) [(4, .int (M.1 2 x1.toNatClampNeg)), (0, .ref (X.1.2.1 0)), (1, .int x1), (2, .int x2), (3, .int x3)] rfl ?_
            refine z_aload_n hX dX10_set_69 rfl 1 rfl ?_
            refine gfX10_17 hX dX10_set_70 ?_
            refine z_iload_n hX dX10_set_73 rfl 2 rfl ?_
            refine z_iload_n hX dX10_set_74 rfl 3 rfl ?_
            refine z_if_ne hX 82 dX10_set_75 (by decide) (fun c0 => ?_) (fun c0 => ?_)
            · replace h := h.1 c0
              refine z_aload_n hX dX10_set_82 rfl 1 rfl ?_
              refine gfX10_17 hX dX10_set_83 ?_
              refine z_iload_n hX dX10_set_86 rfl 2 rfl ?_
              refine z_iald hX 2 rfl h.1 dX10_set_87 ?_
              replace h := h.2
              refine z_iastM hX 2 rfl h.1 dX10_set_88 (fun M9 eM9 => ?_)
              replace h := h.2 M9 eM9
              refine z_aload_n hX dX10_set_89 rfl 1 rfl ?_
              refine gfX10_20 hX dX10_set_90 ?_
              refine z_iload_n hX dX10_set_93 rfl 2 rfl ?_
              refine z_iload_n hX dX10_set_94 rfl 3 rfl ?_
              refine z_iconst (v := 1) hX dX10_set_95 (by decide) ?_
              refine z_icmp_ne hX 103 dX10_set_96 (by decide) (fun c0 => ?_) (fun c0 => ?_)
              · replace h := h.1 c0
                refine z_aload_n hX dX10_set_103 rfl 1 rfl ?_
                refine gfX10_20 hX dX10_set_104 ?_
                refine z_iload_n hX dX10_set_107 rfl 2 rfl ?_
                refine z_iald hX 3 rfl h.1 dX10_set_108 ?_
                replace h := h.2
                refine z_iastM hX 3 rfl h.1 dX10_set_109 (fun M10 eM10 => ?_)
                replace h := h.2 M10 eM10
                refine z_iload hX dX10_set_110 0 rfl ?_
                exact z_iret hX dX10_set_112 h
              · replace h := h.2 c0
                refine z_iload_n hX dX10_set_99 rfl 4 rfl ?_
                refine z_goto hX 109 dX10_set_100 (by decide) ?_
                refine z_iastM hX 3 rfl h.1 dX10_set_109 (fun M11 eM11 => ?_)
                replace h := h.2 M11 eM11
                refine z_iload hX dX10_set_110 0 rfl ?_
                exact z_iret hX dX10_set_112 h
            · replace h := h.2 c0
              refine z_iload_n hX dX10_set_78 rfl 4 rfl ?_
              refine z_goto hX 88 dX10_set_79 (by decide) ?_
              refine z_iastM hX 2 rfl h.1 dX10_set_88 (fun M12 eM12 => ?_)
              replace h := h.2 M12 eM12
              refine z_aload_n hX dX10_set_89 rfl 1 rfl ?_
              refine gfX10_20 hX dX10_set_90 ?_
              refine z_iload_n hX dX10_set_93 rfl 2 rfl ?_
              refine z_iload_n hX dX10_set_94 rfl 3 rfl ?_
              refine z_iconst (v := 1) hX dX10_set_95 (by decide) ?_
              refine z_icmp_ne hX 103 dX10_set_96 (by decide) (fun c0 => ?_) (fun c0 => ?_)
              · replace h := h.1 c0
                refine z_aload_n hX dX10_set_103 rfl 1 rfl ?_
                refine gfX10_20 hX dX10_set_104 ?_
                refine z_iload_n hX dX10_set_107 rfl 2 rfl ?_
                refine z_iald hX 3 rfl h.1 dX10_set_108 ?_
                replace h := h.2
                refine z_iastM hX 3 rfl h.1 dX10_set_109 (fun M13 eM13 => ?_)
                replace h := h.2 M13 eM13
                refine z_iload hX dX10_set_110 0 rfl ?_
                exact z_iret hX dX10_set_112 h
              · replace h := h.2 c0
                refine z_iload_n hX dX10_set_99 rfl 4 rfl ?_
                refine z_goto hX 109 dX10_set_100 (by decide) ?_
                refine z_iastM hX 3 rfl h.1 dX10_set_109 (fun M14 eM14 => ?_)
                replace h := h.2 M14 eM14
                refine z_iload hX dX10_set_110 0 rfl ?_
                exact z_iret hX dX10_set_112 h
        · replace h := h.2 c0
          refine z_bipush (v := -2) hX dX10_set_45 (by decide) ?_
          exact z_iret hX dX10_set_47 h
    · replace h := h.2 c0
      refine z_iload_n hX dX10_set_14 rfl 3 rfl ?_
      refine z_i2l hX dX10_set_15 ?_
      refine z_lconst (v := 0) hX dX10_set_16 (by decide) ?_
      refine z_ldc2 (v := 3) hX dX10_set_17 (z_w (List.mem_append_right _ (List.mem_of_getElem? (i := 842) (by decide +kernel))) rfl) ?_
      obtain ⟨r15, c9, h⟩ := h
      refine mcX10_60 hX dX10_set_20 (by decide) (Nat.le_of_ble_eq_true rfl) c9 ?_
      refine z_if_ne hX 48 dX10_set_23 (by decide) (fun c0 => ?_) (fun c0 => ?_)
      · replace h := h.1 c0
        refine z_iload_n hX dX10_set_48 rfl 2 rfl ?_
        refine z_if_ne hX 61 dX10_set_49 (by decide) (fun c0 => ?_) (fun c0 => ?_)
        · replace h := h.1 c0
          refine z_aload_n hX dX10_set_61 rfl 0 rfl ?_
          refine gfX10_20 hX dX10_set_62 ?_
          refine z_iload_n hX dX10_set_65 rfl 1 rfl ?_
          refine z_iald hX 3 rfl h.1 dX10_set_66 ?_
          replace h := h.2
          refine z_istore hX dX10_set_67 (by decide) [(4, .int (M.1 3 x1.toNatClampNeg)), (0, .ref (X.1.2.1 0)), (1, .int x1), (2, .int x2), (3, .int x3)] rfl ?_
          refine z_aload_n hX dX10_set_69 rfl 1 rfl ?_
          refine gfX10_17 hX dX10_set_70 ?_
          refine z_iload_n hX dX10_set_73 rfl 2 rfl ?_
          refine z_iload_n hX dX10_set_74 rfl 3 rfl ?_
          refine z_if_ne hX 82 dX10_set_75 (by decide) (fun c0 => ?_) (fun c0 => ?_)
          · replace h := h.1 c0
            refine z_aload_n hX dX10_set_82 rfl 1 rfl ?_
            refine gfX10_17 hX dX10_set_83 ?_
            refine z_iload_n hX dX10_set_86 rfl 2 rfl ?_
            refine z_iald hX 2 rfl h.1 dX10_set_87 ?_
            replace h := h.2
            refine z_iastM hX 2 rfl h.1 dX10_set_88 (fun M16 eM16 => ?_)
            replace h := h.2 M16 eM16
            refine z_aload_n hX dX10_set_89 rfl 1 rfl ?_
            refine gfX10_20 hX dX10_set_90 ?_
            refine z_iload_n hX dX10_set_93 rfl 2 rfl ?_
            refine z_iload_n hX dX10_set_94 rfl 3 rfl ?_
            refine z_iconst (v := 1) hX dX10_set_95 (by decide) ?_
            refine z_icmp_ne hX 103 dX10_set_96 (by decide) (fun c0 => ?_) (fun c0 => ?_)
            · replace h := h.1 c0
              refine z_aload_n hX dX10_set_103 rfl 1 rfl ?_
              refine gfX10_20 hX dX10_set_104 ?_
              refine z_iload_n hX dX10_set_107 rfl 2 rfl ?_
              refine z_iald hX 3 rfl h.1 dX10_set_108 ?_
              replace h := h.2
              refine z_iastM hX 3 rfl h.1 dX10_set_109 (fun M17 eM17 => ?_)
              replace h := h.2 M17 eM17
              refine z_iload hX dX10_set_110 0 rfl ?_
              exact z_iret hX dX10_set_112 h
            · replace h := h.2 c0
              refine z_iload_n hX dX10_set_99 rfl 4 rfl ?_
              refine z_goto hX 109 dX10_set_100 (by decide) ?_
              refine z_iastM hX 3 rfl h.1 dX10_set_109 (fun M18 eM18 => ?_)
              replace h := h.2 M18 eM18
              refine z_iload hX dX10_set_110 0 rfl ?_
              exact z_iret hX dX10_set_112 h
          · replace h := h.2 c0
            refine z_iload_n hX dX10_set_78 rfl 4 rfl ?_
            refine z_goto hX 88 dX10_set_79 (by decide) ?_
            refine z_iastM hX 2 rfl h.1 dX10_set_88 (fun M19 eM19 => ?_)
            replace h := h.2 M19 eM19
            refine z_aload_n hX dX10_set_89 rfl 1 rfl ?_
            refine gfX10_20 hX dX10_set_90 ?_
            refine z_iload_n hX dX10_set_93 rfl 2 rfl ?_
            refine z_iload_n hX dX10_set_94 rfl 3 rfl ?_
            refine z_iconst (v := 1) hX dX10_set_95 (by decide) ?_
            refine z_icmp_ne hX 103 dX10_set_96 (by decide) (fun c0 => ?_) (fun c0 => ?_)
            · replace h := h.1 c0
              refine z_aload_n hX dX10_set_103 rfl 1 rfl ?_
              refine gfX10_20 hX dX10_set_104 ?_
              refine z_iload_n hX dX10_set_107 rfl 2 rfl ?_
              refine z_iald hX 3 rfl h.1 dX10_set_108 ?_
              replace h := h.2
              refine z_iastM hX 3 rfl h.1 dX10_set_109 (fun M20 eM20 => ?_)
              replace h := h.2 M20 eM20
              refine z_iload hX dX10_set_110 0 rfl ?_
              exact z_iret hX dX10_set_112 h
            · replace h := h.2 c0
              refine z_iload_n hX dX10_set_99 rfl 4 rfl ?_
              refine z_goto hX 109 dX10_set_100 (by decide) ?_
              refine z_iastM hX 3 rfl h.1 dX10_set_109 (fun M21 eM21 => ?_)
              replace h := h.2 M21 eM21
              refine z_iload hX dX10_set_110 0 rfl ?_
              exact z_iret hX dX10_set_112 h
        · replace h := h.2 c0
          refine z_aload_n hX dX10_set_52 rfl 0 rfl ?_
          refine gfX10_17 hX dX10_set_53 ?_
          refine z_iload_n hX dX10_set_56 rfl 1 rfl ?_
          refine z_iald hX 2 rfl h.1 dX10_set_57 ?_
          replace h := h.2
          refine z_goto hX 67 dX10_set_58 (by decide) ?_
          refine z_istore hX dX10_set_67 (by decide) [(4, .int (M.1 2 x1.toNatClampNeg)), (0, .ref (X.1.2.1 0)), (1, .int x1), (2, .int x2), (3, .int x3)] rfl ?_
          refine z_aload_n hX dX10_set_69 rfl 1 rfl ?_
          refine gfX10_17 hX dX10_set_70 ?_
          refine z_iload_n hX dX10_set_73 rfl 2 rfl ?_
          refine z_iload_n hX dX10_set_74 rfl 3 rfl ?_
          refine z_if_ne hX 82 dX10_set_75 (by decide) (fun c0 => ?_) (fun c0 => ?_)
          · replace h := h.1 c0
            refine z_aload_n hX dX10_set_82 rfl 1 rfl ?_
            refine gfX10_17 hX dX10_set_83 ?_
            refine z_iload_n hX dX10_set_86 rfl 2 rfl ?_
            refine z_iald hX 2 rfl h.1 dX10_set_87 ?_
            replace h := h.2
            refine z_iastM hX 2 rfl h.1 dX10_set_88 (fun M22 eM22 => ?_)
            replace h := h.2 M22 eM22
            refine z_aload_n hX dX10_set_89 rfl 1 rfl ?_
            refine gfX10_20 hX dX10_set_90 ?_
            refine z_iload_n hX dX10_set_93 rfl 2 rfl ?_
            refine z_iload_n hX dX10_set_94 rfl 3 rfl ?_
            refine z_iconst (v := 1) hX dX10_set_95 (by decide) ?_
            refine z_icmp_ne hX 103 dX10_set_96 (by decide) (fun c0 => ?_) (fun c0 => ?_)
            · replace h := h.1 c0
              refine z_aload_n hX dX10_set_103 rfl 1 rfl ?_
              refine gfX10_20 hX dX10_set_104 ?_
              refine z_iload_n hX dX10_set_107 rfl 2 rfl ?_
              refine z_iald hX 3 rfl h.1 dX10_set_108 ?_
              replace h := h.2
              refine z_iastM hX 3 rfl h.1 dX10_set_109 (fun M23 eM23 => ?_)
              replace h := h.2 M23 eM23
              refine z_iload hX dX10_set_110 0 rfl ?_
              exact z_iret hX dX10_set_112 h
            · replace h := h.2 c0
              refine z_iload_n hX dX10_set_99 rfl 4 rfl ?_
              refine z_goto hX 109 dX10_set_100 (by decide) ?_
              refine z_iastM hX 3 rfl h.1 dX10_set_109 (fun M24 eM24 => ?_)
              replace h := h.2 M24 eM24
              refine z_iload hX dX10_set_110 0 rfl ?_
              exact z_iret hX dX10_set_112 h
          · replace h := h.2 c0
            refine z_iload_n hX dX10_set_78 rfl 4 rfl ?_
            refine z_goto hX 88 dX10_set_79 (by decide) ?_
            refine z_iastM hX 2 rfl h.1 dX10_set_88 (fun M25 eM25 => ?_)
            replace h := h.2 M25 eM25
            refine z_aload_n hX dX10_set_89 rfl 1 rfl ?_
            refine gfX10_20 hX dX10_set_90 ?_
            refine z_iload_n hX dX10_set_93 rfl 2 rfl ?_
            refine z_iload_n hX dX10_set_94 rfl 3 rfl ?_
            refine z_iconst (v := 1) hX dX10_set_95 (by decide) ?_
            refine z_icmp_ne hX 103 dX10_set_96 (by decide) (fun c0 => ?_) (fun c0 => ?_)
            · replace h := h.1 c0
              refine z_aload_n hX dX10_set_103 rfl 1 rfl ?_
              refine gfX10_20 hX dX10_set_104 ?_
              refine z_iload_n hX dX10_set_107 rfl 2 rfl ?_
              refine z_iald hX 3 rfl h.1 dX10_set_108 ?_
              replace h := h.2
              refine z_iastM hX 3 rfl h.1 dX10_set_109 (fun M26 eM26 => ?_)
              replace h := h.2 M26 eM26
              refine z_iload hX dX10_set_110 0 rfl ?_
              exact z_iret hX dX10_set_112 h
            · replace h := h.2 c0
              refine z_iload_n hX dX10_set_99 rfl 4 rfl ?_
              refine z_goto hX 109 dX10_set_100 (by decide) ?_
              refine z_iastM hX 3 rfl h.1 dX10_set_109 (fun M27 eM27 => ?_)
              replace h := h.2 M27 eM27
              refine z_iload hX dX10_set_110 0 rfl ?_
              exact z_iret hX dX10_set_112 h
      · replace h := h.2 c0
        refine z_iload_n hX dX10_set_26 rfl 2 rfl ?_
        refine z_iconst (v := 1) hX dX10_set_27 (by decide) ?_
        refine z_icmp_ne hX 45 dX10_set_28 (by decide) (fun c0 => ?_) (fun c0 => ?_)
        · replace h := h.1 c0
          refine z_bipush (v := -2) hX dX10_set_45 (by decide) ?_
          exact z_iret hX dX10_set_47 h
        · replace h := h.2 c0
          refine z_iload_n hX dX10_set_31 rfl 3 rfl ?_
          refine z_i2l hX dX10_set_32 ?_
          refine z_ldc2 (v := -9) hX dX10_set_33 (z_w (List.mem_append_right _ (List.mem_of_getElem? (i := 843) (by decide +kernel))) rfl) ?_
          refine z_ldc2 (v := 9) hX dX10_set_36 (z_w (List.mem_append_right _ (List.mem_of_getElem? (i := 837) (by decide +kernel))) rfl) ?_
          obtain ⟨r28, c9, h⟩ := h
          refine mcX10_60 hX dX10_set_39 (by decide) (Nat.le_of_ble_eq_true rfl) c9 ?_
          refine z_if_ne hX 48 dX10_set_42 (by decide) (fun c0 => ?_) (fun c0 => ?_)
          · replace h := h.1 c0
            refine z_iload_n hX dX10_set_48 rfl 2 rfl ?_
            refine z_if_ne hX 61 dX10_set_49 (by decide) (fun c0 => ?_) (fun c0 => ?_)
            · replace h := h.1 c0
              refine z_aload_n hX dX10_set_61 rfl 0 rfl ?_
              refine gfX10_20 hX dX10_set_62 ?_
              refine z_iload_n hX dX10_set_65 rfl 1 rfl ?_
              refine z_iald hX 3 rfl h.1 dX10_set_66 ?_
              replace h := h.2
              refine z_istore hX dX10_set_67 (by decide) [(4, .int (M.1 3 x1.toNatClampNeg)), (0, .ref (X.1.2.1 0)), (1, .int x1), (2, .int x2), (3, .int x3)] rfl ?_
              refine z_aload_n hX dX10_set_69 rfl 1 rfl ?_
              refine gfX10_17 hX dX10_set_70 ?_
              refine z_iload_n hX dX10_set_73 rfl 2 rfl ?_
              refine z_iload_n hX dX10_set_74 rfl 3 rfl ?_
              refine z_if_ne hX 82 dX10_set_75 (by decide) (fun c0 => ?_) (fun c0 => ?_)
              · replace h := h.1 c0
                refine z_aload_n hX dX10_set_82 rfl 1 rfl ?_
                refine gfX10_17 hX dX10_set_83 ?_
                refine z_iload_n hX dX10_set_86 rfl 2 rfl ?_
                refine z_iald hX 2 rfl h.1 dX10_set_87 ?_
                replace h := h.2
                refine z_iastM hX 2 rfl h.1 dX10_set_88 (fun M29 eM29 => ?_)
                replace h := h.2 M29 eM29
                refine z_aload_n hX dX10_set_89 rfl 1 rfl ?_
                refine gfX10_20 hX dX10_set_90 ?_
                refine z_iload_n hX dX10_set_93 rfl 2 rfl ?_
                refine z_iload_n hX dX10_set_94 rfl 3 rfl ?_
                refine z_iconst (v := 1) hX dX10_set_95 (by decide) ?_
                refine z_icmp_ne hX 103 dX10_set_96 (by decide) (fun c0 => ?_) (fun c0 => ?_)
                · replace h := h.1 c0
                  refine z_aload_n hX dX10_set_103 rfl 1 rfl ?_
                  refine gfX10_20 hX dX10_set_104 ?_
                  refine z_iload_n hX dX10_set_107 rfl 2 rfl ?_
                  refine z_iald hX 3 rfl h.1 dX10_set_108 ?_
                  replace h := h.2
                  refine z_iastM hX 3 rfl h.1 dX10_set_109 (fun M30 eM30 => ?_)
                  replace h := h.2 M30 eM30
                  refine z_iload hX dX10_set_110 0 rfl ?_
                  exact z_iret hX dX10_set_112 h
                · replace h := h.2 c0
                  refine z_iload_n hX dX10_set_99 rfl 4 rfl ?_
                  refine z_goto hX 109 dX10_set_100 (by decide) ?_
                  refine z_iastM hX 3 rfl h.1 dX10_set_109 (fun M31 eM31 => ?_)
                  replace h := h.2 M31 eM31
                  refine z_iload hX dX10_set_110 0 rfl ?_
                  exact z_iret hX dX10_set_112 h
              · replace h := h.2 c0
                refine z_iload_n hX dX10_set_78 rfl 4 rfl ?_
                refine z_goto hX 88 dX10_set_79 (by decide) ?_
                refine z_iastM hX 2 rfl h.1 dX10_set_88 (fun M32 eM32 => ?_)
                replace h := h.2 M32 eM32
                refine z_aload_n hX dX10_set_89 rfl 1 rfl ?_
                refine gfX10_20 hX dX10_set_90 ?_
                refine z_iload_n hX dX10_set_93 rfl 2 rfl ?_
                refine z_iload_n hX dX10_set_94 rfl 3 rfl ?_
                refine z_iconst (v := 1) hX dX10_set_95 (by decide) ?_
                refine z_icmp_ne hX 103 dX10_set_96 (by decide) (fun c0 => ?_) (fun c0 => ?_)
                · replace h := h.1 c0
                  refine z_aload_n hX dX10_set_103 rfl 1 rfl ?_
                  refine gfX10_20 hX dX10_set_104 ?_
                  refine z_iload_n hX dX10_set_107 rfl 2 rfl ?_
                  refine z_iald hX 3 rfl h.1 dX10_set_108 ?_
                  replace h := h.2
                  refine z_iastM hX 3 rfl h.1 dX10_set_109 (fun M33 eM33 => ?_)
                  replace h := h.2 M33 eM33
                  refine z_iload hX dX10_set_110 0 rfl ?_
                  exact z_iret hX dX10_set_112 h
                · replace h := h.2 c0
                  refine z_iload_n hX dX10_set_99 rfl 4 rfl ?_
                  refine z_goto hX 109 dX10_set_100 (by decide) ?_
                  refine z_iastM hX 3 rfl h.1 dX10_set_109 (fun M34 eM34 => ?_)
                  replace h := h.2 M34 eM34
                  refine z_iload hX dX10_set_110 0 rfl ?_
                  exact z_iret hX dX10_set_112 h
            · replace h := h.2 c0
              refine z_aload_n hX dX10_set_52 rfl 0 rfl ?_
              refine gfX10_17 hX dX10_set_53 ?_
              refine z_iload_n hX dX10_set_56 rfl 1 rfl ?_
              refine z_iald hX 2 rfl h.1 dX10_set_57 ?_
              replace h := h.2
              refine z_goto hX 67 dX10_set_58 (by decide) ?_
              refine z_istore hX dX10_set_67 (by decide) [(4, .int (M.1 2 x1.toNatClampNeg)), (0, .ref (X.1.2.1 0)), (1, .int x1), (2, .int x2), (3, .int x3)] rfl ?_
              refine z_aload_n hX dX10_set_69 rfl 1 rfl ?_
              refine gfX10_17 hX dX10_set_70 ?_
              refine z_iload_n hX dX10_set_73 rfl 2 rfl ?_
              refine z_iload_n hX dX10_set_74 rfl 3 rfl ?_
              refine z_if_ne hX 82 dX10_set_75 (by decide) (fun c0 => ?_) (fun c0 => ?_)
              · replace h := h.1 c0
                refine z_aload_n hX dX10_set_82 rfl 1 rfl ?_
                refine gfX10_17 hX dX10_set_83 ?_
                refine z_iload_n hX dX10_set_86 rfl 2 rfl ?_
                refine z_iald hX 2 rfl h.1 dX10_set_87 ?_
                replace h := h.2
                refine z_iastM hX 2 rfl h.1 dX10_set_88 (fun M35 eM35 => ?_)
                replace h := h.2 M35 eM35
                refine z_aload_n hX dX10_set_89 rfl 1 rfl ?_
                refine gfX10_20 hX dX10_set_90 ?_
                refine z_iload_n hX dX10_set_93 rfl 2 rfl ?_
                refine z_iload_n hX dX10_set_94 rfl 3 rfl ?_
                refine z_iconst (v := 1) hX dX10_set_95 (by decide) ?_
                refine z_icmp_ne hX 103 dX10_set_96 (by decide) (fun c0 => ?_) (fun c0 => ?_)
                · replace h := h.1 c0
                  refine z_aload_n hX dX10_set_103 rfl 1 rfl ?_
                  refine gfX10_20 hX dX10_set_104 ?_
                  refine z_iload_n hX dX10_set_107 rfl 2 rfl ?_
                  refine z_iald hX 3 rfl h.1 dX10_set_108 ?_
                  replace h := h.2
                  refine z_iastM hX 3 rfl h.1 dX10_set_109 (fun M36 eM36 => ?_)
                  replace h := h.2 M36 eM36
                  refine z_iload hX dX10_set_110 0 rfl ?_
                  exact z_iret hX dX10_set_112 h
                · replace h := h.2 c0
                  refine z_iload_n hX dX10_set_99 rfl 4 rfl ?_
                  refine z_goto hX 109 dX10_set_100 (by decide) ?_
                  refine z_iastM hX 3 rfl h.1 dX10_set_109 (fun M37 eM37 => ?_)
                  replace h := h.2 M37 eM37
                  refine z_iload hX dX10_set_110 0 rfl ?_
                  exact z_iret hX dX10_set_112 h
              · replace h := h.2 c0
                refine z_iload_n hX dX10_set_78 rfl 4 rfl ?_
                refine z_goto hX 88 dX10_set_79 (by decide) ?_
                refine z_iastM hX 2 rfl h.1 dX10_set_88 (fun M38 eM38 => ?_)
                replace h := h.2 M38 eM38
                refine z_aload_n hX dX10_set_89 rfl 1 rfl ?_
                refine gfX10_20 hX dX10_set_90 ?_
                refine z_iload_n hX dX10_set_93 rfl 2 rfl ?_
                refine z_iload_n hX dX10_set_94 rfl 3 rfl ?_
                refine z_iconst (v := 1) hX dX10_set_95 (by decide) ?_
                refine z_icmp_ne hX 103 dX10_set_96 (by decide) (fun c0 => ?_) (fun c0 => ?_)
                · replace h := h.1 c0
                  refine z_aload_n hX dX10_set_103 rfl 1 rfl ?_
                  refine gfX10_20 hX dX10_set_104 ?_
                  refine z_iload_n hX dX10_set_107 rfl 2 rfl ?_
                  refine z_iald hX 3 rfl h.1 dX10_set_108 ?_
                  replace h := h.2
                  refine z_iastM hX 3 rfl h.1 dX10_set_109 (fun M39 eM39 => ?_)
                  replace h := h.2 M39 eM39
                  refine z_iload hX dX10_set_110 0 rfl ?_
                  exact z_iret hX dX10_set_112 h
                · replace h := h.2 c0
                  refine z_iload_n hX dX10_set_99 rfl 4 rfl ?_
                  refine z_goto hX 109 dX10_set_100 (by decide) ?_
                  refine z_iastM hX 3 rfl h.1 dX10_set_109 (fun M40 eM40 => ?_)
                  replace h := h.2 M40 eM40
                  refine z_iload hX dX10_set_110 0 rfl ?_
                  exact z_iret hX dX10_set_112 h
          · replace h := h.2 c0
            refine z_bipush (v := -2) hX dX10_set_45 (by decide) ?_
            exact z_iret hX dX10_set_47 h
  · replace h := h.2 c0
    refine z_iconst (v := -1) hX dX10_set_8 (by decide) ?_
    exact z_iret hX dX10_set_9 h
abbrev LX10_about_18 (X : XT) (Q : Option Value → Mem → Prop) (x1 : Int32) (x2 : Int32) (x3 : Int32) (x4 : Int32) (x5 : Int32) (M : Mem) : Prop := Z SM X 2 6 Q 18 [(0, .ref (X.1.2.1 0)), (1, .int x1), (2, .int x2), (3, .int x3), (4, .int x4), (5, .int x5)] [] M
set_option maxRecDepth 100000 in
set_option maxHeartbeats 4000000 in
theorem EX10_about {E : ET} {Q : Option Value → Mem → Prop} {x1 x2 : Int32} {M : Mem} (h : ∀ X : XT, X.1 = E → KX10_about X → (∃ (r1 : Int32), CX10_isPerson X.1 [.ref (X.1.2.1 0), .int x1] M (z_is (some (.int r1)) M) ∧ ((¬ r1 = 0 → LX10_about_18 X Q x1 x2 (0 : Int32) (0 : Int32) (0 : Int32) M) ∧ (r1 = 0 → Q (some (.int (-1 : Int32))) M)))) : CX10_about E [.ref (E.2.1 0), .int x1, .int x2] M Q := by
  refine z_entry (by decide +kernel) (Nat.le_of_ble_eq_true rfl) (fun X hE hX => ?_)
  subst hE
  replace h := h X rfl hX
  show Z SM X 2 6 Q 0 [(0, .ref (X.1.2.1 0)), (1, .int x1), (2, .int x2)] [] M
  refine z_aload_n hX dX10_about_0 rfl 0 rfl ?_
  refine z_iload_n hX dX10_about_1 rfl 1 rfl ?_
  obtain ⟨r1, c9, h⟩ := h
  refine mcX10_69 hX dX10_about_2 (by decide) (Nat.le_of_ble_eq_true rfl) c9 ?_
  refine z_if_ne hX 10 dX10_about_5 (by decide) (fun c0 => ?_) (fun c0 => ?_)
  · replace h := h.1 c0
    refine z_iconst (v := 0) hX dX10_about_10 (by decide) ?_
    refine z_istore_n hX dX10_about_11 rfl (by decide) [(3, .int (0 : Int32)), (0, .ref (X.1.2.1 0)), (1, .int x1), (2, .int x2)] rfl ?_
    refine z_iconst (v := 0) hX dX10_about_12 (by decide) ?_
    refine z_istore hX dX10_about_13 (by decide) [(4, .int (0 : Int32)), (3, .int (0 : Int32)), (0, .ref (X.1.2.1 0)), (1, .int x1), (2, .int x2)] rfl ?_
    refine z_iconst (v := 0) hX dX10_about_15 (by decide) ?_
    refine z_istore hX dX10_about_16 (by decide) [(5, .int (0 : Int32)), (4, .int (0 : Int32)), (3, .int (0 : Int32)), (0, .ref (X.1.2.1 0)), (1, .int x1), (2, .int x2)] rfl ?_
    exact z_sub [3, 4, 5, 2, 1, 0] rfl h
  · replace h := h.2 c0
    refine z_iconst (v := -1) hX dX10_about_8 (by decide) ?_
    exact z_iret hX dX10_about_9 h
set_option maxRecDepth 100000 in
set_option maxHeartbeats 4000000 in
theorem BX10_about_18 {X : XT} {Q : Option Value → Mem → Prop} (hX : KX10_about X) {x1 x2 x3 x4 x5 : Int32} {M : Mem} (h : (((M.1 0 0) ≤ x5 → (((x2.toInt < 0 ∨ 3 < x2.toInt) → Q (some (.int (-2 : Int32))) M) ∧ (x2 = 0 → (vp_in x1 10 ∧ Q (some (.int (M.1 2 x1.toNatClampNeg))) M)) ∧ (x2 = 1 → (vp_in x1 10 ∧ Q (some (.int (M.1 3 x1.toNatClampNeg))) M)) ∧ (x2 = 2 → Q (some (.int x3)) M) ∧ (x2 = 3 → Q (some (.int x4)) M))) ∧ (¬ (M.1 0 0) ≤ x5 → (vp_in (((10 : Int32) * x1) + x5) 100 ∧ (((M.1 1 (((10 : Int32) * x1) + x5).toNatClampNeg) ≤ 0 → (vp_in (((10 : Int32) * x5) + x1) 100 ∧ (((M.1 1 (((10 : Int32) * x5) + x1).toNatClampNeg) ≤ 0 → LX10_about_18 X Q x1 x2 (x3 + (0 : Int32)) (x4 + (0 : Int32)) (x5 + (1 : Int32)) M) ∧ (¬ (M.1 1 (((10 : Int32) * x5) + x1).toNatClampNeg) ≤ 0 → LX10_about_18 X Q x1 x2 (x3 + (0 : Int32)) (x4 + (1 : Int32)) (x5 + (1 : Int32)) M)))) ∧ (¬ (M.1 1 (((10 : Int32) * x1) + x5).toNatClampNeg) ≤ 0 → (vp_in (((10 : Int32) * x5) + x1) 100 ∧ (((M.1 1 (((10 : Int32) * x5) + x1).toNatClampNeg) ≤ 0 → LX10_about_18 X Q x1 x2 (x3 + (1 : Int32)) (x4 + (0 : Int32)) (x5 + (1 : Int32)) M) ∧ (¬ (M.1 1 (((10 : Int32) * x5) + x1).toNatClampNeg) ≤ 0 → LX10_about_18 X Q x1 x2 (x3 + (1 : Int32)) (x4 + (1 : Int32)) (x5 + (1 : Int32)) M))))))))) : LX10_about_18 X Q x1 x2 x3 x4 x5 M := by
  show Z SM X 2 6 Q 18 [(0, .ref (X.1.2.1 0)), (1, .int x1), (2, .int x2), (3, .int x3), (4, .int x4), (5, .int x5)] [] M
  refine z_iload hX dX10_about_18 5 rfl ?_
  refine z_aload_n hX dX10_about_20 rfl 0 rfl ?_
  refine gfX10_7 hX dX10_about_21 ?_
  refine z_icmp_ge hX 81 dX10_about_24 (by decide) (fun c0 => ?_) (fun c0 => ?_)
  · replace h := h.1 c0
    refine z_iload_n hX dX10_about_81 rfl 2 rfl ?_
    by_cases c0 : x2.toInt < 0 ∨ 3 < x2.toInt
    · replace h := h.1 c0
      refine z_tableOut hX 131 dX10_about_82 c0 (by decide) ?_
      refine z_bipush (v := -2) hX dX10_about_131 (by decide) ?_
      exact z_iret hX dX10_about_133 h
    · have c1 := z_tab4 c0
      replace h := h.2
      rcases c1 with c2 | c2 | c2 | c2
      · replace h := h.1 c2
        refine z_tableIn hX 112 dX10_about_82 (by rw [c2]; decide) (by rw [c2]; decide) (by rw [c2]; rfl) (by decide) ?_
        refine z_aload_n hX dX10_about_112 rfl 0 rfl ?_
        refine gfX10_17 hX dX10_about_113 ?_
        refine z_iload_n hX dX10_about_116 rfl 1 rfl ?_
        refine z_iald hX 2 rfl h.1 dX10_about_117 ?_
        replace h := h.2
        exact z_iret hX dX10_about_118 h
      · replace h := h.2.1 c2
        refine z_tableIn hX 119 dX10_about_82 (by rw [c2]; decide) (by rw [c2]; decide) (by rw [c2]; rfl) (by decide) ?_
        refine z_aload_n hX dX10_about_119 rfl 0 rfl ?_
        refine gfX10_20 hX dX10_about_120 ?_
        refine z_iload_n hX dX10_about_123 rfl 1 rfl ?_
        refine z_iald hX 3 rfl h.1 dX10_about_124 ?_
        replace h := h.2
        exact z_iret hX dX10_about_125 h
      · replace h := h.2.2.1 c2
        refine z_tableIn hX 126 dX10_about_82 (by rw [c2]; decide) (by rw [c2]; decide) (by rw [c2]; rfl) (by decide) ?_
        refine z_iload_n hX dX10_about_126 rfl 3 rfl ?_
        exact z_iret hX dX10_about_127 h
      · replace h := h.2.2.2 c2
        refine z_tableIn hX 128 dX10_about_82 (by rw [c2]; decide) (by rw [c2]; decide) (by rw [c2]; rfl) (by decide) ?_
        refine z_iload hX dX10_about_128 4 rfl ?_
        exact z_iret hX dX10_about_130 h
  · replace h := h.2 c0
    refine z_iload_n hX dX10_about_27 rfl 3 rfl ?_
    refine z_aload_n hX dX10_about_28 rfl 0 rfl ?_
    refine gfX10_13 hX dX10_about_29 ?_
    refine z_bipush (v := 10) hX dX10_about_32 (by decide) ?_
    refine z_iload_n hX dX10_about_34 rfl 1 rfl ?_
    refine z_imul hX dX10_about_35 ?_
    refine z_iload hX dX10_about_36 5 rfl ?_
    refine z_iadd hX dX10_about_38 ?_
    refine z_iald hX 1 rfl h.1 dX10_about_39 ?_
    replace h := h.2
    refine z_if_le hX 47 dX10_about_40 (by decide) (fun c0 => ?_) (fun c0 => ?_)
    · replace h := h.1 c0
      refine z_iconst (v := 0) hX dX10_about_47 (by decide) ?_
      refine z_iadd hX dX10_about_48 ?_
      refine z_istore_n hX dX10_about_49 rfl (by decide) [(3, .int (x3 + (0 : Int32))), (0, .ref (X.1.2.1 0)), (1, .int x1), (2, .int x2), (4, .int x4), (5, .int x5)] rfl ?_
      refine z_iload hX dX10_about_50 4 rfl ?_
      refine z_aload_n hX dX10_about_52 rfl 1 rfl ?_
      refine gfX10_13 hX dX10_about_53 ?_
      refine z_bipush (v := 10) hX dX10_about_56 (by decide) ?_
      refine z_iload hX dX10_about_58 5 rfl ?_
      refine z_imul hX dX10_about_60 ?_
      refine z_iload_n hX dX10_about_61 rfl 2 rfl ?_
      refine z_iadd hX dX10_about_62 ?_
      refine z_iald hX 1 rfl h.1 dX10_about_63 ?_
      replace h := h.2
      refine z_if_le hX 71 dX10_about_64 (by decide) (fun c0 => ?_) (fun c0 => ?_)
      · replace h := h.1 c0
        refine z_iconst (v := 0) hX dX10_about_71 (by decide) ?_
        refine z_iadd hX dX10_about_72 ?_
        refine z_istore hX dX10_about_73 (by decide) [(4, .int (x4 + (0 : Int32))), (3, .int (x3 + (0 : Int32))), (0, .ref (X.1.2.1 0)), (1, .int x1), (2, .int x2), (5, .int x5)] rfl ?_
        refine z_iinc (v := x5 + (1 : Int32)) hX dX10_about_75 5 rfl rfl (by decide) [(5, .int (x5 + (1 : Int32))), (4, .int (x4 + (0 : Int32))), (3, .int (x3 + (0 : Int32))), (0, .ref (X.1.2.1 0)), (1, .int x1), (2, .int x2)] rfl ?_
        refine z_goto hX 18 dX10_about_78 (by decide) ?_
        exact z_sub [3, 4, 5, 2, 1, 0] rfl h
      · replace h := h.2 c0
        refine z_iconst (v := 1) hX dX10_about_67 (by decide) ?_
        refine z_goto hX 72 dX10_about_68 (by decide) ?_
        refine z_iadd hX dX10_about_72 ?_
        refine z_istore hX dX10_about_73 (by decide) [(4, .int (x4 + (1 : Int32))), (3, .int (x3 + (0 : Int32))), (0, .ref (X.1.2.1 0)), (1, .int x1), (2, .int x2), (5, .int x5)] rfl ?_
        refine z_iinc (v := x5 + (1 : Int32)) hX dX10_about_75 5 rfl rfl (by decide) [(5, .int (x5 + (1 : Int32))), (4, .int (x4 + (1 : Int32))), (3, .int (x3 + (0 : Int32))), (0, .ref (X.1.2.1 0)), (1, .int x1), (2, .int x2)] rfl ?_
        refine z_goto hX 18 dX10_about_78 (by decide) ?_
        exact z_sub [3, 4, 5, 2, 1, 0] rfl h
    · replace h := h.2 c0
      refine z_iconst (v := 1) hX dX10_about_43 (by decide) ?_
      refine z_goto hX 48 dX10_about_44 (by decide) ?_
      refine z_iadd hX dX10_about_48 ?_
      refine z_istore_n hX dX10_about_49 rfl (by decide) [(3, .int (x3 + (1 : Int32))), (0, .ref (X.1.2.1 0)), (1, .int x1), (2, .int x2), (4, .int x4), (5, .int x5)] rfl ?_
      refine z_iload hX dX10_about_50 4 rfl ?_
      refine z_aload_n hX dX10_about_52 rfl 1 rfl ?_
      refine gfX10_13 hX dX10_about_53 ?_
      refine z_bipush (v := 10) hX dX10_about_56 (by decide) ?_
      refine z_iload hX dX10_about_58 5 rfl ?_
      refine z_imul hX dX10_about_60 ?_
      refine z_iload_n hX dX10_about_61 rfl 2 rfl ?_
      refine z_iadd hX dX10_about_62 ?_
      refine z_iald hX 1 rfl h.1 dX10_about_63 ?_
      replace h := h.2
      refine z_if_le hX 71 dX10_about_64 (by decide) (fun c0 => ?_) (fun c0 => ?_)
      · replace h := h.1 c0
        refine z_iconst (v := 0) hX dX10_about_71 (by decide) ?_
        refine z_iadd hX dX10_about_72 ?_
        refine z_istore hX dX10_about_73 (by decide) [(4, .int (x4 + (0 : Int32))), (3, .int (x3 + (1 : Int32))), (0, .ref (X.1.2.1 0)), (1, .int x1), (2, .int x2), (5, .int x5)] rfl ?_
        refine z_iinc (v := x5 + (1 : Int32)) hX dX10_about_75 5 rfl rfl (by decide) [(5, .int (x5 + (1 : Int32))), (4, .int (x4 + (0 : Int32))), (3, .int (x3 + (1 : Int32))), (0, .ref (X.1.2.1 0)), (1, .int x1), (2, .int x2)] rfl ?_
        refine z_goto hX 18 dX10_about_78 (by decide) ?_
        exact z_sub [3, 4, 5, 2, 1, 0] rfl h
      · replace h := h.2 c0
        refine z_iconst (v := 1) hX dX10_about_67 (by decide) ?_
        refine z_goto hX 72 dX10_about_68 (by decide) ?_
        refine z_iadd hX dX10_about_72 ?_
        refine z_istore hX dX10_about_73 (by decide) [(4, .int (x4 + (1 : Int32))), (3, .int (x3 + (1 : Int32))), (0, .ref (X.1.2.1 0)), (1, .int x1), (2, .int x2), (5, .int x5)] rfl ?_
        refine z_iinc (v := x5 + (1 : Int32)) hX dX10_about_75 5 rfl rfl (by decide) [(5, .int (x5 + (1 : Int32))), (4, .int (x4 + (1 : Int32))), (3, .int (x3 + (1 : Int32))), (0, .ref (X.1.2.1 0)), (1, .int x1), (2, .int x2)] rfl ?_
        refine z_goto hX 18 dX10_about_78 (by decide) ?_
        exact z_sub [3, 4, 5, 2, 1, 0] rfl h
set_option maxRecDepth 100000 in
set_option maxHeartbeats 4000000 in
theorem EX10_sees {E : ET} {Q : Option Value → Mem → Prop} {x1 x2 : Int32} {M : Mem} (h : ∃ (r1 : Int32), CX10_isPerson E [.ref (E.2.1 0), .int x1] M (z_is (some (.int r1)) M) ∧ ((r1 = 0 → Q (some (.int (-1 : Int32))) M) ∧ (¬ r1 = 0 → (∃ (r2 : Int32), CX10_isPerson E [.ref (E.2.1 0), .int x2] M (z_is (some (.int r2)) M) ∧ ((¬ r2 = 0 → ((¬ x1 = x2 → (vp_in (((10 : Int32) * x1) + x2) 100 ∧ Q (some (.int (M.1 1 (((10 : Int32) * x1) + x2).toNatClampNeg))) M)) ∧ (x1 = x2 → Q (some (.int (-3 : Int32))) M))) ∧ (r2 = 0 → Q (some (.int (-1 : Int32))) M)))))) : CX10_sees E [.ref (E.2.1 0), .int x1, .int x2] M Q := by
  refine z_entry (by decide +kernel) (Nat.le_of_ble_eq_true rfl) (fun X hE hX => ?_)
  subst hE
  show Z SM X 2 3 Q 0 [(0, .ref (X.1.2.1 0)), (1, .int x1), (2, .int x2)] [] M
  refine z_aload_n hX dX10_sees_0 rfl 0 rfl ?_
  refine z_iload_n hX dX10_sees_1 rfl 1 rfl ?_
  obtain ⟨r1, c9, h⟩ := h
  refine mcX10_69 hX dX10_sees_2 (by decide) (Nat.le_of_ble_eq_true rfl) c9 ?_
  refine z_if_eq hX 16 dX10_sees_5 (by decide) (fun c0 => ?_) (fun c0 => ?_)
  · replace h := h.1 c0
    refine z_iconst (v := -1) hX dX10_sees_16 (by decide) ?_
    exact z_iret hX dX10_sees_17 h
  · replace h := h.2 c0
    refine z_aload_n hX dX10_sees_8 rfl 0 rfl ?_
    refine z_iload_n hX dX10_sees_9 rfl 2 rfl ?_
    obtain ⟨r2, c9, h⟩ := h
    refine mcX10_69 hX dX10_sees_10 (by decide) (Nat.le_of_ble_eq_true rfl) c9 ?_
    refine z_if_ne hX 18 dX10_sees_13 (by decide) (fun c0 => ?_) (fun c0 => ?_)
    · replace h := h.1 c0
      refine z_iload_n hX dX10_sees_18 rfl 1 rfl ?_
      refine z_iload_n hX dX10_sees_19 rfl 2 rfl ?_
      refine z_icmp_ne hX 28 dX10_sees_20 (by decide) (fun c0 => ?_) (fun c0 => ?_)
      · replace h := h.1 c0
        refine z_aload_n hX dX10_sees_28 rfl 0 rfl ?_
        refine gfX10_13 hX dX10_sees_29 ?_
        refine z_bipush (v := 10) hX dX10_sees_32 (by decide) ?_
        refine z_iload_n hX dX10_sees_34 rfl 1 rfl ?_
        refine z_imul hX dX10_sees_35 ?_
        refine z_iload_n hX dX10_sees_36 rfl 2 rfl ?_
        refine z_iadd hX dX10_sees_37 ?_
        refine z_iald hX 1 rfl h.1 dX10_sees_38 ?_
        replace h := h.2
        exact z_iret hX dX10_sees_39 h
      · replace h := h.2 c0
        refine z_bipush (v := -3) hX dX10_sees_23 (by decide) ?_
        refine z_goto hX 39 dX10_sees_25 (by decide) ?_
        exact z_iret hX dX10_sees_39 h
    · replace h := h.2 c0
      refine z_iconst (v := -1) hX dX10_sees_16 (by decide) ?_
      exact z_iret hX dX10_sees_17 h
abbrev LX10_sumOf_10 (X : XT) (Q : Option Value → Mem → Prop) (x1 : Int32) (x2 : Int32) (x3 : Int32) (x4 : Int32) (M : Mem) : Prop := Z SM X 0 5 Q 10 [(0, .ref (X.1.2.1 0)), (1, .int x1), (2, .int x2), (3, .int x3), (4, .int x4)] [] M
set_option maxRecDepth 100000 in
set_option maxHeartbeats 4000000 in
theorem EX10_sumOf {E : ET} {Q : Option Value → Mem → Prop} {x1 x2 : Int32} {M : Mem} (h : ∀ X : XT, X.1 = E → KX10_sumOf X → (vp_in x1 10 ∧ LX10_sumOf_10 X Q x1 x2 (M.1 3 x1.toNatClampNeg) (0 : Int32) M)) : CX10_sumOf E [.ref (E.2.1 0), .int x1, .int x2] M Q := by
  refine z_entry (by decide +kernel) (Nat.le_of_ble_eq_true rfl) (fun X hE hX => ?_)
  subst hE
  replace h := h X rfl hX
  show Z SM X 0 5 Q 0 [(0, .ref (X.1.2.1 0)), (1, .int x1), (2, .int x2)] [] M
  refine z_aload_n hX dX10_sumOf_0 rfl 0 rfl ?_
  refine gfX10_20 hX dX10_sumOf_1 ?_
  refine z_iload_n hX dX10_sumOf_4 rfl 1 rfl ?_
  refine z_iald hX 3 rfl h.1 dX10_sumOf_5 ?_
  replace h := h.2
  refine z_istore_n hX dX10_sumOf_6 rfl (by decide) [(3, .int (M.1 3 x1.toNatClampNeg)), (0, .ref (X.1.2.1 0)), (1, .int x1), (2, .int x2)] rfl ?_
  refine z_iconst (v := 0) hX dX10_sumOf_7 (by decide) ?_
  refine z_istore hX dX10_sumOf_8 (by decide) [(4, .int (0 : Int32)), (3, .int (M.1 3 x1.toNatClampNeg)), (0, .ref (X.1.2.1 0)), (1, .int x1), (2, .int x2)] rfl ?_
  exact z_sub [2, 3, 4, 1, 0] rfl h
set_option maxRecDepth 100000 in
set_option maxHeartbeats 4000000 in
theorem BX10_sumOf_10 {X : XT} {Q : Option Value → Mem → Prop} (hX : KX10_sumOf X) {x1 x2 x3 x4 : Int32} {M : Mem} (h : (((M.1 0 0) ≤ x4 → Q (some (.int x3)) M) ∧ (¬ (M.1 0 0) ≤ x4 → ((¬ ((x2 >>> (x4 &&& 31)) &&& (1 : Int32)) = (1 : Int32) → (vp_in (((10 : Int32) * x1) + x4) 100 ∧ LX10_sumOf_10 X Q x1 x2 (x3 + (-(M.1 1 (((10 : Int32) * x1) + x4).toNatClampNeg))) (x4 + (1 : Int32)) M)) ∧ (((x2 >>> (x4 &&& 31)) &&& (1 : Int32)) = (1 : Int32) → (vp_in (((10 : Int32) * x1) + x4) 100 ∧ LX10_sumOf_10 X Q x1 x2 (x3 + (M.1 1 (((10 : Int32) * x1) + x4).toNatClampNeg)) (x4 + (1 : Int32)) M)))))) : LX10_sumOf_10 X Q x1 x2 x3 x4 M := by
  show Z SM X 0 5 Q 10 [(0, .ref (X.1.2.1 0)), (1, .int x1), (2, .int x2), (3, .int x3), (4, .int x4)] [] M
  refine z_iload hX dX10_sumOf_10 4 rfl ?_
  refine z_aload_n hX dX10_sumOf_12 rfl 0 rfl ?_
  refine gfX10_7 hX dX10_sumOf_13 ?_
  refine z_icmp_ge hX 66 dX10_sumOf_16 (by decide) (fun c0 => ?_) (fun c0 => ?_)
  · replace h := h.1 c0
    refine z_iload_n hX dX10_sumOf_66 rfl 3 rfl ?_
    exact z_iret hX dX10_sumOf_67 h
  · replace h := h.2 c0
    refine z_iload_n hX dX10_sumOf_19 rfl 3 rfl ?_
    refine z_iload_n hX dX10_sumOf_20 rfl 2 rfl ?_
    refine z_iload hX dX10_sumOf_21 4 rfl ?_
    refine z_ishr hX dX10_sumOf_23 ?_
    refine z_iconst (v := 1) hX dX10_sumOf_24 (by decide) ?_
    refine z_iand hX dX10_sumOf_25 ?_
    refine z_iconst (v := 1) hX dX10_sumOf_26 (by decide) ?_
    refine z_icmp_ne hX 45 dX10_sumOf_27 (by decide) (fun c0 => ?_) (fun c0 => ?_)
    · replace h := h.1 c0
      refine z_aload_n hX dX10_sumOf_45 rfl 0 rfl ?_
      refine gfX10_13 hX dX10_sumOf_46 ?_
      refine z_bipush (v := 10) hX dX10_sumOf_49 (by decide) ?_
      refine z_iload_n hX dX10_sumOf_51 rfl 1 rfl ?_
      refine z_imul hX dX10_sumOf_52 ?_
      refine z_iload hX dX10_sumOf_53 4 rfl ?_
      refine z_iadd hX dX10_sumOf_55 ?_
      refine z_iald hX 1 rfl h.1 dX10_sumOf_56 ?_
      replace h := h.2
      refine z_ineg hX dX10_sumOf_57 ?_
      refine z_iadd hX dX10_sumOf_58 ?_
      refine z_istore_n hX dX10_sumOf_59 rfl (by decide) [(3, .int (x3 + (-(M.1 1 (((10 : Int32) * x1) + x4).toNatClampNeg)))), (0, .ref (X.1.2.1 0)), (1, .int x1), (2, .int x2), (4, .int x4)] rfl ?_
      refine z_iinc (v := x4 + (1 : Int32)) hX dX10_sumOf_60 4 rfl rfl (by decide) [(4, .int (x4 + (1 : Int32))), (3, .int (x3 + (-(M.1 1 (((10 : Int32) * x1) + x4).toNatClampNeg)))), (0, .ref (X.1.2.1 0)), (1, .int x1), (2, .int x2)] rfl ?_
      refine z_goto hX 10 dX10_sumOf_63 (by decide) ?_
      exact z_sub [2, 3, 4, 1, 0] rfl h
    · replace h := h.2 c0
      refine z_aload_n hX dX10_sumOf_30 rfl 0 rfl ?_
      refine gfX10_13 hX dX10_sumOf_31 ?_
      refine z_bipush (v := 10) hX dX10_sumOf_34 (by decide) ?_
      refine z_iload_n hX dX10_sumOf_36 rfl 1 rfl ?_
      refine z_imul hX dX10_sumOf_37 ?_
      refine z_iload hX dX10_sumOf_38 4 rfl ?_
      refine z_iadd hX dX10_sumOf_40 ?_
      refine z_iald hX 1 rfl h.1 dX10_sumOf_41 ?_
      replace h := h.2
      refine z_goto hX 58 dX10_sumOf_42 (by decide) ?_
      refine z_iadd hX dX10_sumOf_58 ?_
      refine z_istore_n hX dX10_sumOf_59 rfl (by decide) [(3, .int (x3 + (M.1 1 (((10 : Int32) * x1) + x4).toNatClampNeg))), (0, .ref (X.1.2.1 0)), (1, .int x1), (2, .int x2), (4, .int x4)] rfl ?_
      refine z_iinc (v := x4 + (1 : Int32)) hX dX10_sumOf_60 4 rfl rfl (by decide) [(4, .int (x4 + (1 : Int32))), (3, .int (x3 + (M.1 1 (((10 : Int32) * x1) + x4).toNatClampNeg))), (0, .ref (X.1.2.1 0)), (1, .int x1), (2, .int x2)] rfl ?_
      refine z_goto hX 10 dX10_sumOf_63 (by decide) ?_
      exact z_sub [2, 3, 4, 1, 0] rfl h
set_option maxRecDepth 100000 in
set_option maxHeartbeats 4000000 in
theorem EX10_nextOf {E : ET} {Q : Option Value → Mem → Prop} {x1 x2 x3 : Int32} {M : Mem} (h : ∃ (r1 : Int32), CX10_sumOf E [.ref (E.2.1 0), .int x1, .int x3] M (z_is (some (.int r1)) M) ∧ (((x2.toInt < 0 ∨ 2 < x2.toInt) → Q (some (.int ((1 : Int32) - ((x3 >>> (x1 &&& 31)) &&& (1 : Int32))))) M) ∧ (x2 = 0 → ((r1 ≤ 0 → ((0 ≤ r1 → Q (some (.int ((x3 >>> (x1 &&& 31)) &&& (1 : Int32)))) M) ∧ (¬ 0 ≤ r1 → Q (some (.int (0 : Int32))) M))) ∧ (¬ r1 ≤ 0 → Q (some (.int (1 : Int32))) M))) ∧ (x2 = 1 → ((r1 ≤ 0 → ((0 ≤ r1 → Q (some (.int ((x3 >>> (x1 &&& 31)) &&& (1 : Int32)))) M) ∧ (¬ 0 ≤ r1 → Q (some (.int (1 : Int32))) M))) ∧ (¬ r1 ≤ 0 → Q (some (.int (0 : Int32))) M))) ∧ (x2 = 2 → Q (some (.int ((x3 >>> (x1 &&& 31)) &&& (1 : Int32)))) M))) : CX10_nextOf E [.ref (E.2.1 0), .int x1, .int x2, .int x3] M Q := by
  refine z_entry (by decide +kernel) (Nat.le_of_ble_eq_true rfl) (fun X hE hX => ?_)
  subst hE
  show Z SM X 1 6 Q 0 [(0, .ref (X.1.2.1 0)), (1, .int x1), (2, .int x2), (3, .int x3)] [] M
  refine z_iload_n hX dX10_nextOf_0 rfl 3 rfl ?_
  refine z_iload_n hX dX10_nextOf_1 rfl 1 rfl ?_
  refine z_ishr hX dX10_nextOf_2 ?_
  refine z_iconst (v := 1) hX dX10_nextOf_3 (by decide) ?_
  refine z_iand hX dX10_nextOf_4 ?_
  refine z_istore hX dX10_nextOf_5 (by decide) [(4, .int ((x3 >>> (x1 &&& 31)) &&& (1 : Int32))), (0, .ref (X.1.2.1 0)), (1, .int x1), (2, .int x2), (3, .int x3)] rfl ?_
  refine z_aload_n hX dX10_nextOf_7 rfl 1 rfl ?_
  refine z_iload_n hX dX10_nextOf_8 rfl 2 rfl ?_
  refine z_iload_n hX dX10_nextOf_9 rfl 4 rfl ?_
  obtain ⟨r1, c9, h⟩ := h
  refine mcX10_79 hX dX10_nextOf_10 (by decide) (Nat.le_of_ble_eq_true rfl) c9 ?_
  refine z_istore hX dX10_nextOf_13 (by decide) [(5, .int r1), (4, .int ((x3 >>> (x1 &&& 31)) &&& (1 : Int32))), (0, .ref (X.1.2.1 0)), (1, .int x1), (2, .int x2), (3, .int x3)] rfl ?_
  refine z_iload_n hX dX10_nextOf_15 rfl 4 rfl ?_
  by_cases c0 : x2.toInt < 0 ∨ 2 < x2.toInt
  · replace h := h.1 c0
    refine z_tableOut hX 89 dX10_nextOf_16 c0 (by decide) ?_
    refine z_iconst (v := 1) hX dX10_nextOf_89 (by decide) ?_
    refine z_iload hX dX10_nextOf_90 1 rfl ?_
    refine z_isub hX dX10_nextOf_92 ?_
    exact z_iret hX dX10_nextOf_93 h
  · have c1 := z_tab3 c0
    replace h := h.2
    rcases c1 with c2 | c2 | c2
    · replace h := h.1 c2
      refine z_tableIn hX 44 dX10_nextOf_16 (by rw [c2]; decide) (by rw [c2]; decide) (by rw [c2]; rfl) (by decide) ?_
      refine z_iload hX dX10_nextOf_44 0 rfl ?_
      refine z_if_le hX 53 dX10_nextOf_46 (by decide) (fun c0 => ?_) (fun c0 => ?_)
      · replace h := h.1 c0
        refine z_iload hX dX10_nextOf_53 0 rfl ?_
        refine z_if_ge hX 62 dX10_nextOf_55 (by decide) (fun c0 => ?_) (fun c0 => ?_)
        · replace h := h.1 c0
          refine z_iload hX dX10_nextOf_62 1 rfl ?_
          exact z_iret hX dX10_nextOf_64 h
        · replace h := h.2 c0
          refine z_iconst (v := 0) hX dX10_nextOf_58 (by decide) ?_
          refine z_goto hX 64 dX10_nextOf_59 (by decide) ?_
          exact z_iret hX dX10_nextOf_64 h
      · replace h := h.2 c0
        refine z_iconst (v := 1) hX dX10_nextOf_49 (by decide) ?_
        refine z_goto hX 64 dX10_nextOf_50 (by decide) ?_
        exact z_iret hX dX10_nextOf_64 h
    · replace h := h.2.1 c2
      refine z_tableIn hX 65 dX10_nextOf_16 (by rw [c2]; decide) (by rw [c2]; decide) (by rw [c2]; rfl) (by decide) ?_
      refine z_iload hX dX10_nextOf_65 0 rfl ?_
      refine z_if_le hX 74 dX10_nextOf_67 (by decide) (fun c0 => ?_) (fun c0 => ?_)
      · replace h := h.1 c0
        refine z_iload hX dX10_nextOf_74 0 rfl ?_
        refine z_if_ge hX 83 dX10_nextOf_76 (by decide) (fun c0 => ?_) (fun c0 => ?_)
        · replace h := h.1 c0
          refine z_iload hX dX10_nextOf_83 1 rfl ?_
          exact z_iret hX dX10_nextOf_85 h
        · replace h := h.2 c0
          refine z_iconst (v := 1) hX dX10_nextOf_79 (by decide) ?_
          refine z_goto hX 85 dX10_nextOf_80 (by decide) ?_
          exact z_iret hX dX10_nextOf_85 h
      · replace h := h.2 c0
        refine z_iconst (v := 0) hX dX10_nextOf_70 (by decide) ?_
        refine z_goto hX 85 dX10_nextOf_71 (by decide) ?_
        exact z_iret hX dX10_nextOf_85 h
    · replace h := h.2.2 c2
      refine z_tableIn hX 86 dX10_nextOf_16 (by rw [c2]; decide) (by rw [c2]; decide) (by rw [c2]; rfl) (by decide) ?_
      refine z_iload hX dX10_nextOf_86 1 rfl ?_
      exact z_iret hX dX10_nextOf_88 h
set_option maxRecDepth 100000 in
set_option maxHeartbeats 4000000 in
theorem EX10_with {E : ET} {Q : Option Value → Mem → Prop} {x1 x2 x3 : Int32} {M : Mem} (h : ((¬ x3 = (1 : Int32) → Q (some (.int (x1 &&& (((1 : Int32) <<< (x2 &&& 31)) ^^^ (-1 : Int32))))) M) ∧ (x3 = (1 : Int32) → Q (some (.int (x1 ||| ((1 : Int32) <<< (x2 &&& 31))))) M))) : CX10_with E [.ref (E.2.1 0), .int x1, .int x2, .int x3] M Q := by
  refine z_entry (by decide +kernel) (Nat.le_of_ble_eq_true rfl) (fun X hE hX => ?_)
  subst hE
  show Z SM X 0 4 Q 0 [(0, .ref (X.1.2.1 0)), (1, .int x1), (2, .int x2), (3, .int x3)] [] M
  refine z_iload_n hX dX10_with_0 rfl 3 rfl ?_
  refine z_iconst (v := 1) hX dX10_with_1 (by decide) ?_
  refine z_icmp_ne hX 13 dX10_with_2 (by decide) (fun c0 => ?_) (fun c0 => ?_)
  · replace h := h.1 c0
    refine z_iload_n hX dX10_with_13 rfl 1 rfl ?_
    refine z_iconst (v := 1) hX dX10_with_14 (by decide) ?_
    refine z_iload_n hX dX10_with_15 rfl 2 rfl ?_
    refine z_ishl hX dX10_with_16 ?_
    refine z_iconst (v := -1) hX dX10_with_17 (by decide) ?_
    refine z_ixor hX dX10_with_18 ?_
    refine z_iand hX dX10_with_19 ?_
    exact z_iret hX dX10_with_20 h
  · replace h := h.2 c0
    refine z_iload_n hX dX10_with_5 rfl 1 rfl ?_
    refine z_iconst (v := 1) hX dX10_with_6 (by decide) ?_
    refine z_iload_n hX dX10_with_7 rfl 2 rfl ?_
    refine z_ishl hX dX10_with_8 ?_
    refine z_ior hX dX10_with_9 ?_
    refine z_goto hX 20 dX10_with_10 (by decide) ?_
    exact z_iret hX dX10_with_20 h
abbrev LX10_calmOf_4 (X : XT) (Q : Option Value → Mem → Prop) (x1 : Int32) (x2 : Int32) (x3 : Int32) (M : Mem) : Prop := Z SM X 2 4 Q 4 [(0, .ref (X.1.2.1 0)), (1, .int x1), (2, .int x2), (3, .int x3)] [] M
set_option maxRecDepth 100000 in
set_option maxHeartbeats 4000000 in
theorem EX10_calmOf {E : ET} {Q : Option Value → Mem → Prop} {x1 : Int32} {M : Mem} (h : ∀ X : XT, X.1 = E → KX10_calmOf X → LX10_calmOf_4 X Q x1 (0 : Int32) (0 : Int32) M) : CX10_calmOf E [.ref (E.2.1 0), .int x1] M Q := by
  refine z_entry (by decide +kernel) (Nat.le_of_ble_eq_true rfl) (fun X hE hX => ?_)
  subst hE
  replace h := h X rfl hX
  show Z SM X 2 4 Q 0 [(0, .ref (X.1.2.1 0)), (1, .int x1)] [] M
  refine z_iconst (v := 0) hX dX10_calmOf_0 (by decide) ?_
  refine z_istore_n hX dX10_calmOf_1 rfl (by decide) [(2, .int (0 : Int32)), (0, .ref (X.1.2.1 0)), (1, .int x1)] rfl ?_
  refine z_iconst (v := 0) hX dX10_calmOf_2 (by decide) ?_
  refine z_istore_n hX dX10_calmOf_3 rfl (by decide) [(3, .int (0 : Int32)), (2, .int (0 : Int32)), (0, .ref (X.1.2.1 0)), (1, .int x1)] rfl ?_
  exact z_sub [2, 3, 1, 0] rfl h
set_option maxRecDepth 100000 in
set_option maxHeartbeats 4000000 in
theorem BX10_calmOf_4 {X : XT} {Q : Option Value → Mem → Prop} (hX : KX10_calmOf X) {x1 x2 x3 : Int32} {M : Mem} (h : (((M.1 0 0) ≤ x3 → Q (some (.int x2)) M) ∧ (¬ (M.1 0 0) ≤ x3 → (vp_in x3 10 ∧ (∃ (r1 : Int32), CX10_nextOf X.1 [.ref (X.1.2.1 0), .int x3, .int (M.1 2 x3.toNatClampNeg), .int x1] M (z_is (some (.int r1)) M) ∧ ((¬ r1 = ((x1 >>> (x3 &&& 31)) &&& (1 : Int32)) → LX10_calmOf_4 X Q x1 (x2 ||| (0 : Int32)) (x3 + (1 : Int32)) M) ∧ (r1 = ((x1 >>> (x3 &&& 31)) &&& (1 : Int32)) → LX10_calmOf_4 X Q x1 (x2 ||| ((1 : Int32) <<< (x3 &&& 31))) (x3 + (1 : Int32)) M))))))) : LX10_calmOf_4 X Q x1 x2 x3 M := by
  show Z SM X 2 4 Q 4 [(0, .ref (X.1.2.1 0)), (1, .int x1), (2, .int x2), (3, .int x3)] [] M
  refine z_iload_n hX dX10_calmOf_4 rfl 3 rfl ?_
  refine z_aload_n hX dX10_calmOf_5 rfl 0 rfl ?_
  refine gfX10_7 hX dX10_calmOf_6 ?_
  refine z_icmp_ge hX 48 dX10_calmOf_9 (by decide) (fun c0 => ?_) (fun c0 => ?_)
  · replace h := h.1 c0
    refine z_iload_n hX dX10_calmOf_48 rfl 2 rfl ?_
    exact z_iret hX dX10_calmOf_49 h
  · replace h := h.2 c0
    refine z_iload_n hX dX10_calmOf_12 rfl 2 rfl ?_
    refine z_aload_n hX dX10_calmOf_13 rfl 0 rfl ?_
    refine z_iload_n hX dX10_calmOf_14 rfl 3 rfl ?_
    refine z_aload_n hX dX10_calmOf_15 rfl 0 rfl ?_
    refine gfX10_17 hX dX10_calmOf_16 ?_
    refine z_iload_n hX dX10_calmOf_19 rfl 3 rfl ?_
    refine z_iald hX 2 rfl h.1 dX10_calmOf_20 ?_
    replace h := h.2
    refine z_iload_n hX dX10_calmOf_21 rfl 1 rfl ?_
    obtain ⟨r1, c9, h⟩ := h
    refine mcX10_83 hX dX10_calmOf_22 (by decide) (Nat.le_of_ble_eq_true rfl) c9 ?_
    refine z_iload_n hX dX10_calmOf_25 rfl 1 rfl ?_
    refine z_iload_n hX dX10_calmOf_26 rfl 3 rfl ?_
    refine z_ishr hX dX10_calmOf_27 ?_
    refine z_iconst (v := 1) hX dX10_calmOf_28 (by decide) ?_
    refine z_iand hX dX10_calmOf_29 ?_
    refine z_icmp_ne hX 39 dX10_calmOf_30 (by decide) (fun c0 => ?_) (fun c0 => ?_)
    · replace h := h.1 c0
      refine z_iconst (v := 0) hX dX10_calmOf_39 (by decide) ?_
      refine z_ior hX dX10_calmOf_40 ?_
      refine z_istore_n hX dX10_calmOf_41 rfl (by decide) [(2, .int (x2 ||| (0 : Int32))), (0, .ref (X.1.2.1 0)), (1, .int x1), (3, .int x3)] rfl ?_
      refine z_iinc (v := x3 + (1 : Int32)) hX dX10_calmOf_42 3 rfl rfl (by decide) [(3, .int (x3 + (1 : Int32))), (2, .int (x2 ||| (0 : Int32))), (0, .ref (X.1.2.1 0)), (1, .int x1)] rfl ?_
      refine z_goto hX 4 dX10_calmOf_45 (by decide) ?_
      exact z_sub [2, 3, 1, 0] rfl h
    · replace h := h.2 c0
      refine z_iconst (v := 1) hX dX10_calmOf_33 (by decide) ?_
      refine z_iload_n hX dX10_calmOf_34 rfl 3 rfl ?_
      refine z_ishl hX dX10_calmOf_35 ?_
      refine z_goto hX 40 dX10_calmOf_36 (by decide) ?_
      refine z_ior hX dX10_calmOf_40 ?_
      refine z_istore_n hX dX10_calmOf_41 rfl (by decide) [(2, .int (x2 ||| ((1 : Int32) <<< (x3 &&& 31)))), (0, .ref (X.1.2.1 0)), (1, .int x1), (3, .int x3)] rfl ?_
      refine z_iinc (v := x3 + (1 : Int32)) hX dX10_calmOf_42 3 rfl rfl (by decide) [(3, .int (x3 + (1 : Int32))), (2, .int (x2 ||| ((1 : Int32) <<< (x3 &&& 31)))), (0, .ref (X.1.2.1 0)), (1, .int x1)] rfl ?_
      refine z_goto hX 4 dX10_calmOf_45 (by decide) ?_
      exact z_sub [2, 3, 1, 0] rfl h
set_option maxRecDepth 100000 in
set_option maxHeartbeats 4000000 in
theorem EX10_all {E : ET} {Q : Option Value → Mem → Prop} {M : Mem} (h : Q (some (.int (((1 : Int32) <<< ((M.1 0 0) &&& 31)) - (1 : Int32)))) M) : CX10_all E [.ref (E.2.1 0)] M Q := by
  refine z_entry (by decide +kernel) (Nat.le_of_ble_eq_true rfl) (fun X hE hX => ?_)
  subst hE
  show Z SM X 0 1 Q 0 [(0, .ref (X.1.2.1 0))] [] M
  refine z_iconst (v := 1) hX dX10_all_0 (by decide) ?_
  refine z_aload_n hX dX10_all_1 rfl 0 rfl ?_
  refine gfX10_7 hX dX10_all_2 ?_
  refine z_ishl hX dX10_all_5 ?_
  refine z_iconst (v := 1) hX dX10_all_6 (by decide) ?_
  refine z_isub hX dX10_all_7 ?_
  exact z_iret hX dX10_all_8 h
abbrev LX10_stepFrom_5 (X : XT) (Q : Option Value → Mem → Prop) (x1 : Int32) (x2 : Int32) (x3 : Int32) (x4 : Int32) (M : Mem) : Prop := Z SM X 2 5 Q 5 [(0, .ref (X.1.2.1 0)), (1, .int x1), (2, .int x2), (3, .int x3), (4, .int x4)] [] M
set_option maxRecDepth 100000 in
set_option maxHeartbeats 4000000 in
theorem EX10_stepFrom {E : ET} {Q : Option Value → Mem → Prop} {x1 x2 : Int32} {M : Mem} (h : ∀ X : XT, X.1 = E → KX10_stepFrom X → LX10_stepFrom_5 X Q x1 x2 x1 (0 : Int32) M) : CX10_stepFrom E [.ref (E.2.1 0), .int x1, .int x2] M Q := by
  refine z_entry (by decide +kernel) (Nat.le_of_ble_eq_true rfl) (fun X hE hX => ?_)
  subst hE
  replace h := h X rfl hX
  show Z SM X 2 5 Q 0 [(0, .ref (X.1.2.1 0)), (1, .int x1), (2, .int x2)] [] M
  refine z_iload_n hX dX10_stepFrom_0 rfl 1 rfl ?_
  refine z_istore_n hX dX10_stepFrom_1 rfl (by decide) [(3, .int x1), (0, .ref (X.1.2.1 0)), (1, .int x1), (2, .int x2)] rfl ?_
  refine z_iconst (v := 0) hX dX10_stepFrom_2 (by decide) ?_
  refine z_istore hX dX10_stepFrom_3 (by decide) [(4, .int (0 : Int32)), (3, .int x1), (0, .ref (X.1.2.1 0)), (1, .int x1), (2, .int x2)] rfl ?_
  exact z_sub [2, 3, 4, 1, 0] rfl h
set_option maxRecDepth 100000 in
set_option maxHeartbeats 4000000 in
theorem BX10_stepFrom_5 {X : XT} {Q : Option Value → Mem → Prop} (hX : KX10_stepFrom X) {x1 x2 x3 x4 : Int32} {M : Mem} (h : (((M.1 0 0) ≤ x4 → Q (some (.int x3)) M) ∧ (¬ (M.1 0 0) ≤ x4 → (vp_in x4 10 ∧ ((¬ x2 = 0 → (∃ (r1 : Int32), CX10_nextOf X.1 [.ref (X.1.2.1 0), .int x4, .int (M.1 2 x4.toNatClampNeg), .int x3] M (z_is (some (.int r1)) M) ∧ (∃ (r2 : Int32), CX10_with X.1 [.ref (X.1.2.1 0), .int x3, .int x4, .int r1] M (z_is (some (.int r2)) M) ∧ LX10_stepFrom_5 X Q x1 x2 r2 (x4 + (1 : Int32)) M))) ∧ (x2 = 0 → (∃ (r3 : Int32), CX10_nextOf X.1 [.ref (X.1.2.1 0), .int x4, .int (M.1 2 x4.toNatClampNeg), .int x1] M (z_is (some (.int r3)) M) ∧ (∃ (r4 : Int32), CX10_with X.1 [.ref (X.1.2.1 0), .int x3, .int x4, .int r3] M (z_is (some (.int r4)) M) ∧ LX10_stepFrom_5 X Q x1 x2 r4 (x4 + (1 : Int32)) M)))))))) : LX10_stepFrom_5 X Q x1 x2 x3 x4 M := by
  show Z SM X 2 5 Q 5 [(0, .ref (X.1.2.1 0)), (1, .int x1), (2, .int x2), (3, .int x3), (4, .int x4)] [] M
  refine z_iload hX dX10_stepFrom_5 4 rfl ?_
  refine z_aload_n hX dX10_stepFrom_7 rfl 0 rfl ?_
  refine gfX10_7 hX dX10_stepFrom_8 ?_
  refine z_icmp_ge hX 50 dX10_stepFrom_11 (by decide) (fun c0 => ?_) (fun c0 => ?_)
  · replace h := h.1 c0
    refine z_iload_n hX dX10_stepFrom_50 rfl 3 rfl ?_
    exact z_iret hX dX10_stepFrom_51 h
  · replace h := h.2 c0
    refine z_aload_n hX dX10_stepFrom_14 rfl 0 rfl ?_
    refine z_iload_n hX dX10_stepFrom_15 rfl 3 rfl ?_
    refine z_iload hX dX10_stepFrom_16 4 rfl ?_
    refine z_aload_n hX dX10_stepFrom_18 rfl 0 rfl ?_
    refine z_iload hX dX10_stepFrom_19 4 rfl ?_
    refine z_aload_n hX dX10_stepFrom_21 rfl 0 rfl ?_
    refine gfX10_17 hX dX10_stepFrom_22 ?_
    refine z_iload hX dX10_stepFrom_25 4 rfl ?_
    refine z_iald hX 2 rfl h.1 dX10_stepFrom_27 ?_
    replace h := h.2
    refine z_iload_n hX dX10_stepFrom_28 rfl 2 rfl ?_
    refine z_if_ne hX 36 dX10_stepFrom_29 (by decide) (fun c0 => ?_) (fun c0 => ?_)
    · replace h := h.1 c0
      refine z_iload_n hX dX10_stepFrom_36 rfl 3 rfl ?_
      obtain ⟨r1, c9, h⟩ := h
      refine mcX10_83 hX dX10_stepFrom_37 (by decide) (Nat.le_of_ble_eq_true rfl) c9 ?_
      obtain ⟨r2, c9, h⟩ := h
      refine mcX10_87 hX dX10_stepFrom_40 (by decide) (Nat.le_of_ble_eq_true rfl) c9 ?_
      refine z_istore_n hX dX10_stepFrom_43 rfl (by decide) [(3, .int r2), (0, .ref (X.1.2.1 0)), (1, .int x1), (2, .int x2), (4, .int x4)] rfl ?_
      refine z_iinc (v := x4 + (1 : Int32)) hX dX10_stepFrom_44 4 rfl rfl (by decide) [(4, .int (x4 + (1 : Int32))), (3, .int r2), (0, .ref (X.1.2.1 0)), (1, .int x1), (2, .int x2)] rfl ?_
      refine z_goto hX 5 dX10_stepFrom_47 (by decide) ?_
      exact z_sub [2, 3, 4, 1, 0] rfl h
    · replace h := h.2 c0
      refine z_iload_n hX dX10_stepFrom_32 rfl 1 rfl ?_
      refine z_goto hX 37 dX10_stepFrom_33 (by decide) ?_
      obtain ⟨r3, c9, h⟩ := h
      refine mcX10_83 hX dX10_stepFrom_37 (by decide) (Nat.le_of_ble_eq_true rfl) c9 ?_
      obtain ⟨r4, c9, h⟩ := h
      refine mcX10_87 hX dX10_stepFrom_40 (by decide) (Nat.le_of_ble_eq_true rfl) c9 ?_
      refine z_istore_n hX dX10_stepFrom_43 rfl (by decide) [(3, .int r4), (0, .ref (X.1.2.1 0)), (1, .int x1), (2, .int x2), (4, .int x4)] rfl ?_
      refine z_iinc (v := x4 + (1 : Int32)) hX dX10_stepFrom_44 4 rfl rfl (by decide) [(4, .int (x4 + (1 : Int32))), (3, .int r4), (0, .ref (X.1.2.1 0)), (1, .int x1), (2, .int x2)] rfl ?_
      refine z_goto hX 5 dX10_stepFrom_47 (by decide) ?_
      exact z_sub [2, 3, 4, 1, 0] rfl h
set_option maxRecDepth 100000 in
set_option maxHeartbeats 4000000 in
theorem EX10_sum {E : ET} {Q : Option Value → Mem → Prop} {x1 x2 : Int32} {M : Mem} (h : ∃ (r1 : Int32), CX10_isPerson E [.ref (E.2.1 0), .int x1] M (z_is (some (.int r1)) M) ∧ ((¬ r1 = 0 → (∃ (r2 : Int32), CX10_isDress E [.ref (E.2.1 0), .int x2] M (z_is (some (.int r2)) M) ∧ ((r2 = 0 → Q (some (.int (-2 : Int32))) M) ∧ (¬ r2 = 0 → (∃ (r3 : Int32), CX10_sumOf E [.ref (E.2.1 0), .int x1, .int x2] M (z_is (some (.int r3)) M) ∧ Q (some (.int r3)) M))))) ∧ (r1 = 0 → Q (some (.int (-1 : Int32))) M))) : CX10_sum E [.ref (E.2.1 0), .int x1, .int x2] M Q := by
  refine z_entry (by decide +kernel) (Nat.le_of_ble_eq_true rfl) (fun X hE hX => ?_)
  subst hE
  show Z SM X 2 3 Q 0 [(0, .ref (X.1.2.1 0)), (1, .int x1), (2, .int x2)] [] M
  refine z_aload_n hX dX10_sum_0 rfl 0 rfl ?_
  refine z_iload_n hX dX10_sum_1 rfl 1 rfl ?_
  obtain ⟨r1, c9, h⟩ := h
  refine mcX10_69 hX dX10_sum_2 (by decide) (Nat.le_of_ble_eq_true rfl) c9 ?_
  refine z_if_ne hX 10 dX10_sum_5 (by decide) (fun c0 => ?_) (fun c0 => ?_)
  · replace h := h.1 c0
    refine z_aload_n hX dX10_sum_10 rfl 0 rfl ?_
    refine z_iload_n hX dX10_sum_11 rfl 2 rfl ?_
    obtain ⟨r2, c9, h⟩ := h
    refine mcX10_90 hX dX10_sum_12 (by decide) (Nat.le_of_ble_eq_true rfl) c9 ?_
    refine z_if_eq hX 27 dX10_sum_15 (by decide) (fun c0 => ?_) (fun c0 => ?_)
    · replace h := h.1 c0
      refine z_bipush (v := -2) hX dX10_sum_27 (by decide) ?_
      exact z_iret hX dX10_sum_29 h
    · replace h := h.2 c0
      refine z_aload_n hX dX10_sum_18 rfl 0 rfl ?_
      refine z_iload_n hX dX10_sum_19 rfl 1 rfl ?_
      refine z_iload_n hX dX10_sum_20 rfl 2 rfl ?_
      obtain ⟨r3, c9, h⟩ := h
      refine mcX10_79 hX dX10_sum_21 (by decide) (Nat.le_of_ble_eq_true rfl) c9 ?_
      refine z_goto hX 29 dX10_sum_24 (by decide) ?_
      exact z_iret hX dX10_sum_29 h
  · replace h := h.2 c0
    refine z_iconst (v := -1) hX dX10_sum_8 (by decide) ?_
    exact z_iret hX dX10_sum_9 h
set_option maxRecDepth 100000 in
set_option maxHeartbeats 4000000 in
theorem EX10_calm {E : ET} {Q : Option Value → Mem → Prop} {x1 : Int32} {M : Mem} (h : ∃ (r1 : Int32), CX10_isDress E [.ref (E.2.1 0), .int x1] M (z_is (some (.int r1)) M) ∧ ((r1 = 0 → Q (some (.int (-2 : Int32))) M) ∧ (¬ r1 = 0 → (∃ (r2 : Int32), CX10_calmOf E [.ref (E.2.1 0), .int x1] M (z_is (some (.int r2)) M) ∧ Q (some (.int r2)) M)))) : CX10_calm E [.ref (E.2.1 0), .int x1] M Q := by
  refine z_entry (by decide +kernel) (Nat.le_of_ble_eq_true rfl) (fun X hE hX => ?_)
  subst hE
  show Z SM X 3 2 Q 0 [(0, .ref (X.1.2.1 0)), (1, .int x1)] [] M
  refine z_aload_n hX dX10_calm_0 rfl 0 rfl ?_
  refine z_iload_n hX dX10_calm_1 rfl 1 rfl ?_
  obtain ⟨r1, c9, h⟩ := h
  refine mcX10_90 hX dX10_calm_2 (by decide) (Nat.le_of_ble_eq_true rfl) c9 ?_
  refine z_if_eq hX 16 dX10_calm_5 (by decide) (fun c0 => ?_) (fun c0 => ?_)
  · replace h := h.1 c0
    refine z_bipush (v := -2) hX dX10_calm_16 (by decide) ?_
    exact z_iret hX dX10_calm_18 h
  · replace h := h.2 c0
    refine z_aload_n hX dX10_calm_8 rfl 0 rfl ?_
    refine z_iload_n hX dX10_calm_9 rfl 1 rfl ?_
    obtain ⟨r2, c9, h⟩ := h
    refine mcX10_93 hX dX10_calm_10 (by decide) (Nat.le_of_ble_eq_true rfl) c9 ?_
    refine z_goto hX 18 dX10_calm_13 (by decide) ?_
    exact z_iret hX dX10_calm_18 h
abbrev LX10_after_36 (X : XT) (Q : Option Value → Mem → Prop) (x2 : Int32) (x3 : Int32) (x4 : Int32) (x5 : Int32) (M : Mem) : Prop := Z SM X 3 6 Q 36 [(0, .ref (X.1.2.1 0)), (2, .int x2), (3, .int x3), (4, .int x4), (5, .int x5)] [] M
set_option maxRecDepth 100000 in
set_option maxHeartbeats 4000000 in
theorem EX10_after {E : ET} {Q : Option Value → Mem → Prop} {x1 x2 x3 : Int32} {M : Mem} (h : ∀ X : XT, X.1 = E → KX10_after X → (∃ (r1 : Int32), CX10_isDress X.1 [.ref (X.1.2.1 0), .int x1] M (z_is (some (.int r1)) M) ∧ ((r1 = 0 → Q (some (.int (-2 : Int32))) M) ∧ (¬ r1 = 0 → (∃ (r2 : Int32), CX10_isWay X.1 [.int x2] M (z_is (some (.int r2)) M) ∧ ((r2 = 0 → Q (some (.int (-2 : Int32))) M) ∧ (¬ r2 = 0 → (∃ (r3 : Int32), CX10_in X.1 [.long x3.toInt64, .long (0 : Int64), .long (10000 : Int64)] M (z_is (some (.int r3)) M) ∧ ((¬ r3 = 0 → LX10_after_36 X Q x2 x3 x1 (0 : Int32) M) ∧ (r3 = 0 → Q (some (.int (-2 : Int32))) M)))))))))) : CX10_after E [.ref (E.2.1 0), .int x1, .int x2, .int x3] M Q := by
  refine z_entry (by decide +kernel) (Nat.le_of_ble_eq_true rfl) (fun X hE hX => ?_)
  subst hE
  replace h := h X rfl hX
  show Z SM X 3 6 Q 0 [(0, .ref (X.1.2.1 0)), (1, .int x1), (2, .int x2), (3, .int x3)] [] M
  refine z_aload_n hX dX10_after_0 rfl 0 rfl ?_
  refine z_iload_n hX dX10_after_1 rfl 1 rfl ?_
  obtain ⟨r1, c9, h⟩ := h
  refine mcX10_90 hX dX10_after_2 (by decide) (Nat.le_of_ble_eq_true rfl) c9 ?_
  refine z_if_eq hX 27 dX10_after_5 (by decide) (fun c0 => ?_) (fun c0 => ?_)
  · replace h := h.1 c0
    refine z_bipush (v := -2) hX dX10_after_27 (by decide) ?_
    exact z_iret hX dX10_after_29 h
  · replace h := h.2 c0
    refine z_iload_n hX dX10_after_8 rfl 2 rfl ?_
    obtain ⟨r2, c9, h⟩ := h
    refine mcX10_97 hX dX10_after_9 (by decide) (Nat.le_of_ble_eq_true rfl) c9 ?_
    refine z_if_eq hX 27 dX10_after_12 (by decide) (fun c0 => ?_) (fun c0 => ?_)
    · replace h := h.1 c0
      refine z_bipush (v := -2) hX dX10_after_27 (by decide) ?_
      exact z_iret hX dX10_after_29 h
    · replace h := h.2 c0
      refine z_iload_n hX dX10_after_15 rfl 3 rfl ?_
      refine z_i2l hX dX10_after_16 ?_
      refine z_lconst (v := 0) hX dX10_after_17 (by decide) ?_
      refine z_ldc2 (v := 10000) hX dX10_after_18 (z_w (List.mem_append_right _ (List.mem_of_getElem? (i := 883) (by decide +kernel))) rfl) ?_
      obtain ⟨r3, c9, h⟩ := h
      refine mcX10_60 hX dX10_after_21 (by decide) (Nat.le_of_ble_eq_true rfl) c9 ?_
      refine z_if_ne hX 30 dX10_after_24 (by decide) (fun c0 => ?_) (fun c0 => ?_)
      · replace h := h.1 c0
        refine z_iload_n hX dX10_after_30 rfl 1 rfl ?_
        refine z_istore hX dX10_after_31 (by decide) [(4, .int x1), (0, .ref (X.1.2.1 0)), (1, .int x1), (2, .int x2), (3, .int x3)] rfl ?_
        refine z_iconst (v := 0) hX dX10_after_33 (by decide) ?_
        refine z_istore hX dX10_after_34 (by decide) [(5, .int (0 : Int32)), (4, .int x1), (0, .ref (X.1.2.1 0)), (1, .int x1), (2, .int x2), (3, .int x3)] rfl ?_
        exact z_sub [2, 4, 5, 1, 0] rfl h
      · replace h := h.2 c0
        refine z_bipush (v := -2) hX dX10_after_27 (by decide) ?_
        exact z_iret hX dX10_after_29 h
set_option maxRecDepth 100000 in
set_option maxHeartbeats 4000000 in
theorem BX10_after_36 {X : XT} {Q : Option Value → Mem → Prop} (hX : KX10_after X) {x2 x3 x4 x5 : Int32} {M : Mem} (h : ((x3 ≤ x5 → Q (some (.int x4)) M) ∧ (¬ x3 ≤ x5 → (∃ (r1 : Int32), CX10_stepFrom X.1 [.ref (X.1.2.1 0), .int x4, .int x2] M (z_is (some (.int r1)) M) ∧ LX10_after_36 X Q x2 x3 r1 (x5 + (1 : Int32)) M)))) : LX10_after_36 X Q x2 x3 x4 x5 M := by
  show Z SM X 3 6 Q 36 [(0, .ref (X.1.2.1 0)), (2, .int x2), (3, .int x3), (4, .int x4), (5, .int x5)] [] M
  refine z_iload hX dX10_after_36 4 rfl ?_
  refine z_iload_n hX dX10_after_38 rfl 2 rfl ?_
  refine z_icmp_ge hX 57 dX10_after_39 (by decide) (fun c0 => ?_) (fun c0 => ?_)
  · replace h := h.1 c0
    refine z_iload hX dX10_after_57 3 rfl ?_
    exact z_iret hX dX10_after_59 h
  · replace h := h.2 c0
    refine z_aload_n hX dX10_after_42 rfl 0 rfl ?_
    refine z_iload hX dX10_after_43 3 rfl ?_
    refine z_iload_n hX dX10_after_45 rfl 1 rfl ?_
    obtain ⟨r1, c9, h⟩ := h
    refine mcX10_102 hX dX10_after_46 (by decide) (Nat.le_of_ble_eq_true rfl) c9 ?_
    refine z_istore hX dX10_after_49 (by decide) [(4, .int r1), (0, .ref (X.1.2.1 0)), (2, .int x2), (3, .int x3), (5, .int x5)] rfl ?_
    refine z_iinc (v := x5 + (1 : Int32)) hX dX10_after_51 4 rfl rfl (by decide) [(5, .int (x5 + (1 : Int32))), (4, .int r1), (0, .ref (X.1.2.1 0)), (2, .int x2), (3, .int x3)] rfl ?_
    refine z_goto hX 36 dX10_after_54 (by decide) ?_
    exact z_sub [2, 3, 4, 1, 0] rfl h
abbrev LX10_layLeads_2 (X : XT) (Q : Option Value → Mem → Prop) (x1 : Int32) (x2 : Int32) (M : Mem) : Prop := Z SM X 3 3 Q 2 [(0, .ref (X.1.2.1 0)), (1, .int x1), (2, .int x2)] [] M
set_option maxRecDepth 100000 in
set_option maxHeartbeats 4000000 in
theorem EX10_layLeads {E : ET} {Q : Option Value → Mem → Prop} {x1 : Int32} {M : Mem} (h : ∀ X : XT, X.1 = E → KX10_layLeads X → LX10_layLeads_2 X Q x1 (0 : Int32) M) : CX10_layLeads E [.ref (E.2.1 0), .int x1] M Q := by
  refine z_entry (by decide +kernel) (Nat.le_of_ble_eq_true rfl) (fun X hE hX => ?_)
  subst hE
  replace h := h X rfl hX
  show Z SM X 3 3 Q 0 [(0, .ref (X.1.2.1 0)), (1, .int x1)] [] M
  refine z_iconst (v := 0) hX dX10_layLeads_0 (by decide) ?_
  refine z_istore_n hX dX10_layLeads_1 rfl (by decide) [(2, .int (0 : Int32)), (0, .ref (X.1.2.1 0)), (1, .int x1)] rfl ?_
  exact z_sub [1, 2, 0] rfl h
set_option maxRecDepth 100000 in
set_option maxHeartbeats 4000000 in
theorem BX10_layLeads_2 {X : XT} {Q : Option Value → Mem → Prop} (hX : KX10_layLeads X) {x1 x2 : Int32} {M : Mem} (h : ∃ (r1 : Int32), CX10_all X.1 [.ref (X.1.2.1 0)] M (z_is (some (.int r1)) M) ∧ ((r1 < x2 → Q none M) ∧ (¬ r1 < x2 → (∃ (r2 : Int32), CX10_stepFrom X.1 [.ref (X.1.2.1 0), .int x2, .int x1] M (z_is (some (.int r2)) M) ∧ (vp_in x2 1024 ∧ (∀ M3 : Mem, M3 = z_st M 4 x2.toNatClampNeg r2 → LX10_layLeads_2 X Q x1 (x2 + (1 : Int32)) M3)))))) : LX10_layLeads_2 X Q x1 x2 M := by
  show Z SM X 3 3 Q 2 [(0, .ref (X.1.2.1 0)), (1, .int x1), (2, .int x2)] [] M
  refine z_iload_n hX dX10_layLeads_2 rfl 2 rfl ?_
  refine z_aload_n hX dX10_layLeads_3 rfl 0 rfl ?_
  obtain ⟨r1, c9, h⟩ := h
  refine mcX10_105 hX dX10_layLeads_4 (by decide) (Nat.le_of_ble_eq_true rfl) c9 ?_
  refine z_icmp_gt hX 28 dX10_layLeads_7 (by decide) (fun c0 => ?_) (fun c0 => ?_)
  · replace h := h.1 c0
    exact z_vret hX dX10_layLeads_28 h
  · replace h := h.2 c0
    refine z_aload_n hX dX10_layLeads_10 rfl 0 rfl ?_
    refine gfX10_23 hX dX10_layLeads_11 ?_
    refine z_iload_n hX dX10_layLeads_14 rfl 2 rfl ?_
    refine z_aload_n hX dX10_layLeads_15 rfl 0 rfl ?_
    refine z_iload_n hX dX10_layLeads_16 rfl 2 rfl ?_
    refine z_iload_n hX dX10_layLeads_17 rfl 1 rfl ?_
    obtain ⟨r2, c9, h⟩ := h
    refine mcX10_102 hX dX10_layLeads_18 (by decide) (Nat.le_of_ble_eq_true rfl) c9 ?_
    refine z_iastM hX 4 rfl h.1 dX10_layLeads_21 (fun M3 eM3 => ?_)
    replace h := h.2 M3 eM3
    refine z_iinc (v := x2 + (1 : Int32)) hX dX10_layLeads_22 2 rfl rfl (by decide) [(2, .int (x2 + (1 : Int32))), (0, .ref (X.1.2.1 0)), (1, .int x1)] rfl ?_
    refine z_goto hX 2 dX10_layLeads_25 (by decide) ?_
    exact z_sub [1, 2, 0] rfl h
abbrev LX10_layRun_2 (X : XT) (Q : Option Value → Mem → Prop) (x1 : Int32) (x2 : Int32) (M : Mem) : Prop := Z SM X 1 4 Q 2 [(0, .ref (X.1.2.1 0)), (1, .int x1), (2, .int x2)] [] M
abbrev LX10_layRun_28 (X : XT) (Q : Option Value → Mem → Prop) (x2 : Int32) (x3 : Int32) (M : Mem) : Prop := Z SM X 1 4 Q 28 [(0, .ref (X.1.2.1 0)), (2, .int x2), (3, .int x3)] [] M
set_option maxRecDepth 100000 in
set_option maxHeartbeats 4000000 in
theorem EX10_layRun {E : ET} {Q : Option Value → Mem → Prop} {x1 : Int32} {M : Mem} (h : ∀ X : XT, X.1 = E → KX10_layRun X → LX10_layRun_2 X Q x1 (0 : Int32) M) : CX10_layRun E [.ref (E.2.1 0), .int x1] M Q := by
  refine z_entry (by decide +kernel) (Nat.le_of_ble_eq_true rfl) (fun X hE hX => ?_)
  subst hE
  replace h := h X rfl hX
  show Z SM X 1 4 Q 0 [(0, .ref (X.1.2.1 0)), (1, .int x1)] [] M
  refine z_iconst (v := 0) hX dX10_layRun_0 (by decide) ?_
  refine z_istore_n hX dX10_layRun_1 rfl (by decide) [(2, .int (0 : Int32)), (0, .ref (X.1.2.1 0)), (1, .int x1)] rfl ?_
  exact z_sub [1, 2, 0] rfl h
set_option maxRecDepth 100000 in
set_option maxHeartbeats 4000000 in
theorem BX10_layRun_2 {X : XT} {Q : Option Value → Mem → Prop} (hX : KX10_layRun X) {x1 x2 : Int32} {M : Mem} (h : ∃ (r1 : Int32), CX10_all X.1 [.ref (X.1.2.1 0)] M (z_is (some (.int r1)) M) ∧ ((r1 < x2 → LX10_layRun_28 X Q x1 (0 : Int32) M) ∧ (¬ r1 < x2 → (vp_in x2 1024 ∧ (∀ M2 : Mem, M2 = z_st M 5 x2.toNatClampNeg (-9 : Int32) → LX10_layRun_2 X Q x1 (x2 + (1 : Int32)) M2))))) : LX10_layRun_2 X Q x1 x2 M := by
  show Z SM X 1 4 Q 2 [(0, .ref (X.1.2.1 0)), (1, .int x1), (2, .int x2)] [] M
  refine z_iload_n hX dX10_layRun_2 rfl 2 rfl ?_
  refine z_aload_n hX dX10_layRun_3 rfl 0 rfl ?_
  obtain ⟨r1, c9, h⟩ := h
  refine mcX10_105 hX dX10_layRun_4 (by decide) (Nat.le_of_ble_eq_true rfl) c9 ?_
  refine z_icmp_gt hX 24 dX10_layRun_7 (by decide) (fun c0 => ?_) (fun c0 => ?_)
  · replace h := h.1 c0
    refine z_iload_n hX dX10_layRun_24 rfl 1 rfl ?_
    refine z_istore_n hX dX10_layRun_25 rfl (by decide) [(2, .int x1), (0, .ref (X.1.2.1 0)), (1, .int x1)] rfl ?_
    refine z_iconst (v := 0) hX dX10_layRun_26 (by decide) ?_
    refine z_istore_n hX dX10_layRun_27 rfl (by decide) [(3, .int (0 : Int32)), (2, .int x1), (0, .ref (X.1.2.1 0)), (1, .int x1)] rfl ?_
    exact z_sub [2, 1, 0] rfl h
  · replace h := h.2 c0
    refine z_aload_n hX dX10_layRun_10 rfl 0 rfl ?_
    refine gfX10_26 hX dX10_layRun_11 ?_
    refine z_iload_n hX dX10_layRun_14 rfl 2 rfl ?_
    refine z_bipush (v := -9) hX dX10_layRun_15 (by decide) ?_
    refine z_iastM hX 5 rfl h.1 dX10_layRun_17 (fun M2 eM2 => ?_)
    replace h := h.2 M2 eM2
    refine z_iinc (v := x2 + (1 : Int32)) hX dX10_layRun_18 2 rfl rfl (by decide) [(2, .int (x2 + (1 : Int32))), (0, .ref (X.1.2.1 0)), (1, .int x1)] rfl ?_
    refine z_goto hX 2 dX10_layRun_21 (by decide) ?_
    exact z_sub [1, 2, 0] rfl h
set_option maxRecDepth 100000 in
set_option maxHeartbeats 4000000 in
theorem BX10_layRun_28 {X : XT} {Q : Option Value → Mem → Prop} (hX : KX10_layRun X) {x2 x3 : Int32} {M : Mem} (h : vp_in x2 1024 ∧ ((¬ (M.1 5 x2.toNatClampNeg) = (-9 : Int32) → (∀ M1 : Mem, M1 = z_st M 0 6 x2 → (vp_in x2 1024 ∧ (∀ M2 : Mem, M2 = z_st M1 0 7 (M1.1 5 x2.toNatClampNeg) → (∀ M3 : Mem, M3 = z_st M2 0 8 (x3 - (M2.1 0 7)) → Q none M3))))) ∧ ((M.1 5 x2.toNatClampNeg) = (-9 : Int32) → (vp_in x2 1024 ∧ (∀ M4 : Mem, M4 = z_st M 5 x2.toNatClampNeg x3 → (vp_in x2 1024 ∧ LX10_layRun_28 X Q (M4.1 4 x2.toNatClampNeg) (x3 + (1 : Int32)) M4)))))) : LX10_layRun_28 X Q x2 x3 M := by
  show Z SM X 1 4 Q 28 [(0, .ref (X.1.2.1 0)), (2, .int x2), (3, .int x3)] [] M
  refine z_aload_n hX dX10_layRun_28 rfl 0 rfl ?_
  refine gfX10_26 hX dX10_layRun_29 ?_
  refine z_iload_n hX dX10_layRun_32 rfl 1 rfl ?_
  refine z_iald hX 5 rfl h.1 dX10_layRun_33 ?_
  replace h := h.2
  refine z_bipush (v := -9) hX dX10_layRun_34 (by decide) ?_
  refine z_icmp_ne hX 59 dX10_layRun_36 (by decide) (fun c0 => ?_) (fun c0 => ?_)
  · replace h := h.1 c0
    refine z_aload_n hX dX10_layRun_59 rfl 0 rfl ?_
    refine z_iload_n hX dX10_layRun_60 rfl 1 rfl ?_
    refine pfX10_109 hX dX10_layRun_61 (fun M1 eM1 => ?_)
    replace h := h M1 eM1
    refine z_aload_n hX dX10_layRun_64 rfl 0 rfl ?_
    refine z_aload_n hX dX10_layRun_65 rfl 0 rfl ?_
    refine gfX10_26 hX dX10_layRun_66 ?_
    refine z_iload_n hX dX10_layRun_69 rfl 1 rfl ?_
    refine z_iald hX 5 rfl h.1 dX10_layRun_70 ?_
    replace h := h.2
    refine pfX10_112 hX dX10_layRun_71 (fun M2 eM2 => ?_)
    replace h := h M2 eM2
    refine z_aload_n hX dX10_layRun_74 rfl 0 rfl ?_
    refine z_iload_n hX dX10_layRun_75 rfl 2 rfl ?_
    refine z_aload_n hX dX10_layRun_76 rfl 0 rfl ?_
    refine gfX10_112 hX dX10_layRun_77 ?_
    refine z_isub hX dX10_layRun_80 ?_
    refine pfX10_115 hX dX10_layRun_81 (fun M3 eM3 => ?_)
    replace h := h M3 eM3
    exact z_vret hX dX10_layRun_84 h
  · replace h := h.2 c0
    refine z_aload_n hX dX10_layRun_39 rfl 0 rfl ?_
    refine gfX10_26 hX dX10_layRun_40 ?_
    refine z_iload_n hX dX10_layRun_43 rfl 1 rfl ?_
    refine z_iload_n hX dX10_layRun_44 rfl 2 rfl ?_
    refine z_iastM hX 5 rfl h.1 dX10_layRun_45 (fun M4 eM4 => ?_)
    replace h := h.2 M4 eM4
    refine z_aload_n hX dX10_layRun_46 rfl 0 rfl ?_
    refine gfX10_23 hX dX10_layRun_47 ?_
    refine z_iload_n hX dX10_layRun_50 rfl 1 rfl ?_
    refine z_iald hX 4 rfl h.1 dX10_layRun_51 ?_
    replace h := h.2
    refine z_istore_n hX dX10_layRun_52 rfl (by decide) [(2, .int (M4.1 4 x2.toNatClampNeg)), (0, .ref (X.1.2.1 0)), (3, .int x3)] rfl ?_
    refine z_iinc (v := x3 + (1 : Int32)) hX dX10_layRun_53 2 rfl rfl (by decide) [(3, .int (x3 + (1 : Int32))), (2, .int (M4.1 4 x2.toNatClampNeg)), (0, .ref (X.1.2.1 0))] rfl ?_
    refine z_goto hX 28 dX10_layRun_56 (by decide) ?_
    exact z_sub [2, 1, 0] rfl h
set_option maxRecDepth 100000 in
set_option maxHeartbeats 4000000 in
theorem EX10_run {E : ET} {Q : Option Value → Mem → Prop} {x1 x2 x3 : Int32} {M : Mem} (h : ∃ (r1 : Int32), CX10_isDress E [.ref (E.2.1 0), .int x1] M (z_is (some (.int r1)) M) ∧ ((r1 = 0 → Q (some (.int (-2 : Int32))) M) ∧ (¬ r1 = 0 → (∃ (r2 : Int32), CX10_isWay E [.int x2] M (z_is (some (.int r2)) M) ∧ ((r2 = 0 → Q (some (.int (-2 : Int32))) M) ∧ (¬ r2 = 0 → (∃ (r3 : Int32), CX10_in E [.long x3.toInt64, .long (0 : Int64), .long (2 : Int64)] M (z_is (some (.int r3)) M) ∧ ((¬ r3 = 0 → (∃ q7 : Mem → Prop, CX10_layLeads E [.ref (E.2.1 0), .int x2] M (z_pV q7) ∧ ∀ (M4 : Mem), q7 M4 → (∃ q6 : Mem → Prop, CX10_layRun E [.ref (E.2.1 0), .int x1] M4 (z_pV q6) ∧ ∀ (M5 : Mem), q6 M5 → ((¬ x3 = 0 → ((¬ x3 = (1 : Int32) → Q (some (.int (M5.1 0 8))) M5) ∧ (x3 = (1 : Int32) → Q (some (.int (M5.1 0 6))) M5))) ∧ (x3 = 0 → Q (some (.int (M5.1 0 7))) M5))))) ∧ (r3 = 0 → Q (some (.int (-2 : Int32))) M))))))))) : CX10_run E [.ref (E.2.1 0), .int x1, .int x2, .int x3] M Q := by
  refine z_entry (by decide +kernel) (Nat.le_of_ble_eq_true rfl) (fun X hE hX => ?_)
  subst hE
  show Z SM X 4 4 Q 0 [(0, .ref (X.1.2.1 0)), (1, .int x1), (2, .int x2), (3, .int x3)] [] M
  refine z_aload_n hX dX10_run_0 rfl 0 rfl ?_
  refine z_iload_n hX dX10_run_1 rfl 1 rfl ?_
  obtain ⟨r1, c9, h⟩ := h
  refine mcX10_90 hX dX10_run_2 (by decide) (Nat.le_of_ble_eq_true rfl) c9 ?_
  refine z_if_eq hX 27 dX10_run_5 (by decide) (fun c0 => ?_) (fun c0 => ?_)
  · replace h := h.1 c0
    refine z_bipush (v := -2) hX dX10_run_27 (by decide) ?_
    exact z_iret hX dX10_run_29 h
  · replace h := h.2 c0
    refine z_iload_n hX dX10_run_8 rfl 2 rfl ?_
    obtain ⟨r2, c9, h⟩ := h
    refine mcX10_97 hX dX10_run_9 (by decide) (Nat.le_of_ble_eq_true rfl) c9 ?_
    refine z_if_eq hX 27 dX10_run_12 (by decide) (fun c0 => ?_) (fun c0 => ?_)
    · replace h := h.1 c0
      refine z_bipush (v := -2) hX dX10_run_27 (by decide) ?_
      exact z_iret hX dX10_run_29 h
    · replace h := h.2 c0
      refine z_iload_n hX dX10_run_15 rfl 3 rfl ?_
      refine z_i2l hX dX10_run_16 ?_
      refine z_lconst (v := 0) hX dX10_run_17 (by decide) ?_
      refine z_ldc2 (v := 2) hX dX10_run_18 (z_w (List.mem_append_right _ (List.mem_of_getElem? (i := 896) (by decide +kernel))) rfl) ?_
      obtain ⟨r3, c9, h⟩ := h
      refine mcX10_60 hX dX10_run_21 (by decide) (Nat.le_of_ble_eq_true rfl) c9 ?_
      refine z_if_ne hX 30 dX10_run_24 (by decide) (fun c0 => ?_) (fun c0 => ?_)
      · replace h := h.1 c0
        refine z_aload_n hX dX10_run_30 rfl 0 rfl ?_
        refine z_iload_n hX dX10_run_31 rfl 2 rfl ?_
        obtain ⟨q7, c9, h⟩ := h
        refine mcX10_120 hX dX10_run_32 (by decide) (Nat.le_of_ble_eq_true rfl) c9 (fun M4 hq => ?_)
        replace h := h M4 hq
        refine z_aload_n hX dX10_run_35 rfl 0 rfl ?_
        refine z_iload_n hX dX10_run_36 rfl 1 rfl ?_
        obtain ⟨q6, c9, h⟩ := h
        refine mcX10_124 hX dX10_run_37 (by decide) (Nat.le_of_ble_eq_true rfl) c9 (fun M5 hq => ?_)
        replace h := h M5 hq
        refine z_iload_n hX dX10_run_40 rfl 3 rfl ?_
        refine z_if_ne hX 51 dX10_run_41 (by decide) (fun c0 => ?_) (fun c0 => ?_)
        · replace h := h.1 c0
          refine z_iload_n hX dX10_run_51 rfl 3 rfl ?_
          refine z_iconst (v := 1) hX dX10_run_52 (by decide) ?_
          refine z_icmp_ne hX 63 dX10_run_53 (by decide) (fun c0 => ?_) (fun c0 => ?_)
          · replace h := h.1 c0
            refine z_aload_n hX dX10_run_63 rfl 0 rfl ?_
            refine gfX10_115 hX dX10_run_64 ?_
            exact z_iret hX dX10_run_67 h
          · replace h := h.2 c0
            refine z_aload_n hX dX10_run_56 rfl 0 rfl ?_
            refine gfX10_109 hX dX10_run_57 ?_
            refine z_goto hX 67 dX10_run_60 (by decide) ?_
            exact z_iret hX dX10_run_67 h
        · replace h := h.2 c0
          refine z_aload_n hX dX10_run_44 rfl 0 rfl ?_
          refine gfX10_112 hX dX10_run_45 ?_
          refine z_goto hX 67 dX10_run_48 (by decide) ?_
          exact z_iret hX dX10_run_67 h
      · replace h := h.2 c0
        refine z_bipush (v := -2) hX dX10_run_27 (by decide) ?_
        exact z_iret hX dX10_run_29 h
abbrev LX10_leastOfRing_15 (X : XT) (Q : Option Value → Mem → Prop) (x1 : Int32) (x2 : Int32) (M : Mem) : Prop := Z SM X 0 3 Q 15 [(0, .ref (X.1.2.1 0)), (1, .int x1), (2, .int x2)] [] M
set_option maxRecDepth 100000 in
set_option maxHeartbeats 4000000 in
theorem EX10_leastOfRing {E : ET} {Q : Option Value → Mem → Prop} {M : Mem} (h : ∀ X : XT, X.1 = E → KX10_leastOfRing X → (vp_in (M.1 0 6) 1024 ∧ LX10_leastOfRing_15 X Q (M.1 0 6) (M.1 4 (M.1 0 6).toNatClampNeg) M)) : CX10_leastOfRing E [.ref (E.2.1 0)] M Q := by
  refine z_entry (by decide +kernel) (Nat.le_of_ble_eq_true rfl) (fun X hE hX => ?_)
  subst hE
  replace h := h X rfl hX
  show Z SM X 0 3 Q 0 [(0, .ref (X.1.2.1 0))] [] M
  refine z_aload_n hX dX10_leastOfRing_0 rfl 0 rfl ?_
  refine gfX10_109 hX dX10_leastOfRing_1 ?_
  refine z_istore_n hX dX10_leastOfRing_4 rfl (by decide) [(1, .int (M.1 0 6)), (0, .ref (X.1.2.1 0))] rfl ?_
  refine z_aload_n hX dX10_leastOfRing_5 rfl 1 rfl ?_
  refine gfX10_23 hX dX10_leastOfRing_6 ?_
  refine z_aload_n hX dX10_leastOfRing_9 rfl 1 rfl ?_
  refine gfX10_109 hX dX10_leastOfRing_10 ?_
  refine z_iald hX 4 rfl h.1 dX10_leastOfRing_13 ?_
  replace h := h.2
  refine z_istore_n hX dX10_leastOfRing_14 rfl (by decide) [(2, .int (M.1 4 (M.1 0 6).toNatClampNeg)), (1, .int (M.1 0 6)), (0, .ref (X.1.2.1 0))] rfl ?_
  exact z_sub [2, 1, 0] rfl h
set_option maxRecDepth 100000 in
set_option maxHeartbeats 4000000 in
theorem BX10_leastOfRing_15 {X : XT} {Q : Option Value → Mem → Prop} (hX : KX10_leastOfRing X) {x1 x2 : Int32} {M : Mem} (h : ((x2 = (M.1 0 6) → Q (some (.int x1)) M) ∧ (¬ x2 = (M.1 0 6) → ((x1 ≤ x2 → (vp_in x2 1024 ∧ LX10_leastOfRing_15 X Q x1 (M.1 4 x2.toNatClampNeg) M)) ∧ (¬ x1 ≤ x2 → (vp_in x2 1024 ∧ LX10_leastOfRing_15 X Q x2 (M.1 4 x2.toNatClampNeg) M)))))) : LX10_leastOfRing_15 X Q x1 x2 M := by
  show Z SM X 0 3 Q 15 [(0, .ref (X.1.2.1 0)), (1, .int x1), (2, .int x2)] [] M
  refine z_iload_n hX dX10_leastOfRing_15 rfl 2 rfl ?_
  refine z_aload_n hX dX10_leastOfRing_16 rfl 0 rfl ?_
  refine gfX10_109 hX dX10_leastOfRing_17 ?_
  refine z_icmp_eq hX 44 dX10_leastOfRing_20 (by decide) (fun c0 => ?_) (fun c0 => ?_)
  · replace h := h.1 c0
    refine z_iload_n hX dX10_leastOfRing_44 rfl 1 rfl ?_
    exact z_iret hX dX10_leastOfRing_45 h
  · replace h := h.2 c0
    refine z_iload_n hX dX10_leastOfRing_23 rfl 2 rfl ?_
    refine z_iload_n hX dX10_leastOfRing_24 rfl 1 rfl ?_
    refine z_icmp_ge hX 32 dX10_leastOfRing_25 (by decide) (fun c0 => ?_) (fun c0 => ?_)
    · replace h := h.1 c0
      refine z_iload_n hX dX10_leastOfRing_32 rfl 1 rfl ?_
      refine z_istore_n hX dX10_leastOfRing_33 rfl (by decide) [(1, .int x1), (0, .ref (X.1.2.1 0)), (2, .int x2)] rfl ?_
      refine z_aload_n hX dX10_leastOfRing_34 rfl 1 rfl ?_
      refine gfX10_23 hX dX10_leastOfRing_35 ?_
      refine z_iload_n hX dX10_leastOfRing_38 rfl 2 rfl ?_
      refine z_iald hX 4 rfl h.1 dX10_leastOfRing_39 ?_
      replace h := h.2
      refine z_istore_n hX dX10_leastOfRing_40 rfl (by decide) [(2, .int (M.1 4 x2.toNatClampNeg)), (1, .int x1), (0, .ref (X.1.2.1 0))] rfl ?_
      refine z_goto hX 15 dX10_leastOfRing_41 (by decide) ?_
      exact z_sub [2, 1, 0] rfl h
    · replace h := h.2 c0
      refine z_iload_n hX dX10_leastOfRing_28 rfl 2 rfl ?_
      refine z_goto hX 33 dX10_leastOfRing_29 (by decide) ?_
      refine z_istore_n hX dX10_leastOfRing_33 rfl (by decide) [(1, .int x2), (0, .ref (X.1.2.1 0)), (2, .int x2)] rfl ?_
      refine z_aload_n hX dX10_leastOfRing_34 rfl 1 rfl ?_
      refine gfX10_23 hX dX10_leastOfRing_35 ?_
      refine z_iload_n hX dX10_leastOfRing_38 rfl 2 rfl ?_
      refine z_iald hX 4 rfl h.1 dX10_leastOfRing_39 ?_
      replace h := h.2
      refine z_istore_n hX dX10_leastOfRing_40 rfl (by decide) [(2, .int (M.1 4 x2.toNatClampNeg)), (1, .int x2), (0, .ref (X.1.2.1 0))] rfl ?_
      refine z_goto hX 15 dX10_leastOfRing_41 (by decide) ?_
      exact z_sub [2, 1, 0] rfl h
abbrev LX10_layRings_7 (X : XT) (Q : Option Value → Mem → Prop) (x2 : Int32) (M : Mem) : Prop := Z SM X 4 4 Q 7 [(0, .ref (X.1.2.1 0)), (2, .int x2)] [] M
abbrev LX10_layRings_37 (X : XT) (Q : Option Value → Mem → Prop) (x2 : Int32) (M : Mem) : Prop := Z SM X 4 4 Q 37 [(0, .ref (X.1.2.1 0)), (2, .int x2)] [] M
set_option maxRecDepth 100000 in
set_option maxHeartbeats 4000000 in
theorem EX10_layRings {E : ET} {Q : Option Value → Mem → Prop} {x1 : Int32} {M : Mem} (h : ∀ X : XT, X.1 = E → KX10_layRings X → (∃ q2 : Mem → Prop, CX10_layLeads X.1 [.ref (X.1.2.1 0), .int x1] M (z_pV q2) ∧ ∀ (M1 : Mem), q2 M1 → LX10_layRings_7 X Q (0 : Int32) M1)) : CX10_layRings E [.ref (E.2.1 0), .int x1] M Q := by
  refine z_entry (by decide +kernel) (Nat.le_of_ble_eq_true rfl) (fun X hE hX => ?_)
  subst hE
  replace h := h X rfl hX
  show Z SM X 4 4 Q 0 [(0, .ref (X.1.2.1 0)), (1, .int x1)] [] M
  refine z_aload_n hX dX10_layRings_0 rfl 0 rfl ?_
  refine z_iload_n hX dX10_layRings_1 rfl 1 rfl ?_
  obtain ⟨q2, c9, h⟩ := h
  refine mcX10_120 hX dX10_layRings_2 (by decide) (Nat.le_of_ble_eq_true rfl) c9 (fun M1 hq => ?_)
  replace h := h M1 hq
  refine z_iconst (v := 0) hX dX10_layRings_5 (by decide) ?_
  refine z_istore_n hX dX10_layRings_6 rfl (by decide) [(2, .int (0 : Int32)), (0, .ref (X.1.2.1 0)), (1, .int x1)] rfl ?_
  exact z_sub [1, 0] rfl h
set_option maxRecDepth 100000 in
set_option maxHeartbeats 4000000 in
theorem BX10_layRings_7 {X : XT} {Q : Option Value → Mem → Prop} (hX : KX10_layRings X) {x2 : Int32} {M : Mem} (h : ∃ (r1 : Int32), CX10_all X.1 [.ref (X.1.2.1 0)] M (z_is (some (.int r1)) M) ∧ ((r1 < x2 → LX10_layRings_37 X Q (0 : Int32) M) ∧ (¬ r1 < x2 → (vp_in x2 1024 ∧ (∀ M2 : Mem, M2 = z_st M 6 x2.toNatClampNeg (0 : Int32) → (vp_in x2 1024 ∧ (∀ M3 : Mem, M3 = z_st M2 8 x2.toNatClampNeg (0 : Int32) → LX10_layRings_7 X Q (x2 + (1 : Int32)) M3))))))) : LX10_layRings_7 X Q x2 M := by
  show Z SM X 4 4 Q 7 [(0, .ref (X.1.2.1 0)), (2, .int x2)] [] M
  refine z_iload_n hX dX10_layRings_7 rfl 1 rfl ?_
  refine z_aload_n hX dX10_layRings_8 rfl 0 rfl ?_
  obtain ⟨r1, c9, h⟩ := h
  refine mcX10_105 hX dX10_layRings_9 (by decide) (Nat.le_of_ble_eq_true rfl) c9 ?_
  refine z_icmp_gt hX 35 dX10_layRings_12 (by decide) (fun c0 => ?_) (fun c0 => ?_)
  · replace h := h.1 c0
    refine z_iconst (v := 0) hX dX10_layRings_35 (by decide) ?_
    refine z_istore_n hX dX10_layRings_36 rfl (by decide) [(2, .int (0 : Int32)), (0, .ref (X.1.2.1 0))] rfl ?_
    exact z_sub [1, 0] rfl h
  · replace h := h.2 c0
    refine z_aload_n hX dX10_layRings_15 rfl 0 rfl ?_
    refine gfX10_29 hX dX10_layRings_16 ?_
    refine z_iload_n hX dX10_layRings_19 rfl 1 rfl ?_
    refine z_iconst (v := 0) hX dX10_layRings_20 (by decide) ?_
    refine z_iastM hX 6 rfl h.1 dX10_layRings_21 (fun M2 eM2 => ?_)
    replace h := h.2 M2 eM2
    refine z_aload_n hX dX10_layRings_22 rfl 0 rfl ?_
    refine gfX10_35 hX dX10_layRings_23 ?_
    refine z_iload_n hX dX10_layRings_26 rfl 1 rfl ?_
    refine z_iconst (v := 0) hX dX10_layRings_27 (by decide) ?_
    refine z_iastM hX 8 rfl h.1 dX10_layRings_28 (fun M3 eM3 => ?_)
    replace h := h.2 M3 eM3
    refine z_iinc (v := x2 + (1 : Int32)) hX dX10_layRings_29 1 rfl rfl (by decide) [(2, .int (x2 + (1 : Int32))), (0, .ref (X.1.2.1 0))] rfl ?_
    refine z_goto hX 7 dX10_layRings_32 (by decide) ?_
    exact z_sub [1, 0] rfl h
set_option maxRecDepth 100000 in
set_option maxHeartbeats 4000000 in
theorem BX10_layRings_37 {X : XT} {Q : Option Value → Mem → Prop} (hX : KX10_layRings X) {x2 : Int32} {M : Mem} (h : ∃ (r1 : Int32), CX10_all X.1 [.ref (X.1.2.1 0)] M (z_is (some (.int r1)) M) ∧ ((r1 < x2 → Q none M) ∧ (¬ r1 < x2 → (∃ q8 : Mem → Prop, CX10_layRun X.1 [.ref (X.1.2.1 0), .int x2] M (z_pV q8) ∧ ∀ (M2 : Mem), q8 M2 → (∃ (r3 : Int32), CX10_leastOfRing X.1 [.ref (X.1.2.1 0)] M2 (z_is (some (.int r3)) M2) ∧ (vp_in r3 1024 ∧ (vp_in r3 1024 ∧ (∀ M4 : Mem, M4 = z_st M2 6 r3.toNatClampNeg ((M2.1 6 r3.toNatClampNeg) + (1 : Int32)) → (vp_in r3 1024 ∧ (∀ M5 : Mem, M5 = z_st M4 7 r3.toNatClampNeg (M4.1 0 8) → (vp_in r3 1024 ∧ (((M5.1 0 7) ≤ (M5.1 8 r3.toNatClampNeg) → (vp_in r3 1024 ∧ (vp_in r3 1024 ∧ (∀ M6 : Mem, M6 = z_st M5 8 r3.toNatClampNeg (M5.1 8 r3.toNatClampNeg) → LX10_layRings_37 X Q (x2 + (1 : Int32)) M6)))) ∧ (¬ (M5.1 0 7) ≤ (M5.1 8 r3.toNatClampNeg) → (vp_in r3 1024 ∧ (∀ M7 : Mem, M7 = z_st M5 8 r3.toNatClampNeg (M5.1 0 7) → LX10_layRings_37 X Q (x2 + (1 : Int32)) M7))))))))))))))) : LX10_layRings_37 X Q x2 M := by
  show Z SM X 4 4 Q 37 [(0, .ref (X.1.2.1 0)), (2, .int x2)] [] M
  refine z_iload_n hX dX10_layRings_37 rfl 1 rfl ?_
  refine z_aload_n hX dX10_layRings_38 rfl 0 rfl ?_
  obtain ⟨r1, c9, h⟩ := h
  refine mcX10_105 hX dX10_layRings_39 (by decide) (Nat.le_of_ble_eq_true rfl) c9 ?_
  refine z_icmp_gt hX 113 dX10_layRings_42 (by decide) (fun c0 => ?_) (fun c0 => ?_)
  · replace h := h.1 c0
    exact z_vret hX dX10_layRings_113 h
  · replace h := h.2 c0
    refine z_aload_n hX dX10_layRings_45 rfl 0 rfl ?_
    refine z_iload_n hX dX10_layRings_46 rfl 1 rfl ?_
    obtain ⟨q8, c9, h⟩ := h
    refine mcX10_124 hX dX10_layRings_47 (by decide) (Nat.le_of_ble_eq_true rfl) c9 (fun M2 hq => ?_)
    replace h := h M2 hq
    refine z_aload_n hX dX10_layRings_50 rfl 0 rfl ?_
    obtain ⟨r3, c9, h⟩ := h
    refine mcX10_127 hX dX10_layRings_51 (by decide) (Nat.le_of_ble_eq_true rfl) c9 ?_
    refine z_istore_n hX dX10_layRings_54 rfl (by decide) [(3, .int r3), (0, .ref (X.1.2.1 0)), (2, .int x2)] rfl ?_
    refine z_aload_n hX dX10_layRings_55 rfl 1 rfl ?_
    refine gfX10_29 hX dX10_layRings_56 ?_
    refine z_iload_n hX dX10_layRings_59 rfl 0 rfl ?_
    refine z_dup2 hX dX10_layRings_60 rfl rfl ?_
    refine z_iald hX 6 rfl h.1 dX10_layRings_61 ?_
    replace h := h.2
    refine z_iconst (v := 1) hX dX10_layRings_62 (by decide) ?_
    refine z_iadd hX dX10_layRings_63 ?_
    refine z_iastM hX 6 rfl h.1 dX10_layRings_64 (fun M4 eM4 => ?_)
    replace h := h.2 M4 eM4
    refine z_aload_n hX dX10_layRings_65 rfl 1 rfl ?_
    refine gfX10_32 hX dX10_layRings_66 ?_
    refine z_iload_n hX dX10_layRings_69 rfl 0 rfl ?_
    refine z_aload_n hX dX10_layRings_70 rfl 1 rfl ?_
    refine gfX10_115 hX dX10_layRings_71 ?_
    refine z_iastM hX 7 rfl h.1 dX10_layRings_74 (fun M5 eM5 => ?_)
    replace h := h.2 M5 eM5
    refine z_aload_n hX dX10_layRings_75 rfl 1 rfl ?_
    refine gfX10_35 hX dX10_layRings_76 ?_
    refine z_iload_n hX dX10_layRings_79 rfl 0 rfl ?_
    refine z_aload_n hX dX10_layRings_80 rfl 1 rfl ?_
    refine gfX10_112 hX dX10_layRings_81 ?_
    refine z_aload_n hX dX10_layRings_84 rfl 1 rfl ?_
    refine gfX10_35 hX dX10_layRings_85 ?_
    refine z_iload_n hX dX10_layRings_88 rfl 0 rfl ?_
    refine z_iald hX 8 rfl h.1 dX10_layRings_89 ?_
    replace h := h.2
    refine z_icmp_le hX 100 dX10_layRings_90 (by decide) (fun c0 => ?_) (fun c0 => ?_)
    · replace h := h.1 c0
      refine z_aload_n hX dX10_layRings_100 rfl 1 rfl ?_
      refine gfX10_35 hX dX10_layRings_101 ?_
      refine z_iload_n hX dX10_layRings_104 rfl 0 rfl ?_
      refine z_iald hX 8 rfl h.1 dX10_layRings_105 ?_
      replace h := h.2
      refine z_iastM hX 8 rfl h.1 dX10_layRings_106 (fun M6 eM6 => ?_)
      replace h := h.2 M6 eM6
      refine z_iinc (v := x2 + (1 : Int32)) hX dX10_layRings_107 2 rfl rfl (by decide) [(2, .int (x2 + (1 : Int32))), (3, .int r3), (0, .ref (X.1.2.1 0))] rfl ?_
      refine z_goto hX 37 dX10_layRings_110 (by decide) ?_
      exact z_sub [2, 0] rfl h
    · replace h := h.2 c0
      refine z_aload_n hX dX10_layRings_93 rfl 1 rfl ?_
      refine gfX10_112 hX dX10_layRings_94 ?_
      refine z_goto hX 106 dX10_layRings_97 (by decide) ?_
      refine z_iastM hX 8 rfl h.1 dX10_layRings_106 (fun M7 eM7 => ?_)
      replace h := h.2 M7 eM7
      refine z_iinc (v := x2 + (1 : Int32)) hX dX10_layRings_107 2 rfl rfl (by decide) [(2, .int (x2 + (1 : Int32))), (3, .int r3), (0, .ref (X.1.2.1 0))] rfl ?_
      refine z_goto hX 37 dX10_layRings_110 (by decide) ?_
      exact z_sub [2, 0] rfl h
abbrev LX10_rings_19 (X : XT) (Q : Option Value → Mem → Prop) (x2 : Int32) (x3 : Int32) (M : Mem) : Prop := Z SM X 5 4 Q 19 [(0, .ref (X.1.2.1 0)), (2, .int x2), (3, .int x3)] [] M
set_option maxRecDepth 100000 in
set_option maxHeartbeats 4000000 in
theorem EX10_rings {E : ET} {Q : Option Value → Mem → Prop} {x1 : Int32} {M : Mem} (h : ∀ X : XT, X.1 = E → KX10_rings X → (∃ (r1 : Int32), CX10_isWay X.1 [.int x1] M (z_is (some (.int r1)) M) ∧ ((¬ r1 = 0 → (∃ q3 : Mem → Prop, CX10_layRings X.1 [.ref (X.1.2.1 0), .int x1] M (z_pV q3) ∧ ∀ (M2 : Mem), q3 M2 → LX10_rings_19 X Q (0 : Int32) (0 : Int32) M2)) ∧ (r1 = 0 → Q (some (.int (-2 : Int32))) M)))) : CX10_rings E [.ref (E.2.1 0), .int x1] M Q := by
  refine z_entry (by decide +kernel) (Nat.le_of_ble_eq_true rfl) (fun X hE hX => ?_)
  subst hE
  replace h := h X rfl hX
  show Z SM X 5 4 Q 0 [(0, .ref (X.1.2.1 0)), (1, .int x1)] [] M
  refine z_iload_n hX dX10_rings_0 rfl 1 rfl ?_
  obtain ⟨r1, c9, h⟩ := h
  refine mcX10_97 hX dX10_rings_1 (by decide) (Nat.le_of_ble_eq_true rfl) c9 ?_
  refine z_if_ne hX 10 dX10_rings_4 (by decide) (fun c0 => ?_) (fun c0 => ?_)
  · replace h := h.1 c0
    refine z_aload_n hX dX10_rings_10 rfl 0 rfl ?_
    refine z_iload_n hX dX10_rings_11 rfl 1 rfl ?_
    obtain ⟨q3, c9, h⟩ := h
    refine mcX10_130 hX dX10_rings_12 (by decide) (Nat.le_of_ble_eq_true rfl) c9 (fun M2 hq => ?_)
    replace h := h M2 hq
    refine z_iconst (v := 0) hX dX10_rings_15 (by decide) ?_
    refine z_istore_n hX dX10_rings_16 rfl (by decide) [(2, .int (0 : Int32)), (0, .ref (X.1.2.1 0)), (1, .int x1)] rfl ?_
    refine z_iconst (v := 0) hX dX10_rings_17 (by decide) ?_
    refine z_istore_n hX dX10_rings_18 rfl (by decide) [(3, .int (0 : Int32)), (2, .int (0 : Int32)), (0, .ref (X.1.2.1 0)), (1, .int x1)] rfl ?_
    exact z_sub [2, 1, 0] rfl h
  · replace h := h.2 c0
    refine z_bipush (v := -2) hX dX10_rings_7 (by decide) ?_
    exact z_iret hX dX10_rings_9 h
set_option maxRecDepth 100000 in
set_option maxHeartbeats 4000000 in
theorem BX10_rings_19 {X : XT} {Q : Option Value → Mem → Prop} (hX : KX10_rings X) {x2 x3 : Int32} {M : Mem} (h : ∃ (r1 : Int32), CX10_all X.1 [.ref (X.1.2.1 0)] M (z_is (some (.int r1)) M) ∧ ((r1 < x3 → Q (some (.int x2)) M) ∧ (¬ r1 < x3 → (vp_in x3 1024 ∧ (((M.1 6 x3.toNatClampNeg) ≤ 0 → LX10_rings_19 X Q (x2 + (0 : Int32)) (x3 + (1 : Int32)) M) ∧ (¬ (M.1 6 x3.toNatClampNeg) ≤ 0 → LX10_rings_19 X Q (x2 + (1 : Int32)) (x3 + (1 : Int32)) M)))))) : LX10_rings_19 X Q x2 x3 M := by
  show Z SM X 5 4 Q 19 [(0, .ref (X.1.2.1 0)), (2, .int x2), (3, .int x3)] [] M
  refine z_iload_n hX dX10_rings_19 rfl 2 rfl ?_
  refine z_aload_n hX dX10_rings_20 rfl 0 rfl ?_
  obtain ⟨r1, c9, h⟩ := h
  refine mcX10_105 hX dX10_rings_21 (by decide) (Nat.le_of_ble_eq_true rfl) c9 ?_
  refine z_icmp_gt hX 50 dX10_rings_24 (by decide) (fun c0 => ?_) (fun c0 => ?_)
  · replace h := h.1 c0
    refine z_iload_n hX dX10_rings_50 rfl 1 rfl ?_
    exact z_iret hX dX10_rings_51 h
  · replace h := h.2 c0
    refine z_iload_n hX dX10_rings_27 rfl 1 rfl ?_
    refine z_aload_n hX dX10_rings_28 rfl 0 rfl ?_
    refine gfX10_29 hX dX10_rings_29 ?_
    refine z_iload_n hX dX10_rings_32 rfl 2 rfl ?_
    refine z_iald hX 6 rfl h.1 dX10_rings_33 ?_
    replace h := h.2
    refine z_if_le hX 41 dX10_rings_34 (by decide) (fun c0 => ?_) (fun c0 => ?_)
    · replace h := h.1 c0
      refine z_iconst (v := 0) hX dX10_rings_41 (by decide) ?_
      refine z_iadd hX dX10_rings_42 ?_
      refine z_istore_n hX dX10_rings_43 rfl (by decide) [(2, .int (x2 + (0 : Int32))), (0, .ref (X.1.2.1 0)), (3, .int x3)] rfl ?_
      refine z_iinc (v := x3 + (1 : Int32)) hX dX10_rings_44 2 rfl rfl (by decide) [(3, .int (x3 + (1 : Int32))), (2, .int (x2 + (0 : Int32))), (0, .ref (X.1.2.1 0))] rfl ?_
      refine z_goto hX 19 dX10_rings_47 (by decide) ?_
      exact z_sub [2, 1, 0] rfl h
    · replace h := h.2 c0
      refine z_iconst (v := 1) hX dX10_rings_37 (by decide) ?_
      refine z_goto hX 42 dX10_rings_38 (by decide) ?_
      refine z_iadd hX dX10_rings_42 ?_
      refine z_istore_n hX dX10_rings_43 rfl (by decide) [(2, .int (x2 + (1 : Int32))), (0, .ref (X.1.2.1 0)), (3, .int x3)] rfl ?_
      refine z_iinc (v := x3 + (1 : Int32)) hX dX10_rings_44 2 rfl rfl (by decide) [(3, .int (x3 + (1 : Int32))), (2, .int (x2 + (1 : Int32))), (0, .ref (X.1.2.1 0))] rfl ?_
      refine z_goto hX 19 dX10_rings_47 (by decide) ?_
      exact z_sub [2, 1, 0] rfl h
abbrev LX10_ring_21 (X : XT) (Q : Option Value → Mem → Prop) (x2 : Int32) (x3 : Int32) (x4 : Int32) (x5 : Int32) (M : Mem) : Prop := Z SM X 5 6 Q 21 [(0, .ref (X.1.2.1 0)), (2, .int x2), (3, .int x3), (4, .int x4), (5, .int x5)] [] M
set_option maxRecDepth 100000 in
set_option maxHeartbeats 4000000 in
theorem EX10_ring {E : ET} {Q : Option Value → Mem → Prop} {x1 x2 x3 : Int32} {M : Mem} (h : ∀ X : XT, X.1 = E → KX10_ring X → (∃ (r1 : Int32), CX10_isWay X.1 [.int x1] M (z_is (some (.int r1)) M) ∧ ((¬ r1 = 0 → (∃ q3 : Mem → Prop, CX10_layRings X.1 [.ref (X.1.2.1 0), .int x1] M (z_pV q3) ∧ ∀ (M2 : Mem), q3 M2 → LX10_ring_21 X Q x2 x3 (0 : Int32) (0 : Int32) M2)) ∧ (r1 = 0 → Q (some (.int (-2 : Int32))) M)))) : CX10_ring E [.ref (E.2.1 0), .int x1, .int x2, .int x3] M Q := by
  refine z_entry (by decide +kernel) (Nat.le_of_ble_eq_true rfl) (fun X hE hX => ?_)
  subst hE
  replace h := h X rfl hX
  show Z SM X 5 6 Q 0 [(0, .ref (X.1.2.1 0)), (1, .int x1), (2, .int x2), (3, .int x3)] [] M
  refine z_iload_n hX dX10_ring_0 rfl 1 rfl ?_
  obtain ⟨r1, c9, h⟩ := h
  refine mcX10_97 hX dX10_ring_1 (by decide) (Nat.le_of_ble_eq_true rfl) c9 ?_
  refine z_if_ne hX 10 dX10_ring_4 (by decide) (fun c0 => ?_) (fun c0 => ?_)
  · replace h := h.1 c0
    refine z_aload_n hX dX10_ring_10 rfl 0 rfl ?_
    refine z_iload_n hX dX10_ring_11 rfl 1 rfl ?_
    obtain ⟨q3, c9, h⟩ := h
    refine mcX10_130 hX dX10_ring_12 (by decide) (Nat.le_of_ble_eq_true rfl) c9 (fun M2 hq => ?_)
    replace h := h M2 hq
    refine z_iconst (v := 0) hX dX10_ring_15 (by decide) ?_
    refine z_istore hX dX10_ring_16 (by decide) [(4, .int (0 : Int32)), (0, .ref (X.1.2.1 0)), (1, .int x1), (2, .int x2), (3, .int x3)] rfl ?_
    refine z_iconst (v := 0) hX dX10_ring_18 (by decide) ?_
    refine z_istore hX dX10_ring_19 (by decide) [(5, .int (0 : Int32)), (4, .int (0 : Int32)), (0, .ref (X.1.2.1 0)), (1, .int x1), (2, .int x2), (3, .int x3)] rfl ?_
    exact z_sub [2, 4, 5, 1, 0] rfl h
  · replace h := h.2 c0
    refine z_bipush (v := -2) hX dX10_ring_7 (by decide) ?_
    exact z_iret hX dX10_ring_9 h
set_option maxRecDepth 100000 in
set_option maxHeartbeats 4000000 in
theorem BX10_ring_21 {X : XT} {Q : Option Value → Mem → Prop} (hX : KX10_ring X) {x2 x3 x4 x5 : Int32} {M : Mem} (h : ∃ (r1 : Int32), CX10_all X.1 [.ref (X.1.2.1 0)] M (z_is (some (.int r1)) M) ∧ ((r1 < x5 → Q (some (.int (-1 : Int32))) M) ∧ (¬ r1 < x5 → (vp_in x5 1024 ∧ (((M.1 6 x5.toNatClampNeg) ≤ 0 → (vp_in x5 1024 ∧ (((M.1 6 x5.toNatClampNeg) ≤ 0 → LX10_ring_21 X Q x2 x3 (x4 + (0 : Int32)) (x5 + (1 : Int32)) M) ∧ (¬ (M.1 6 x5.toNatClampNeg) ≤ 0 → LX10_ring_21 X Q x2 x3 (x4 + (1 : Int32)) (x5 + (1 : Int32)) M)))) ∧ (¬ (M.1 6 x5.toNatClampNeg) ≤ 0 → ((¬ x4 = x2 → (vp_in x5 1024 ∧ (((M.1 6 x5.toNatClampNeg) ≤ 0 → LX10_ring_21 X Q x2 x3 (x4 + (0 : Int32)) (x5 + (1 : Int32)) M) ∧ (¬ (M.1 6 x5.toNatClampNeg) ≤ 0 → LX10_ring_21 X Q x2 x3 (x4 + (1 : Int32)) (x5 + (1 : Int32)) M)))) ∧ (x4 = x2 → ((¬ x3 = 0 → ((¬ x3 = (1 : Int32) → ((¬ x3 = (2 : Int32) → ((¬ x3 = (3 : Int32) → Q (some (.int (-2 : Int32))) M) ∧ (x3 = (3 : Int32) → (vp_in x5 1024 ∧ Q (some (.int (M.1 8 x5.toNatClampNeg))) M)))) ∧ (x3 = (2 : Int32) → (vp_in x5 1024 ∧ Q (some (.int (M.1 6 x5.toNatClampNeg))) M)))) ∧ (x3 = (1 : Int32) → (vp_in x5 1024 ∧ Q (some (.int (M.1 7 x5.toNatClampNeg))) M)))) ∧ (x3 = 0 → Q (some (.int x5)) M)))))))))) : LX10_ring_21 X Q x2 x3 x4 x5 M := by
  show Z SM X 5 6 Q 21 [(0, .ref (X.1.2.1 0)), (2, .int x2), (3, .int x3), (4, .int x4), (5, .int x5)] [] M
  refine z_iload hX dX10_ring_21 4 rfl ?_
  refine z_aload_n hX dX10_ring_23 rfl 0 rfl ?_
  obtain ⟨r1, c9, h⟩ := h
  refine mcX10_105 hX dX10_ring_24 (by decide) (Nat.le_of_ble_eq_true rfl) c9 ?_
  refine z_icmp_gt hX 129 dX10_ring_27 (by decide) (fun c0 => ?_) (fun c0 => ?_)
  · replace h := h.1 c0
    refine z_iconst (v := -1) hX dX10_ring_129 (by decide) ?_
    exact z_iret hX dX10_ring_130 h
  · replace h := h.2 c0
    refine z_aload_n hX dX10_ring_30 rfl 0 rfl ?_
    refine gfX10_29 hX dX10_ring_31 ?_
    refine z_iload hX dX10_ring_34 4 rfl ?_
    refine z_iald hX 6 rfl h.1 dX10_ring_36 ?_
    replace h := h.2
    refine z_if_le hX 103 dX10_ring_37 (by decide) (fun c0 => ?_) (fun c0 => ?_)
    · replace h := h.1 c0
      refine z_iload hX dX10_ring_103 3 rfl ?_
      refine z_aload_n hX dX10_ring_105 rfl 0 rfl ?_
      refine gfX10_29 hX dX10_ring_106 ?_
      refine z_iload hX dX10_ring_109 4 rfl ?_
      refine z_iald hX 6 rfl h.1 dX10_ring_111 ?_
      replace h := h.2
      refine z_if_le hX 119 dX10_ring_112 (by decide) (fun c0 => ?_) (fun c0 => ?_)
      · replace h := h.1 c0
        refine z_iconst (v := 0) hX dX10_ring_119 (by decide) ?_
        refine z_iadd hX dX10_ring_120 ?_
        refine z_istore hX dX10_ring_121 (by decide) [(4, .int (x4 + (0 : Int32))), (0, .ref (X.1.2.1 0)), (2, .int x2), (3, .int x3), (5, .int x5)] rfl ?_
        refine z_iinc (v := x5 + (1 : Int32)) hX dX10_ring_123 4 rfl rfl (by decide) [(5, .int (x5 + (1 : Int32))), (4, .int (x4 + (0 : Int32))), (0, .ref (X.1.2.1 0)), (2, .int x2), (3, .int x3)] rfl ?_
        refine z_goto hX 21 dX10_ring_126 (by decide) ?_
        exact z_sub [2, 3, 4, 1, 0] rfl h
      · replace h := h.2 c0
        refine z_iconst (v := 1) hX dX10_ring_115 (by decide) ?_
        refine z_goto hX 120 dX10_ring_116 (by decide) ?_
        refine z_iadd hX dX10_ring_120 ?_
        refine z_istore hX dX10_ring_121 (by decide) [(4, .int (x4 + (1 : Int32))), (0, .ref (X.1.2.1 0)), (2, .int x2), (3, .int x3), (5, .int x5)] rfl ?_
        refine z_iinc (v := x5 + (1 : Int32)) hX dX10_ring_123 4 rfl rfl (by decide) [(5, .int (x5 + (1 : Int32))), (4, .int (x4 + (1 : Int32))), (0, .ref (X.1.2.1 0)), (2, .int x2), (3, .int x3)] rfl ?_
        refine z_goto hX 21 dX10_ring_126 (by decide) ?_
        exact z_sub [2, 3, 4, 1, 0] rfl h
    · replace h := h.2 c0
      refine z_iload hX dX10_ring_40 3 rfl ?_
      refine z_iload_n hX dX10_ring_42 rfl 1 rfl ?_
      refine z_icmp_ne hX 103 dX10_ring_43 (by decide) (fun c0 => ?_) (fun c0 => ?_)
      · replace h := h.1 c0
        refine z_iload hX dX10_ring_103 3 rfl ?_
        refine z_aload_n hX dX10_ring_105 rfl 0 rfl ?_
        refine gfX10_29 hX dX10_ring_106 ?_
        refine z_iload hX dX10_ring_109 4 rfl ?_
        refine z_iald hX 6 rfl h.1 dX10_ring_111 ?_
        replace h := h.2
        refine z_if_le hX 119 dX10_ring_112 (by decide) (fun c0 => ?_) (fun c0 => ?_)
        · replace h := h.1 c0
          refine z_iconst (v := 0) hX dX10_ring_119 (by decide) ?_
          refine z_iadd hX dX10_ring_120 ?_
          refine z_istore hX dX10_ring_121 (by decide) [(4, .int (x4 + (0 : Int32))), (0, .ref (X.1.2.1 0)), (2, .int x2), (3, .int x3), (5, .int x5)] rfl ?_
          refine z_iinc (v := x5 + (1 : Int32)) hX dX10_ring_123 4 rfl rfl (by decide) [(5, .int (x5 + (1 : Int32))), (4, .int (x4 + (0 : Int32))), (0, .ref (X.1.2.1 0)), (2, .int x2), (3, .int x3)] rfl ?_
          refine z_goto hX 21 dX10_ring_126 (by decide) ?_
          exact z_sub [2, 3, 4, 1, 0] rfl h
        · replace h := h.2 c0
          refine z_iconst (v := 1) hX dX10_ring_115 (by decide) ?_
          refine z_goto hX 120 dX10_ring_116 (by decide) ?_
          refine z_iadd hX dX10_ring_120 ?_
          refine z_istore hX dX10_ring_121 (by decide) [(4, .int (x4 + (1 : Int32))), (0, .ref (X.1.2.1 0)), (2, .int x2), (3, .int x3), (5, .int x5)] rfl ?_
          refine z_iinc (v := x5 + (1 : Int32)) hX dX10_ring_123 4 rfl rfl (by decide) [(5, .int (x5 + (1 : Int32))), (4, .int (x4 + (1 : Int32))), (0, .ref (X.1.2.1 0)), (2, .int x2), (3, .int x3)] rfl ?_
          refine z_goto hX 21 dX10_ring_126 (by decide) ?_
          exact z_sub [2, 3, 4, 1, 0] rfl h
      · replace h := h.2 c0
        refine z_iload_n hX dX10_ring_46 rfl 2 rfl ?_
        refine z_if_ne hX 55 dX10_ring_47 (by decide) (fun c0 => ?_) (fun c0 => ?_)
        · replace h := h.1 c0
          refine z_iload_n hX dX10_ring_55 rfl 2 rfl ?_
          refine z_iconst (v := 1) hX dX10_ring_56 (by decide) ?_
          refine z_icmp_ne hX 70 dX10_ring_57 (by decide) (fun c0 => ?_) (fun c0 => ?_)
          · replace h := h.1 c0
            refine z_iload_n hX dX10_ring_70 rfl 2 rfl ?_
            refine z_iconst (v := 2) hX dX10_ring_71 (by decide) ?_
            refine z_icmp_ne hX 85 dX10_ring_72 (by decide) (fun c0 => ?_) (fun c0 => ?_)
            · replace h := h.1 c0
              refine z_iload_n hX dX10_ring_85 rfl 2 rfl ?_
              refine z_iconst (v := 3) hX dX10_ring_86 (by decide) ?_
              refine z_icmp_ne hX 100 dX10_ring_87 (by decide) (fun c0 => ?_) (fun c0 => ?_)
              · replace h := h.1 c0
                refine z_bipush (v := -2) hX dX10_ring_100 (by decide) ?_
                exact z_iret hX dX10_ring_102 h
              · replace h := h.2 c0
                refine z_aload_n hX dX10_ring_90 rfl 0 rfl ?_
                refine gfX10_35 hX dX10_ring_91 ?_
                refine z_iload hX dX10_ring_94 4 rfl ?_
                refine z_iald hX 8 rfl h.1 dX10_ring_96 ?_
                replace h := h.2
                refine z_goto hX 102 dX10_ring_97 (by decide) ?_
                exact z_iret hX dX10_ring_102 h
            · replace h := h.2 c0
              refine z_aload_n hX dX10_ring_75 rfl 0 rfl ?_
              refine gfX10_29 hX dX10_ring_76 ?_
              refine z_iload hX dX10_ring_79 4 rfl ?_
              refine z_iald hX 6 rfl h.1 dX10_ring_81 ?_
              replace h := h.2
              refine z_goto hX 102 dX10_ring_82 (by decide) ?_
              exact z_iret hX dX10_ring_102 h
          · replace h := h.2 c0
            refine z_aload_n hX dX10_ring_60 rfl 0 rfl ?_
            refine gfX10_32 hX dX10_ring_61 ?_
            refine z_iload hX dX10_ring_64 4 rfl ?_
            refine z_iald hX 7 rfl h.1 dX10_ring_66 ?_
            replace h := h.2
            refine z_goto hX 102 dX10_ring_67 (by decide) ?_
            exact z_iret hX dX10_ring_102 h
        · replace h := h.2 c0
          refine z_iload hX dX10_ring_50 4 rfl ?_
          refine z_goto hX 102 dX10_ring_52 (by decide) ?_
          exact z_iret hX dX10_ring_102 h
abbrev LX10_longest_19 (X : XT) (Q : Option Value → Mem → Prop) (x2 : Int32) (x3 : Int32) (M : Mem) : Prop := Z SM X 5 4 Q 19 [(0, .ref (X.1.2.1 0)), (2, .int x2), (3, .int x3)] [] M
set_option maxRecDepth 100000 in
set_option maxHeartbeats 4000000 in
theorem EX10_longest {E : ET} {Q : Option Value → Mem → Prop} {x1 : Int32} {M : Mem} (h : ∀ X : XT, X.1 = E → KX10_longest X → (∃ (r1 : Int32), CX10_isWay X.1 [.int x1] M (z_is (some (.int r1)) M) ∧ ((¬ r1 = 0 → (∃ q3 : Mem → Prop, CX10_layRings X.1 [.ref (X.1.2.1 0), .int x1] M (z_pV q3) ∧ ∀ (M2 : Mem), q3 M2 → LX10_longest_19 X Q (0 : Int32) (0 : Int32) M2)) ∧ (r1 = 0 → Q (some (.int (-2 : Int32))) M)))) : CX10_longest E [.ref (E.2.1 0), .int x1] M Q := by
  refine z_entry (by decide +kernel) (Nat.le_of_ble_eq_true rfl) (fun X hE hX => ?_)
  subst hE
  replace h := h X rfl hX
  show Z SM X 5 4 Q 0 [(0, .ref (X.1.2.1 0)), (1, .int x1)] [] M
  refine z_iload_n hX dX10_longest_0 rfl 1 rfl ?_
  obtain ⟨r1, c9, h⟩ := h
  refine mcX10_97 hX dX10_longest_1 (by decide) (Nat.le_of_ble_eq_true rfl) c9 ?_
  refine z_if_ne hX 10 dX10_longest_4 (by decide) (fun c0 => ?_) (fun c0 => ?_)
  · replace h := h.1 c0
    refine z_aload_n hX dX10_longest_10 rfl 0 rfl ?_
    refine z_iload_n hX dX10_longest_11 rfl 1 rfl ?_
    obtain ⟨q3, c9, h⟩ := h
    refine mcX10_130 hX dX10_longest_12 (by decide) (Nat.le_of_ble_eq_true rfl) c9 (fun M2 hq => ?_)
    replace h := h M2 hq
    refine z_iconst (v := 0) hX dX10_longest_15 (by decide) ?_
    refine z_istore_n hX dX10_longest_16 rfl (by decide) [(2, .int (0 : Int32)), (0, .ref (X.1.2.1 0)), (1, .int x1)] rfl ?_
    refine z_iconst (v := 0) hX dX10_longest_17 (by decide) ?_
    refine z_istore_n hX dX10_longest_18 rfl (by decide) [(3, .int (0 : Int32)), (2, .int (0 : Int32)), (0, .ref (X.1.2.1 0)), (1, .int x1)] rfl ?_
    exact z_sub [2, 1, 0] rfl h
  · replace h := h.2 c0
    refine z_bipush (v := -2) hX dX10_longest_7 (by decide) ?_
    exact z_iret hX dX10_longest_9 h
set_option maxRecDepth 100000 in
set_option maxHeartbeats 4000000 in
theorem BX10_longest_19 {X : XT} {Q : Option Value → Mem → Prop} (hX : KX10_longest X) {x2 x3 : Int32} {M : Mem} (h : ∃ (r1 : Int32), CX10_all X.1 [.ref (X.1.2.1 0)] M (z_is (some (.int r1)) M) ∧ ((r1 < x3 → Q (some (.int x2)) M) ∧ (¬ r1 < x3 → (vp_in x3 1024 ∧ (((M.1 6 x3.toNatClampNeg) ≤ 0 → LX10_longest_19 X Q x2 (x3 + (1 : Int32)) M) ∧ (¬ (M.1 6 x3.toNatClampNeg) ≤ 0 → (vp_in x3 1024 ∧ (((M.1 7 x3.toNatClampNeg) ≤ x2 → LX10_longest_19 X Q x2 (x3 + (1 : Int32)) M) ∧ (¬ (M.1 7 x3.toNatClampNeg) ≤ x2 → (vp_in x3 1024 ∧ LX10_longest_19 X Q (M.1 7 x3.toNatClampNeg) (x3 + (1 : Int32)) M)))))))))) : LX10_longest_19 X Q x2 x3 M := by
  show Z SM X 5 4 Q 19 [(0, .ref (X.1.2.1 0)), (2, .int x2), (3, .int x3)] [] M
  refine z_iload_n hX dX10_longest_19 rfl 2 rfl ?_
  refine z_aload_n hX dX10_longest_20 rfl 0 rfl ?_
  obtain ⟨r1, c9, h⟩ := h
  refine mcX10_105 hX dX10_longest_21 (by decide) (Nat.le_of_ble_eq_true rfl) c9 ?_
  refine z_icmp_gt hX 63 dX10_longest_24 (by decide) (fun c0 => ?_) (fun c0 => ?_)
  · replace h := h.1 c0
    refine z_iload_n hX dX10_longest_63 rfl 1 rfl ?_
    exact z_iret hX dX10_longest_64 h
  · replace h := h.2 c0
    refine z_aload_n hX dX10_longest_27 rfl 0 rfl ?_
    refine gfX10_29 hX dX10_longest_28 ?_
    refine z_iload_n hX dX10_longest_31 rfl 2 rfl ?_
    refine z_iald hX 6 rfl h.1 dX10_longest_32 ?_
    replace h := h.2
    refine z_if_le hX 55 dX10_longest_33 (by decide) (fun c0 => ?_) (fun c0 => ?_)
    · replace h := h.1 c0
      refine z_iload_n hX dX10_longest_55 rfl 1 rfl ?_
      refine z_istore_n hX dX10_longest_56 rfl (by decide) [(2, .int x2), (0, .ref (X.1.2.1 0)), (3, .int x3)] rfl ?_
      refine z_iinc (v := x3 + (1 : Int32)) hX dX10_longest_57 2 rfl rfl (by decide) [(3, .int (x3 + (1 : Int32))), (2, .int x2), (0, .ref (X.1.2.1 0))] rfl ?_
      refine z_goto hX 19 dX10_longest_60 (by decide) ?_
      exact z_sub [2, 1, 0] rfl h
    · replace h := h.2 c0
      refine z_aload_n hX dX10_longest_36 rfl 0 rfl ?_
      refine gfX10_32 hX dX10_longest_37 ?_
      refine z_iload_n hX dX10_longest_40 rfl 2 rfl ?_
      refine z_iald hX 7 rfl h.1 dX10_longest_41 ?_
      replace h := h.2
      refine z_iload_n hX dX10_longest_42 rfl 1 rfl ?_
      refine z_icmp_le hX 55 dX10_longest_43 (by decide) (fun c0 => ?_) (fun c0 => ?_)
      · replace h := h.1 c0
        refine z_iload_n hX dX10_longest_55 rfl 1 rfl ?_
        refine z_istore_n hX dX10_longest_56 rfl (by decide) [(2, .int x2), (0, .ref (X.1.2.1 0)), (3, .int x3)] rfl ?_
        refine z_iinc (v := x3 + (1 : Int32)) hX dX10_longest_57 2 rfl rfl (by decide) [(3, .int (x3 + (1 : Int32))), (2, .int x2), (0, .ref (X.1.2.1 0))] rfl ?_
        refine z_goto hX 19 dX10_longest_60 (by decide) ?_
        exact z_sub [2, 1, 0] rfl h
      · replace h := h.2 c0
        refine z_aload_n hX dX10_longest_46 rfl 0 rfl ?_
        refine gfX10_32 hX dX10_longest_47 ?_
        refine z_iload_n hX dX10_longest_50 rfl 2 rfl ?_
        refine z_iald hX 7 rfl h.1 dX10_longest_51 ?_
        replace h := h.2
        refine z_goto hX 56 dX10_longest_52 (by decide) ?_
        refine z_istore_n hX dX10_longest_56 rfl (by decide) [(2, .int (M.1 7 x3.toNatClampNeg)), (0, .ref (X.1.2.1 0)), (3, .int x3)] rfl ?_
        refine z_iinc (v := x3 + (1 : Int32)) hX dX10_longest_57 2 rfl rfl (by decide) [(3, .int (x3 + (1 : Int32))), (2, .int (M.1 7 x3.toNatClampNeg)), (0, .ref (X.1.2.1 0))] rfl ?_
        refine z_goto hX 19 dX10_longest_60 (by decide) ?_
        exact z_sub [2, 1, 0] rfl h
set_option maxRecDepth 100000 in
set_option maxHeartbeats 4000000 in
theorem EX10_isRest {E : ET} {Q : Option Value → Mem → Prop} {x1 : Int32} {M : Mem} (h : ∃ (r1 : Int32), CX10_calmOf E [.ref (E.2.1 0), .int x1] M (z_is (some (.int r1)) M) ∧ (∃ (r2 : Int32), CX10_all E [.ref (E.2.1 0)] M (z_is (some (.int r2)) M) ∧ ((¬ r1 = r2 → Q (some (.int 0)) M) ∧ (r1 = r2 → Q (some (.int 1)) M)))) : CX10_isRest E [.ref (E.2.1 0), .int x1] M Q := by
  refine z_entry (by decide +kernel) (Nat.le_of_ble_eq_true rfl) (fun X hE hX => ?_)
  subst hE
  show Z SM X 3 2 Q 0 [(0, .ref (X.1.2.1 0)), (1, .int x1)] [] M
  refine z_aload_n hX dX10_isRest_0 rfl 0 rfl ?_
  refine z_iload_n hX dX10_isRest_1 rfl 1 rfl ?_
  obtain ⟨r1, c9, h⟩ := h
  refine mcX10_93 hX dX10_isRest_2 (by decide) (Nat.le_of_ble_eq_true rfl) c9 ?_
  refine z_aload_n hX dX10_isRest_5 rfl 0 rfl ?_
  obtain ⟨r2, c9, h⟩ := h
  refine mcX10_105 hX dX10_isRest_6 (by decide) (Nat.le_of_ble_eq_true rfl) c9 ?_
  refine z_icmp_ne hX 16 dX10_isRest_9 (by decide) (fun c0 => ?_) (fun c0 => ?_)
  · replace h := h.1 c0
    refine z_iconst (v := 0) hX dX10_isRest_16 (by decide) ?_
    exact z_zret hX dX10_isRest_17 (Or.inl rfl) h
  · replace h := h.2 c0
    refine z_iconst (v := 1) hX dX10_isRest_12 (by decide) ?_
    refine z_goto hX 17 dX10_isRest_13 (by decide) ?_
    exact z_zret hX dX10_isRest_17 (Or.inr rfl) h
abbrev LX10_rests_4 (X : XT) (Q : Option Value → Mem → Prop) (x1 : Int32) (x2 : Int32) (M : Mem) : Prop := Z SM X 4 3 Q 4 [(0, .ref (X.1.2.1 0)), (1, .int x1), (2, .int x2)] [] M
set_option maxRecDepth 100000 in
set_option maxHeartbeats 4000000 in
theorem EX10_rests {E : ET} {Q : Option Value → Mem → Prop} {M : Mem} (h : ∀ X : XT, X.1 = E → KX10_rests X → LX10_rests_4 X Q (0 : Int32) (0 : Int32) M) : CX10_rests E [.ref (E.2.1 0)] M Q := by
  refine z_entry (by decide +kernel) (Nat.le_of_ble_eq_true rfl) (fun X hE hX => ?_)
  subst hE
  replace h := h X rfl hX
  show Z SM X 4 3 Q 0 [(0, .ref (X.1.2.1 0))] [] M
  refine z_iconst (v := 0) hX dX10_rests_0 (by decide) ?_
  refine z_istore_n hX dX10_rests_1 rfl (by decide) [(1, .int (0 : Int32)), (0, .ref (X.1.2.1 0))] rfl ?_
  refine z_iconst (v := 0) hX dX10_rests_2 (by decide) ?_
  refine z_istore_n hX dX10_rests_3 rfl (by decide) [(2, .int (0 : Int32)), (1, .int (0 : Int32)), (0, .ref (X.1.2.1 0))] rfl ?_
  exact z_sub [2, 1, 0] rfl h
set_option maxRecDepth 100000 in
set_option maxHeartbeats 4000000 in
theorem BX10_rests_4 {X : XT} {Q : Option Value → Mem → Prop} (hX : KX10_rests X) {x1 x2 : Int32} {M : Mem} (h : ∃ (r1 : Int32), CX10_all X.1 [.ref (X.1.2.1 0)] M (z_is (some (.int r1)) M) ∧ ((r1 < x2 → Q (some (.int x1)) M) ∧ (¬ r1 < x2 → (∃ (r2 : Int32), CX10_isRest X.1 [.ref (X.1.2.1 0), .int x2] M (z_is (some (.int r2)) M) ∧ ((r2 = 0 → LX10_rests_4 X Q (x1 + (0 : Int32)) (x2 + (1 : Int32)) M) ∧ (¬ r2 = 0 → LX10_rests_4 X Q (x1 + (1 : Int32)) (x2 + (1 : Int32)) M)))))) : LX10_rests_4 X Q x1 x2 M := by
  show Z SM X 4 3 Q 4 [(0, .ref (X.1.2.1 0)), (1, .int x1), (2, .int x2)] [] M
  refine z_iload_n hX dX10_rests_4 rfl 2 rfl ?_
  refine z_aload_n hX dX10_rests_5 rfl 0 rfl ?_
  obtain ⟨r1, c9, h⟩ := h
  refine mcX10_105 hX dX10_rests_6 (by decide) (Nat.le_of_ble_eq_true rfl) c9 ?_
  refine z_icmp_gt hX 34 dX10_rests_9 (by decide) (fun c0 => ?_) (fun c0 => ?_)
  · replace h := h.1 c0
    refine z_iload_n hX dX10_rests_34 rfl 1 rfl ?_
    exact z_iret hX dX10_rests_35 h
  · replace h := h.2 c0
    refine z_iload_n hX dX10_rests_12 rfl 1 rfl ?_
    refine z_aload_n hX dX10_rests_13 rfl 0 rfl ?_
    refine z_iload_n hX dX10_rests_14 rfl 2 rfl ?_
    obtain ⟨r2, c9, h⟩ := h
    refine mcX10_133 hX dX10_rests_15 (by decide) (Nat.le_of_ble_eq_true rfl) c9 ?_
    refine z_if_eq hX 25 dX10_rests_18 (by decide) (fun c0 => ?_) (fun c0 => ?_)
    · replace h := h.1 c0
      refine z_iconst (v := 0) hX dX10_rests_25 (by decide) ?_
      refine z_iadd hX dX10_rests_26 ?_
      refine z_istore_n hX dX10_rests_27 rfl (by decide) [(1, .int (x1 + (0 : Int32))), (0, .ref (X.1.2.1 0)), (2, .int x2)] rfl ?_
      refine z_iinc (v := x2 + (1 : Int32)) hX dX10_rests_28 2 rfl rfl (by decide) [(2, .int (x2 + (1 : Int32))), (1, .int (x1 + (0 : Int32))), (0, .ref (X.1.2.1 0))] rfl ?_
      refine z_goto hX 4 dX10_rests_31 (by decide) ?_
      exact z_sub [2, 1, 0] rfl h
    · replace h := h.2 c0
      refine z_iconst (v := 1) hX dX10_rests_21 (by decide) ?_
      refine z_goto hX 26 dX10_rests_22 (by decide) ?_
      refine z_iadd hX dX10_rests_26 ?_
      refine z_istore_n hX dX10_rests_27 rfl (by decide) [(1, .int (x1 + (1 : Int32))), (0, .ref (X.1.2.1 0)), (2, .int x2)] rfl ?_
      refine z_iinc (v := x2 + (1 : Int32)) hX dX10_rests_28 2 rfl rfl (by decide) [(2, .int (x2 + (1 : Int32))), (1, .int (x1 + (1 : Int32))), (0, .ref (X.1.2.1 0))] rfl ?_
      refine z_goto hX 4 dX10_rests_31 (by decide) ?_
      exact z_sub [2, 1, 0] rfl h
abbrev LX10_restOf_4 (X : XT) (Q : Option Value → Mem → Prop) (x1 : Int32) (x2 : Int32) (x3 : Int32) (M : Mem) : Prop := Z SM X 4 4 Q 4 [(0, .ref (X.1.2.1 0)), (1, .int x1), (2, .int x2), (3, .int x3)] [] M
set_option maxRecDepth 100000 in
set_option maxHeartbeats 4000000 in
theorem EX10_restOf {E : ET} {Q : Option Value → Mem → Prop} {x1 : Int32} {M : Mem} (h : ∀ X : XT, X.1 = E → KX10_restOf X → LX10_restOf_4 X Q x1 (0 : Int32) (0 : Int32) M) : CX10_restOf E [.ref (E.2.1 0), .int x1] M Q := by
  refine z_entry (by decide +kernel) (Nat.le_of_ble_eq_true rfl) (fun X hE hX => ?_)
  subst hE
  replace h := h X rfl hX
  show Z SM X 4 4 Q 0 [(0, .ref (X.1.2.1 0)), (1, .int x1)] [] M
  refine z_iconst (v := 0) hX dX10_restOf_0 (by decide) ?_
  refine z_istore_n hX dX10_restOf_1 rfl (by decide) [(2, .int (0 : Int32)), (0, .ref (X.1.2.1 0)), (1, .int x1)] rfl ?_
  refine z_iconst (v := 0) hX dX10_restOf_2 (by decide) ?_
  refine z_istore_n hX dX10_restOf_3 rfl (by decide) [(3, .int (0 : Int32)), (2, .int (0 : Int32)), (0, .ref (X.1.2.1 0)), (1, .int x1)] rfl ?_
  exact z_sub [2, 3, 1, 0] rfl h
set_option maxRecDepth 100000 in
set_option maxHeartbeats 4000000 in
theorem BX10_restOf_4 {X : XT} {Q : Option Value → Mem → Prop} (hX : KX10_restOf X) {x1 x2 x3 : Int32} {M : Mem} (h : ∃ (r1 : Int32), CX10_all X.1 [.ref (X.1.2.1 0)] M (z_is (some (.int r1)) M) ∧ ((r1 < x3 → Q (some (.int (-1 : Int32))) M) ∧ (¬ r1 < x3 → ((x1 < 0 → Q (some (.int (-1 : Int32))) M) ∧ (¬ x1 < 0 → (∃ (r2 : Int32), CX10_isRest X.1 [.ref (X.1.2.1 0), .int x3] M (z_is (some (.int r2)) M) ∧ ((r2 = 0 → LX10_restOf_4 X Q x1 x2 (x3 + (1 : Int32)) M) ∧ (¬ r2 = 0 → ((¬ x2 = x1 → LX10_restOf_4 X Q x1 (x2 + (1 : Int32)) (x3 + (1 : Int32)) M) ∧ (x2 = x1 → Q (some (.int x3)) M)))))))))) : LX10_restOf_4 X Q x1 x2 x3 M := by
  show Z SM X 4 4 Q 4 [(0, .ref (X.1.2.1 0)), (1, .int x1), (2, .int x2), (3, .int x3)] [] M
  refine z_iload_n hX dX10_restOf_4 rfl 3 rfl ?_
  refine z_aload_n hX dX10_restOf_5 rfl 0 rfl ?_
  obtain ⟨r1, c9, h⟩ := h
  refine mcX10_105 hX dX10_restOf_6 (by decide) (Nat.le_of_ble_eq_true rfl) c9 ?_
  refine z_icmp_gt hX 40 dX10_restOf_9 (by decide) (fun c0 => ?_) (fun c0 => ?_)
  · replace h := h.1 c0
    refine z_iconst (v := -1) hX dX10_restOf_40 (by decide) ?_
    exact z_iret hX dX10_restOf_41 h
  · replace h := h.2 c0
    refine z_iload_n hX dX10_restOf_12 rfl 1 rfl ?_
    refine z_if_lt hX 40 dX10_restOf_13 (by decide) (fun c0 => ?_) (fun c0 => ?_)
    · replace h := h.1 c0
      refine z_iconst (v := -1) hX dX10_restOf_40 (by decide) ?_
      exact z_iret hX dX10_restOf_41 h
    · replace h := h.2 c0
      refine z_aload_n hX dX10_restOf_16 rfl 0 rfl ?_
      refine z_iload_n hX dX10_restOf_17 rfl 3 rfl ?_
      obtain ⟨r2, c9, h⟩ := h
      refine mcX10_133 hX dX10_restOf_18 (by decide) (Nat.le_of_ble_eq_true rfl) c9 ?_
      refine z_if_eq hX 34 dX10_restOf_21 (by decide) (fun c0 => ?_) (fun c0 => ?_)
      · replace h := h.1 c0
        refine z_iinc (v := x3 + (1 : Int32)) hX dX10_restOf_34 3 rfl rfl (by decide) [(3, .int (x3 + (1 : Int32))), (0, .ref (X.1.2.1 0)), (1, .int x1), (2, .int x2)] rfl ?_
        refine z_goto hX 4 dX10_restOf_37 (by decide) ?_
        exact z_sub [1, 2, 3, 0] rfl h
      · replace h := h.2 c0
        refine z_iload_n hX dX10_restOf_24 rfl 2 rfl ?_
        refine z_iload_n hX dX10_restOf_25 rfl 1 rfl ?_
        refine z_icmp_ne hX 31 dX10_restOf_26 (by decide) (fun c0 => ?_) (fun c0 => ?_)
        · replace h := h.1 c0
          refine z_iinc (v := x2 + (1 : Int32)) hX dX10_restOf_31 2 rfl rfl (by decide) [(2, .int (x2 + (1 : Int32))), (0, .ref (X.1.2.1 0)), (1, .int x1), (3, .int x3)] rfl ?_
          refine z_iinc (v := x3 + (1 : Int32)) hX dX10_restOf_34 3 rfl rfl (by decide) [(3, .int (x3 + (1 : Int32))), (2, .int (x2 + (1 : Int32))), (0, .ref (X.1.2.1 0)), (1, .int x1)] rfl ?_
          refine z_goto hX 4 dX10_restOf_37 (by decide) ?_
          exact z_sub [2, 3, 1, 0] rfl h
        · replace h := h.2 c0
          refine z_iload_n hX dX10_restOf_29 rfl 3 rfl ?_
          exact z_iret hX dX10_restOf_30 h
set_option maxRecDepth 100000 in
set_option maxHeartbeats 4000000 in
theorem EX10_rest {E : ET} {Q : Option Value → Mem → Prop} {x1 : Int32} {M : Mem} (h : ∃ (r1 : Int32), CX10_restOf E [.ref (E.2.1 0), .int x1] M (z_is (some (.int r1)) M) ∧ Q (some (.int r1)) M) : CX10_rest E [.ref (E.2.1 0), .int x1] M Q := by
  refine z_entry (by decide +kernel) (Nat.le_of_ble_eq_true rfl) (fun X hE hX => ?_)
  subst hE
  show Z SM X 5 2 Q 0 [(0, .ref (X.1.2.1 0)), (1, .int x1)] [] M
  refine z_aload_n hX dX10_rest_0 rfl 0 rfl ?_
  refine z_iload_n hX dX10_rest_1 rfl 1 rfl ?_
  obtain ⟨r1, c9, h⟩ := h
  refine mcX10_136 hX dX10_rest_2 (by decide) (Nat.le_of_ble_eq_true rfl) c9 ?_
  exact z_iret hX dX10_rest_5 h
abbrev LX10_isEven_4 (X : XT) (Q : Option Value → Mem → Prop) (x1 : Int32) (x2 : Int32) (M : Mem) : Prop := Z SM X 0 5 Q 4 [(0, .ref (X.1.2.1 0)), (1, .int x1), (2, .int x2)] [] M
abbrev LX10_isEven_34 (X : XT) (Q : Option Value → Mem → Prop) (x1 : Int32) (x2 : Int32) (x3 : Int32) (M : Mem) : Prop := Z SM X 0 5 Q 34 [(0, .ref (X.1.2.1 0)), (1, .int x1), (2, .int x2), (3, .int x3)] [] M
set_option maxRecDepth 100000 in
set_option maxHeartbeats 4000000 in
theorem EX10_isEven {E : ET} {Q : Option Value → Mem → Prop} {M : Mem} (h : ∀ X : XT, X.1 = E → KX10_isEven X → LX10_isEven_4 X Q (1 : Int32) (0 : Int32) M) : CX10_isEven E [.ref (E.2.1 0)] M Q := by
  refine z_entry (by decide +kernel) (Nat.le_of_ble_eq_true rfl) (fun X hE hX => ?_)
  subst hE
  replace h := h X rfl hX
  show Z SM X 0 5 Q 0 [(0, .ref (X.1.2.1 0))] [] M
  refine z_iconst (v := 1) hX dX10_isEven_0 (by decide) ?_
  refine z_istore_n hX dX10_isEven_1 rfl (by decide) [(1, .int (1 : Int32)), (0, .ref (X.1.2.1 0))] rfl ?_
  refine z_iconst (v := 0) hX dX10_isEven_2 (by decide) ?_
  refine z_istore_n hX dX10_isEven_3 rfl (by decide) [(2, .int (0 : Int32)), (1, .int (1 : Int32)), (0, .ref (X.1.2.1 0))] rfl ?_
  exact z_sub [2, 1, 0] rfl h
set_option maxRecDepth 100000 in
set_option maxHeartbeats 4000000 in
theorem BX10_isEven_4 {X : XT} {Q : Option Value → Mem → Prop} (hX : KX10_isEven X) {x1 x2 : Int32} {M : Mem} (h : (((M.1 0 0) ≤ x2 → ((x1 = 0 ∨ x1 = 1) ∧ Q (some (.int x1)) M)) ∧ (¬ (M.1 0 0) ≤ x2 → ((x1 = 0 → LX10_isEven_34 X Q (0 : Int32) x2 (0 : Int32) M) ∧ (¬ x1 = 0 → (vp_in x2 10 ∧ (((M.1 2 x2.toNatClampNeg) = (3 : Int32) → LX10_isEven_34 X Q (0 : Int32) x2 (0 : Int32) M) ∧ (¬ (M.1 2 x2.toNatClampNeg) = (3 : Int32) → LX10_isEven_34 X Q (1 : Int32) x2 (0 : Int32) M)))))))) : LX10_isEven_4 X Q x1 x2 M := by
  show Z SM X 0 5 Q 4 [(0, .ref (X.1.2.1 0)), (1, .int x1), (2, .int x2)] [] M
  refine z_iload_n hX dX10_isEven_4 rfl 2 rfl ?_
  refine z_aload_n hX dX10_isEven_5 rfl 0 rfl ?_
  refine gfX10_7 hX dX10_isEven_6 ?_
  refine z_icmp_ge hX 148 dX10_isEven_9 (by decide) (fun c0 => ?_) (fun c0 => ?_)
  · replace h := h.1 c0
    refine z_iload_n hX dX10_isEven_148 rfl 1 rfl ?_
    exact z_zret hX dX10_isEven_149 h.1 h.2
  · replace h := h.2 c0
    refine z_iload_n hX dX10_isEven_12 rfl 1 rfl ?_
    refine z_if_eq hX 30 dX10_isEven_13 (by decide) (fun c0 => ?_) (fun c0 => ?_)
    · replace h := h.1 c0
      refine z_iconst (v := 0) hX dX10_isEven_30 (by decide) ?_
      refine z_istore_n hX dX10_isEven_31 rfl (by decide) [(1, .int (0 : Int32)), (0, .ref (X.1.2.1 0)), (2, .int x2)] rfl ?_
      refine z_iconst (v := 0) hX dX10_isEven_32 (by decide) ?_
      refine z_istore_n hX dX10_isEven_33 rfl (by decide) [(3, .int (0 : Int32)), (1, .int (0 : Int32)), (0, .ref (X.1.2.1 0)), (2, .int x2)] rfl ?_
      exact z_sub [2, 1, 3, 0] rfl h
    · replace h := h.2 c0
      refine z_aload_n hX dX10_isEven_16 rfl 0 rfl ?_
      refine gfX10_17 hX dX10_isEven_17 ?_
      refine z_iload_n hX dX10_isEven_20 rfl 2 rfl ?_
      refine z_iald hX 2 rfl h.1 dX10_isEven_21 ?_
      replace h := h.2
      refine z_iconst (v := 3) hX dX10_isEven_22 (by decide) ?_
      refine z_icmp_eq hX 30 dX10_isEven_23 (by decide) (fun c0 => ?_) (fun c0 => ?_)
      · replace h := h.1 c0
        refine z_iconst (v := 0) hX dX10_isEven_30 (by decide) ?_
        refine z_istore_n hX dX10_isEven_31 rfl (by decide) [(1, .int (0 : Int32)), (0, .ref (X.1.2.1 0)), (2, .int x2)] rfl ?_
        refine z_iconst (v := 0) hX dX10_isEven_32 (by decide) ?_
        refine z_istore_n hX dX10_isEven_33 rfl (by decide) [(3, .int (0 : Int32)), (1, .int (0 : Int32)), (0, .ref (X.1.2.1 0)), (2, .int x2)] rfl ?_
        exact z_sub [2, 1, 3, 0] rfl h
      · replace h := h.2 c0
        refine z_iconst (v := 1) hX dX10_isEven_26 (by decide) ?_
        refine z_goto hX 31 dX10_isEven_27 (by decide) ?_
        refine z_istore_n hX dX10_isEven_31 rfl (by decide) [(1, .int (1 : Int32)), (0, .ref (X.1.2.1 0)), (2, .int x2)] rfl ?_
        refine z_iconst (v := 0) hX dX10_isEven_32 (by decide) ?_
        refine z_istore_n hX dX10_isEven_33 rfl (by decide) [(3, .int (0 : Int32)), (1, .int (1 : Int32)), (0, .ref (X.1.2.1 0)), (2, .int x2)] rfl ?_
        exact z_sub [2, 1, 3, 0] rfl h
set_option maxRecDepth 100000 in
set_option maxHeartbeats 4000000 in
theorem BX10_isEven_34 {X : XT} {Q : Option Value → Mem → Prop} (hX : KX10_isEven X) {x1 x2 x3 : Int32} {M : Mem} (h : (((M.1 0 0) ≤ x3 → LX10_isEven_4 X Q x1 (x2 + (1 : Int32)) M) ∧ (¬ (M.1 0 0) ≤ x3 → (vp_in x2 10 ∧ ((¬ (M.1 2 x2.toNatClampNeg) = 0 → ((x1 = 0 → LX10_isEven_34 X Q (0 : Int32) x2 (x3 + (1 : Int32)) M) ∧ (¬ x1 = 0 → (vp_in (((10 : Int32) * x2) + x3) 100 ∧ (vp_in (((10 : Int32) * x3) + x2) 100 ∧ ((¬ (M.1 1 (((10 : Int32) * x2) + x3).toNatClampNeg) = (M.1 1 (((10 : Int32) * x3) + x2).toNatClampNeg) → LX10_isEven_34 X Q (0 : Int32) x2 (x3 + (1 : Int32)) M) ∧ ((M.1 1 (((10 : Int32) * x2) + x3).toNatClampNeg) = (M.1 1 (((10 : Int32) * x3) + x2).toNatClampNeg) → ((¬ (0 : Int32) = 0 → LX10_isEven_34 X Q (0 : Int32) x2 (x3 + (1 : Int32)) M) ∧ ((0 : Int32) = 0 → LX10_isEven_34 X Q (1 : Int32) x2 (x3 + (1 : Int32)) M))))))))) ∧ ((M.1 2 x2.toNatClampNeg) = 0 → (vp_in x3 10 ∧ ((¬ (M.1 2 x3.toNatClampNeg) = (1 : Int32) → ((x1 = 0 → LX10_isEven_34 X Q (0 : Int32) x2 (x3 + (1 : Int32)) M) ∧ (¬ x1 = 0 → (vp_in (((10 : Int32) * x2) + x3) 100 ∧ (vp_in (((10 : Int32) * x3) + x2) 100 ∧ ((¬ (M.1 1 (((10 : Int32) * x2) + x3).toNatClampNeg) = (M.1 1 (((10 : Int32) * x3) + x2).toNatClampNeg) → LX10_isEven_34 X Q (0 : Int32) x2 (x3 + (1 : Int32)) M) ∧ ((M.1 1 (((10 : Int32) * x2) + x3).toNatClampNeg) = (M.1 1 (((10 : Int32) * x3) + x2).toNatClampNeg) → ((¬ (0 : Int32) = 0 → LX10_isEven_34 X Q (0 : Int32) x2 (x3 + (1 : Int32)) M) ∧ ((0 : Int32) = 0 → LX10_isEven_34 X Q (1 : Int32) x2 (x3 + (1 : Int32)) M))))))))) ∧ ((M.1 2 x3.toNatClampNeg) = (1 : Int32) → (vp_in (((10 : Int32) * x2) + x3) 100 ∧ ((0 < (M.1 1 (((10 : Int32) * x2) + x3).toNatClampNeg) → ((x1 = 0 → LX10_isEven_34 X Q (0 : Int32) x2 (x3 + (1 : Int32)) M) ∧ (¬ x1 = 0 → (vp_in (((10 : Int32) * x2) + x3) 100 ∧ (vp_in (((10 : Int32) * x3) + x2) 100 ∧ ((¬ (M.1 1 (((10 : Int32) * x2) + x3).toNatClampNeg) = (M.1 1 (((10 : Int32) * x3) + x2).toNatClampNeg) → LX10_isEven_34 X Q (0 : Int32) x2 (x3 + (1 : Int32)) M) ∧ ((M.1 1 (((10 : Int32) * x2) + x3).toNatClampNeg) = (M.1 1 (((10 : Int32) * x3) + x2).toNatClampNeg) → ((¬ (1 : Int32) = 0 → LX10_isEven_34 X Q (0 : Int32) x2 (x3 + (1 : Int32)) M) ∧ ((1 : Int32) = 0 → LX10_isEven_34 X Q (1 : Int32) x2 (x3 + (1 : Int32)) M))))))))) ∧ (¬ 0 < (M.1 1 (((10 : Int32) * x2) + x3).toNatClampNeg) → (vp_in (((10 : Int32) * x3) + x2) 100 ∧ (((M.1 1 (((10 : Int32) * x3) + x2).toNatClampNeg) ≤ 0 → ((x1 = 0 → LX10_isEven_34 X Q (0 : Int32) x2 (x3 + (1 : Int32)) M) ∧ (¬ x1 = 0 → (vp_in (((10 : Int32) * x2) + x3) 100 ∧ (vp_in (((10 : Int32) * x3) + x2) 100 ∧ ((¬ (M.1 1 (((10 : Int32) * x2) + x3).toNatClampNeg) = (M.1 1 (((10 : Int32) * x3) + x2).toNatClampNeg) → LX10_isEven_34 X Q (0 : Int32) x2 (x3 + (1 : Int32)) M) ∧ ((M.1 1 (((10 : Int32) * x2) + x3).toNatClampNeg) = (M.1 1 (((10 : Int32) * x3) + x2).toNatClampNeg) → ((¬ (0 : Int32) = 0 → LX10_isEven_34 X Q (0 : Int32) x2 (x3 + (1 : Int32)) M) ∧ ((0 : Int32) = 0 → LX10_isEven_34 X Q (1 : Int32) x2 (x3 + (1 : Int32)) M))))))))) ∧ (¬ (M.1 1 (((10 : Int32) * x3) + x2).toNatClampNeg) ≤ 0 → ((x1 = 0 → LX10_isEven_34 X Q (0 : Int32) x2 (x3 + (1 : Int32)) M) ∧ (¬ x1 = 0 → (vp_in (((10 : Int32) * x2) + x3) 100 ∧ (vp_in (((10 : Int32) * x3) + x2) 100 ∧ ((¬ (M.1 1 (((10 : Int32) * x2) + x3).toNatClampNeg) = (M.1 1 (((10 : Int32) * x3) + x2).toNatClampNeg) → LX10_isEven_34 X Q (0 : Int32) x2 (x3 + (1 : Int32)) M) ∧ ((M.1 1 (((10 : Int32) * x2) + x3).toNatClampNeg) = (M.1 1 (((10 : Int32) * x3) + x2).toNatClampNeg) → ((¬ (1 : Int32) = 0 → LX10_isEven_34 X Q (0 : Int32) x2 (x3 + (1 : Int32)) M) ∧ ((1 : Int32) = 0 → LX10_isEven_34 X Q (1 : Int32) x2 (x3 + (1 : Int32)) M))))))))))))))))))))))) : LX10_isEven_34 X Q x1 x2 x3 M := by
  show Z SM X 0 5 Q 34 [(0, .ref (X.1.2.1 0)), (1, .int x1), (2, .int x2), (3, .int x3)] [] M
  refine z_iload_n hX dX10_isEven_34 rfl 3 rfl ?_
  refine z_aload_n hX dX10_isEven_35 rfl 0 rfl ?_
  refine gfX10_7 hX dX10_isEven_36 ?_
  refine z_icmp_ge hX 142 dX10_isEven_39 (by decide) (fun c0 => ?_) (fun c0 => ?_)
  · replace h := h.1 c0
    refine z_iinc (v := x2 + (1 : Int32)) hX dX10_isEven_142 2 rfl rfl (by decide) [(2, .int (x2 + (1 : Int32))), (0, .ref (X.1.2.1 0)), (1, .int x1), (3, .int x3)] rfl ?_
    refine z_goto hX 4 dX10_isEven_145 (by decide) ?_
    exact z_sub [1, 2, 0] rfl h
  · replace h := h.2 c0
    refine z_aload_n hX dX10_isEven_42 rfl 0 rfl ?_
    refine gfX10_17 hX dX10_isEven_43 ?_
    refine z_iload_n hX dX10_isEven_46 rfl 2 rfl ?_
    refine z_iald hX 2 rfl h.1 dX10_isEven_47 ?_
    replace h := h.2
    refine z_if_ne hX 93 dX10_isEven_48 (by decide) (fun c0 => ?_) (fun c0 => ?_)
    · replace h := h.1 c0
      refine z_iconst (v := 0) hX dX10_isEven_93 (by decide) ?_
      refine z_istore hX dX10_isEven_94 (by decide) [(4, .int (0 : Int32)), (0, .ref (X.1.2.1 0)), (1, .int x1), (2, .int x2), (3, .int x3)] rfl ?_
      refine z_iload_n hX dX10_isEven_96 rfl 2 rfl ?_
      refine z_if_eq hX 134 dX10_isEven_97 (by decide) (fun c0 => ?_) (fun c0 => ?_)
      · replace h := h.1 c0
        refine z_iconst (v := 0) hX dX10_isEven_134 (by decide) ?_
        refine z_istore_n hX dX10_isEven_135 rfl (by decide) [(1, .int (0 : Int32)), (4, .int (0 : Int32)), (0, .ref (X.1.2.1 0)), (2, .int x2), (3, .int x3)] rfl ?_
        refine z_iinc (v := x3 + (1 : Int32)) hX dX10_isEven_136 4 rfl rfl (by decide) [(3, .int (x3 + (1 : Int32))), (1, .int (0 : Int32)), (4, .int (0 : Int32)), (0, .ref (X.1.2.1 0)), (2, .int x2)] rfl ?_
        refine z_goto hX 34 dX10_isEven_139 (by decide) ?_
        exact z_sub [3, 1, 4, 0] rfl h
      · replace h := h.2 c0
        refine z_aload_n hX dX10_isEven_100 rfl 1 rfl ?_
        refine gfX10_13 hX dX10_isEven_101 ?_
        refine z_bipush (v := 10) hX dX10_isEven_104 (by decide) ?_
        refine z_iload_n hX dX10_isEven_106 rfl 3 rfl ?_
        refine z_imul hX dX10_isEven_107 ?_
        refine z_iload_n hX dX10_isEven_108 rfl 4 rfl ?_
        refine z_iadd hX dX10_isEven_109 ?_
        refine z_iald hX 1 rfl h.1 dX10_isEven_110 ?_
        replace h := h.2
        refine z_aload_n hX dX10_isEven_111 rfl 1 rfl ?_
        refine gfX10_13 hX dX10_isEven_112 ?_
        refine z_bipush (v := 10) hX dX10_isEven_115 (by decide) ?_
        refine z_iload_n hX dX10_isEven_117 rfl 4 rfl ?_
        refine z_imul hX dX10_isEven_118 ?_
        refine z_iload_n hX dX10_isEven_119 rfl 3 rfl ?_
        refine z_iadd hX dX10_isEven_120 ?_
        refine z_iald hX 1 rfl h.1 dX10_isEven_121 ?_
        replace h := h.2
        refine z_icmp_ne hX 134 dX10_isEven_122 (by decide) (fun c0 => ?_) (fun c0 => ?_)
        · replace h := h.1 c0
          refine z_iconst (v := 0) hX dX10_isEven_134 (by decide) ?_
          refine z_istore_n hX dX10_isEven_135 rfl (by decide) [(1, .int (0 : Int32)), (4, .int (0 : Int32)), (0, .ref (X.1.2.1 0)), (2, .int x2), (3, .int x3)] rfl ?_
          refine z_iinc (v := x3 + (1 : Int32)) hX dX10_isEven_136 4 rfl rfl (by decide) [(3, .int (x3 + (1 : Int32))), (1, .int (0 : Int32)), (4, .int (0 : Int32)), (0, .ref (X.1.2.1 0)), (2, .int x2)] rfl ?_
          refine z_goto hX 34 dX10_isEven_139 (by decide) ?_
          exact z_sub [3, 1, 4, 0] rfl h
        · replace h := h.2 c0
          refine z_iload hX dX10_isEven_125 0 rfl ?_
          refine z_if_ne hX 134 dX10_isEven_127 (by decide) (fun c0 => ?_) (fun c0 => ?_)
          · replace h := h.1 c0
            refine z_iconst (v := 0) hX dX10_isEven_134 (by decide) ?_
            refine z_istore_n hX dX10_isEven_135 rfl (by decide) [(1, .int (0 : Int32)), (4, .int (0 : Int32)), (0, .ref (X.1.2.1 0)), (2, .int x2), (3, .int x3)] rfl ?_
            refine z_iinc (v := x3 + (1 : Int32)) hX dX10_isEven_136 4 rfl rfl (by decide) [(3, .int (x3 + (1 : Int32))), (1, .int (0 : Int32)), (4, .int (0 : Int32)), (0, .ref (X.1.2.1 0)), (2, .int x2)] rfl ?_
            refine z_goto hX 34 dX10_isEven_139 (by decide) ?_
            exact z_sub [3, 1, 4, 0] rfl h
          · replace h := h.2 c0
            refine z_iconst (v := 1) hX dX10_isEven_130 (by decide) ?_
            refine z_goto hX 135 dX10_isEven_131 (by decide) ?_
            refine z_istore_n hX dX10_isEven_135 rfl (by decide) [(1, .int (1 : Int32)), (4, .int (0 : Int32)), (0, .ref (X.1.2.1 0)), (2, .int x2), (3, .int x3)] rfl ?_
            refine z_iinc (v := x3 + (1 : Int32)) hX dX10_isEven_136 4 rfl rfl (by decide) [(3, .int (x3 + (1 : Int32))), (1, .int (1 : Int32)), (4, .int (0 : Int32)), (0, .ref (X.1.2.1 0)), (2, .int x2)] rfl ?_
            refine z_goto hX 34 dX10_isEven_139 (by decide) ?_
            exact z_sub [3, 1, 4, 0] rfl h
    · replace h := h.2 c0
      refine z_aload_n hX dX10_isEven_51 rfl 0 rfl ?_
      refine gfX10_17 hX dX10_isEven_52 ?_
      refine z_iload_n hX dX10_isEven_55 rfl 3 rfl ?_
      refine z_iald hX 2 rfl h.1 dX10_isEven_56 ?_
      replace h := h.2
      refine z_iconst (v := 1) hX dX10_isEven_57 (by decide) ?_
      refine z_icmp_ne hX 93 dX10_isEven_58 (by decide) (fun c0 => ?_) (fun c0 => ?_)
      · replace h := h.1 c0
        refine z_iconst (v := 0) hX dX10_isEven_93 (by decide) ?_
        refine z_istore hX dX10_isEven_94 (by decide) [(4, .int (0 : Int32)), (0, .ref (X.1.2.1 0)), (1, .int x1), (2, .int x2), (3, .int x3)] rfl ?_
        refine z_iload_n hX dX10_isEven_96 rfl 2 rfl ?_
        refine z_if_eq hX 134 dX10_isEven_97 (by decide) (fun c0 => ?_) (fun c0 => ?_)
        · replace h := h.1 c0
          refine z_iconst (v := 0) hX dX10_isEven_134 (by decide) ?_
          refine z_istore_n hX dX10_isEven_135 rfl (by decide) [(1, .int (0 : Int32)), (4, .int (0 : Int32)), (0, .ref (X.1.2.1 0)), (2, .int x2), (3, .int x3)] rfl ?_
          refine z_iinc (v := x3 + (1 : Int32)) hX dX10_isEven_136 4 rfl rfl (by decide) [(3, .int (x3 + (1 : Int32))), (1, .int (0 : Int32)), (4, .int (0 : Int32)), (0, .ref (X.1.2.1 0)), (2, .int x2)] rfl ?_
          refine z_goto hX 34 dX10_isEven_139 (by decide) ?_
          exact z_sub [3, 1, 4, 0] rfl h
        · replace h := h.2 c0
          refine z_aload_n hX dX10_isEven_100 rfl 1 rfl ?_
          refine gfX10_13 hX dX10_isEven_101 ?_
          refine z_bipush (v := 10) hX dX10_isEven_104 (by decide) ?_
          refine z_iload_n hX dX10_isEven_106 rfl 3 rfl ?_
          refine z_imul hX dX10_isEven_107 ?_
          refine z_iload_n hX dX10_isEven_108 rfl 4 rfl ?_
          refine z_iadd hX dX10_isEven_109 ?_
          refine z_iald hX 1 rfl h.1 dX10_isEven_110 ?_
          replace h := h.2
          refine z_aload_n hX dX10_isEven_111 rfl 1 rfl ?_
          refine gfX10_13 hX dX10_isEven_112 ?_
          refine z_bipush (v := 10) hX dX10_isEven_115 (by decide) ?_
          refine z_iload_n hX dX10_isEven_117 rfl 4 rfl ?_
          refine z_imul hX dX10_isEven_118 ?_
          refine z_iload_n hX dX10_isEven_119 rfl 3 rfl ?_
          refine z_iadd hX dX10_isEven_120 ?_
          refine z_iald hX 1 rfl h.1 dX10_isEven_121 ?_
          replace h := h.2
          refine z_icmp_ne hX 134 dX10_isEven_122 (by decide) (fun c0 => ?_) (fun c0 => ?_)
          · replace h := h.1 c0
            refine z_iconst (v := 0) hX dX10_isEven_134 (by decide) ?_
            refine z_istore_n hX dX10_isEven_135 rfl (by decide) [(1, .int (0 : Int32)), (4, .int (0 : Int32)), (0, .ref (X.1.2.1 0)), (2, .int x2), (3, .int x3)] rfl ?_
            refine z_iinc (v := x3 + (1 : Int32)) hX dX10_isEven_136 4 rfl rfl (by decide) [(3, .int (x3 + (1 : Int32))), (1, .int (0 : Int32)), (4, .int (0 : Int32)), (0, .ref (X.1.2.1 0)), (2, .int x2)] rfl ?_
            refine z_goto hX 34 dX10_isEven_139 (by decide) ?_
            exact z_sub [3, 1, 4, 0] rfl h
          · replace h := h.2 c0
            refine z_iload hX dX10_isEven_125 0 rfl ?_
            refine z_if_ne hX 134 dX10_isEven_127 (by decide) (fun c0 => ?_) (fun c0 => ?_)
            · replace h := h.1 c0
              refine z_iconst (v := 0) hX dX10_isEven_134 (by decide) ?_
              refine z_istore_n hX dX10_isEven_135 rfl (by decide) [(1, .int (0 : Int32)), (4, .int (0 : Int32)), (0, .ref (X.1.2.1 0)), (2, .int x2), (3, .int x3)] rfl ?_
              refine z_iinc (v := x3 + (1 : Int32)) hX dX10_isEven_136 4 rfl rfl (by decide) [(3, .int (x3 + (1 : Int32))), (1, .int (0 : Int32)), (4, .int (0 : Int32)), (0, .ref (X.1.2.1 0)), (2, .int x2)] rfl ?_
              refine z_goto hX 34 dX10_isEven_139 (by decide) ?_
              exact z_sub [3, 1, 4, 0] rfl h
            · replace h := h.2 c0
              refine z_iconst (v := 1) hX dX10_isEven_130 (by decide) ?_
              refine z_goto hX 135 dX10_isEven_131 (by decide) ?_
              refine z_istore_n hX dX10_isEven_135 rfl (by decide) [(1, .int (1 : Int32)), (4, .int (0 : Int32)), (0, .ref (X.1.2.1 0)), (2, .int x2), (3, .int x3)] rfl ?_
              refine z_iinc (v := x3 + (1 : Int32)) hX dX10_isEven_136 4 rfl rfl (by decide) [(3, .int (x3 + (1 : Int32))), (1, .int (1 : Int32)), (4, .int (0 : Int32)), (0, .ref (X.1.2.1 0)), (2, .int x2)] rfl ?_
              refine z_goto hX 34 dX10_isEven_139 (by decide) ?_
              exact z_sub [3, 1, 4, 0] rfl h
      · replace h := h.2 c0
        refine z_aload_n hX dX10_isEven_61 rfl 0 rfl ?_
        refine gfX10_13 hX dX10_isEven_62 ?_
        refine z_bipush (v := 10) hX dX10_isEven_65 (by decide) ?_
        refine z_iload_n hX dX10_isEven_67 rfl 2 rfl ?_
        refine z_imul hX dX10_isEven_68 ?_
        refine z_iload_n hX dX10_isEven_69 rfl 3 rfl ?_
        refine z_iadd hX dX10_isEven_70 ?_
        refine z_iald hX 1 rfl h.1 dX10_isEven_71 ?_
        replace h := h.2
        refine z_if_gt hX 89 dX10_isEven_72 (by decide) (fun c0 => ?_) (fun c0 => ?_)
        · replace h := h.1 c0
          refine z_iconst (v := 1) hX dX10_isEven_89 (by decide) ?_
          refine z_goto hX 94 dX10_isEven_90 (by decide) ?_
          refine z_istore hX dX10_isEven_94 (by decide) [(4, .int (1 : Int32)), (0, .ref (X.1.2.1 0)), (1, .int x1), (2, .int x2), (3, .int x3)] rfl ?_
          refine z_iload_n hX dX10_isEven_96 rfl 2 rfl ?_
          refine z_if_eq hX 134 dX10_isEven_97 (by decide) (fun c0 => ?_) (fun c0 => ?_)
          · replace h := h.1 c0
            refine z_iconst (v := 0) hX dX10_isEven_134 (by decide) ?_
            refine z_istore_n hX dX10_isEven_135 rfl (by decide) [(1, .int (0 : Int32)), (4, .int (1 : Int32)), (0, .ref (X.1.2.1 0)), (2, .int x2), (3, .int x3)] rfl ?_
            refine z_iinc (v := x3 + (1 : Int32)) hX dX10_isEven_136 4 rfl rfl (by decide) [(3, .int (x3 + (1 : Int32))), (1, .int (0 : Int32)), (4, .int (1 : Int32)), (0, .ref (X.1.2.1 0)), (2, .int x2)] rfl ?_
            refine z_goto hX 34 dX10_isEven_139 (by decide) ?_
            exact z_sub [3, 1, 4, 0] rfl h
          · replace h := h.2 c0
            refine z_aload_n hX dX10_isEven_100 rfl 1 rfl ?_
            refine gfX10_13 hX dX10_isEven_101 ?_
            refine z_bipush (v := 10) hX dX10_isEven_104 (by decide) ?_
            refine z_iload_n hX dX10_isEven_106 rfl 3 rfl ?_
            refine z_imul hX dX10_isEven_107 ?_
            refine z_iload_n hX dX10_isEven_108 rfl 4 rfl ?_
            refine z_iadd hX dX10_isEven_109 ?_
            refine z_iald hX 1 rfl h.1 dX10_isEven_110 ?_
            replace h := h.2
            refine z_aload_n hX dX10_isEven_111 rfl 1 rfl ?_
            refine gfX10_13 hX dX10_isEven_112 ?_
            refine z_bipush (v := 10) hX dX10_isEven_115 (by decide) ?_
            refine z_iload_n hX dX10_isEven_117 rfl 4 rfl ?_
            refine z_imul hX dX10_isEven_118 ?_
            refine z_iload_n hX dX10_isEven_119 rfl 3 rfl ?_
            refine z_iadd hX dX10_isEven_120 ?_
            refine z_iald hX 1 rfl h.1 dX10_isEven_121 ?_
            replace h := h.2
            refine z_icmp_ne hX 134 dX10_isEven_122 (by decide) (fun c0 => ?_) (fun c0 => ?_)
            · replace h := h.1 c0
              refine z_iconst (v := 0) hX dX10_isEven_134 (by decide) ?_
              refine z_istore_n hX dX10_isEven_135 rfl (by decide) [(1, .int (0 : Int32)), (4, .int (1 : Int32)), (0, .ref (X.1.2.1 0)), (2, .int x2), (3, .int x3)] rfl ?_
              refine z_iinc (v := x3 + (1 : Int32)) hX dX10_isEven_136 4 rfl rfl (by decide) [(3, .int (x3 + (1 : Int32))), (1, .int (0 : Int32)), (4, .int (1 : Int32)), (0, .ref (X.1.2.1 0)), (2, .int x2)] rfl ?_
              refine z_goto hX 34 dX10_isEven_139 (by decide) ?_
              exact z_sub [3, 1, 4, 0] rfl h
            · replace h := h.2 c0
              refine z_iload hX dX10_isEven_125 0 rfl ?_
              refine z_if_ne hX 134 dX10_isEven_127 (by decide) (fun c0 => ?_) (fun c0 => ?_)
              · replace h := h.1 c0
                refine z_iconst (v := 0) hX dX10_isEven_134 (by decide) ?_
                refine z_istore_n hX dX10_isEven_135 rfl (by decide) [(1, .int (0 : Int32)), (4, .int (1 : Int32)), (0, .ref (X.1.2.1 0)), (2, .int x2), (3, .int x3)] rfl ?_
                refine z_iinc (v := x3 + (1 : Int32)) hX dX10_isEven_136 4 rfl rfl (by decide) [(3, .int (x3 + (1 : Int32))), (1, .int (0 : Int32)), (4, .int (1 : Int32)), (0, .ref (X.1.2.1 0)), (2, .int x2)] rfl ?_
                refine z_goto hX 34 dX10_isEven_139 (by decide) ?_
                exact z_sub [3, 1, 4, 0] rfl h
              · replace h := h.2 c0
                refine z_iconst (v := 1) hX dX10_isEven_130 (by decide) ?_
                refine z_goto hX 135 dX10_isEven_131 (by decide) ?_
                refine z_istore_n hX dX10_isEven_135 rfl (by decide) [(1, .int (1 : Int32)), (4, .int (1 : Int32)), (0, .ref (X.1.2.1 0)), (2, .int x2), (3, .int x3)] rfl ?_
                refine z_iinc (v := x3 + (1 : Int32)) hX dX10_isEven_136 4 rfl rfl (by decide) [(3, .int (x3 + (1 : Int32))), (1, .int (1 : Int32)), (4, .int (1 : Int32)), (0, .ref (X.1.2.1 0)), (2, .int x2)] rfl ?_
                refine z_goto hX 34 dX10_isEven_139 (by decide) ?_
                exact z_sub [3, 1, 4, 0] rfl h
        · replace h := h.2 c0
          refine z_aload_n hX dX10_isEven_75 rfl 0 rfl ?_
          refine gfX10_13 hX dX10_isEven_76 ?_
          refine z_bipush (v := 10) hX dX10_isEven_79 (by decide) ?_
          refine z_iload_n hX dX10_isEven_81 rfl 3 rfl ?_
          refine z_imul hX dX10_isEven_82 ?_
          refine z_iload_n hX dX10_isEven_83 rfl 2 rfl ?_
          refine z_iadd hX dX10_isEven_84 ?_
          refine z_iald hX 1 rfl h.1 dX10_isEven_85 ?_
          replace h := h.2
          refine z_if_le hX 93 dX10_isEven_86 (by decide) (fun c0 => ?_) (fun c0 => ?_)
          · replace h := h.1 c0
            refine z_iconst (v := 0) hX dX10_isEven_93 (by decide) ?_
            refine z_istore hX dX10_isEven_94 (by decide) [(4, .int (0 : Int32)), (0, .ref (X.1.2.1 0)), (1, .int x1), (2, .int x2), (3, .int x3)] rfl ?_
            refine z_iload_n hX dX10_isEven_96 rfl 2 rfl ?_
            refine z_if_eq hX 134 dX10_isEven_97 (by decide) (fun c0 => ?_) (fun c0 => ?_)
            · replace h := h.1 c0
              refine z_iconst (v := 0) hX dX10_isEven_134 (by decide) ?_
              refine z_istore_n hX dX10_isEven_135 rfl (by decide) [(1, .int (0 : Int32)), (4, .int (0 : Int32)), (0, .ref (X.1.2.1 0)), (2, .int x2), (3, .int x3)] rfl ?_
              refine z_iinc (v := x3 + (1 : Int32)) hX dX10_isEven_136 4 rfl rfl (by decide) [(3, .int (x3 + (1 : Int32))), (1, .int (0 : Int32)), (4, .int (0 : Int32)), (0, .ref (X.1.2.1 0)), (2, .int x2)] rfl ?_
              refine z_goto hX 34 dX10_isEven_139 (by decide) ?_
              exact z_sub [3, 1, 4, 0] rfl h
            · replace h := h.2 c0
              refine z_aload_n hX dX10_isEven_100 rfl 1 rfl ?_
              refine gfX10_13 hX dX10_isEven_101 ?_
              refine z_bipush (v := 10) hX dX10_isEven_104 (by decide) ?_
              refine z_iload_n hX dX10_isEven_106 rfl 3 rfl ?_
              refine z_imul hX dX10_isEven_107 ?_
              refine z_iload_n hX dX10_isEven_108 rfl 4 rfl ?_
              refine z_iadd hX dX10_isEven_109 ?_
              refine z_iald hX 1 rfl h.1 dX10_isEven_110 ?_
              replace h := h.2
              refine z_aload_n hX dX10_isEven_111 rfl 1 rfl ?_
              refine gfX10_13 hX dX10_isEven_112 ?_
              refine z_bipush (v := 10) hX dX10_isEven_115 (by decide) ?_
              refine z_iload_n hX dX10_isEven_117 rfl 4 rfl ?_
              refine z_imul hX dX10_isEven_118 ?_
              refine z_iload_n hX dX10_isEven_119 rfl 3 rfl ?_
              refine z_iadd hX dX10_isEven_120 ?_
              refine z_iald hX 1 rfl h.1 dX10_isEven_121 ?_
              replace h := h.2
              refine z_icmp_ne hX 134 dX10_isEven_122 (by decide) (fun c0 => ?_) (fun c0 => ?_)
              · replace h := h.1 c0
                refine z_iconst (v := 0) hX dX10_isEven_134 (by decide) ?_
                refine z_istore_n hX dX10_isEven_135 rfl (by decide) [(1, .int (0 : Int32)), (4, .int (0 : Int32)), (0, .ref (X.1.2.1 0)), (2, .int x2), (3, .int x3)] rfl ?_
                refine z_iinc (v := x3 + (1 : Int32)) hX dX10_isEven_136 4 rfl rfl (by decide) [(3, .int (x3 + (1 : Int32))), (1, .int (0 : Int32)), (4, .int (0 : Int32)), (0, .ref (X.1.2.1 0)), (2, .int x2)] rfl ?_
                refine z_goto hX 34 dX10_isEven_139 (by decide) ?_
                exact z_sub [3, 1, 4, 0] rfl h
              · replace h := h.2 c0
                refine z_iload hX dX10_isEven_125 0 rfl ?_
                refine z_if_ne hX 134 dX10_isEven_127 (by decide) (fun c0 => ?_) (fun c0 => ?_)
                · replace h := h.1 c0
                  refine z_iconst (v := 0) hX dX10_isEven_134 (by decide) ?_
                  refine z_istore_n hX dX10_isEven_135 rfl (by decide) [(1, .int (0 : Int32)), (4, .int (0 : Int32)), (0, .ref (X.1.2.1 0)), (2, .int x2), (3, .int x3)] rfl ?_
                  refine z_iinc (v := x3 + (1 : Int32)) hX dX10_isEven_136 4 rfl rfl (by decide) [(3, .int (x3 + (1 : Int32))), (1, .int (0 : Int32)), (4, .int (0 : Int32)), (0, .ref (X.1.2.1 0)), (2, .int x2)] rfl ?_
                  refine z_goto hX 34 dX10_isEven_139 (by decide) ?_
                  exact z_sub [3, 1, 4, 0] rfl h
                · replace h := h.2 c0
                  refine z_iconst (v := 1) hX dX10_isEven_130 (by decide) ?_
                  refine z_goto hX 135 dX10_isEven_131 (by decide) ?_
                  refine z_istore_n hX dX10_isEven_135 rfl (by decide) [(1, .int (1 : Int32)), (4, .int (0 : Int32)), (0, .ref (X.1.2.1 0)), (2, .int x2), (3, .int x3)] rfl ?_
                  refine z_iinc (v := x3 + (1 : Int32)) hX dX10_isEven_136 4 rfl rfl (by decide) [(3, .int (x3 + (1 : Int32))), (1, .int (1 : Int32)), (4, .int (0 : Int32)), (0, .ref (X.1.2.1 0)), (2, .int x2)] rfl ?_
                  refine z_goto hX 34 dX10_isEven_139 (by decide) ?_
                  exact z_sub [3, 1, 4, 0] rfl h
          · replace h := h.2 c0
            refine z_iconst (v := 1) hX dX10_isEven_89 (by decide) ?_
            refine z_goto hX 94 dX10_isEven_90 (by decide) ?_
            refine z_istore hX dX10_isEven_94 (by decide) [(4, .int (1 : Int32)), (0, .ref (X.1.2.1 0)), (1, .int x1), (2, .int x2), (3, .int x3)] rfl ?_
            refine z_iload_n hX dX10_isEven_96 rfl 2 rfl ?_
            refine z_if_eq hX 134 dX10_isEven_97 (by decide) (fun c0 => ?_) (fun c0 => ?_)
            · replace h := h.1 c0
              refine z_iconst (v := 0) hX dX10_isEven_134 (by decide) ?_
              refine z_istore_n hX dX10_isEven_135 rfl (by decide) [(1, .int (0 : Int32)), (4, .int (1 : Int32)), (0, .ref (X.1.2.1 0)), (2, .int x2), (3, .int x3)] rfl ?_
              refine z_iinc (v := x3 + (1 : Int32)) hX dX10_isEven_136 4 rfl rfl (by decide) [(3, .int (x3 + (1 : Int32))), (1, .int (0 : Int32)), (4, .int (1 : Int32)), (0, .ref (X.1.2.1 0)), (2, .int x2)] rfl ?_
              refine z_goto hX 34 dX10_isEven_139 (by decide) ?_
              exact z_sub [3, 1, 4, 0] rfl h
            · replace h := h.2 c0
              refine z_aload_n hX dX10_isEven_100 rfl 1 rfl ?_
              refine gfX10_13 hX dX10_isEven_101 ?_
              refine z_bipush (v := 10) hX dX10_isEven_104 (by decide) ?_
              refine z_iload_n hX dX10_isEven_106 rfl 3 rfl ?_
              refine z_imul hX dX10_isEven_107 ?_
              refine z_iload_n hX dX10_isEven_108 rfl 4 rfl ?_
              refine z_iadd hX dX10_isEven_109 ?_
              refine z_iald hX 1 rfl h.1 dX10_isEven_110 ?_
              replace h := h.2
              refine z_aload_n hX dX10_isEven_111 rfl 1 rfl ?_
              refine gfX10_13 hX dX10_isEven_112 ?_
              refine z_bipush (v := 10) hX dX10_isEven_115 (by decide) ?_
              refine z_iload_n hX dX10_isEven_117 rfl 4 rfl ?_
              refine z_imul hX dX10_isEven_118 ?_
              refine z_iload_n hX dX10_isEven_119 rfl 3 rfl ?_
              refine z_iadd hX dX10_isEven_120 ?_
              refine z_iald hX 1 rfl h.1 dX10_isEven_121 ?_
              replace h := h.2
              refine z_icmp_ne hX 134 dX10_isEven_122 (by decide) (fun c0 => ?_) (fun c0 => ?_)
              · replace h := h.1 c0
                refine z_iconst (v := 0) hX dX10_isEven_134 (by decide) ?_
                refine z_istore_n hX dX10_isEven_135 rfl (by decide) [(1, .int (0 : Int32)), (4, .int (1 : Int32)), (0, .ref (X.1.2.1 0)), (2, .int x2), (3, .int x3)] rfl ?_
                refine z_iinc (v := x3 + (1 : Int32)) hX dX10_isEven_136 4 rfl rfl (by decide) [(3, .int (x3 + (1 : Int32))), (1, .int (0 : Int32)), (4, .int (1 : Int32)), (0, .ref (X.1.2.1 0)), (2, .int x2)] rfl ?_
                refine z_goto hX 34 dX10_isEven_139 (by decide) ?_
                exact z_sub [3, 1, 4, 0] rfl h
              · replace h := h.2 c0
                refine z_iload hX dX10_isEven_125 0 rfl ?_
                refine z_if_ne hX 134 dX10_isEven_127 (by decide) (fun c0 => ?_) (fun c0 => ?_)
                · replace h := h.1 c0
                  refine z_iconst (v := 0) hX dX10_isEven_134 (by decide) ?_
                  refine z_istore_n hX dX10_isEven_135 rfl (by decide) [(1, .int (0 : Int32)), (4, .int (1 : Int32)), (0, .ref (X.1.2.1 0)), (2, .int x2), (3, .int x3)] rfl ?_
                  refine z_iinc (v := x3 + (1 : Int32)) hX dX10_isEven_136 4 rfl rfl (by decide) [(3, .int (x3 + (1 : Int32))), (1, .int (0 : Int32)), (4, .int (1 : Int32)), (0, .ref (X.1.2.1 0)), (2, .int x2)] rfl ?_
                  refine z_goto hX 34 dX10_isEven_139 (by decide) ?_
                  exact z_sub [3, 1, 4, 0] rfl h
                · replace h := h.2 c0
                  refine z_iconst (v := 1) hX dX10_isEven_130 (by decide) ?_
                  refine z_goto hX 135 dX10_isEven_131 (by decide) ?_
                  refine z_istore_n hX dX10_isEven_135 rfl (by decide) [(1, .int (1 : Int32)), (4, .int (1 : Int32)), (0, .ref (X.1.2.1 0)), (2, .int x2), (3, .int x3)] rfl ?_
                  refine z_iinc (v := x3 + (1 : Int32)) hX dX10_isEven_136 4 rfl rfl (by decide) [(3, .int (x3 + (1 : Int32))), (1, .int (1 : Int32)), (4, .int (1 : Int32)), (0, .ref (X.1.2.1 0)), (2, .int x2)] rfl ?_
                  refine z_goto hX 34 dX10_isEven_139 (by decide) ?_
                  exact z_sub [3, 1, 4, 0] rfl h
set_option maxRecDepth 100000 in
set_option maxHeartbeats 4000000 in
theorem EX10_even {E : ET} {Q : Option Value → Mem → Prop} {M : Mem} (h : ∃ (r1 : Int32), CX10_isEven E [.ref (E.2.1 0)] M (z_is (some (.int r1)) M) ∧ ((r1 = 0 → Q (some (.int (0 : Int32))) M) ∧ (¬ r1 = 0 → Q (some (.int (1 : Int32))) M))) : CX10_even E [.ref (E.2.1 0)] M Q := by
  refine z_entry (by decide +kernel) (Nat.le_of_ble_eq_true rfl) (fun X hE hX => ?_)
  subst hE
  show Z SM X 1 1 Q 0 [(0, .ref (X.1.2.1 0))] [] M
  refine z_aload_n hX dX10_even_0 rfl 0 rfl ?_
  obtain ⟨r1, c9, h⟩ := h
  refine mcX10_139 hX dX10_even_1 (by decide) (Nat.le_of_ble_eq_true rfl) c9 ?_
  refine z_if_eq hX 11 dX10_even_4 (by decide) (fun c0 => ?_) (fun c0 => ?_)
  · replace h := h.1 c0
    refine z_iconst (v := 0) hX dX10_even_11 (by decide) ?_
    exact z_iret hX dX10_even_12 h
  · replace h := h.2 c0
    refine z_iconst (v := 1) hX dX10_even_7 (by decide) ?_
    refine z_goto hX 12 dX10_even_8 (by decide) ?_
    exact z_iret hX dX10_even_12 h
abbrev LX10_heat_27 (X : XT) (Q : Option Value → Mem → Prop) (x1 : Int32) (x2 : Int32) (x3 : Int32) (M : Mem) : Prop := Z SM X 2 9 Q 27 [(0, .ref (X.1.2.1 0)), (1, .int x1), (2, .int x2), (3, .int x3)] [] M
abbrev LX10_heat_103 (X : XT) (Q : Option Value → Mem → Prop) (x1 : Int32) (x2 : Int32) (x3 : Int32) (x4 : Int32) (x6 : Int32) (M : Mem) : Prop := Z SM X 2 9 Q 103 [(0, .ref (X.1.2.1 0)), (1, .int x1), (2, .int x2), (3, .int x3), (4, .int x4), (6, .int x6)] [] M
set_option maxRecDepth 100000 in
set_option maxHeartbeats 4000000 in
theorem EX10_heat {E : ET} {Q : Option Value → Mem → Prop} {x1 : Int32} {M : Mem} (h : ∀ X : XT, X.1 = E → KX10_heat X → (∃ (r1 : Int32), CX10_isDress X.1 [.ref (X.1.2.1 0), .int x1] M (z_is (some (.int r1)) M) ∧ ((¬ r1 = 0 → (∃ (r2 : Int32), CX10_isEven X.1 [.ref (X.1.2.1 0)] M (z_is (some (.int r2)) M) ∧ ((¬ r2 = 0 → LX10_heat_27 X Q x1 (10000 : Int32) (0 : Int32) M) ∧ (r2 = 0 → Q (some (.int (-3 : Int32))) M)))) ∧ (r1 = 0 → Q (some (.int (-2 : Int32))) M)))) : CX10_heat E [.ref (E.2.1 0), .int x1] M Q := by
  refine z_entry (by decide +kernel) (Nat.le_of_ble_eq_true rfl) (fun X hE hX => ?_)
  subst hE
  replace h := h X rfl hX
  show Z SM X 2 9 Q 0 [(0, .ref (X.1.2.1 0)), (1, .int x1)] [] M
  refine z_aload_n hX dX10_heat_0 rfl 0 rfl ?_
  refine z_iload_n hX dX10_heat_1 rfl 1 rfl ?_
  obtain ⟨r1, c9, h⟩ := h
  refine mcX10_90 hX dX10_heat_2 (by decide) (Nat.le_of_ble_eq_true rfl) c9 ?_
  refine z_if_ne hX 11 dX10_heat_5 (by decide) (fun c0 => ?_) (fun c0 => ?_)
  · replace h := h.1 c0
    refine z_aload_n hX dX10_heat_11 rfl 0 rfl ?_
    obtain ⟨r2, c9, h⟩ := h
    refine mcX10_139 hX dX10_heat_12 (by decide) (Nat.le_of_ble_eq_true rfl) c9 ?_
    refine z_if_ne hX 21 dX10_heat_15 (by decide) (fun c0 => ?_) (fun c0 => ?_)
    · replace h := h.1 c0
      refine z_sipush (v := 10000) hX dX10_heat_21 (by decide) ?_
      refine z_istore_n hX dX10_heat_24 rfl (by decide) [(2, .int (10000 : Int32)), (0, .ref (X.1.2.1 0)), (1, .int x1)] rfl ?_
      refine z_iconst (v := 0) hX dX10_heat_25 (by decide) ?_
      refine z_istore_n hX dX10_heat_26 rfl (by decide) [(3, .int (0 : Int32)), (2, .int (10000 : Int32)), (0, .ref (X.1.2.1 0)), (1, .int x1)] rfl ?_
      exact z_sub [2, 3, 1, 0] rfl h
    · replace h := h.2 c0
      refine z_bipush (v := -3) hX dX10_heat_18 (by decide) ?_
      exact z_iret hX dX10_heat_20 h
  · replace h := h.2 c0
    refine z_bipush (v := -2) hX dX10_heat_8 (by decide) ?_
    exact z_iret hX dX10_heat_10 h
set_option maxRecDepth 100000 in
set_option maxHeartbeats 4000000 in
theorem BX10_heat_27 {X : XT} {Q : Option Value → Mem → Prop} (hX : KX10_heat X) {x1 x2 x3 : Int32} {M : Mem} (h : (((M.1 0 0) ≤ x3 → Q (some (.int x2)) M) ∧ (¬ (M.1 0 0) ≤ x3 → ((¬ ((x1 >>> (x3 &&& 31)) &&& (1 : Int32)) = (1 : Int32) → (vp_in x3 10 ∧ (vp_in x3 10 ∧ ((¬ (M.1 2 x3.toNatClampNeg) = 0 → (vp_in x3 10 ∧ ((¬ (M.1 2 x3.toNatClampNeg) = (1 : Int32) → LX10_heat_103 X Q x1 (x2 + (0 : Int32)) x3 ((x1 >>> (x3 &&& 31)) &&& (1 : Int32)) (0 : Int32) M) ∧ ((M.1 2 x3.toNatClampNeg) = (1 : Int32) → LX10_heat_103 X Q x1 (x2 + (-(-(M.1 3 x3.toNatClampNeg)))) x3 ((x1 >>> (x3 &&& 31)) &&& (1 : Int32)) (0 : Int32) M)))) ∧ ((M.1 2 x3.toNatClampNeg) = 0 → LX10_heat_103 X Q x1 (x2 + (-(M.1 3 x3.toNatClampNeg))) x3 ((x1 >>> (x3 &&& 31)) &&& (1 : Int32)) (0 : Int32) M))))) ∧ (((x1 >>> (x3 &&& 31)) &&& (1 : Int32)) = (1 : Int32) → (vp_in x3 10 ∧ (vp_in x3 10 ∧ ((¬ (M.1 2 x3.toNatClampNeg) = 0 → (vp_in x3 10 ∧ ((¬ (M.1 2 x3.toNatClampNeg) = (1 : Int32) → LX10_heat_103 X Q x1 (x2 + (0 : Int32)) x3 ((x1 >>> (x3 &&& 31)) &&& (1 : Int32)) (0 : Int32) M) ∧ ((M.1 2 x3.toNatClampNeg) = (1 : Int32) → LX10_heat_103 X Q x1 (x2 + (-(M.1 3 x3.toNatClampNeg))) x3 ((x1 >>> (x3 &&& 31)) &&& (1 : Int32)) (0 : Int32) M)))) ∧ ((M.1 2 x3.toNatClampNeg) = 0 → LX10_heat_103 X Q x1 (x2 + (M.1 3 x3.toNatClampNeg)) x3 ((x1 >>> (x3 &&& 31)) &&& (1 : Int32)) (0 : Int32) M))))))))) : LX10_heat_27 X Q x1 x2 x3 M := by
  show Z SM X 2 9 Q 27 [(0, .ref (X.1.2.1 0)), (1, .int x1), (2, .int x2), (3, .int x3)] [] M
  refine z_iload_n hX dX10_heat_27 rfl 3 rfl ?_
  refine z_aload_n hX dX10_heat_28 rfl 0 rfl ?_
  refine gfX10_7 hX dX10_heat_29 ?_
  refine z_icmp_ge hX 231 dX10_heat_32 (by decide) (fun c0 => ?_) (fun c0 => ?_)
  · replace h := h.1 c0
    refine z_iload_n hX dX10_heat_231 rfl 2 rfl ?_
    exact z_iret hX dX10_heat_232 h
  · replace h := h.2 c0
    refine z_iload_n hX dX10_heat_35 rfl 1 rfl ?_
    refine z_iload_n hX dX10_heat_36 rfl 3 rfl ?_
    refine z_ishr hX dX10_heat_37 ?_
    refine z_iconst (v := 1) hX dX10_heat_38 (by decide) ?_
    refine z_iand hX dX10_heat_39 ?_
    refine z_istore hX dX10_heat_40 (by decide) [(4, .int ((x1 >>> (x3 &&& 31)) &&& (1 : Int32))), (0, .ref (X.1.2.1 0)), (1, .int x1), (2, .int x2), (3, .int x3)] rfl ?_
    refine z_iload hX dX10_heat_42 0 rfl ?_
    refine z_iconst (v := 1) hX dX10_heat_44 (by decide) ?_
    refine z_icmp_ne hX 57 dX10_heat_45 (by decide) (fun c0 => ?_) (fun c0 => ?_)
    · replace h := h.1 c0
      refine z_aload_n hX dX10_heat_57 rfl 1 rfl ?_
      refine gfX10_20 hX dX10_heat_58 ?_
      refine z_iload_n hX dX10_heat_61 rfl 4 rfl ?_
      refine z_iald hX 3 rfl h.1 dX10_heat_62 ?_
      replace h := h.2
      refine z_ineg hX dX10_heat_63 ?_
      refine z_istore hX dX10_heat_64 (by decide) [(5, .int (-(M.1 3 x3.toNatClampNeg))), (4, .int ((x1 >>> (x3 &&& 31)) &&& (1 : Int32))), (0, .ref (X.1.2.1 0)), (1, .int x1), (2, .int x2), (3, .int x3)] rfl ?_
      refine z_iload_n hX dX10_heat_66 rfl 4 rfl ?_
      refine z_aload_n hX dX10_heat_67 rfl 2 rfl ?_
      refine gfX10_17 hX dX10_heat_68 ?_
      refine z_iload_n hX dX10_heat_71 rfl 5 rfl ?_
      refine z_iald hX 2 rfl h.1 dX10_heat_72 ?_
      replace h := h.2
      refine z_if_ne hX 81 dX10_heat_73 (by decide) (fun c0 => ?_) (fun c0 => ?_)
      · replace h := h.1 c0
        refine z_aload_n hX dX10_heat_81 rfl 2 rfl ?_
        refine gfX10_17 hX dX10_heat_82 ?_
        refine z_iload_n hX dX10_heat_85 rfl 5 rfl ?_
        refine z_iald hX 2 rfl h.1 dX10_heat_86 ?_
        replace h := h.2
        refine z_iconst (v := 1) hX dX10_heat_87 (by decide) ?_
        refine z_icmp_ne hX 97 dX10_heat_88 (by decide) (fun c0 => ?_) (fun c0 => ?_)
        · replace h := h.1 c0
          refine z_iconst (v := 0) hX dX10_heat_97 (by decide) ?_
          refine z_iadd hX dX10_heat_98 ?_
          refine z_istore_n hX dX10_heat_99 rfl (by decide) [(2, .int (x2 + (0 : Int32))), (5, .int (-(M.1 3 x3.toNatClampNeg))), (4, .int ((x1 >>> (x3 &&& 31)) &&& (1 : Int32))), (0, .ref (X.1.2.1 0)), (1, .int x1), (3, .int x3)] rfl ?_
          refine z_iconst (v := 0) hX dX10_heat_100 (by decide) ?_
          refine z_istore hX dX10_heat_101 (by decide) [(6, .int (0 : Int32)), (2, .int (x2 + (0 : Int32))), (5, .int (-(M.1 3 x3.toNatClampNeg))), (4, .int ((x1 >>> (x3 &&& 31)) &&& (1 : Int32))), (0, .ref (X.1.2.1 0)), (1, .int x1), (3, .int x3)] rfl ?_
          exact z_sub [4, 5, 1, 6, 3, 0] rfl h
        · replace h := h.2 c0
          refine z_iload hX dX10_heat_91 0 rfl ?_
          refine z_ineg hX dX10_heat_93 ?_
          refine z_goto hX 98 dX10_heat_94 (by decide) ?_
          refine z_iadd hX dX10_heat_98 ?_
          refine z_istore_n hX dX10_heat_99 rfl (by decide) [(2, .int (x2 + (-(-(M.1 3 x3.toNatClampNeg))))), (5, .int (-(M.1 3 x3.toNatClampNeg))), (4, .int ((x1 >>> (x3 &&& 31)) &&& (1 : Int32))), (0, .ref (X.1.2.1 0)), (1, .int x1), (3, .int x3)] rfl ?_
          refine z_iconst (v := 0) hX dX10_heat_100 (by decide) ?_
          refine z_istore hX dX10_heat_101 (by decide) [(6, .int (0 : Int32)), (2, .int (x2 + (-(-(M.1 3 x3.toNatClampNeg))))), (5, .int (-(M.1 3 x3.toNatClampNeg))), (4, .int ((x1 >>> (x3 &&& 31)) &&& (1 : Int32))), (0, .ref (X.1.2.1 0)), (1, .int x1), (3, .int x3)] rfl ?_
          exact z_sub [4, 5, 1, 6, 3, 0] rfl h
      · replace h := h.2 c0
        refine z_iload hX dX10_heat_76 0 rfl ?_
        refine z_goto hX 98 dX10_heat_78 (by decide) ?_
        refine z_iadd hX dX10_heat_98 ?_
        refine z_istore_n hX dX10_heat_99 rfl (by decide) [(2, .int (x2 + (-(M.1 3 x3.toNatClampNeg)))), (5, .int (-(M.1 3 x3.toNatClampNeg))), (4, .int ((x1 >>> (x3 &&& 31)) &&& (1 : Int32))), (0, .ref (X.1.2.1 0)), (1, .int x1), (3, .int x3)] rfl ?_
        refine z_iconst (v := 0) hX dX10_heat_100 (by decide) ?_
        refine z_istore hX dX10_heat_101 (by decide) [(6, .int (0 : Int32)), (2, .int (x2 + (-(M.1 3 x3.toNatClampNeg)))), (5, .int (-(M.1 3 x3.toNatClampNeg))), (4, .int ((x1 >>> (x3 &&& 31)) &&& (1 : Int32))), (0, .ref (X.1.2.1 0)), (1, .int x1), (3, .int x3)] rfl ?_
        exact z_sub [4, 5, 1, 6, 3, 0] rfl h
    · replace h := h.2 c0
      refine z_aload_n hX dX10_heat_48 rfl 1 rfl ?_
      refine gfX10_20 hX dX10_heat_49 ?_
      refine z_iload_n hX dX10_heat_52 rfl 4 rfl ?_
      refine z_iald hX 3 rfl h.1 dX10_heat_53 ?_
      replace h := h.2
      refine z_goto hX 64 dX10_heat_54 (by decide) ?_
      refine z_istore hX dX10_heat_64 (by decide) [(5, .int (M.1 3 x3.toNatClampNeg)), (4, .int ((x1 >>> (x3 &&& 31)) &&& (1 : Int32))), (0, .ref (X.1.2.1 0)), (1, .int x1), (2, .int x2), (3, .int x3)] rfl ?_
      refine z_iload_n hX dX10_heat_66 rfl 4 rfl ?_
      refine z_aload_n hX dX10_heat_67 rfl 2 rfl ?_
      refine gfX10_17 hX dX10_heat_68 ?_
      refine z_iload_n hX dX10_heat_71 rfl 5 rfl ?_
      refine z_iald hX 2 rfl h.1 dX10_heat_72 ?_
      replace h := h.2
      refine z_if_ne hX 81 dX10_heat_73 (by decide) (fun c0 => ?_) (fun c0 => ?_)
      · replace h := h.1 c0
        refine z_aload_n hX dX10_heat_81 rfl 2 rfl ?_
        refine gfX10_17 hX dX10_heat_82 ?_
        refine z_iload_n hX dX10_heat_85 rfl 5 rfl ?_
        refine z_iald hX 2 rfl h.1 dX10_heat_86 ?_
        replace h := h.2
        refine z_iconst (v := 1) hX dX10_heat_87 (by decide) ?_
        refine z_icmp_ne hX 97 dX10_heat_88 (by decide) (fun c0 => ?_) (fun c0 => ?_)
        · replace h := h.1 c0
          refine z_iconst (v := 0) hX dX10_heat_97 (by decide) ?_
          refine z_iadd hX dX10_heat_98 ?_
          refine z_istore_n hX dX10_heat_99 rfl (by decide) [(2, .int (x2 + (0 : Int32))), (5, .int (M.1 3 x3.toNatClampNeg)), (4, .int ((x1 >>> (x3 &&& 31)) &&& (1 : Int32))), (0, .ref (X.1.2.1 0)), (1, .int x1), (3, .int x3)] rfl ?_
          refine z_iconst (v := 0) hX dX10_heat_100 (by decide) ?_
          refine z_istore hX dX10_heat_101 (by decide) [(6, .int (0 : Int32)), (2, .int (x2 + (0 : Int32))), (5, .int (M.1 3 x3.toNatClampNeg)), (4, .int ((x1 >>> (x3 &&& 31)) &&& (1 : Int32))), (0, .ref (X.1.2.1 0)), (1, .int x1), (3, .int x3)] rfl ?_
          exact z_sub [4, 5, 1, 6, 3, 0] rfl h
        · replace h := h.2 c0
          refine z_iload hX dX10_heat_91 0 rfl ?_
          refine z_ineg hX dX10_heat_93 ?_
          refine z_goto hX 98 dX10_heat_94 (by decide) ?_
          refine z_iadd hX dX10_heat_98 ?_
          refine z_istore_n hX dX10_heat_99 rfl (by decide) [(2, .int (x2 + (-(M.1 3 x3.toNatClampNeg)))), (5, .int (M.1 3 x3.toNatClampNeg)), (4, .int ((x1 >>> (x3 &&& 31)) &&& (1 : Int32))), (0, .ref (X.1.2.1 0)), (1, .int x1), (3, .int x3)] rfl ?_
          refine z_iconst (v := 0) hX dX10_heat_100 (by decide) ?_
          refine z_istore hX dX10_heat_101 (by decide) [(6, .int (0 : Int32)), (2, .int (x2 + (-(M.1 3 x3.toNatClampNeg)))), (5, .int (M.1 3 x3.toNatClampNeg)), (4, .int ((x1 >>> (x3 &&& 31)) &&& (1 : Int32))), (0, .ref (X.1.2.1 0)), (1, .int x1), (3, .int x3)] rfl ?_
          exact z_sub [4, 5, 1, 6, 3, 0] rfl h
      · replace h := h.2 c0
        refine z_iload hX dX10_heat_76 0 rfl ?_
        refine z_goto hX 98 dX10_heat_78 (by decide) ?_
        refine z_iadd hX dX10_heat_98 ?_
        refine z_istore_n hX dX10_heat_99 rfl (by decide) [(2, .int (x2 + (M.1 3 x3.toNatClampNeg))), (5, .int (M.1 3 x3.toNatClampNeg)), (4, .int ((x1 >>> (x3 &&& 31)) &&& (1 : Int32))), (0, .ref (X.1.2.1 0)), (1, .int x1), (3, .int x3)] rfl ?_
        refine z_iconst (v := 0) hX dX10_heat_100 (by decide) ?_
        refine z_istore hX dX10_heat_101 (by decide) [(6, .int (0 : Int32)), (2, .int (x2 + (M.1 3 x3.toNatClampNeg))), (5, .int (M.1 3 x3.toNatClampNeg)), (4, .int ((x1 >>> (x3 &&& 31)) &&& (1 : Int32))), (0, .ref (X.1.2.1 0)), (1, .int x1), (3, .int x3)] rfl ?_
        exact z_sub [4, 5, 1, 6, 3, 0] rfl h
set_option maxRecDepth 100000 in
set_option maxHeartbeats 4000000 in
theorem BX10_heat_103 {X : XT} {Q : Option Value → Mem → Prop} (hX : KX10_heat X) {x1 x2 x3 x4 x6 : Int32} {M : Mem} (h : ((x3 ≤ x6 → LX10_heat_27 X Q x1 x2 (x3 + (1 : Int32)) M) ∧ (¬ x3 ≤ x6 → ((¬ ((x1 >>> (x6 &&& 31)) &&& (1 : Int32)) = x4 → (vp_in (((10 : Int32) * x3) + x6) 100 ∧ (vp_in x3 10 ∧ (((M.1 2 x3.toNatClampNeg) = (1 : Int32) → (vp_in x3 10 ∧ ((¬ (M.1 2 x3.toNatClampNeg) = (2 : Int32) → (((1 : Int32) = 0 → LX10_heat_103 X Q x1 (x2 + (-(M.1 1 (((10 : Int32) * x3) + x6).toNatClampNeg))) x3 x4 (x6 + (1 : Int32)) M) ∧ (¬ (1 : Int32) = 0 → LX10_heat_103 X Q x1 (x2 + (-(-(M.1 1 (((10 : Int32) * x3) + x6).toNatClampNeg)))) x3 x4 (x6 + (1 : Int32)) M))) ∧ ((M.1 2 x3.toNatClampNeg) = (2 : Int32) → (vp_in x6 10 ∧ ((¬ (M.1 2 x6.toNatClampNeg) = (2 : Int32) → (((1 : Int32) = 0 → LX10_heat_103 X Q x1 (x2 + (-(M.1 1 (((10 : Int32) * x3) + x6).toNatClampNeg))) x3 x4 (x6 + (1 : Int32)) M) ∧ (¬ (1 : Int32) = 0 → LX10_heat_103 X Q x1 (x2 + (-(-(M.1 1 (((10 : Int32) * x3) + x6).toNatClampNeg)))) x3 x4 (x6 + (1 : Int32)) M))) ∧ ((M.1 2 x6.toNatClampNeg) = (2 : Int32) → LX10_heat_103 X Q x1 (x2 + (0 : Int32)) x3 x4 (x6 + (1 : Int32)) M))))))) ∧ (¬ (M.1 2 x3.toNatClampNeg) = (1 : Int32) → (vp_in x6 10 ∧ ((¬ (M.1 2 x6.toNatClampNeg) = (1 : Int32) → (vp_in x3 10 ∧ ((¬ (M.1 2 x3.toNatClampNeg) = (2 : Int32) → (((0 : Int32) = 0 → LX10_heat_103 X Q x1 (x2 + (-(M.1 1 (((10 : Int32) * x3) + x6).toNatClampNeg))) x3 x4 (x6 + (1 : Int32)) M) ∧ (¬ (0 : Int32) = 0 → LX10_heat_103 X Q x1 (x2 + (-(-(M.1 1 (((10 : Int32) * x3) + x6).toNatClampNeg)))) x3 x4 (x6 + (1 : Int32)) M))) ∧ ((M.1 2 x3.toNatClampNeg) = (2 : Int32) → (vp_in x6 10 ∧ ((¬ (M.1 2 x6.toNatClampNeg) = (2 : Int32) → (((0 : Int32) = 0 → LX10_heat_103 X Q x1 (x2 + (-(M.1 1 (((10 : Int32) * x3) + x6).toNatClampNeg))) x3 x4 (x6 + (1 : Int32)) M) ∧ (¬ (0 : Int32) = 0 → LX10_heat_103 X Q x1 (x2 + (-(-(M.1 1 (((10 : Int32) * x3) + x6).toNatClampNeg)))) x3 x4 (x6 + (1 : Int32)) M))) ∧ ((M.1 2 x6.toNatClampNeg) = (2 : Int32) → LX10_heat_103 X Q x1 (x2 + (0 : Int32)) x3 x4 (x6 + (1 : Int32)) M))))))) ∧ ((M.1 2 x6.toNatClampNeg) = (1 : Int32) → (vp_in x3 10 ∧ ((¬ (M.1 2 x3.toNatClampNeg) = (2 : Int32) → (((1 : Int32) = 0 → LX10_heat_103 X Q x1 (x2 + (-(M.1 1 (((10 : Int32) * x3) + x6).toNatClampNeg))) x3 x4 (x6 + (1 : Int32)) M) ∧ (¬ (1 : Int32) = 0 → LX10_heat_103 X Q x1 (x2 + (-(-(M.1 1 (((10 : Int32) * x3) + x6).toNatClampNeg)))) x3 x4 (x6 + (1 : Int32)) M))) ∧ ((M.1 2 x3.toNatClampNeg) = (2 : Int32) → (vp_in x6 10 ∧ ((¬ (M.1 2 x6.toNatClampNeg) = (2 : Int32) → (((1 : Int32) = 0 → LX10_heat_103 X Q x1 (x2 + (-(M.1 1 (((10 : Int32) * x3) + x6).toNatClampNeg))) x3 x4 (x6 + (1 : Int32)) M) ∧ (¬ (1 : Int32) = 0 → LX10_heat_103 X Q x1 (x2 + (-(-(M.1 1 (((10 : Int32) * x3) + x6).toNatClampNeg)))) x3 x4 (x6 + (1 : Int32)) M))) ∧ ((M.1 2 x6.toNatClampNeg) = (2 : Int32) → LX10_heat_103 X Q x1 (x2 + (0 : Int32)) x3 x4 (x6 + (1 : Int32)) M)))))))))))))) ∧ (((x1 >>> (x6 &&& 31)) &&& (1 : Int32)) = x4 → (vp_in (((10 : Int32) * x3) + x6) 100 ∧ (vp_in x3 10 ∧ (((M.1 2 x3.toNatClampNeg) = (1 : Int32) → (vp_in x3 10 ∧ ((¬ (M.1 2 x3.toNatClampNeg) = (2 : Int32) → (((1 : Int32) = 0 → LX10_heat_103 X Q x1 (x2 + (M.1 1 (((10 : Int32) * x3) + x6).toNatClampNeg)) x3 x4 (x6 + (1 : Int32)) M) ∧ (¬ (1 : Int32) = 0 → LX10_heat_103 X Q x1 (x2 + (-(M.1 1 (((10 : Int32) * x3) + x6).toNatClampNeg))) x3 x4 (x6 + (1 : Int32)) M))) ∧ ((M.1 2 x3.toNatClampNeg) = (2 : Int32) → (vp_in x6 10 ∧ ((¬ (M.1 2 x6.toNatClampNeg) = (2 : Int32) → (((1 : Int32) = 0 → LX10_heat_103 X Q x1 (x2 + (M.1 1 (((10 : Int32) * x3) + x6).toNatClampNeg)) x3 x4 (x6 + (1 : Int32)) M) ∧ (¬ (1 : Int32) = 0 → LX10_heat_103 X Q x1 (x2 + (-(M.1 1 (((10 : Int32) * x3) + x6).toNatClampNeg))) x3 x4 (x6 + (1 : Int32)) M))) ∧ ((M.1 2 x6.toNatClampNeg) = (2 : Int32) → LX10_heat_103 X Q x1 (x2 + (0 : Int32)) x3 x4 (x6 + (1 : Int32)) M))))))) ∧ (¬ (M.1 2 x3.toNatClampNeg) = (1 : Int32) → (vp_in x6 10 ∧ ((¬ (M.1 2 x6.toNatClampNeg) = (1 : Int32) → (vp_in x3 10 ∧ ((¬ (M.1 2 x3.toNatClampNeg) = (2 : Int32) → (((0 : Int32) = 0 → LX10_heat_103 X Q x1 (x2 + (M.1 1 (((10 : Int32) * x3) + x6).toNatClampNeg)) x3 x4 (x6 + (1 : Int32)) M) ∧ (¬ (0 : Int32) = 0 → LX10_heat_103 X Q x1 (x2 + (-(M.1 1 (((10 : Int32) * x3) + x6).toNatClampNeg))) x3 x4 (x6 + (1 : Int32)) M))) ∧ ((M.1 2 x3.toNatClampNeg) = (2 : Int32) → (vp_in x6 10 ∧ ((¬ (M.1 2 x6.toNatClampNeg) = (2 : Int32) → (((0 : Int32) = 0 → LX10_heat_103 X Q x1 (x2 + (M.1 1 (((10 : Int32) * x3) + x6).toNatClampNeg)) x3 x4 (x6 + (1 : Int32)) M) ∧ (¬ (0 : Int32) = 0 → LX10_heat_103 X Q x1 (x2 + (-(M.1 1 (((10 : Int32) * x3) + x6).toNatClampNeg))) x3 x4 (x6 + (1 : Int32)) M))) ∧ ((M.1 2 x6.toNatClampNeg) = (2 : Int32) → LX10_heat_103 X Q x1 (x2 + (0 : Int32)) x3 x4 (x6 + (1 : Int32)) M))))))) ∧ ((M.1 2 x6.toNatClampNeg) = (1 : Int32) → (vp_in x3 10 ∧ ((¬ (M.1 2 x3.toNatClampNeg) = (2 : Int32) → (((1 : Int32) = 0 → LX10_heat_103 X Q x1 (x2 + (M.1 1 (((10 : Int32) * x3) + x6).toNatClampNeg)) x3 x4 (x6 + (1 : Int32)) M) ∧ (¬ (1 : Int32) = 0 → LX10_heat_103 X Q x1 (x2 + (-(M.1 1 (((10 : Int32) * x3) + x6).toNatClampNeg))) x3 x4 (x6 + (1 : Int32)) M))) ∧ ((M.1 2 x3.toNatClampNeg) = (2 : Int32) → (vp_in x6 10 ∧ ((¬ (M.1 2 x6.toNatClampNeg) = (2 : Int32) → (((1 : Int32) = 0 → LX10_heat_103 X Q x1 (x2 + (M.1 1 (((10 : Int32) * x3) + x6).toNatClampNeg)) x3 x4 (x6 + (1 : Int32)) M) ∧ (¬ (1 : Int32) = 0 → LX10_heat_103 X Q x1 (x2 + (-(M.1 1 (((10 : Int32) * x3) + x6).toNatClampNeg))) x3 x4 (x6 + (1 : Int32)) M))) ∧ ((M.1 2 x6.toNatClampNeg) = (2 : Int32) → LX10_heat_103 X Q x1 (x2 + (0 : Int32)) x3 x4 (x6 + (1 : Int32)) M)))))))))))))))))) : LX10_heat_103 X Q x1 x2 x3 x4 x6 M := by
  show Z SM X 2 9 Q 103 [(0, .ref (X.1.2.1 0)), (1, .int x1), (2, .int x2), (3, .int x3), (4, .int x4), (6, .int x6)] [] M
  refine z_iload hX dX10_heat_103 5 rfl ?_
  refine z_iload_n hX dX10_heat_105 rfl 3 rfl ?_
  refine z_icmp_ge hX 225 dX10_heat_106 (by decide) (fun c0 => ?_) (fun c0 => ?_)
  · replace h := h.1 c0
    refine z_iinc (v := x3 + (1 : Int32)) hX dX10_heat_225 3 rfl rfl (by decide) [(3, .int (x3 + (1 : Int32))), (0, .ref (X.1.2.1 0)), (1, .int x1), (2, .int x2), (4, .int x4), (6, .int x6)] rfl ?_
    refine z_goto hX 27 dX10_heat_228 (by decide) ?_
    exact z_sub [1, 2, 3, 0] rfl h
  · replace h := h.2 c0
    refine z_iload_n hX dX10_heat_109 rfl 1 rfl ?_
    refine z_iload hX dX10_heat_110 5 rfl ?_
    refine z_ishr hX dX10_heat_112 ?_
    refine z_iconst (v := 1) hX dX10_heat_113 (by decide) ?_
    refine z_iand hX dX10_heat_114 ?_
    refine z_iload hX dX10_heat_115 4 rfl ?_
    refine z_icmp_ne hX 135 dX10_heat_117 (by decide) (fun c0 => ?_) (fun c0 => ?_)
    · replace h := h.1 c0
      refine z_aload_n hX dX10_heat_135 rfl 0 rfl ?_
      refine gfX10_13 hX dX10_heat_136 ?_
      refine z_bipush (v := 10) hX dX10_heat_139 (by decide) ?_
      refine z_iload_n hX dX10_heat_141 rfl 3 rfl ?_
      refine z_imul hX dX10_heat_142 ?_
      refine z_iload hX dX10_heat_143 5 rfl ?_
      refine z_iadd hX dX10_heat_145 ?_
      refine z_iald hX 1 rfl h.1 dX10_heat_146 ?_
      replace h := h.2
      refine z_ineg hX dX10_heat_147 ?_
      refine z_istore hX dX10_heat_148 (by decide) [(7, .int (-(M.1 1 (((10 : Int32) * x3) + x6).toNatClampNeg))), (0, .ref (X.1.2.1 0)), (1, .int x1), (2, .int x2), (3, .int x3), (4, .int x4), (6, .int x6)] rfl ?_
      refine z_aload_n hX dX10_heat_150 rfl 1 rfl ?_
      refine gfX10_17 hX dX10_heat_151 ?_
      refine z_iload_n hX dX10_heat_154 rfl 4 rfl ?_
      refine z_iald hX 2 rfl h.1 dX10_heat_155 ?_
      replace h := h.2
      refine z_iconst (v := 1) hX dX10_heat_156 (by decide) ?_
      refine z_icmp_eq hX 171 dX10_heat_157 (by decide) (fun c0 => ?_) (fun c0 => ?_)
      · replace h := h.1 c0
        refine z_iconst (v := 1) hX dX10_heat_171 (by decide) ?_
        refine z_goto hX 176 dX10_heat_172 (by decide) ?_
        refine z_istore hX dX10_heat_176 (by decide) [(8, .int (1 : Int32)), (7, .int (-(M.1 1 (((10 : Int32) * x3) + x6).toNatClampNeg))), (0, .ref (X.1.2.1 0)), (1, .int x1), (2, .int x2), (3, .int x3), (4, .int x4), (6, .int x6)] rfl ?_
        refine z_iload_n hX dX10_heat_178 rfl 4 rfl ?_
        refine z_aload_n hX dX10_heat_179 rfl 2 rfl ?_
        refine gfX10_17 hX dX10_heat_180 ?_
        refine z_iload_n hX dX10_heat_183 rfl 5 rfl ?_
        refine z_iald hX 2 rfl h.1 dX10_heat_184 ?_
        replace h := h.2
        refine z_iconst (v := 2) hX dX10_heat_185 (by decide) ?_
        refine z_icmp_ne hX 204 dX10_heat_186 (by decide) (fun c0 => ?_) (fun c0 => ?_)
        · replace h := h.1 c0
          refine z_iload hX dX10_heat_204 0 rfl ?_
          refine z_if_eq hX 215 dX10_heat_206 (by decide) (fun c0 => ?_) (fun c0 => ?_)
          · replace h := h.1 c0
            refine z_iload hX dX10_heat_215 1 rfl ?_
            refine z_iadd hX dX10_heat_217 ?_
            refine z_istore_n hX dX10_heat_218 rfl (by decide) [(2, .int (x2 + (-(M.1 1 (((10 : Int32) * x3) + x6).toNatClampNeg)))), (8, .int (1 : Int32)), (7, .int (-(M.1 1 (((10 : Int32) * x3) + x6).toNatClampNeg))), (0, .ref (X.1.2.1 0)), (1, .int x1), (3, .int x3), (4, .int x4), (6, .int x6)] rfl ?_
            refine z_iinc (v := x6 + (1 : Int32)) hX dX10_heat_219 7 rfl rfl (by decide) [(6, .int (x6 + (1 : Int32))), (2, .int (x2 + (-(M.1 1 (((10 : Int32) * x3) + x6).toNatClampNeg)))), (8, .int (1 : Int32)), (7, .int (-(M.1 1 (((10 : Int32) * x3) + x6).toNatClampNeg))), (0, .ref (X.1.2.1 0)), (1, .int x1), (3, .int x3), (4, .int x4)] rfl ?_
            refine z_goto hX 103 dX10_heat_222 (by decide) ?_
            exact z_sub [4, 5, 1, 6, 7, 0] rfl h
          · replace h := h.2 c0
            refine z_iload hX dX10_heat_209 1 rfl ?_
            refine z_ineg hX dX10_heat_211 ?_
            refine z_goto hX 217 dX10_heat_212 (by decide) ?_
            refine z_iadd hX dX10_heat_217 ?_
            refine z_istore_n hX dX10_heat_218 rfl (by decide) [(2, .int (x2 + (-(-(M.1 1 (((10 : Int32) * x3) + x6).toNatClampNeg))))), (8, .int (1 : Int32)), (7, .int (-(M.1 1 (((10 : Int32) * x3) + x6).toNatClampNeg))), (0, .ref (X.1.2.1 0)), (1, .int x1), (3, .int x3), (4, .int x4), (6, .int x6)] rfl ?_
            refine z_iinc (v := x6 + (1 : Int32)) hX dX10_heat_219 7 rfl rfl (by decide) [(6, .int (x6 + (1 : Int32))), (2, .int (x2 + (-(-(M.1 1 (((10 : Int32) * x3) + x6).toNatClampNeg))))), (8, .int (1 : Int32)), (7, .int (-(M.1 1 (((10 : Int32) * x3) + x6).toNatClampNeg))), (0, .ref (X.1.2.1 0)), (1, .int x1), (3, .int x3), (4, .int x4)] rfl ?_
            refine z_goto hX 103 dX10_heat_222 (by decide) ?_
            exact z_sub [4, 5, 1, 6, 7, 0] rfl h
        · replace h := h.2 c0
          refine z_aload_n hX dX10_heat_189 rfl 2 rfl ?_
          refine gfX10_17 hX dX10_heat_190 ?_
          refine z_iload hX dX10_heat_193 7 rfl ?_
          refine z_iald hX 2 rfl h.1 dX10_heat_195 ?_
          replace h := h.2
          refine z_iconst (v := 2) hX dX10_heat_196 (by decide) ?_
          refine z_icmp_ne hX 204 dX10_heat_197 (by decide) (fun c0 => ?_) (fun c0 => ?_)
          · replace h := h.1 c0
            refine z_iload hX dX10_heat_204 0 rfl ?_
            refine z_if_eq hX 215 dX10_heat_206 (by decide) (fun c0 => ?_) (fun c0 => ?_)
            · replace h := h.1 c0
              refine z_iload hX dX10_heat_215 1 rfl ?_
              refine z_iadd hX dX10_heat_217 ?_
              refine z_istore_n hX dX10_heat_218 rfl (by decide) [(2, .int (x2 + (-(M.1 1 (((10 : Int32) * x3) + x6).toNatClampNeg)))), (8, .int (1 : Int32)), (7, .int (-(M.1 1 (((10 : Int32) * x3) + x6).toNatClampNeg))), (0, .ref (X.1.2.1 0)), (1, .int x1), (3, .int x3), (4, .int x4), (6, .int x6)] rfl ?_
              refine z_iinc (v := x6 + (1 : Int32)) hX dX10_heat_219 7 rfl rfl (by decide) [(6, .int (x6 + (1 : Int32))), (2, .int (x2 + (-(M.1 1 (((10 : Int32) * x3) + x6).toNatClampNeg)))), (8, .int (1 : Int32)), (7, .int (-(M.1 1 (((10 : Int32) * x3) + x6).toNatClampNeg))), (0, .ref (X.1.2.1 0)), (1, .int x1), (3, .int x3), (4, .int x4)] rfl ?_
              refine z_goto hX 103 dX10_heat_222 (by decide) ?_
              exact z_sub [4, 5, 1, 6, 7, 0] rfl h
            · replace h := h.2 c0
              refine z_iload hX dX10_heat_209 1 rfl ?_
              refine z_ineg hX dX10_heat_211 ?_
              refine z_goto hX 217 dX10_heat_212 (by decide) ?_
              refine z_iadd hX dX10_heat_217 ?_
              refine z_istore_n hX dX10_heat_218 rfl (by decide) [(2, .int (x2 + (-(-(M.1 1 (((10 : Int32) * x3) + x6).toNatClampNeg))))), (8, .int (1 : Int32)), (7, .int (-(M.1 1 (((10 : Int32) * x3) + x6).toNatClampNeg))), (0, .ref (X.1.2.1 0)), (1, .int x1), (3, .int x3), (4, .int x4), (6, .int x6)] rfl ?_
              refine z_iinc (v := x6 + (1 : Int32)) hX dX10_heat_219 7 rfl rfl (by decide) [(6, .int (x6 + (1 : Int32))), (2, .int (x2 + (-(-(M.1 1 (((10 : Int32) * x3) + x6).toNatClampNeg))))), (8, .int (1 : Int32)), (7, .int (-(M.1 1 (((10 : Int32) * x3) + x6).toNatClampNeg))), (0, .ref (X.1.2.1 0)), (1, .int x1), (3, .int x3), (4, .int x4)] rfl ?_
              refine z_goto hX 103 dX10_heat_222 (by decide) ?_
              exact z_sub [4, 5, 1, 6, 7, 0] rfl h
          · replace h := h.2 c0
            refine z_iconst (v := 0) hX dX10_heat_200 (by decide) ?_
            refine z_goto hX 217 dX10_heat_201 (by decide) ?_
            refine z_iadd hX dX10_heat_217 ?_
            refine z_istore_n hX dX10_heat_218 rfl (by decide) [(2, .int (x2 + (0 : Int32))), (8, .int (1 : Int32)), (7, .int (-(M.1 1 (((10 : Int32) * x3) + x6).toNatClampNeg))), (0, .ref (X.1.2.1 0)), (1, .int x1), (3, .int x3), (4, .int x4), (6, .int x6)] rfl ?_
            refine z_iinc (v := x6 + (1 : Int32)) hX dX10_heat_219 7 rfl rfl (by decide) [(6, .int (x6 + (1 : Int32))), (2, .int (x2 + (0 : Int32))), (8, .int (1 : Int32)), (7, .int (-(M.1 1 (((10 : Int32) * x3) + x6).toNatClampNeg))), (0, .ref (X.1.2.1 0)), (1, .int x1), (3, .int x3), (4, .int x4)] rfl ?_
            refine z_goto hX 103 dX10_heat_222 (by decide) ?_
            exact z_sub [4, 5, 1, 6, 7, 0] rfl h
      · replace h := h.2 c0
        refine z_aload_n hX dX10_heat_160 rfl 1 rfl ?_
        refine gfX10_17 hX dX10_heat_161 ?_
        refine z_iload hX dX10_heat_164 6 rfl ?_
        refine z_iald hX 2 rfl h.1 dX10_heat_166 ?_
        replace h := h.2
        refine z_iconst (v := 1) hX dX10_heat_167 (by decide) ?_
        refine z_icmp_ne hX 175 dX10_heat_168 (by decide) (fun c0 => ?_) (fun c0 => ?_)
        · replace h := h.1 c0
          refine z_iconst (v := 0) hX dX10_heat_175 (by decide) ?_
          refine z_istore hX dX10_heat_176 (by decide) [(8, .int (0 : Int32)), (7, .int (-(M.1 1 (((10 : Int32) * x3) + x6).toNatClampNeg))), (0, .ref (X.1.2.1 0)), (1, .int x1), (2, .int x2), (3, .int x3), (4, .int x4), (6, .int x6)] rfl ?_
          refine z_iload_n hX dX10_heat_178 rfl 4 rfl ?_
          refine z_aload_n hX dX10_heat_179 rfl 2 rfl ?_
          refine gfX10_17 hX dX10_heat_180 ?_
          refine z_iload_n hX dX10_heat_183 rfl 5 rfl ?_
          refine z_iald hX 2 rfl h.1 dX10_heat_184 ?_
          replace h := h.2
          refine z_iconst (v := 2) hX dX10_heat_185 (by decide) ?_
          refine z_icmp_ne hX 204 dX10_heat_186 (by decide) (fun c0 => ?_) (fun c0 => ?_)
          · replace h := h.1 c0
            refine z_iload hX dX10_heat_204 0 rfl ?_
            refine z_if_eq hX 215 dX10_heat_206 (by decide) (fun c0 => ?_) (fun c0 => ?_)
            · replace h := h.1 c0
              refine z_iload hX dX10_heat_215 1 rfl ?_
              refine z_iadd hX dX10_heat_217 ?_
              refine z_istore_n hX dX10_heat_218 rfl (by decide) [(2, .int (x2 + (-(M.1 1 (((10 : Int32) * x3) + x6).toNatClampNeg)))), (8, .int (0 : Int32)), (7, .int (-(M.1 1 (((10 : Int32) * x3) + x6).toNatClampNeg))), (0, .ref (X.1.2.1 0)), (1, .int x1), (3, .int x3), (4, .int x4), (6, .int x6)] rfl ?_
              refine z_iinc (v := x6 + (1 : Int32)) hX dX10_heat_219 7 rfl rfl (by decide) [(6, .int (x6 + (1 : Int32))), (2, .int (x2 + (-(M.1 1 (((10 : Int32) * x3) + x6).toNatClampNeg)))), (8, .int (0 : Int32)), (7, .int (-(M.1 1 (((10 : Int32) * x3) + x6).toNatClampNeg))), (0, .ref (X.1.2.1 0)), (1, .int x1), (3, .int x3), (4, .int x4)] rfl ?_
              refine z_goto hX 103 dX10_heat_222 (by decide) ?_
              exact z_sub [4, 5, 1, 6, 7, 0] rfl h
            · replace h := h.2 c0
              refine z_iload hX dX10_heat_209 1 rfl ?_
              refine z_ineg hX dX10_heat_211 ?_
              refine z_goto hX 217 dX10_heat_212 (by decide) ?_
              refine z_iadd hX dX10_heat_217 ?_
              refine z_istore_n hX dX10_heat_218 rfl (by decide) [(2, .int (x2 + (-(-(M.1 1 (((10 : Int32) * x3) + x6).toNatClampNeg))))), (8, .int (0 : Int32)), (7, .int (-(M.1 1 (((10 : Int32) * x3) + x6).toNatClampNeg))), (0, .ref (X.1.2.1 0)), (1, .int x1), (3, .int x3), (4, .int x4), (6, .int x6)] rfl ?_
              refine z_iinc (v := x6 + (1 : Int32)) hX dX10_heat_219 7 rfl rfl (by decide) [(6, .int (x6 + (1 : Int32))), (2, .int (x2 + (-(-(M.1 1 (((10 : Int32) * x3) + x6).toNatClampNeg))))), (8, .int (0 : Int32)), (7, .int (-(M.1 1 (((10 : Int32) * x3) + x6).toNatClampNeg))), (0, .ref (X.1.2.1 0)), (1, .int x1), (3, .int x3), (4, .int x4)] rfl ?_
              refine z_goto hX 103 dX10_heat_222 (by decide) ?_
              exact z_sub [4, 5, 1, 6, 7, 0] rfl h
          · replace h := h.2 c0
            refine z_aload_n hX dX10_heat_189 rfl 2 rfl ?_
            refine gfX10_17 hX dX10_heat_190 ?_
            refine z_iload hX dX10_heat_193 7 rfl ?_
            refine z_iald hX 2 rfl h.1 dX10_heat_195 ?_
            replace h := h.2
            refine z_iconst (v := 2) hX dX10_heat_196 (by decide) ?_
            refine z_icmp_ne hX 204 dX10_heat_197 (by decide) (fun c0 => ?_) (fun c0 => ?_)
            · replace h := h.1 c0
              refine z_iload hX dX10_heat_204 0 rfl ?_
              refine z_if_eq hX 215 dX10_heat_206 (by decide) (fun c0 => ?_) (fun c0 => ?_)
              · replace h := h.1 c0
                refine z_iload hX dX10_heat_215 1 rfl ?_
                refine z_iadd hX dX10_heat_217 ?_
                refine z_istore_n hX dX10_heat_218 rfl (by decide) [(2, .int (x2 + (-(M.1 1 (((10 : Int32) * x3) + x6).toNatClampNeg)))), (8, .int (0 : Int32)), (7, .int (-(M.1 1 (((10 : Int32) * x3) + x6).toNatClampNeg))), (0, .ref (X.1.2.1 0)), (1, .int x1), (3, .int x3), (4, .int x4), (6, .int x6)] rfl ?_
                refine z_iinc (v := x6 + (1 : Int32)) hX dX10_heat_219 7 rfl rfl (by decide) [(6, .int (x6 + (1 : Int32))), (2, .int (x2 + (-(M.1 1 (((10 : Int32) * x3) + x6).toNatClampNeg)))), (8, .int (0 : Int32)), (7, .int (-(M.1 1 (((10 : Int32) * x3) + x6).toNatClampNeg))), (0, .ref (X.1.2.1 0)), (1, .int x1), (3, .int x3), (4, .int x4)] rfl ?_
                refine z_goto hX 103 dX10_heat_222 (by decide) ?_
                exact z_sub [4, 5, 1, 6, 7, 0] rfl h
              · replace h := h.2 c0
                refine z_iload hX dX10_heat_209 1 rfl ?_
                refine z_ineg hX dX10_heat_211 ?_
                refine z_goto hX 217 dX10_heat_212 (by decide) ?_
                refine z_iadd hX dX10_heat_217 ?_
                refine z_istore_n hX dX10_heat_218 rfl (by decide) [(2, .int (x2 + (-(-(M.1 1 (((10 : Int32) * x3) + x6).toNatClampNeg))))), (8, .int (0 : Int32)), (7, .int (-(M.1 1 (((10 : Int32) * x3) + x6).toNatClampNeg))), (0, .ref (X.1.2.1 0)), (1, .int x1), (3, .int x3), (4, .int x4), (6, .int x6)] rfl ?_
                refine z_iinc (v := x6 + (1 : Int32)) hX dX10_heat_219 7 rfl rfl (by decide) [(6, .int (x6 + (1 : Int32))), (2, .int (x2 + (-(-(M.1 1 (((10 : Int32) * x3) + x6).toNatClampNeg))))), (8, .int (0 : Int32)), (7, .int (-(M.1 1 (((10 : Int32) * x3) + x6).toNatClampNeg))), (0, .ref (X.1.2.1 0)), (1, .int x1), (3, .int x3), (4, .int x4)] rfl ?_
                refine z_goto hX 103 dX10_heat_222 (by decide) ?_
                exact z_sub [4, 5, 1, 6, 7, 0] rfl h
            · replace h := h.2 c0
              refine z_iconst (v := 0) hX dX10_heat_200 (by decide) ?_
              refine z_goto hX 217 dX10_heat_201 (by decide) ?_
              refine z_iadd hX dX10_heat_217 ?_
              refine z_istore_n hX dX10_heat_218 rfl (by decide) [(2, .int (x2 + (0 : Int32))), (8, .int (0 : Int32)), (7, .int (-(M.1 1 (((10 : Int32) * x3) + x6).toNatClampNeg))), (0, .ref (X.1.2.1 0)), (1, .int x1), (3, .int x3), (4, .int x4), (6, .int x6)] rfl ?_
              refine z_iinc (v := x6 + (1 : Int32)) hX dX10_heat_219 7 rfl rfl (by decide) [(6, .int (x6 + (1 : Int32))), (2, .int (x2 + (0 : Int32))), (8, .int (0 : Int32)), (7, .int (-(M.1 1 (((10 : Int32) * x3) + x6).toNatClampNeg))), (0, .ref (X.1.2.1 0)), (1, .int x1), (3, .int x3), (4, .int x4)] rfl ?_
              refine z_goto hX 103 dX10_heat_222 (by decide) ?_
              exact z_sub [4, 5, 1, 6, 7, 0] rfl h
        · replace h := h.2 c0
          refine z_iconst (v := 1) hX dX10_heat_171 (by decide) ?_
          refine z_goto hX 176 dX10_heat_172 (by decide) ?_
          refine z_istore hX dX10_heat_176 (by decide) [(8, .int (1 : Int32)), (7, .int (-(M.1 1 (((10 : Int32) * x3) + x6).toNatClampNeg))), (0, .ref (X.1.2.1 0)), (1, .int x1), (2, .int x2), (3, .int x3), (4, .int x4), (6, .int x6)] rfl ?_
          refine z_iload_n hX dX10_heat_178 rfl 4 rfl ?_
          refine z_aload_n hX dX10_heat_179 rfl 2 rfl ?_
          refine gfX10_17 hX dX10_heat_180 ?_
          refine z_iload_n hX dX10_heat_183 rfl 5 rfl ?_
          refine z_iald hX 2 rfl h.1 dX10_heat_184 ?_
          replace h := h.2
          refine z_iconst (v := 2) hX dX10_heat_185 (by decide) ?_
          refine z_icmp_ne hX 204 dX10_heat_186 (by decide) (fun c0 => ?_) (fun c0 => ?_)
          · replace h := h.1 c0
            refine z_iload hX dX10_heat_204 0 rfl ?_
            refine z_if_eq hX 215 dX10_heat_206 (by decide) (fun c0 => ?_) (fun c0 => ?_)
            · replace h := h.1 c0
              refine z_iload hX dX10_heat_215 1 rfl ?_
              refine z_iadd hX dX10_heat_217 ?_
              refine z_istore_n hX dX10_heat_218 rfl (by decide) [(2, .int (x2 + (-(M.1 1 (((10 : Int32) * x3) + x6).toNatClampNeg)))), (8, .int (1 : Int32)), (7, .int (-(M.1 1 (((10 : Int32) * x3) + x6).toNatClampNeg))), (0, .ref (X.1.2.1 0)), (1, .int x1), (3, .int x3), (4, .int x4), (6, .int x6)] rfl ?_
              refine z_iinc (v := x6 + (1 : Int32)) hX dX10_heat_219 7 rfl rfl (by decide) [(6, .int (x6 + (1 : Int32))), (2, .int (x2 + (-(M.1 1 (((10 : Int32) * x3) + x6).toNatClampNeg)))), (8, .int (1 : Int32)), (7, .int (-(M.1 1 (((10 : Int32) * x3) + x6).toNatClampNeg))), (0, .ref (X.1.2.1 0)), (1, .int x1), (3, .int x3), (4, .int x4)] rfl ?_
              refine z_goto hX 103 dX10_heat_222 (by decide) ?_
              exact z_sub [4, 5, 1, 6, 7, 0] rfl h
            · replace h := h.2 c0
              refine z_iload hX dX10_heat_209 1 rfl ?_
              refine z_ineg hX dX10_heat_211 ?_
              refine z_goto hX 217 dX10_heat_212 (by decide) ?_
              refine z_iadd hX dX10_heat_217 ?_
              refine z_istore_n hX dX10_heat_218 rfl (by decide) [(2, .int (x2 + (-(-(M.1 1 (((10 : Int32) * x3) + x6).toNatClampNeg))))), (8, .int (1 : Int32)), (7, .int (-(M.1 1 (((10 : Int32) * x3) + x6).toNatClampNeg))), (0, .ref (X.1.2.1 0)), (1, .int x1), (3, .int x3), (4, .int x4), (6, .int x6)] rfl ?_
              refine z_iinc (v := x6 + (1 : Int32)) hX dX10_heat_219 7 rfl rfl (by decide) [(6, .int (x6 + (1 : Int32))), (2, .int (x2 + (-(-(M.1 1 (((10 : Int32) * x3) + x6).toNatClampNeg))))), (8, .int (1 : Int32)), (7, .int (-(M.1 1 (((10 : Int32) * x3) + x6).toNatClampNeg))), (0, .ref (X.1.2.1 0)), (1, .int x1), (3, .int x3), (4, .int x4)] rfl ?_
              refine z_goto hX 103 dX10_heat_222 (by decide) ?_
              exact z_sub [4, 5, 1, 6, 7, 0] rfl h
          · replace h := h.2 c0
            refine z_aload_n hX dX10_heat_189 rfl 2 rfl ?_
            refine gfX10_17 hX dX10_heat_190 ?_
            refine z_iload hX dX10_heat_193 7 rfl ?_
            refine z_iald hX 2 rfl h.1 dX10_heat_195 ?_
            replace h := h.2
            refine z_iconst (v := 2) hX dX10_heat_196 (by decide) ?_
            refine z_icmp_ne hX 204 dX10_heat_197 (by decide) (fun c0 => ?_) (fun c0 => ?_)
            · replace h := h.1 c0
              refine z_iload hX dX10_heat_204 0 rfl ?_
              refine z_if_eq hX 215 dX10_heat_206 (by decide) (fun c0 => ?_) (fun c0 => ?_)
              · replace h := h.1 c0
                refine z_iload hX dX10_heat_215 1 rfl ?_
                refine z_iadd hX dX10_heat_217 ?_
                refine z_istore_n hX dX10_heat_218 rfl (by decide) [(2, .int (x2 + (-(M.1 1 (((10 : Int32) * x3) + x6).toNatClampNeg)))), (8, .int (1 : Int32)), (7, .int (-(M.1 1 (((10 : Int32) * x3) + x6).toNatClampNeg))), (0, .ref (X.1.2.1 0)), (1, .int x1), (3, .int x3), (4, .int x4), (6, .int x6)] rfl ?_
                refine z_iinc (v := x6 + (1 : Int32)) hX dX10_heat_219 7 rfl rfl (by decide) [(6, .int (x6 + (1 : Int32))), (2, .int (x2 + (-(M.1 1 (((10 : Int32) * x3) + x6).toNatClampNeg)))), (8, .int (1 : Int32)), (7, .int (-(M.1 1 (((10 : Int32) * x3) + x6).toNatClampNeg))), (0, .ref (X.1.2.1 0)), (1, .int x1), (3, .int x3), (4, .int x4)] rfl ?_
                refine z_goto hX 103 dX10_heat_222 (by decide) ?_
                exact z_sub [4, 5, 1, 6, 7, 0] rfl h
              · replace h := h.2 c0
                refine z_iload hX dX10_heat_209 1 rfl ?_
                refine z_ineg hX dX10_heat_211 ?_
                refine z_goto hX 217 dX10_heat_212 (by decide) ?_
                refine z_iadd hX dX10_heat_217 ?_
                refine z_istore_n hX dX10_heat_218 rfl (by decide) [(2, .int (x2 + (-(-(M.1 1 (((10 : Int32) * x3) + x6).toNatClampNeg))))), (8, .int (1 : Int32)), (7, .int (-(M.1 1 (((10 : Int32) * x3) + x6).toNatClampNeg))), (0, .ref (X.1.2.1 0)), (1, .int x1), (3, .int x3), (4, .int x4), (6, .int x6)] rfl ?_
                refine z_iinc (v := x6 + (1 : Int32)) hX dX10_heat_219 7 rfl rfl (by decide) [(6, .int (x6 + (1 : Int32))), (2, .int (x2 + (-(-(M.1 1 (((10 : Int32) * x3) + x6).toNatClampNeg))))), (8, .int (1 : Int32)), (7, .int (-(M.1 1 (((10 : Int32) * x3) + x6).toNatClampNeg))), (0, .ref (X.1.2.1 0)), (1, .int x1), (3, .int x3), (4, .int x4)] rfl ?_
                refine z_goto hX 103 dX10_heat_222 (by decide) ?_
                exact z_sub [4, 5, 1, 6, 7, 0] rfl h
            · replace h := h.2 c0
              refine z_iconst (v := 0) hX dX10_heat_200 (by decide) ?_
              refine z_goto hX 217 dX10_heat_201 (by decide) ?_
              refine z_iadd hX dX10_heat_217 ?_
              refine z_istore_n hX dX10_heat_218 rfl (by decide) [(2, .int (x2 + (0 : Int32))), (8, .int (1 : Int32)), (7, .int (-(M.1 1 (((10 : Int32) * x3) + x6).toNatClampNeg))), (0, .ref (X.1.2.1 0)), (1, .int x1), (3, .int x3), (4, .int x4), (6, .int x6)] rfl ?_
              refine z_iinc (v := x6 + (1 : Int32)) hX dX10_heat_219 7 rfl rfl (by decide) [(6, .int (x6 + (1 : Int32))), (2, .int (x2 + (0 : Int32))), (8, .int (1 : Int32)), (7, .int (-(M.1 1 (((10 : Int32) * x3) + x6).toNatClampNeg))), (0, .ref (X.1.2.1 0)), (1, .int x1), (3, .int x3), (4, .int x4)] rfl ?_
              refine z_goto hX 103 dX10_heat_222 (by decide) ?_
              exact z_sub [4, 5, 1, 6, 7, 0] rfl h
    · replace h := h.2 c0
      refine z_aload_n hX dX10_heat_120 rfl 0 rfl ?_
      refine gfX10_13 hX dX10_heat_121 ?_
      refine z_bipush (v := 10) hX dX10_heat_124 (by decide) ?_
      refine z_iload_n hX dX10_heat_126 rfl 3 rfl ?_
      refine z_imul hX dX10_heat_127 ?_
      refine z_iload hX dX10_heat_128 5 rfl ?_
      refine z_iadd hX dX10_heat_130 ?_
      refine z_iald hX 1 rfl h.1 dX10_heat_131 ?_
      replace h := h.2
      refine z_goto hX 148 dX10_heat_132 (by decide) ?_
      refine z_istore hX dX10_heat_148 (by decide) [(7, .int (M.1 1 (((10 : Int32) * x3) + x6).toNatClampNeg)), (0, .ref (X.1.2.1 0)), (1, .int x1), (2, .int x2), (3, .int x3), (4, .int x4), (6, .int x6)] rfl ?_
      refine z_aload_n hX dX10_heat_150 rfl 1 rfl ?_
      refine gfX10_17 hX dX10_heat_151 ?_
      refine z_iload_n hX dX10_heat_154 rfl 4 rfl ?_
      refine z_iald hX 2 rfl h.1 dX10_heat_155 ?_
      replace h := h.2
      refine z_iconst (v := 1) hX dX10_heat_156 (by decide) ?_
      refine z_icmp_eq hX 171 dX10_heat_157 (by decide) (fun c0 => ?_) (fun c0 => ?_)
      · replace h := h.1 c0
        refine z_iconst (v := 1) hX dX10_heat_171 (by decide) ?_
        refine z_goto hX 176 dX10_heat_172 (by decide) ?_
        refine z_istore hX dX10_heat_176 (by decide) [(8, .int (1 : Int32)), (7, .int (M.1 1 (((10 : Int32) * x3) + x6).toNatClampNeg)), (0, .ref (X.1.2.1 0)), (1, .int x1), (2, .int x2), (3, .int x3), (4, .int x4), (6, .int x6)] rfl ?_
        refine z_iload_n hX dX10_heat_178 rfl 4 rfl ?_
        refine z_aload_n hX dX10_heat_179 rfl 2 rfl ?_
        refine gfX10_17 hX dX10_heat_180 ?_
        refine z_iload_n hX dX10_heat_183 rfl 5 rfl ?_
        refine z_iald hX 2 rfl h.1 dX10_heat_184 ?_
        replace h := h.2
        refine z_iconst (v := 2) hX dX10_heat_185 (by decide) ?_
        refine z_icmp_ne hX 204 dX10_heat_186 (by decide) (fun c0 => ?_) (fun c0 => ?_)
        · replace h := h.1 c0
          refine z_iload hX dX10_heat_204 0 rfl ?_
          refine z_if_eq hX 215 dX10_heat_206 (by decide) (fun c0 => ?_) (fun c0 => ?_)
          · replace h := h.1 c0
            refine z_iload hX dX10_heat_215 1 rfl ?_
            refine z_iadd hX dX10_heat_217 ?_
            refine z_istore_n hX dX10_heat_218 rfl (by decide) [(2, .int (x2 + (M.1 1 (((10 : Int32) * x3) + x6).toNatClampNeg))), (8, .int (1 : Int32)), (7, .int (M.1 1 (((10 : Int32) * x3) + x6).toNatClampNeg)), (0, .ref (X.1.2.1 0)), (1, .int x1), (3, .int x3), (4, .int x4), (6, .int x6)] rfl ?_
            refine z_iinc (v := x6 + (1 : Int32)) hX dX10_heat_219 7 rfl rfl (by decide) [(6, .int (x6 + (1 : Int32))), (2, .int (x2 + (M.1 1 (((10 : Int32) * x3) + x6).toNatClampNeg))), (8, .int (1 : Int32)), (7, .int (M.1 1 (((10 : Int32) * x3) + x6).toNatClampNeg)), (0, .ref (X.1.2.1 0)), (1, .int x1), (3, .int x3), (4, .int x4)] rfl ?_
            refine z_goto hX 103 dX10_heat_222 (by decide) ?_
            exact z_sub [4, 5, 1, 6, 7, 0] rfl h
          · replace h := h.2 c0
            refine z_iload hX dX10_heat_209 1 rfl ?_
            refine z_ineg hX dX10_heat_211 ?_
            refine z_goto hX 217 dX10_heat_212 (by decide) ?_
            refine z_iadd hX dX10_heat_217 ?_
            refine z_istore_n hX dX10_heat_218 rfl (by decide) [(2, .int (x2 + (-(M.1 1 (((10 : Int32) * x3) + x6).toNatClampNeg)))), (8, .int (1 : Int32)), (7, .int (M.1 1 (((10 : Int32) * x3) + x6).toNatClampNeg)), (0, .ref (X.1.2.1 0)), (1, .int x1), (3, .int x3), (4, .int x4), (6, .int x6)] rfl ?_
            refine z_iinc (v := x6 + (1 : Int32)) hX dX10_heat_219 7 rfl rfl (by decide) [(6, .int (x6 + (1 : Int32))), (2, .int (x2 + (-(M.1 1 (((10 : Int32) * x3) + x6).toNatClampNeg)))), (8, .int (1 : Int32)), (7, .int (M.1 1 (((10 : Int32) * x3) + x6).toNatClampNeg)), (0, .ref (X.1.2.1 0)), (1, .int x1), (3, .int x3), (4, .int x4)] rfl ?_
            refine z_goto hX 103 dX10_heat_222 (by decide) ?_
            exact z_sub [4, 5, 1, 6, 7, 0] rfl h
        · replace h := h.2 c0
          refine z_aload_n hX dX10_heat_189 rfl 2 rfl ?_
          refine gfX10_17 hX dX10_heat_190 ?_
          refine z_iload hX dX10_heat_193 7 rfl ?_
          refine z_iald hX 2 rfl h.1 dX10_heat_195 ?_
          replace h := h.2
          refine z_iconst (v := 2) hX dX10_heat_196 (by decide) ?_
          refine z_icmp_ne hX 204 dX10_heat_197 (by decide) (fun c0 => ?_) (fun c0 => ?_)
          · replace h := h.1 c0
            refine z_iload hX dX10_heat_204 0 rfl ?_
            refine z_if_eq hX 215 dX10_heat_206 (by decide) (fun c0 => ?_) (fun c0 => ?_)
            · replace h := h.1 c0
              refine z_iload hX dX10_heat_215 1 rfl ?_
              refine z_iadd hX dX10_heat_217 ?_
              refine z_istore_n hX dX10_heat_218 rfl (by decide) [(2, .int (x2 + (M.1 1 (((10 : Int32) * x3) + x6).toNatClampNeg))), (8, .int (1 : Int32)), (7, .int (M.1 1 (((10 : Int32) * x3) + x6).toNatClampNeg)), (0, .ref (X.1.2.1 0)), (1, .int x1), (3, .int x3), (4, .int x4), (6, .int x6)] rfl ?_
              refine z_iinc (v := x6 + (1 : Int32)) hX dX10_heat_219 7 rfl rfl (by decide) [(6, .int (x6 + (1 : Int32))), (2, .int (x2 + (M.1 1 (((10 : Int32) * x3) + x6).toNatClampNeg))), (8, .int (1 : Int32)), (7, .int (M.1 1 (((10 : Int32) * x3) + x6).toNatClampNeg)), (0, .ref (X.1.2.1 0)), (1, .int x1), (3, .int x3), (4, .int x4)] rfl ?_
              refine z_goto hX 103 dX10_heat_222 (by decide) ?_
              exact z_sub [4, 5, 1, 6, 7, 0] rfl h
            · replace h := h.2 c0
              refine z_iload hX dX10_heat_209 1 rfl ?_
              refine z_ineg hX dX10_heat_211 ?_
              refine z_goto hX 217 dX10_heat_212 (by decide) ?_
              refine z_iadd hX dX10_heat_217 ?_
              refine z_istore_n hX dX10_heat_218 rfl (by decide) [(2, .int (x2 + (-(M.1 1 (((10 : Int32) * x3) + x6).toNatClampNeg)))), (8, .int (1 : Int32)), (7, .int (M.1 1 (((10 : Int32) * x3) + x6).toNatClampNeg)), (0, .ref (X.1.2.1 0)), (1, .int x1), (3, .int x3), (4, .int x4), (6, .int x6)] rfl ?_
              refine z_iinc (v := x6 + (1 : Int32)) hX dX10_heat_219 7 rfl rfl (by decide) [(6, .int (x6 + (1 : Int32))), (2, .int (x2 + (-(M.1 1 (((10 : Int32) * x3) + x6).toNatClampNeg)))), (8, .int (1 : Int32)), (7, .int (M.1 1 (((10 : Int32) * x3) + x6).toNatClampNeg)), (0, .ref (X.1.2.1 0)), (1, .int x1), (3, .int x3), (4, .int x4)] rfl ?_
              refine z_goto hX 103 dX10_heat_222 (by decide) ?_
              exact z_sub [4, 5, 1, 6, 7, 0] rfl h
          · replace h := h.2 c0
            refine z_iconst (v := 0) hX dX10_heat_200 (by decide) ?_
            refine z_goto hX 217 dX10_heat_201 (by decide) ?_
            refine z_iadd hX dX10_heat_217 ?_
            refine z_istore_n hX dX10_heat_218 rfl (by decide) [(2, .int (x2 + (0 : Int32))), (8, .int (1 : Int32)), (7, .int (M.1 1 (((10 : Int32) * x3) + x6).toNatClampNeg)), (0, .ref (X.1.2.1 0)), (1, .int x1), (3, .int x3), (4, .int x4), (6, .int x6)] rfl ?_
            refine z_iinc (v := x6 + (1 : Int32)) hX dX10_heat_219 7 rfl rfl (by decide) [(6, .int (x6 + (1 : Int32))), (2, .int (x2 + (0 : Int32))), (8, .int (1 : Int32)), (7, .int (M.1 1 (((10 : Int32) * x3) + x6).toNatClampNeg)), (0, .ref (X.1.2.1 0)), (1, .int x1), (3, .int x3), (4, .int x4)] rfl ?_
            refine z_goto hX 103 dX10_heat_222 (by decide) ?_
            exact z_sub [4, 5, 1, 6, 7, 0] rfl h
      · replace h := h.2 c0
        refine z_aload_n hX dX10_heat_160 rfl 1 rfl ?_
        refine gfX10_17 hX dX10_heat_161 ?_
        refine z_iload hX dX10_heat_164 6 rfl ?_
        refine z_iald hX 2 rfl h.1 dX10_heat_166 ?_
        replace h := h.2
        refine z_iconst (v := 1) hX dX10_heat_167 (by decide) ?_
        refine z_icmp_ne hX 175 dX10_heat_168 (by decide) (fun c0 => ?_) (fun c0 => ?_)
        · replace h := h.1 c0
          refine z_iconst (v := 0) hX dX10_heat_175 (by decide) ?_
          refine z_istore hX dX10_heat_176 (by decide) [(8, .int (0 : Int32)), (7, .int (M.1 1 (((10 : Int32) * x3) + x6).toNatClampNeg)), (0, .ref (X.1.2.1 0)), (1, .int x1), (2, .int x2), (3, .int x3), (4, .int x4), (6, .int x6)] rfl ?_
          refine z_iload_n hX dX10_heat_178 rfl 4 rfl ?_
          refine z_aload_n hX dX10_heat_179 rfl 2 rfl ?_
          refine gfX10_17 hX dX10_heat_180 ?_
          refine z_iload_n hX dX10_heat_183 rfl 5 rfl ?_
          refine z_iald hX 2 rfl h.1 dX10_heat_184 ?_
          replace h := h.2
          refine z_iconst (v := 2) hX dX10_heat_185 (by decide) ?_
          refine z_icmp_ne hX 204 dX10_heat_186 (by decide) (fun c0 => ?_) (fun c0 => ?_)
          · replace h := h.1 c0
            refine z_iload hX dX10_heat_204 0 rfl ?_
            refine z_if_eq hX 215 dX10_heat_206 (by decide) (fun c0 => ?_) (fun c0 => ?_)
            · replace h := h.1 c0
              refine z_iload hX dX10_heat_215 1 rfl ?_
              refine z_iadd hX dX10_heat_217 ?_
              refine z_istore_n hX dX10_heat_218 rfl (by decide) [(2, .int (x2 + (M.1 1 (((10 : Int32) * x3) + x6).toNatClampNeg))), (8, .int (0 : Int32)), (7, .int (M.1 1 (((10 : Int32) * x3) + x6).toNatClampNeg)), (0, .ref (X.1.2.1 0)), (1, .int x1), (3, .int x3), (4, .int x4), (6, .int x6)] rfl ?_
              refine z_iinc (v := x6 + (1 : Int32)) hX dX10_heat_219 7 rfl rfl (by decide) [(6, .int (x6 + (1 : Int32))), (2, .int (x2 + (M.1 1 (((10 : Int32) * x3) + x6).toNatClampNeg))), (8, .int (0 : Int32)), (7, .int (M.1 1 (((10 : Int32) * x3) + x6).toNatClampNeg)), (0, .ref (X.1.2.1 0)), (1, .int x1), (3, .int x3), (4, .int x4)] rfl ?_
              refine z_goto hX 103 dX10_heat_222 (by decide) ?_
              exact z_sub [4, 5, 1, 6, 7, 0] rfl h
            · replace h := h.2 c0
              refine z_iload hX dX10_heat_209 1 rfl ?_
              refine z_ineg hX dX10_heat_211 ?_
              refine z_goto hX 217 dX10_heat_212 (by decide) ?_
              refine z_iadd hX dX10_heat_217 ?_
              refine z_istore_n hX dX10_heat_218 rfl (by decide) [(2, .int (x2 + (-(M.1 1 (((10 : Int32) * x3) + x6).toNatClampNeg)))), (8, .int (0 : Int32)), (7, .int (M.1 1 (((10 : Int32) * x3) + x6).toNatClampNeg)), (0, .ref (X.1.2.1 0)), (1, .int x1), (3, .int x3), (4, .int x4), (6, .int x6)] rfl ?_
              refine z_iinc (v := x6 + (1 : Int32)) hX dX10_heat_219 7 rfl rfl (by decide) [(6, .int (x6 + (1 : Int32))), (2, .int (x2 + (-(M.1 1 (((10 : Int32) * x3) + x6).toNatClampNeg)))), (8, .int (0 : Int32)), (7, .int (M.1 1 (((10 : Int32) * x3) + x6).toNatClampNeg)), (0, .ref (X.1.2.1 0)), (1, .int x1), (3, .int x3), (4, .int x4)] rfl ?_
              refine z_goto hX 103 dX10_heat_222 (by decide) ?_
              exact z_sub [4, 5, 1, 6, 7, 0] rfl h
          · replace h := h.2 c0
            refine z_aload_n hX dX10_heat_189 rfl 2 rfl ?_
            refine gfX10_17 hX dX10_heat_190 ?_
            refine z_iload hX dX10_heat_193 7 rfl ?_
            refine z_iald hX 2 rfl h.1 dX10_heat_195 ?_
            replace h := h.2
            refine z_iconst (v := 2) hX dX10_heat_196 (by decide) ?_
            refine z_icmp_ne hX 204 dX10_heat_197 (by decide) (fun c0 => ?_) (fun c0 => ?_)
            · replace h := h.1 c0
              refine z_iload hX dX10_heat_204 0 rfl ?_
              refine z_if_eq hX 215 dX10_heat_206 (by decide) (fun c0 => ?_) (fun c0 => ?_)
              · replace h := h.1 c0
                refine z_iload hX dX10_heat_215 1 rfl ?_
                refine z_iadd hX dX10_heat_217 ?_
                refine z_istore_n hX dX10_heat_218 rfl (by decide) [(2, .int (x2 + (M.1 1 (((10 : Int32) * x3) + x6).toNatClampNeg))), (8, .int (0 : Int32)), (7, .int (M.1 1 (((10 : Int32) * x3) + x6).toNatClampNeg)), (0, .ref (X.1.2.1 0)), (1, .int x1), (3, .int x3), (4, .int x4), (6, .int x6)] rfl ?_
                refine z_iinc (v := x6 + (1 : Int32)) hX dX10_heat_219 7 rfl rfl (by decide) [(6, .int (x6 + (1 : Int32))), (2, .int (x2 + (M.1 1 (((10 : Int32) * x3) + x6).toNatClampNeg))), (8, .int (0 : Int32)), (7, .int (M.1 1 (((10 : Int32) * x3) + x6).toNatClampNeg)), (0, .ref (X.1.2.1 0)), (1, .int x1), (3, .int x3), (4, .int x4)] rfl ?_
                refine z_goto hX 103 dX10_heat_222 (by decide) ?_
                exact z_sub [4, 5, 1, 6, 7, 0] rfl h
              · replace h := h.2 c0
                refine z_iload hX dX10_heat_209 1 rfl ?_
                refine z_ineg hX dX10_heat_211 ?_
                refine z_goto hX 217 dX10_heat_212 (by decide) ?_
                refine z_iadd hX dX10_heat_217 ?_
                refine z_istore_n hX dX10_heat_218 rfl (by decide) [(2, .int (x2 + (-(M.1 1 (((10 : Int32) * x3) + x6).toNatClampNeg)))), (8, .int (0 : Int32)), (7, .int (M.1 1 (((10 : Int32) * x3) + x6).toNatClampNeg)), (0, .ref (X.1.2.1 0)), (1, .int x1), (3, .int x3), (4, .int x4), (6, .int x6)] rfl ?_
                refine z_iinc (v := x6 + (1 : Int32)) hX dX10_heat_219 7 rfl rfl (by decide) [(6, .int (x6 + (1 : Int32))), (2, .int (x2 + (-(M.1 1 (((10 : Int32) * x3) + x6).toNatClampNeg)))), (8, .int (0 : Int32)), (7, .int (M.1 1 (((10 : Int32) * x3) + x6).toNatClampNeg)), (0, .ref (X.1.2.1 0)), (1, .int x1), (3, .int x3), (4, .int x4)] rfl ?_
                refine z_goto hX 103 dX10_heat_222 (by decide) ?_
                exact z_sub [4, 5, 1, 6, 7, 0] rfl h
            · replace h := h.2 c0
              refine z_iconst (v := 0) hX dX10_heat_200 (by decide) ?_
              refine z_goto hX 217 dX10_heat_201 (by decide) ?_
              refine z_iadd hX dX10_heat_217 ?_
              refine z_istore_n hX dX10_heat_218 rfl (by decide) [(2, .int (x2 + (0 : Int32))), (8, .int (0 : Int32)), (7, .int (M.1 1 (((10 : Int32) * x3) + x6).toNatClampNeg)), (0, .ref (X.1.2.1 0)), (1, .int x1), (3, .int x3), (4, .int x4), (6, .int x6)] rfl ?_
              refine z_iinc (v := x6 + (1 : Int32)) hX dX10_heat_219 7 rfl rfl (by decide) [(6, .int (x6 + (1 : Int32))), (2, .int (x2 + (0 : Int32))), (8, .int (0 : Int32)), (7, .int (M.1 1 (((10 : Int32) * x3) + x6).toNatClampNeg)), (0, .ref (X.1.2.1 0)), (1, .int x1), (3, .int x3), (4, .int x4)] rfl ?_
              refine z_goto hX 103 dX10_heat_222 (by decide) ?_
              exact z_sub [4, 5, 1, 6, 7, 0] rfl h
        · replace h := h.2 c0
          refine z_iconst (v := 1) hX dX10_heat_171 (by decide) ?_
          refine z_goto hX 176 dX10_heat_172 (by decide) ?_
          refine z_istore hX dX10_heat_176 (by decide) [(8, .int (1 : Int32)), (7, .int (M.1 1 (((10 : Int32) * x3) + x6).toNatClampNeg)), (0, .ref (X.1.2.1 0)), (1, .int x1), (2, .int x2), (3, .int x3), (4, .int x4), (6, .int x6)] rfl ?_
          refine z_iload_n hX dX10_heat_178 rfl 4 rfl ?_
          refine z_aload_n hX dX10_heat_179 rfl 2 rfl ?_
          refine gfX10_17 hX dX10_heat_180 ?_
          refine z_iload_n hX dX10_heat_183 rfl 5 rfl ?_
          refine z_iald hX 2 rfl h.1 dX10_heat_184 ?_
          replace h := h.2
          refine z_iconst (v := 2) hX dX10_heat_185 (by decide) ?_
          refine z_icmp_ne hX 204 dX10_heat_186 (by decide) (fun c0 => ?_) (fun c0 => ?_)
          · replace h := h.1 c0
            refine z_iload hX dX10_heat_204 0 rfl ?_
            refine z_if_eq hX 215 dX10_heat_206 (by decide) (fun c0 => ?_) (fun c0 => ?_)
            · replace h := h.1 c0
              refine z_iload hX dX10_heat_215 1 rfl ?_
              refine z_iadd hX dX10_heat_217 ?_
              refine z_istore_n hX dX10_heat_218 rfl (by decide) [(2, .int (x2 + (M.1 1 (((10 : Int32) * x3) + x6).toNatClampNeg))), (8, .int (1 : Int32)), (7, .int (M.1 1 (((10 : Int32) * x3) + x6).toNatClampNeg)), (0, .ref (X.1.2.1 0)), (1, .int x1), (3, .int x3), (4, .int x4), (6, .int x6)] rfl ?_
              refine z_iinc (v := x6 + (1 : Int32)) hX dX10_heat_219 7 rfl rfl (by decide) [(6, .int (x6 + (1 : Int32))), (2, .int (x2 + (M.1 1 (((10 : Int32) * x3) + x6).toNatClampNeg))), (8, .int (1 : Int32)), (7, .int (M.1 1 (((10 : Int32) * x3) + x6).toNatClampNeg)), (0, .ref (X.1.2.1 0)), (1, .int x1), (3, .int x3), (4, .int x4)] rfl ?_
              refine z_goto hX 103 dX10_heat_222 (by decide) ?_
              exact z_sub [4, 5, 1, 6, 7, 0] rfl h
            · replace h := h.2 c0
              refine z_iload hX dX10_heat_209 1 rfl ?_
              refine z_ineg hX dX10_heat_211 ?_
              refine z_goto hX 217 dX10_heat_212 (by decide) ?_
              refine z_iadd hX dX10_heat_217 ?_
              refine z_istore_n hX dX10_heat_218 rfl (by decide) [(2, .int (x2 + (-(M.1 1 (((10 : Int32) * x3) + x6).toNatClampNeg)))), (8, .int (1 : Int32)), (7, .int (M.1 1 (((10 : Int32) * x3) + x6).toNatClampNeg)), (0, .ref (X.1.2.1 0)), (1, .int x1), (3, .int x3), (4, .int x4), (6, .int x6)] rfl ?_
              refine z_iinc (v := x6 + (1 : Int32)) hX dX10_heat_219 7 rfl rfl (by decide) [(6, .int (x6 + (1 : Int32))), (2, .int (x2 + (-(M.1 1 (((10 : Int32) * x3) + x6).toNatClampNeg)))), (8, .int (1 : Int32)), (7, .int (M.1 1 (((10 : Int32) * x3) + x6).toNatClampNeg)), (0, .ref (X.1.2.1 0)), (1, .int x1), (3, .int x3), (4, .int x4)] rfl ?_
              refine z_goto hX 103 dX10_heat_222 (by decide) ?_
              exact z_sub [4, 5, 1, 6, 7, 0] rfl h
          · replace h := h.2 c0
            refine z_aload_n hX dX10_heat_189 rfl 2 rfl ?_
            refine gfX10_17 hX dX10_heat_190 ?_
            refine z_iload hX dX10_heat_193 7 rfl ?_
            refine z_iald hX 2 rfl h.1 dX10_heat_195 ?_
            replace h := h.2
            refine z_iconst (v := 2) hX dX10_heat_196 (by decide) ?_
            refine z_icmp_ne hX 204 dX10_heat_197 (by decide) (fun c0 => ?_) (fun c0 => ?_)
            · replace h := h.1 c0
              refine z_iload hX dX10_heat_204 0 rfl ?_
              refine z_if_eq hX 215 dX10_heat_206 (by decide) (fun c0 => ?_) (fun c0 => ?_)
              · replace h := h.1 c0
                refine z_iload hX dX10_heat_215 1 rfl ?_
                refine z_iadd hX dX10_heat_217 ?_
                refine z_istore_n hX dX10_heat_218 rfl (by decide) [(2, .int (x2 + (M.1 1 (((10 : Int32) * x3) + x6).toNatClampNeg))), (8, .int (1 : Int32)), (7, .int (M.1 1 (((10 : Int32) * x3) + x6).toNatClampNeg)), (0, .ref (X.1.2.1 0)), (1, .int x1), (3, .int x3), (4, .int x4), (6, .int x6)] rfl ?_
                refine z_iinc (v := x6 + (1 : Int32)) hX dX10_heat_219 7 rfl rfl (by decide) [(6, .int (x6 + (1 : Int32))), (2, .int (x2 + (M.1 1 (((10 : Int32) * x3) + x6).toNatClampNeg))), (8, .int (1 : Int32)), (7, .int (M.1 1 (((10 : Int32) * x3) + x6).toNatClampNeg)), (0, .ref (X.1.2.1 0)), (1, .int x1), (3, .int x3), (4, .int x4)] rfl ?_
                refine z_goto hX 103 dX10_heat_222 (by decide) ?_
                exact z_sub [4, 5, 1, 6, 7, 0] rfl h
              · replace h := h.2 c0
                refine z_iload hX dX10_heat_209 1 rfl ?_
                refine z_ineg hX dX10_heat_211 ?_
                refine z_goto hX 217 dX10_heat_212 (by decide) ?_
                refine z_iadd hX dX10_heat_217 ?_
                refine z_istore_n hX dX10_heat_218 rfl (by decide) [(2, .int (x2 + (-(M.1 1 (((10 : Int32) * x3) + x6).toNatClampNeg)))), (8, .int (1 : Int32)), (7, .int (M.1 1 (((10 : Int32) * x3) + x6).toNatClampNeg)), (0, .ref (X.1.2.1 0)), (1, .int x1), (3, .int x3), (4, .int x4), (6, .int x6)] rfl ?_
                refine z_iinc (v := x6 + (1 : Int32)) hX dX10_heat_219 7 rfl rfl (by decide) [(6, .int (x6 + (1 : Int32))), (2, .int (x2 + (-(M.1 1 (((10 : Int32) * x3) + x6).toNatClampNeg)))), (8, .int (1 : Int32)), (7, .int (M.1 1 (((10 : Int32) * x3) + x6).toNatClampNeg)), (0, .ref (X.1.2.1 0)), (1, .int x1), (3, .int x3), (4, .int x4)] rfl ?_
                refine z_goto hX 103 dX10_heat_222 (by decide) ?_
                exact z_sub [4, 5, 1, 6, 7, 0] rfl h
            · replace h := h.2 c0
              refine z_iconst (v := 0) hX dX10_heat_200 (by decide) ?_
              refine z_goto hX 217 dX10_heat_201 (by decide) ?_
              refine z_iadd hX dX10_heat_217 ?_
              refine z_istore_n hX dX10_heat_218 rfl (by decide) [(2, .int (x2 + (0 : Int32))), (8, .int (1 : Int32)), (7, .int (M.1 1 (((10 : Int32) * x3) + x6).toNatClampNeg)), (0, .ref (X.1.2.1 0)), (1, .int x1), (3, .int x3), (4, .int x4), (6, .int x6)] rfl ?_
              refine z_iinc (v := x6 + (1 : Int32)) hX dX10_heat_219 7 rfl rfl (by decide) [(6, .int (x6 + (1 : Int32))), (2, .int (x2 + (0 : Int32))), (8, .int (1 : Int32)), (7, .int (M.1 1 (((10 : Int32) * x3) + x6).toNatClampNeg)), (0, .ref (X.1.2.1 0)), (1, .int x1), (3, .int x3), (4, .int x4)] rfl ?_
              refine z_goto hX 103 dX10_heat_222 (by decide) ?_
              exact z_sub [4, 5, 1, 6, 7, 0] rfl h
set_option maxRecDepth 100000 in
set_option maxHeartbeats 4000000 in
theorem EX10_loneOf {E : ET} {Q : Option Value → Mem → Prop} {x1 x2 : Int32} {M : Mem} (h : Q (some (.int (x2 ^^^ ((1 : Int32) <<< (x1 &&& 31))))) M) : CX10_loneOf E [.ref (E.2.1 0), .int x1, .int x2] M Q := by
  refine z_entry (by decide +kernel) (Nat.le_of_ble_eq_true rfl) (fun X hE hX => ?_)
  subst hE
  show Z SM X 0 3 Q 0 [(0, .ref (X.1.2.1 0)), (1, .int x1), (2, .int x2)] [] M
  refine z_iload_n hX dX10_loneOf_0 rfl 2 rfl ?_
  refine z_iconst (v := 1) hX dX10_loneOf_1 (by decide) ?_
  refine z_iload_n hX dX10_loneOf_2 rfl 1 rfl ?_
  refine z_ishl hX dX10_loneOf_3 ?_
  refine z_ixor hX dX10_loneOf_4 ?_
  exact z_iret hX dX10_loneOf_5 h
set_option maxRecDepth 100000 in
set_option maxHeartbeats 4000000 in
theorem EX10_lone {E : ET} {Q : Option Value → Mem → Prop} {x1 x2 : Int32} {M : Mem} (h : ∃ (r1 : Int32), CX10_isPerson E [.ref (E.2.1 0), .int x1] M (z_is (some (.int r1)) M) ∧ ((¬ r1 = 0 → (∃ (r2 : Int32), CX10_isDress E [.ref (E.2.1 0), .int x2] M (z_is (some (.int r2)) M) ∧ ((¬ r2 = 0 → (∃ (r3 : Int32), CX10_calmOf E [.ref (E.2.1 0), .int x2] M (z_is (some (.int r3)) M) ∧ ((¬ ((r3 >>> (x1 &&& 31)) &&& (1 : Int32)) = (1 : Int32) → (∃ (r4 : Int32), CX10_loneOf E [.ref (E.2.1 0), .int x1, .int x2] M (z_is (some (.int r4)) M) ∧ Q (some (.int r4)) M)) ∧ (((r3 >>> (x1 &&& 31)) &&& (1 : Int32)) = (1 : Int32) → Q (some (.int (-3 : Int32))) M)))) ∧ (r2 = 0 → Q (some (.int (-2 : Int32))) M)))) ∧ (r1 = 0 → Q (some (.int (-1 : Int32))) M))) : CX10_lone E [.ref (E.2.1 0), .int x1, .int x2] M Q := by
  refine z_entry (by decide +kernel) (Nat.le_of_ble_eq_true rfl) (fun X hE hX => ?_)
  subst hE
  show Z SM X 3 3 Q 0 [(0, .ref (X.1.2.1 0)), (1, .int x1), (2, .int x2)] [] M
  refine z_aload_n hX dX10_lone_0 rfl 0 rfl ?_
  refine z_iload_n hX dX10_lone_1 rfl 1 rfl ?_
  obtain ⟨r1, c9, h⟩ := h
  refine mcX10_69 hX dX10_lone_2 (by decide) (Nat.le_of_ble_eq_true rfl) c9 ?_
  refine z_if_ne hX 10 dX10_lone_5 (by decide) (fun c0 => ?_) (fun c0 => ?_)
  · replace h := h.1 c0
    refine z_aload_n hX dX10_lone_10 rfl 0 rfl ?_
    refine z_iload_n hX dX10_lone_11 rfl 2 rfl ?_
    obtain ⟨r2, c9, h⟩ := h
    refine mcX10_90 hX dX10_lone_12 (by decide) (Nat.le_of_ble_eq_true rfl) c9 ?_
    refine z_if_ne hX 21 dX10_lone_15 (by decide) (fun c0 => ?_) (fun c0 => ?_)
    · replace h := h.1 c0
      refine z_aload_n hX dX10_lone_21 rfl 0 rfl ?_
      refine z_iload_n hX dX10_lone_22 rfl 2 rfl ?_
      obtain ⟨r3, c9, h⟩ := h
      refine mcX10_93 hX dX10_lone_23 (by decide) (Nat.le_of_ble_eq_true rfl) c9 ?_
      refine z_iload_n hX dX10_lone_26 rfl 1 rfl ?_
      refine z_ishr hX dX10_lone_27 ?_
      refine z_iconst (v := 1) hX dX10_lone_28 (by decide) ?_
      refine z_iand hX dX10_lone_29 ?_
      refine z_iconst (v := 1) hX dX10_lone_30 (by decide) ?_
      refine z_icmp_ne hX 39 dX10_lone_31 (by decide) (fun c0 => ?_) (fun c0 => ?_)
      · replace h := h.1 c0
        refine z_aload_n hX dX10_lone_39 rfl 0 rfl ?_
        refine z_iload_n hX dX10_lone_40 rfl 1 rfl ?_
        refine z_iload_n hX dX10_lone_41 rfl 2 rfl ?_
        obtain ⟨r4, c9, h⟩ := h
        refine mcX10_143 hX dX10_lone_42 (by decide) (Nat.le_of_ble_eq_true rfl) c9 ?_
        exact z_iret hX dX10_lone_45 h
      · replace h := h.2 c0
        refine z_bipush (v := -3) hX dX10_lone_34 (by decide) ?_
        refine z_goto hX 45 dX10_lone_36 (by decide) ?_
        exact z_iret hX dX10_lone_45 h
    · replace h := h.2 c0
      refine z_bipush (v := -2) hX dX10_lone_18 (by decide) ?_
      exact z_iret hX dX10_lone_20 h
  · replace h := h.2 c0
    refine z_iconst (v := -1) hX dX10_lone_8 (by decide) ?_
    exact z_iret hX dX10_lone_9 h
abbrev LX10_layCalms_2 (X : XT) (Q : Option Value → Mem → Prop) (x1 : Int32) (M : Mem) : Prop := Z SM X 3 2 Q 2 [(0, .ref (X.1.2.1 0)), (1, .int x1)] [] M
set_option maxRecDepth 100000 in
set_option maxHeartbeats 4000000 in
theorem EX10_layCalms {E : ET} {Q : Option Value → Mem → Prop} {M : Mem} (h : ∀ X : XT, X.1 = E → KX10_layCalms X → LX10_layCalms_2 X Q (0 : Int32) M) : CX10_layCalms E [.ref (E.2.1 0)] M Q := by
  refine z_entry (by decide +kernel) (Nat.le_of_ble_eq_true rfl) (fun X hE hX => ?_)
  subst hE
  replace h := h X rfl hX
  show Z SM X 3 2 Q 0 [(0, .ref (X.1.2.1 0))] [] M
  refine z_iconst (v := 0) hX dX10_layCalms_0 (by decide) ?_
  refine z_istore_n hX dX10_layCalms_1 rfl (by decide) [(1, .int (0 : Int32)), (0, .ref (X.1.2.1 0))] rfl ?_
  exact z_sub [1, 0] rfl h
set_option maxRecDepth 100000 in
set_option maxHeartbeats 4000000 in
theorem BX10_layCalms_2 {X : XT} {Q : Option Value → Mem → Prop} (hX : KX10_layCalms X) {x1 : Int32} {M : Mem} (h : ∃ (r1 : Int32), CX10_all X.1 [.ref (X.1.2.1 0)] M (z_is (some (.int r1)) M) ∧ ((r1 < x1 → Q none M) ∧ (¬ r1 < x1 → (∃ (r2 : Int32), CX10_calmOf X.1 [.ref (X.1.2.1 0), .int x1] M (z_is (some (.int r2)) M) ∧ (vp_in x1 1024 ∧ (∀ M3 : Mem, M3 = z_st M 11 x1.toNatClampNeg r2 → LX10_layCalms_2 X Q (x1 + (1 : Int32)) M3)))))) : LX10_layCalms_2 X Q x1 M := by
  show Z SM X 3 2 Q 2 [(0, .ref (X.1.2.1 0)), (1, .int x1)] [] M
  refine z_iload_n hX dX10_layCalms_2 rfl 1 rfl ?_
  refine z_aload_n hX dX10_layCalms_3 rfl 0 rfl ?_
  obtain ⟨r1, c9, h⟩ := h
  refine mcX10_105 hX dX10_layCalms_4 (by decide) (Nat.le_of_ble_eq_true rfl) c9 ?_
  refine z_icmp_gt hX 27 dX10_layCalms_7 (by decide) (fun c0 => ?_) (fun c0 => ?_)
  · replace h := h.1 c0
    exact z_vret hX dX10_layCalms_27 h
  · replace h := h.2 c0
    refine z_aload_n hX dX10_layCalms_10 rfl 0 rfl ?_
    refine gfX10_44 hX dX10_layCalms_11 ?_
    refine z_iload_n hX dX10_layCalms_14 rfl 1 rfl ?_
    refine z_aload_n hX dX10_layCalms_15 rfl 0 rfl ?_
    refine z_iload_n hX dX10_layCalms_16 rfl 1 rfl ?_
    obtain ⟨r2, c9, h⟩ := h
    refine mcX10_93 hX dX10_layCalms_17 (by decide) (Nat.le_of_ble_eq_true rfl) c9 ?_
    refine z_iastM hX 11 rfl h.1 dX10_layCalms_20 (fun M3 eM3 => ?_)
    replace h := h.2 M3 eM3
    refine z_iinc (v := x1 + (1 : Int32)) hX dX10_layCalms_21 1 rfl rfl (by decide) [(1, .int (x1 + (1 : Int32))), (0, .ref (X.1.2.1 0))] rfl ?_
    refine z_goto hX 2 dX10_layCalms_24 (by decide) ?_
    exact z_sub [1, 0] rfl h
abbrev LX10_layFar_2 (X : XT) (Q : Option Value → Mem → Prop) (x1 : Int32) (x2 : Int32) (M : Mem) : Prop := Z SM X 1 6 Q 2 [(0, .ref (X.1.2.1 0)), (1, .int x1), (2, .int x2)] [] M
abbrev LX10_layFar_45 (X : XT) (Q : Option Value → Mem → Prop) (x2 : Int32) (M : Mem) : Prop := Z SM X 1 6 Q 45 [(0, .ref (X.1.2.1 0)), (2, .int x2)] [] M
abbrev LX10_layFar_68 (X : XT) (Q : Option Value → Mem → Prop) (x2 : Int32) (x3 : Int32) (x4 : Int32) (M : Mem) : Prop := Z SM X 1 6 Q 68 [(0, .ref (X.1.2.1 0)), (2, .int x2), (3, .int x3), (4, .int x4)] [] M
set_option maxRecDepth 100000 in
set_option maxHeartbeats 4000000 in
theorem EX10_layFar {E : ET} {Q : Option Value → Mem → Prop} {x1 : Int32} {M : Mem} (h : ∀ X : XT, X.1 = E → KX10_layFar X → LX10_layFar_2 X Q x1 (0 : Int32) M) : CX10_layFar E [.ref (E.2.1 0), .int x1] M Q := by
  refine z_entry (by decide +kernel) (Nat.le_of_ble_eq_true rfl) (fun X hE hX => ?_)
  subst hE
  replace h := h X rfl hX
  show Z SM X 1 6 Q 0 [(0, .ref (X.1.2.1 0)), (1, .int x1)] [] M
  refine z_iconst (v := 0) hX dX10_layFar_0 (by decide) ?_
  refine z_istore_n hX dX10_layFar_1 rfl (by decide) [(2, .int (0 : Int32)), (0, .ref (X.1.2.1 0)), (1, .int x1)] rfl ?_
  exact z_sub [1, 2, 0] rfl h
set_option maxRecDepth 100000 in
set_option maxHeartbeats 4000000 in
theorem BX10_layFar_2 {X : XT} {Q : Option Value → Mem → Prop} (hX : KX10_layFar X) {x1 x2 : Int32} {M : Mem} (h : ∃ (r1 : Int32), CX10_all X.1 [.ref (X.1.2.1 0)] M (z_is (some (.int r1)) M) ∧ ((r1 < x2 → (vp_in x1 1024 ∧ (∀ M2 : Mem, M2 = z_st M 9 x1.toNatClampNeg (0 : Int32) → (vp_in (0 : Int32) 1024 ∧ (∀ M3 : Mem, M3 = z_st M2 10 (0 : Int32).toNatClampNeg x1 → (∀ M4 : Mem, M4 = z_st M3 0 15 (1 : Int32) → LX10_layFar_45 X Q (0 : Int32) M4)))))) ∧ (¬ r1 < x2 → (vp_in x2 1024 ∧ (∀ M5 : Mem, M5 = z_st M 9 x2.toNatClampNeg (-9 : Int32) → LX10_layFar_2 X Q x1 (x2 + (1 : Int32)) M5))))) : LX10_layFar_2 X Q x1 x2 M := by
  show Z SM X 1 6 Q 2 [(0, .ref (X.1.2.1 0)), (1, .int x1), (2, .int x2)] [] M
  refine z_iload_n hX dX10_layFar_2 rfl 2 rfl ?_
  refine z_aload_n hX dX10_layFar_3 rfl 0 rfl ?_
  obtain ⟨r1, c9, h⟩ := h
  refine mcX10_105 hX dX10_layFar_4 (by decide) (Nat.le_of_ble_eq_true rfl) c9 ?_
  refine z_icmp_gt hX 24 dX10_layFar_7 (by decide) (fun c0 => ?_) (fun c0 => ?_)
  · replace h := h.1 c0
    refine z_aload_n hX dX10_layFar_24 rfl 0 rfl ?_
    refine gfX10_38 hX dX10_layFar_25 ?_
    refine z_iload_n hX dX10_layFar_28 rfl 1 rfl ?_
    refine z_iconst (v := 0) hX dX10_layFar_29 (by decide) ?_
    refine z_iastM hX 9 rfl h.1 dX10_layFar_30 (fun M2 eM2 => ?_)
    replace h := h.2 M2 eM2
    refine z_aload_n hX dX10_layFar_31 rfl 0 rfl ?_
    refine gfX10_41 hX dX10_layFar_32 ?_
    refine z_iconst (v := 0) hX dX10_layFar_35 (by decide) ?_
    refine z_iload_n hX dX10_layFar_36 rfl 1 rfl ?_
    refine z_iastM hX 10 rfl h.1 dX10_layFar_37 (fun M3 eM3 => ?_)
    replace h := h.2 M3 eM3
    refine z_aload_n hX dX10_layFar_38 rfl 0 rfl ?_
    refine z_iconst (v := 1) hX dX10_layFar_39 (by decide) ?_
    refine pfX10_146 hX dX10_layFar_40 (fun M4 eM4 => ?_)
    replace h := h M4 eM4
    refine z_iconst (v := 0) hX dX10_layFar_43 (by decide) ?_
    refine z_istore_n hX dX10_layFar_44 rfl (by decide) [(2, .int (0 : Int32)), (0, .ref (X.1.2.1 0)), (1, .int x1)] rfl ?_
    exact z_sub [1, 0] rfl h
  · replace h := h.2 c0
    refine z_aload_n hX dX10_layFar_10 rfl 0 rfl ?_
    refine gfX10_38 hX dX10_layFar_11 ?_
    refine z_iload_n hX dX10_layFar_14 rfl 2 rfl ?_
    refine z_bipush (v := -9) hX dX10_layFar_15 (by decide) ?_
    refine z_iastM hX 9 rfl h.1 dX10_layFar_17 (fun M5 eM5 => ?_)
    replace h := h.2 M5 eM5
    refine z_iinc (v := x2 + (1 : Int32)) hX dX10_layFar_18 2 rfl rfl (by decide) [(2, .int (x2 + (1 : Int32))), (0, .ref (X.1.2.1 0)), (1, .int x1)] rfl ?_
    refine z_goto hX 2 dX10_layFar_21 (by decide) ?_
    exact z_sub [1, 2, 0] rfl h
set_option maxRecDepth 100000 in
set_option maxHeartbeats 4000000 in
theorem BX10_layFar_45 {X : XT} {Q : Option Value → Mem → Prop} (hX : KX10_layFar X) {x2 : Int32} {M : Mem} (h : (((M.1 0 15) ≤ x2 → Q none M) ∧ (¬ (M.1 0 15) ≤ x2 → (vp_in x2 1024 ∧ (vp_in (M.1 10 x2.toNatClampNeg) 1024 ∧ LX10_layFar_68 X Q x2 (M.1 11 (M.1 10 x2.toNatClampNeg).toNatClampNeg) (0 : Int32) M))))) : LX10_layFar_45 X Q x2 M := by
  show Z SM X 1 6 Q 45 [(0, .ref (X.1.2.1 0)), (2, .int x2)] [] M
  refine z_iload_n hX dX10_layFar_45 rfl 1 rfl ?_
  refine z_aload_n hX dX10_layFar_46 rfl 0 rfl ?_
  refine gfX10_146 hX dX10_layFar_47 ?_
  refine z_icmp_ge hX 165 dX10_layFar_50 (by decide) (fun c0 => ?_) (fun c0 => ?_)
  · replace h := h.1 c0
    exact z_vret hX dX10_layFar_165 h
  · replace h := h.2 c0
    refine z_aload_n hX dX10_layFar_53 rfl 0 rfl ?_
    refine gfX10_44 hX dX10_layFar_54 ?_
    refine z_aload_n hX dX10_layFar_57 rfl 0 rfl ?_
    refine gfX10_41 hX dX10_layFar_58 ?_
    refine z_iload_n hX dX10_layFar_61 rfl 1 rfl ?_
    refine z_iald hX 10 rfl h.1 dX10_layFar_62 ?_
    replace h := h.2
    refine z_iald hX 11 rfl h.1 dX10_layFar_63 ?_
    replace h := h.2
    refine z_istore_n hX dX10_layFar_64 rfl (by decide) [(3, .int (M.1 11 (M.1 10 x2.toNatClampNeg).toNatClampNeg)), (0, .ref (X.1.2.1 0)), (2, .int x2)] rfl ?_
    refine z_iconst (v := 0) hX dX10_layFar_65 (by decide) ?_
    refine z_istore hX dX10_layFar_66 (by decide) [(4, .int (0 : Int32)), (3, .int (M.1 11 (M.1 10 x2.toNatClampNeg).toNatClampNeg)), (0, .ref (X.1.2.1 0)), (2, .int x2)] rfl ?_
    exact z_sub [2, 3, 1, 0] rfl h
set_option maxRecDepth 100000 in
set_option maxHeartbeats 4000000 in
theorem BX10_layFar_68 {X : XT} {Q : Option Value → Mem → Prop} (hX : KX10_layFar X) {x2 x3 x4 : Int32} {M : Mem} (h : (((M.1 0 0) ≤ x4 → LX10_layFar_45 X Q (x2 + (1 : Int32)) M) ∧ (¬ (M.1 0 0) ≤ x4 → (vp_in x2 1024 ∧ (∃ (r1 : Int32), CX10_loneOf X.1 [.ref (X.1.2.1 0), .int x4, .int (M.1 10 x2.toNatClampNeg)] M (z_is (some (.int r1)) M) ∧ ((¬ ((x3 >>> (x4 &&& 31)) &&& (1 : Int32)) = 0 → LX10_layFar_68 X Q x2 x3 (x4 + (1 : Int32)) M) ∧ (((x3 >>> (x4 &&& 31)) &&& (1 : Int32)) = 0 → (vp_in r1 1024 ∧ ((¬ (M.1 9 r1.toNatClampNeg) = (-9 : Int32) → LX10_layFar_68 X Q x2 x3 (x4 + (1 : Int32)) M) ∧ ((M.1 9 r1.toNatClampNeg) = (-9 : Int32) → (vp_in x2 1024 ∧ (vp_in (M.1 10 x2.toNatClampNeg) 1024 ∧ (vp_in r1 1024 ∧ (∀ M2 : Mem, M2 = z_st M 9 r1.toNatClampNeg ((M.1 9 (M.1 10 x2.toNatClampNeg).toNatClampNeg) + (1 : Int32)) → (vp_in (M2.1 0 15) 1024 ∧ (∀ M3 : Mem, M3 = z_st M2 10 (M2.1 0 15).toNatClampNeg r1 → (∀ M4 : Mem, M4 = z_st M3 0 15 ((M3.1 0 15) + (1 : Int32)) → LX10_layFar_68 X Q x2 x3 (x4 + (1 : Int32)) M4))))))))))))))))) : LX10_layFar_68 X Q x2 x3 x4 M := by
  show Z SM X 1 6 Q 68 [(0, .ref (X.1.2.1 0)), (2, .int x2), (3, .int x3), (4, .int x4)] [] M
  refine z_iload hX dX10_layFar_68 3 rfl ?_
  refine z_aload_n hX dX10_layFar_70 rfl 0 rfl ?_
  refine gfX10_7 hX dX10_layFar_71 ?_
  refine z_icmp_ge hX 159 dX10_layFar_74 (by decide) (fun c0 => ?_) (fun c0 => ?_)
  · replace h := h.1 c0
    refine z_iinc (v := x2 + (1 : Int32)) hX dX10_layFar_159 1 rfl rfl (by decide) [(2, .int (x2 + (1 : Int32))), (0, .ref (X.1.2.1 0)), (3, .int x3), (4, .int x4)] rfl ?_
    refine z_goto hX 45 dX10_layFar_162 (by decide) ?_
    exact z_sub [1, 0] rfl h
  · replace h := h.2 c0
    refine z_aload_n hX dX10_layFar_77 rfl 0 rfl ?_
    refine z_iload hX dX10_layFar_78 3 rfl ?_
    refine z_aload_n hX dX10_layFar_80 rfl 0 rfl ?_
    refine gfX10_41 hX dX10_layFar_81 ?_
    refine z_iload_n hX dX10_layFar_84 rfl 1 rfl ?_
    refine z_iald hX 10 rfl h.1 dX10_layFar_85 ?_
    replace h := h.2
    obtain ⟨r1, c9, h⟩ := h
    refine mcX10_143 hX dX10_layFar_86 (by decide) (Nat.le_of_ble_eq_true rfl) c9 ?_
    refine z_istore hX dX10_layFar_89 (by decide) [(5, .int r1), (0, .ref (X.1.2.1 0)), (2, .int x2), (3, .int x3), (4, .int x4)] rfl ?_
    refine z_iload_n hX dX10_layFar_91 rfl 3 rfl ?_
    refine z_iload hX dX10_layFar_92 4 rfl ?_
    refine z_ishr hX dX10_layFar_94 ?_
    refine z_iconst (v := 1) hX dX10_layFar_95 (by decide) ?_
    refine z_iand hX dX10_layFar_96 ?_
    refine z_if_ne hX 153 dX10_layFar_97 (by decide) (fun c0 => ?_) (fun c0 => ?_)
    · replace h := h.1 c0
      refine z_iinc (v := x4 + (1 : Int32)) hX dX10_layFar_153 4 rfl rfl (by decide) [(4, .int (x4 + (1 : Int32))), (5, .int r1), (0, .ref (X.1.2.1 0)), (2, .int x2), (3, .int x3)] rfl ?_
      refine z_goto hX 68 dX10_layFar_156 (by decide) ?_
      exact z_sub [2, 3, 4, 0] rfl h
    · replace h := h.2 c0
      refine z_aload_n hX dX10_layFar_100 rfl 1 rfl ?_
      refine gfX10_38 hX dX10_layFar_101 ?_
      refine z_iload hX dX10_layFar_104 0 rfl ?_
      refine z_iald hX 9 rfl h.1 dX10_layFar_106 ?_
      replace h := h.2
      refine z_bipush (v := -9) hX dX10_layFar_107 (by decide) ?_
      refine z_icmp_ne hX 153 dX10_layFar_109 (by decide) (fun c0 => ?_) (fun c0 => ?_)
      · replace h := h.1 c0
        refine z_iinc (v := x4 + (1 : Int32)) hX dX10_layFar_153 4 rfl rfl (by decide) [(4, .int (x4 + (1 : Int32))), (5, .int r1), (0, .ref (X.1.2.1 0)), (2, .int x2), (3, .int x3)] rfl ?_
        refine z_goto hX 68 dX10_layFar_156 (by decide) ?_
        exact z_sub [2, 3, 4, 0] rfl h
      · replace h := h.2 c0
        refine z_aload_n hX dX10_layFar_112 rfl 1 rfl ?_
        refine gfX10_38 hX dX10_layFar_113 ?_
        refine z_iload hX dX10_layFar_116 0 rfl ?_
        refine z_aload_n hX dX10_layFar_118 rfl 1 rfl ?_
        refine gfX10_38 hX dX10_layFar_119 ?_
        refine z_aload_n hX dX10_layFar_122 rfl 1 rfl ?_
        refine gfX10_41 hX dX10_layFar_123 ?_
        refine z_iload_n hX dX10_layFar_126 rfl 2 rfl ?_
        refine z_iald hX 10 rfl h.1 dX10_layFar_127 ?_
        replace h := h.2
        refine z_iald hX 9 rfl h.1 dX10_layFar_128 ?_
        replace h := h.2
        refine z_iconst (v := 1) hX dX10_layFar_129 (by decide) ?_
        refine z_iadd hX dX10_layFar_130 ?_
        refine z_iastM hX 9 rfl h.1 dX10_layFar_131 (fun M2 eM2 => ?_)
        replace h := h.2 M2 eM2
        refine z_aload_n hX dX10_layFar_132 rfl 1 rfl ?_
        refine gfX10_41 hX dX10_layFar_133 ?_
        refine z_aload_n hX dX10_layFar_136 rfl 1 rfl ?_
        refine gfX10_146 hX dX10_layFar_137 ?_
        refine z_iload hX dX10_layFar_140 0 rfl ?_
        refine z_iastM hX 10 rfl h.1 dX10_layFar_142 (fun M3 eM3 => ?_)
        replace h := h.2 M3 eM3
        refine z_aload_n hX dX10_layFar_143 rfl 1 rfl ?_
        refine z_dup hX dX10_layFar_144 rfl ?_
        refine gfX10_146 hX dX10_layFar_145 ?_
        refine z_iconst (v := 1) hX dX10_layFar_148 (by decide) ?_
        refine z_iadd hX dX10_layFar_149 ?_
        refine pfX10_146 hX dX10_layFar_150 (fun M4 eM4 => ?_)
        replace h := h M4 eM4
        refine z_iinc (v := x4 + (1 : Int32)) hX dX10_layFar_153 4 rfl rfl (by decide) [(4, .int (x4 + (1 : Int32))), (5, .int r1), (0, .ref (X.1.2.1 0)), (2, .int x2), (3, .int x3)] rfl ?_
        refine z_goto hX 68 dX10_layFar_156 (by decide) ?_
        exact z_sub [2, 3, 4, 0] rfl h
abbrev LX10_comesBack_7 (X : XT) (Q : Option Value → Mem → Prop) (x1 : Int32) (x2 : Int32) (M : Mem) : Prop := Z SM X 2 5 Q 7 [(0, .ref (X.1.2.1 0)), (1, .int x1), (2, .int x2)] [] M
abbrev LX10_comesBack_30 (X : XT) (Q : Option Value → Mem → Prop) (x1 : Int32) (x2 : Int32) (x3 : Int32) (x4 : Int32) (M : Mem) : Prop := Z SM X 2 5 Q 30 [(0, .ref (X.1.2.1 0)), (1, .int x1), (2, .int x2), (3, .int x3), (4, .int x4)] [] M
set_option maxRecDepth 100000 in
set_option maxHeartbeats 4000000 in
theorem EX10_comesBack {E : ET} {Q : Option Value → Mem → Prop} {x1 : Int32} {M : Mem} (h : ∀ X : XT, X.1 = E → KX10_comesBack X → (∃ q2 : Mem → Prop, CX10_layFar X.1 [.ref (X.1.2.1 0), .int x1] M (z_pV q2) ∧ ∀ (M1 : Mem), q2 M1 → LX10_comesBack_7 X Q x1 (0 : Int32) M1)) : CX10_comesBack E [.ref (E.2.1 0), .int x1] M Q := by
  refine z_entry (by decide +kernel) (Nat.le_of_ble_eq_true rfl) (fun X hE hX => ?_)
  subst hE
  replace h := h X rfl hX
  show Z SM X 2 5 Q 0 [(0, .ref (X.1.2.1 0)), (1, .int x1)] [] M
  refine z_aload_n hX dX10_comesBack_0 rfl 0 rfl ?_
  refine z_iload_n hX dX10_comesBack_1 rfl 1 rfl ?_
  obtain ⟨q2, c9, h⟩ := h
  refine mcX10_149 hX dX10_comesBack_2 (by decide) (Nat.le_of_ble_eq_true rfl) c9 (fun M1 hq => ?_)
  replace h := h M1 hq
  refine z_iconst (v := 0) hX dX10_comesBack_5 (by decide) ?_
  refine z_istore_n hX dX10_comesBack_6 rfl (by decide) [(2, .int (0 : Int32)), (0, .ref (X.1.2.1 0)), (1, .int x1)] rfl ?_
  exact z_sub [1, 2, 0] rfl h
set_option maxRecDepth 100000 in
set_option maxHeartbeats 4000000 in
theorem BX10_comesBack_7 {X : XT} {Q : Option Value → Mem → Prop} (hX : KX10_comesBack X) {x1 x2 : Int32} {M : Mem} (h : (((M.1 0 15) ≤ x2 → Q (some (.int 0)) M) ∧ (¬ (M.1 0 15) ≤ x2 → (vp_in x2 1024 ∧ (vp_in (M.1 10 x2.toNatClampNeg) 1024 ∧ LX10_comesBack_30 X Q x1 x2 (M.1 11 (M.1 10 x2.toNatClampNeg).toNatClampNeg) (0 : Int32) M))))) : LX10_comesBack_7 X Q x1 x2 M := by
  show Z SM X 2 5 Q 7 [(0, .ref (X.1.2.1 0)), (1, .int x1), (2, .int x2)] [] M
  refine z_iload_n hX dX10_comesBack_7 rfl 2 rfl ?_
  refine z_aload_n hX dX10_comesBack_8 rfl 0 rfl ?_
  refine gfX10_146 hX dX10_comesBack_9 ?_
  refine z_icmp_ge hX 78 dX10_comesBack_12 (by decide) (fun c0 => ?_) (fun c0 => ?_)
  · replace h := h.1 c0
    refine z_iconst (v := 0) hX dX10_comesBack_78 (by decide) ?_
    exact z_zret hX dX10_comesBack_79 (Or.inl rfl) h
  · replace h := h.2 c0
    refine z_aload_n hX dX10_comesBack_15 rfl 0 rfl ?_
    refine gfX10_44 hX dX10_comesBack_16 ?_
    refine z_aload_n hX dX10_comesBack_19 rfl 0 rfl ?_
    refine gfX10_41 hX dX10_comesBack_20 ?_
    refine z_iload_n hX dX10_comesBack_23 rfl 2 rfl ?_
    refine z_iald hX 10 rfl h.1 dX10_comesBack_24 ?_
    replace h := h.2
    refine z_iald hX 11 rfl h.1 dX10_comesBack_25 ?_
    replace h := h.2
    refine z_istore_n hX dX10_comesBack_26 rfl (by decide) [(3, .int (M.1 11 (M.1 10 x2.toNatClampNeg).toNatClampNeg)), (0, .ref (X.1.2.1 0)), (1, .int x1), (2, .int x2)] rfl ?_
    refine z_iconst (v := 0) hX dX10_comesBack_27 (by decide) ?_
    refine z_istore hX dX10_comesBack_28 (by decide) [(4, .int (0 : Int32)), (3, .int (M.1 11 (M.1 10 x2.toNatClampNeg).toNatClampNeg)), (0, .ref (X.1.2.1 0)), (1, .int x1), (2, .int x2)] rfl ?_
    exact z_sub [2, 3, 4, 1, 0] rfl h
set_option maxRecDepth 100000 in
set_option maxHeartbeats 4000000 in
theorem BX10_comesBack_30 {X : XT} {Q : Option Value → Mem → Prop} (hX : KX10_comesBack X) {x1 x2 x3 x4 : Int32} {M : Mem} (h : (((M.1 0 0) ≤ x4 → LX10_comesBack_7 X Q x1 (x2 + (1 : Int32)) M) ∧ (¬ (M.1 0 0) ≤ x4 → ((¬ ((x3 >>> (x4 &&& 31)) &&& (1 : Int32)) = 0 → LX10_comesBack_30 X Q x1 x2 x3 (x4 + (1 : Int32)) M) ∧ (((x3 >>> (x4 &&& 31)) &&& (1 : Int32)) = 0 → (vp_in x2 1024 ∧ (∃ (r1 : Int32), CX10_loneOf X.1 [.ref (X.1.2.1 0), .int x4, .int (M.1 10 x2.toNatClampNeg)] M (z_is (some (.int r1)) M) ∧ ((¬ r1 = x1 → LX10_comesBack_30 X Q x1 x2 x3 (x4 + (1 : Int32)) M) ∧ (r1 = x1 → Q (some (.int 1)) M))))))))) : LX10_comesBack_30 X Q x1 x2 x3 x4 M := by
  show Z SM X 2 5 Q 30 [(0, .ref (X.1.2.1 0)), (1, .int x1), (2, .int x2), (3, .int x3), (4, .int x4)] [] M
  refine z_iload hX dX10_comesBack_30 4 rfl ?_
  refine z_aload_n hX dX10_comesBack_32 rfl 0 rfl ?_
  refine gfX10_7 hX dX10_comesBack_33 ?_
  refine z_icmp_ge hX 72 dX10_comesBack_36 (by decide) (fun c0 => ?_) (fun c0 => ?_)
  · replace h := h.1 c0
    refine z_iinc (v := x2 + (1 : Int32)) hX dX10_comesBack_72 2 rfl rfl (by decide) [(2, .int (x2 + (1 : Int32))), (0, .ref (X.1.2.1 0)), (1, .int x1), (3, .int x3), (4, .int x4)] rfl ?_
    refine z_goto hX 7 dX10_comesBack_75 (by decide) ?_
    exact z_sub [1, 2, 0] rfl h
  · replace h := h.2 c0
    refine z_iload_n hX dX10_comesBack_39 rfl 3 rfl ?_
    refine z_iload hX dX10_comesBack_40 4 rfl ?_
    refine z_ishr hX dX10_comesBack_42 ?_
    refine z_iconst (v := 1) hX dX10_comesBack_43 (by decide) ?_
    refine z_iand hX dX10_comesBack_44 ?_
    refine z_if_ne hX 66 dX10_comesBack_45 (by decide) (fun c0 => ?_) (fun c0 => ?_)
    · replace h := h.1 c0
      refine z_iinc (v := x4 + (1 : Int32)) hX dX10_comesBack_66 4 rfl rfl (by decide) [(4, .int (x4 + (1 : Int32))), (0, .ref (X.1.2.1 0)), (1, .int x1), (2, .int x2), (3, .int x3)] rfl ?_
      refine z_goto hX 30 dX10_comesBack_69 (by decide) ?_
      exact z_sub [1, 2, 3, 4, 0] rfl h
    · replace h := h.2 c0
      refine z_aload_n hX dX10_comesBack_48 rfl 0 rfl ?_
      refine z_iload hX dX10_comesBack_49 4 rfl ?_
      refine z_aload_n hX dX10_comesBack_51 rfl 0 rfl ?_
      refine gfX10_41 hX dX10_comesBack_52 ?_
      refine z_iload_n hX dX10_comesBack_55 rfl 2 rfl ?_
      refine z_iald hX 10 rfl h.1 dX10_comesBack_56 ?_
      replace h := h.2
      obtain ⟨r1, c9, h⟩ := h
      refine mcX10_143 hX dX10_comesBack_57 (by decide) (Nat.le_of_ble_eq_true rfl) c9 ?_
      refine z_iload_n hX dX10_comesBack_60 rfl 1 rfl ?_
      refine z_icmp_ne hX 66 dX10_comesBack_61 (by decide) (fun c0 => ?_) (fun c0 => ?_)
      · replace h := h.1 c0
        refine z_iinc (v := x4 + (1 : Int32)) hX dX10_comesBack_66 4 rfl rfl (by decide) [(4, .int (x4 + (1 : Int32))), (0, .ref (X.1.2.1 0)), (1, .int x1), (2, .int x2), (3, .int x3)] rfl ?_
        refine z_goto hX 30 dX10_comesBack_69 (by decide) ?_
        exact z_sub [1, 2, 3, 4, 0] rfl h
      · replace h := h.2 c0
        refine z_iconst (v := 1) hX dX10_comesBack_64 (by decide) ?_
        exact z_zret hX dX10_comesBack_65 (Or.inr rfl) h
abbrev LX10_witnessNow_6 (X : XT) (Q : Option Value → Mem → Prop) (x1 : Int32) (M : Mem) : Prop := Z SM X 4 2 Q 6 [(0, .ref (X.1.2.1 0)), (1, .int x1)] [] M
set_option maxRecDepth 100000 in
set_option maxHeartbeats 4000000 in
theorem EX10_witnessNow {E : ET} {Q : Option Value → Mem → Prop} {M : Mem} (h : ∀ X : XT, X.1 = E → KX10_witnessNow X → (∃ q2 : Mem → Prop, CX10_layCalms X.1 [.ref (X.1.2.1 0)] M (z_pV q2) ∧ ∀ (M1 : Mem), q2 M1 → LX10_witnessNow_6 X Q (0 : Int32) M1)) : CX10_witnessNow E [.ref (E.2.1 0)] M Q := by
  refine z_entry (by decide +kernel) (Nat.le_of_ble_eq_true rfl) (fun X hE hX => ?_)
  subst hE
  replace h := h X rfl hX
  show Z SM X 4 2 Q 0 [(0, .ref (X.1.2.1 0))] [] M
  refine z_aload_n hX dX10_witnessNow_0 rfl 0 rfl ?_
  obtain ⟨q2, c9, h⟩ := h
  refine mcX10_152 hX dX10_witnessNow_1 (by decide) (Nat.le_of_ble_eq_true rfl) c9 (fun M1 hq => ?_)
  replace h := h M1 hq
  refine z_iconst (v := 0) hX dX10_witnessNow_4 (by decide) ?_
  refine z_istore_n hX dX10_witnessNow_5 rfl (by decide) [(1, .int (0 : Int32)), (0, .ref (X.1.2.1 0))] rfl ?_
  exact z_sub [1, 0] rfl h
set_option maxRecDepth 100000 in
set_option maxHeartbeats 4000000 in
theorem BX10_witnessNow_6 {X : XT} {Q : Option Value → Mem → Prop} (hX : KX10_witnessNow X) {x1 : Int32} {M : Mem} (h : ∃ (r1 : Int32), CX10_all X.1 [.ref (X.1.2.1 0)] M (z_is (some (.int r1)) M) ∧ ((r1 < x1 → Q (some (.int (-9 : Int32))) M) ∧ (¬ r1 < x1 → (∃ q4 : Int32 → Mem → Prop, CX10_comesBack X.1 [.ref (X.1.2.1 0), .int x1] M (z_pI q4) ∧ ∀ (r3 : Int32) (M2 : Mem), q4 r3 M2 → ((r3 = 0 → LX10_witnessNow_6 X Q (x1 + (1 : Int32)) M2) ∧ (¬ r3 = 0 → Q (some (.int x1)) M2)))))) : LX10_witnessNow_6 X Q x1 M := by
  show Z SM X 4 2 Q 6 [(0, .ref (X.1.2.1 0)), (1, .int x1)] [] M
  refine z_iload_n hX dX10_witnessNow_6 rfl 1 rfl ?_
  refine z_aload_n hX dX10_witnessNow_7 rfl 0 rfl ?_
  obtain ⟨r1, c9, h⟩ := h
  refine mcX10_105 hX dX10_witnessNow_8 (by decide) (Nat.le_of_ble_eq_true rfl) c9 ?_
  refine z_icmp_gt hX 30 dX10_witnessNow_11 (by decide) (fun c0 => ?_) (fun c0 => ?_)
  · replace h := h.1 c0
    refine z_bipush (v := -9) hX dX10_witnessNow_30 (by decide) ?_
    exact z_iret hX dX10_witnessNow_32 h
  · replace h := h.2 c0
    refine z_aload_n hX dX10_witnessNow_14 rfl 0 rfl ?_
    refine z_iload_n hX dX10_witnessNow_15 rfl 1 rfl ?_
    obtain ⟨q4, c9, h⟩ := h
    refine mcX10_155 hX dX10_witnessNow_16 (by decide) (Nat.le_of_ble_eq_true rfl) c9 (fun r3 M2 hq => ?_)
    replace h := h r3 M2 hq
    refine z_if_eq hX 24 dX10_witnessNow_19 (by decide) (fun c0 => ?_) (fun c0 => ?_)
    · replace h := h.1 c0
      refine z_iinc (v := x1 + (1 : Int32)) hX dX10_witnessNow_24 1 rfl rfl (by decide) [(1, .int (x1 + (1 : Int32))), (0, .ref (X.1.2.1 0))] rfl ?_
      refine z_goto hX 6 dX10_witnessNow_27 (by decide) ?_
      exact z_sub [1, 0] rfl h
    · replace h := h.2 c0
      refine z_iload_n hX dX10_witnessNow_22 rfl 1 rfl ?_
      exact z_iret hX dX10_witnessNow_23 h
set_option maxRecDepth 100000 in
set_option maxHeartbeats 4000000 in
theorem EX10_settled {E : ET} {Q : Option Value → Mem → Prop} {M : Mem} (h : ∃ q3 : Int32 → Mem → Prop, CX10_witnessNow E [.ref (E.2.1 0)] M (z_pI q3) ∧ ∀ (r2 : Int32) (M1 : Mem), q3 r2 M1 → ((¬ r2 = (-9 : Int32) → Q (some (.int (0 : Int32))) M1) ∧ (r2 = (-9 : Int32) → Q (some (.int (1 : Int32))) M1))) : CX10_settled E [.ref (E.2.1 0)] M Q := by
  refine z_entry (by decide +kernel) (Nat.le_of_ble_eq_true rfl) (fun X hE hX => ?_)
  subst hE
  show Z SM X 5 1 Q 0 [(0, .ref (X.1.2.1 0))] [] M
  refine z_aload_n hX dX10_settled_0 rfl 0 rfl ?_
  obtain ⟨q3, c9, h⟩ := h
  refine mcX10_158 hX dX10_settled_1 (by decide) (Nat.le_of_ble_eq_true rfl) c9 (fun r2 M1 hq => ?_)
  replace h := h r2 M1 hq
  refine z_bipush (v := -9) hX dX10_settled_4 (by decide) ?_
  refine z_icmp_ne hX 13 dX10_settled_6 (by decide) (fun c0 => ?_) (fun c0 => ?_)
  · replace h := h.1 c0
    refine z_iconst (v := 0) hX dX10_settled_13 (by decide) ?_
    exact z_iret hX dX10_settled_14 h
  · replace h := h.2 c0
    refine z_iconst (v := 1) hX dX10_settled_9 (by decide) ?_
    refine z_goto hX 14 dX10_settled_10 (by decide) ?_
    exact z_iret hX dX10_settled_14 h
set_option maxRecDepth 100000 in
set_option maxHeartbeats 4000000 in
theorem EX10_witness {E : ET} {Q : Option Value → Mem → Prop} {M : Mem} (h : ∃ q3 : Int32 → Mem → Prop, CX10_witnessNow E [.ref (E.2.1 0)] M (z_pI q3) ∧ ∀ (r2 : Int32) (M1 : Mem), q3 r2 M1 → Q (some (.int r2)) M1) : CX10_witness E [.ref (E.2.1 0)] M Q := by
  refine z_entry (by decide +kernel) (Nat.le_of_ble_eq_true rfl) (fun X hE hX => ?_)
  subst hE
  show Z SM X 5 1 Q 0 [(0, .ref (X.1.2.1 0))] [] M
  refine z_aload_n hX dX10_witness_0 rfl 0 rfl ?_
  obtain ⟨q3, c9, h⟩ := h
  refine mcX10_158 hX dX10_witness_1 (by decide) (Nat.le_of_ble_eq_true rfl) c9 (fun r2 M1 hq => ?_)
  replace h := h r2 M1 hq
  exact z_iret hX dX10_witness_4 h
abbrev LX10_turnedNow_2 (X : XT) (Q : Option Value → Mem → Prop) (x1 : Int32) (M : Mem) : Prop := Z SM X 3 4 Q 2 [(0, .ref (X.1.2.1 0)), (1, .int x1)] [] M
abbrev LX10_turnedNow_36 (X : XT) (Q : Option Value → Mem → Prop) (x1 : Int32) (x2 : Int32) (M : Mem) : Prop := Z SM X 3 4 Q 36 [(0, .ref (X.1.2.1 0)), (1, .int x1), (2, .int x2)] [] M
set_option maxRecDepth 100000 in
set_option maxHeartbeats 4000000 in
theorem EX10_turnedNow {E : ET} {Q : Option Value → Mem → Prop} {M : Mem} (h : ∀ X : XT, X.1 = E → KX10_turnedNow X → LX10_turnedNow_2 X Q (0 : Int32) M) : CX10_turnedNow E [.ref (E.2.1 0)] M Q := by
  refine z_entry (by decide +kernel) (Nat.le_of_ble_eq_true rfl) (fun X hE hX => ?_)
  subst hE
  replace h := h X rfl hX
  show Z SM X 3 4 Q 0 [(0, .ref (X.1.2.1 0))] [] M
  refine z_iconst (v := 0) hX dX10_turnedNow_0 (by decide) ?_
  refine z_istore_n hX dX10_turnedNow_1 rfl (by decide) [(1, .int (0 : Int32)), (0, .ref (X.1.2.1 0))] rfl ?_
  exact z_sub [1, 0] rfl h
set_option maxRecDepth 100000 in
set_option maxHeartbeats 4000000 in
theorem BX10_turnedNow_2 {X : XT} {Q : Option Value → Mem → Prop} (hX : KX10_turnedNow X) {x1 : Int32} {M : Mem} (h : (((M.1 0 0) ≤ x1 → (∃ (r1 : Int32), CX10_all X.1 [.ref (X.1.2.1 0)] M (z_is (some (.int r1)) M) ∧ LX10_turnedNow_36 X Q r1 (0 : Int32) M)) ∧ (¬ (M.1 0 0) ≤ x1 → (vp_in x1 10 ∧ ((¬ (M.1 2 x1.toNatClampNeg) = (3 : Int32) → LX10_turnedNow_2 X Q (x1 + (1 : Int32)) M) ∧ ((M.1 2 x1.toNatClampNeg) = (3 : Int32) → Q (some (.int (-9 : Int32))) M)))))) : LX10_turnedNow_2 X Q x1 M := by
  show Z SM X 3 4 Q 2 [(0, .ref (X.1.2.1 0)), (1, .int x1)] [] M
  refine z_iload_n hX dX10_turnedNow_2 rfl 1 rfl ?_
  refine z_aload_n hX dX10_turnedNow_3 rfl 0 rfl ?_
  refine gfX10_7 hX dX10_turnedNow_4 ?_
  refine z_icmp_ge hX 29 dX10_turnedNow_7 (by decide) (fun c0 => ?_) (fun c0 => ?_)
  · replace h := h.1 c0
    refine z_aload_n hX dX10_turnedNow_29 rfl 0 rfl ?_
    obtain ⟨r1, c9, h⟩ := h
    refine mcX10_105 hX dX10_turnedNow_30 (by decide) (Nat.le_of_ble_eq_true rfl) c9 ?_
    refine z_istore_n hX dX10_turnedNow_33 rfl (by decide) [(1, .int r1), (0, .ref (X.1.2.1 0))] rfl ?_
    refine z_iconst (v := 0) hX dX10_turnedNow_34 (by decide) ?_
    refine z_istore_n hX dX10_turnedNow_35 rfl (by decide) [(2, .int (0 : Int32)), (1, .int r1), (0, .ref (X.1.2.1 0))] rfl ?_
    exact z_sub [2, 1, 0] rfl h
  · replace h := h.2 c0
    refine z_aload_n hX dX10_turnedNow_10 rfl 0 rfl ?_
    refine gfX10_17 hX dX10_turnedNow_11 ?_
    refine z_iload_n hX dX10_turnedNow_14 rfl 1 rfl ?_
    refine z_iald hX 2 rfl h.1 dX10_turnedNow_15 ?_
    replace h := h.2
    refine z_iconst (v := 3) hX dX10_turnedNow_16 (by decide) ?_
    refine z_icmp_ne hX 23 dX10_turnedNow_17 (by decide) (fun c0 => ?_) (fun c0 => ?_)
    · replace h := h.1 c0
      refine z_iinc (v := x1 + (1 : Int32)) hX dX10_turnedNow_23 1 rfl rfl (by decide) [(1, .int (x1 + (1 : Int32))), (0, .ref (X.1.2.1 0))] rfl ?_
      refine z_goto hX 2 dX10_turnedNow_26 (by decide) ?_
      exact z_sub [1, 0] rfl h
    · replace h := h.2 c0
      refine z_bipush (v := -9) hX dX10_turnedNow_20 (by decide) ?_
      exact z_iret hX dX10_turnedNow_22 h
set_option maxRecDepth 100000 in
set_option maxHeartbeats 4000000 in
theorem BX10_turnedNow_36 {X : XT} {Q : Option Value → Mem → Prop} (hX : KX10_turnedNow X) {x1 x2 : Int32} {M : Mem} (h : ∃ (r1 : Int32), CX10_all X.1 [.ref (X.1.2.1 0)] M (z_is (some (.int r1)) M) ∧ ((r1 < x2 → Q (some (.int x1)) M) ∧ (¬ r1 < x2 → (∃ (r2 : Int32), CX10_all X.1 [.ref (X.1.2.1 0)] M (z_is (some (.int r2)) M) ∧ (∃ (r3 : Int32), CX10_calmOf X.1 [.ref (X.1.2.1 0), .int x2] M (z_is (some (.int r3)) M) ∧ (∃ (r4 : Int32), CX10_ones X.1 [.int (r2 &&& (r3 ^^^ (-1 : Int32)))] M (z_is (some (.int r4)) M) ∧ (∃ (r5 : Int32), CX10_ones X.1 [.int x1] M (z_is (some (.int r5)) M) ∧ ((r4 < r5 → LX10_turnedNow_36 X Q (r2 &&& (r3 ^^^ (-1 : Int32))) (x2 + (1 : Int32)) M) ∧ (¬ r4 < r5 → (∃ (r6 : Int32), CX10_ones X.1 [.int (r2 &&& (r3 ^^^ (-1 : Int32)))] M (z_is (some (.int r6)) M) ∧ (∃ (r7 : Int32), CX10_ones X.1 [.int x1] M (z_is (some (.int r7)) M) ∧ ((¬ r6 = r7 → LX10_turnedNow_36 X Q x1 (x2 + (1 : Int32)) M) ∧ (r6 = r7 → ((x1 ≤ (r2 &&& (r3 ^^^ (-1 : Int32))) → LX10_turnedNow_36 X Q x1 (x2 + (1 : Int32)) M) ∧ (¬ x1 ≤ (r2 &&& (r3 ^^^ (-1 : Int32))) → LX10_turnedNow_36 X Q (r2 &&& (r3 ^^^ (-1 : Int32))) (x2 + (1 : Int32)) M))))))))))))))) : LX10_turnedNow_36 X Q x1 x2 M := by
  show Z SM X 3 4 Q 36 [(0, .ref (X.1.2.1 0)), (1, .int x1), (2, .int x2)] [] M
  refine z_iload_n hX dX10_turnedNow_36 rfl 2 rfl ?_
  refine z_aload_n hX dX10_turnedNow_37 rfl 0 rfl ?_
  obtain ⟨r1, c9, h⟩ := h
  refine mcX10_105 hX dX10_turnedNow_38 (by decide) (Nat.le_of_ble_eq_true rfl) c9 ?_
  refine z_icmp_gt hX 96 dX10_turnedNow_41 (by decide) (fun c0 => ?_) (fun c0 => ?_)
  · replace h := h.1 c0
    refine z_iload_n hX dX10_turnedNow_96 rfl 1 rfl ?_
    exact z_iret hX dX10_turnedNow_97 h
  · replace h := h.2 c0
    refine z_aload_n hX dX10_turnedNow_44 rfl 0 rfl ?_
    obtain ⟨r2, c9, h⟩ := h
    refine mcX10_105 hX dX10_turnedNow_45 (by decide) (Nat.le_of_ble_eq_true rfl) c9 ?_
    refine z_aload_n hX dX10_turnedNow_48 rfl 0 rfl ?_
    refine z_iload_n hX dX10_turnedNow_49 rfl 2 rfl ?_
    obtain ⟨r3, c9, h⟩ := h
    refine mcX10_93 hX dX10_turnedNow_50 (by decide) (Nat.le_of_ble_eq_true rfl) c9 ?_
    refine z_iconst (v := -1) hX dX10_turnedNow_53 (by decide) ?_
    refine z_ixor hX dX10_turnedNow_54 ?_
    refine z_iand hX dX10_turnedNow_55 ?_
    refine z_istore_n hX dX10_turnedNow_56 rfl (by decide) [(3, .int (r2 &&& (r3 ^^^ (-1 : Int32)))), (0, .ref (X.1.2.1 0)), (1, .int x1), (2, .int x2)] rfl ?_
    refine z_iload_n hX dX10_turnedNow_57 rfl 0 rfl ?_
    obtain ⟨r4, c9, h⟩ := h
    refine mcX10_161 hX dX10_turnedNow_58 (by decide) (Nat.le_of_ble_eq_true rfl) c9 ?_
    refine z_iload_n hX dX10_turnedNow_61 rfl 2 rfl ?_
    obtain ⟨r5, c9, h⟩ := h
    refine mcX10_161 hX dX10_turnedNow_62 (by decide) (Nat.le_of_ble_eq_true rfl) c9 ?_
    refine z_icmp_lt hX 84 dX10_turnedNow_65 (by decide) (fun c0 => ?_) (fun c0 => ?_)
    · replace h := h.1 c0
      refine z_iload_n hX dX10_turnedNow_84 rfl 0 rfl ?_
      refine z_goto hX 89 dX10_turnedNow_85 (by decide) ?_
      refine z_istore_n hX dX10_turnedNow_89 rfl (by decide) [(1, .int (r2 &&& (r3 ^^^ (-1 : Int32)))), (3, .int (r2 &&& (r3 ^^^ (-1 : Int32)))), (0, .ref (X.1.2.1 0)), (2, .int x2)] rfl ?_
      refine z_iinc (v := x2 + (1 : Int32)) hX dX10_turnedNow_90 3 rfl rfl (by decide) [(2, .int (x2 + (1 : Int32))), (1, .int (r2 &&& (r3 ^^^ (-1 : Int32)))), (3, .int (r2 &&& (r3 ^^^ (-1 : Int32)))), (0, .ref (X.1.2.1 0))] rfl ?_
      refine z_goto hX 36 dX10_turnedNow_93 (by decide) ?_
      exact z_sub [3, 1, 0] rfl h
    · replace h := h.2 c0
      refine z_iload_n hX dX10_turnedNow_68 rfl 0 rfl ?_
      obtain ⟨r6, c9, h⟩ := h
      refine mcX10_161 hX dX10_turnedNow_69 (by decide) (Nat.le_of_ble_eq_true rfl) c9 ?_
      refine z_iload_n hX dX10_turnedNow_72 rfl 2 rfl ?_
      obtain ⟨r7, c9, h⟩ := h
      refine mcX10_161 hX dX10_turnedNow_73 (by decide) (Nat.le_of_ble_eq_true rfl) c9 ?_
      refine z_icmp_ne hX 88 dX10_turnedNow_76 (by decide) (fun c0 => ?_) (fun c0 => ?_)
      · replace h := h.1 c0
        refine z_iload_n hX dX10_turnedNow_88 rfl 2 rfl ?_
        refine z_istore_n hX dX10_turnedNow_89 rfl (by decide) [(1, .int x1), (3, .int (r2 &&& (r3 ^^^ (-1 : Int32)))), (0, .ref (X.1.2.1 0)), (2, .int x2)] rfl ?_
        refine z_iinc (v := x2 + (1 : Int32)) hX dX10_turnedNow_90 3 rfl rfl (by decide) [(2, .int (x2 + (1 : Int32))), (1, .int x1), (3, .int (r2 &&& (r3 ^^^ (-1 : Int32)))), (0, .ref (X.1.2.1 0))] rfl ?_
        refine z_goto hX 36 dX10_turnedNow_93 (by decide) ?_
        exact z_sub [3, 1, 0] rfl h
      · replace h := h.2 c0
        refine z_iload_n hX dX10_turnedNow_79 rfl 0 rfl ?_
        refine z_iload_n hX dX10_turnedNow_80 rfl 2 rfl ?_
        refine z_icmp_ge hX 88 dX10_turnedNow_81 (by decide) (fun c0 => ?_) (fun c0 => ?_)
        · replace h := h.1 c0
          refine z_iload_n hX dX10_turnedNow_88 rfl 2 rfl ?_
          refine z_istore_n hX dX10_turnedNow_89 rfl (by decide) [(1, .int x1), (3, .int (r2 &&& (r3 ^^^ (-1 : Int32)))), (0, .ref (X.1.2.1 0)), (2, .int x2)] rfl ?_
          refine z_iinc (v := x2 + (1 : Int32)) hX dX10_turnedNow_90 3 rfl rfl (by decide) [(2, .int (x2 + (1 : Int32))), (1, .int x1), (3, .int (r2 &&& (r3 ^^^ (-1 : Int32)))), (0, .ref (X.1.2.1 0))] rfl ?_
          refine z_goto hX 36 dX10_turnedNow_93 (by decide) ?_
          exact z_sub [3, 1, 0] rfl h
        · replace h := h.2 c0
          refine z_iload_n hX dX10_turnedNow_84 rfl 0 rfl ?_
          refine z_goto hX 89 dX10_turnedNow_85 (by decide) ?_
          refine z_istore_n hX dX10_turnedNow_89 rfl (by decide) [(1, .int (r2 &&& (r3 ^^^ (-1 : Int32)))), (3, .int (r2 &&& (r3 ^^^ (-1 : Int32)))), (0, .ref (X.1.2.1 0)), (2, .int x2)] rfl ?_
          refine z_iinc (v := x2 + (1 : Int32)) hX dX10_turnedNow_90 3 rfl rfl (by decide) [(2, .int (x2 + (1 : Int32))), (1, .int (r2 &&& (r3 ^^^ (-1 : Int32)))), (3, .int (r2 &&& (r3 ^^^ (-1 : Int32)))), (0, .ref (X.1.2.1 0))] rfl ?_
          refine z_goto hX 36 dX10_turnedNow_93 (by decide) ?_
          exact z_sub [3, 1, 0] rfl h
set_option maxRecDepth 100000 in
set_option maxHeartbeats 4000000 in
theorem EX10_turn {E : ET} {Q : Option Value → Mem → Prop} {M : Mem} (h : ∃ (r1 : Int32), CX10_turnedNow E [.ref (E.2.1 0)] M (z_is (some (.int r1)) M) ∧ ((¬ r1 = (-9 : Int32) → (∃ (r2 : Int32), CX10_ones E [.int r1] M (z_is (some (.int r2)) M) ∧ Q (some (.int r2)) M)) ∧ (r1 = (-9 : Int32) → Q (some (.int (-9 : Int32))) M))) : CX10_turn E [.ref (E.2.1 0)] M Q := by
  refine z_entry (by decide +kernel) (Nat.le_of_ble_eq_true rfl) (fun X hE hX => ?_)
  subst hE
  show Z SM X 4 2 Q 0 [(0, .ref (X.1.2.1 0))] [] M
  refine z_aload_n hX dX10_turn_0 rfl 0 rfl ?_
  obtain ⟨r1, c9, h⟩ := h
  refine mcX10_164 hX dX10_turn_1 (by decide) (Nat.le_of_ble_eq_true rfl) c9 ?_
  refine z_istore_n hX dX10_turn_4 rfl (by decide) [(1, .int r1), (0, .ref (X.1.2.1 0))] rfl ?_
  refine z_iload_n hX dX10_turn_5 rfl 0 rfl ?_
  refine z_bipush (v := -9) hX dX10_turn_6 (by decide) ?_
  refine z_icmp_ne hX 16 dX10_turn_8 (by decide) (fun c0 => ?_) (fun c0 => ?_)
  · replace h := h.1 c0
    refine z_iload_n hX dX10_turn_16 rfl 0 rfl ?_
    obtain ⟨r2, c9, h⟩ := h
    refine mcX10_161 hX dX10_turn_17 (by decide) (Nat.le_of_ble_eq_true rfl) c9 ?_
    exact z_iret hX dX10_turn_20 h
  · replace h := h.2 c0
    refine z_bipush (v := -9) hX dX10_turn_11 (by decide) ?_
    refine z_goto hX 20 dX10_turn_13 (by decide) ?_
    exact z_iret hX dX10_turn_20 h
set_option maxRecDepth 100000 in
set_option maxHeartbeats 4000000 in
theorem EX10_turned {E : ET} {Q : Option Value → Mem → Prop} {M : Mem} (h : ∃ (r1 : Int32), CX10_turnedNow E [.ref (E.2.1 0)] M (z_is (some (.int r1)) M) ∧ Q (some (.int r1)) M) : CX10_turned E [.ref (E.2.1 0)] M Q := by
  refine z_entry (by decide +kernel) (Nat.le_of_ble_eq_true rfl) (fun X hE hX => ?_)
  subst hE
  show Z SM X 4 1 Q 0 [(0, .ref (X.1.2.1 0))] [] M
  refine z_aload_n hX dX10_turned_0 rfl 0 rfl ?_
  obtain ⟨r1, c9, h⟩ := h
  refine mcX10_164 hX dX10_turned_1 (by decide) (Nat.le_of_ble_eq_true rfl) c9 ?_
  exact z_iret hX dX10_turned_4 h
abbrev LX10_hold_4 (X : XT) (Q : Option Value → Mem → Prop) (x1 : Int32) (x2 : Int32) (x3 : Int32) (M : Mem) : Prop := Z SM X 3 4 Q 4 [(0, .ref (X.1.2.1 0)), (1, .int x1), (2, .int x2), (3, .int x3)] [] M
set_option maxRecDepth 100000 in
set_option maxHeartbeats 4000000 in
theorem EX10_hold {E : ET} {Q : Option Value → Mem → Prop} {x1 : Int32} {M : Mem} (h : ∀ X : XT, X.1 = E → KX10_hold X → LX10_hold_4 X Q x1 (0 : Int32) (1 : Int32) M) : CX10_hold E [.ref (E.2.1 0), .int x1] M Q := by
  refine z_entry (by decide +kernel) (Nat.le_of_ble_eq_true rfl) (fun X hE hX => ?_)
  subst hE
  replace h := h X rfl hX
  show Z SM X 3 4 Q 0 [(0, .ref (X.1.2.1 0)), (1, .int x1)] [] M
  refine z_iconst (v := 0) hX dX10_hold_0 (by decide) ?_
  refine z_istore_n hX dX10_hold_1 rfl (by decide) [(2, .int (0 : Int32)), (0, .ref (X.1.2.1 0)), (1, .int x1)] rfl ?_
  refine z_iconst (v := 1) hX dX10_hold_2 (by decide) ?_
  refine z_istore_n hX dX10_hold_3 rfl (by decide) [(3, .int (1 : Int32)), (2, .int (0 : Int32)), (0, .ref (X.1.2.1 0)), (1, .int x1)] rfl ?_
  exact z_sub [2, 3, 1, 0] rfl h
set_option maxRecDepth 100000 in
set_option maxHeartbeats 4000000 in
theorem BX10_hold_4 {X : XT} {Q : Option Value → Mem → Prop} (hX : KX10_hold X) {x1 x2 x3 : Int32} {M : Mem} (h : ∃ (r1 : Int32), CX10_all X.1 [.ref (X.1.2.1 0)] M (z_is (some (.int r1)) M) ∧ ((r1 < x3 → ((x1 = 0 → (∃ (r2 : Int32), CX10_calmOf X.1 [.ref (X.1.2.1 0), .int x2] M (z_is (some (.int r2)) M) ∧ (∃ (r3 : Int32), CX10_ones X.1 [.int r2] M (z_is (some (.int r3)) M) ∧ Q (some (.int ((M.1 0 0) - r3))) M))) ∧ (¬ x1 = 0 → Q (some (.int x2)) M))) ∧ (¬ r1 < x3 → (∃ (r4 : Int32), CX10_calmOf X.1 [.ref (X.1.2.1 0), .int x3] M (z_is (some (.int r4)) M) ∧ (∃ (r5 : Int32), CX10_ones X.1 [.int r4] M (z_is (some (.int r5)) M) ∧ (∃ (r6 : Int32), CX10_calmOf X.1 [.ref (X.1.2.1 0), .int x2] M (z_is (some (.int r6)) M) ∧ (∃ (r7 : Int32), CX10_ones X.1 [.int r6] M (z_is (some (.int r7)) M) ∧ ((r5 ≤ r7 → LX10_hold_4 X Q x1 x2 (x3 + (1 : Int32)) M) ∧ (¬ r5 ≤ r7 → LX10_hold_4 X Q x1 x3 (x3 + (1 : Int32)) M))))))))) : LX10_hold_4 X Q x1 x2 x3 M := by
  show Z SM X 3 4 Q 4 [(0, .ref (X.1.2.1 0)), (1, .int x1), (2, .int x2), (3, .int x3)] [] M
  refine z_iload_n hX dX10_hold_4 rfl 3 rfl ?_
  refine z_aload_n hX dX10_hold_5 rfl 0 rfl ?_
  obtain ⟨r1, c9, h⟩ := h
  refine mcX10_105 hX dX10_hold_6 (by decide) (Nat.le_of_ble_eq_true rfl) c9 ?_
  refine z_icmp_gt hX 43 dX10_hold_9 (by decide) (fun c0 => ?_) (fun c0 => ?_)
  · replace h := h.1 c0
    refine z_iload_n hX dX10_hold_43 rfl 1 rfl ?_
    refine z_if_eq hX 51 dX10_hold_44 (by decide) (fun c0 => ?_) (fun c0 => ?_)
    · replace h := h.1 c0
      refine z_aload_n hX dX10_hold_51 rfl 0 rfl ?_
      refine gfX10_7 hX dX10_hold_52 ?_
      refine z_aload_n hX dX10_hold_55 rfl 0 rfl ?_
      refine z_iload_n hX dX10_hold_56 rfl 2 rfl ?_
      obtain ⟨r2, c9, h⟩ := h
      refine mcX10_93 hX dX10_hold_57 (by decide) (Nat.le_of_ble_eq_true rfl) c9 ?_
      obtain ⟨r3, c9, h⟩ := h
      refine mcX10_161 hX dX10_hold_60 (by decide) (Nat.le_of_ble_eq_true rfl) c9 ?_
      refine z_isub hX dX10_hold_63 ?_
      exact z_iret hX dX10_hold_64 h
    · replace h := h.2 c0
      refine z_iload_n hX dX10_hold_47 rfl 2 rfl ?_
      refine z_goto hX 64 dX10_hold_48 (by decide) ?_
      exact z_iret hX dX10_hold_64 h
  · replace h := h.2 c0
    refine z_aload_n hX dX10_hold_12 rfl 0 rfl ?_
    refine z_iload_n hX dX10_hold_13 rfl 3 rfl ?_
    obtain ⟨r4, c9, h⟩ := h
    refine mcX10_93 hX dX10_hold_14 (by decide) (Nat.le_of_ble_eq_true rfl) c9 ?_
    obtain ⟨r5, c9, h⟩ := h
    refine mcX10_161 hX dX10_hold_17 (by decide) (Nat.le_of_ble_eq_true rfl) c9 ?_
    refine z_aload_n hX dX10_hold_20 rfl 0 rfl ?_
    refine z_iload_n hX dX10_hold_21 rfl 2 rfl ?_
    obtain ⟨r6, c9, h⟩ := h
    refine mcX10_93 hX dX10_hold_22 (by decide) (Nat.le_of_ble_eq_true rfl) c9 ?_
    obtain ⟨r7, c9, h⟩ := h
    refine mcX10_161 hX dX10_hold_25 (by decide) (Nat.le_of_ble_eq_true rfl) c9 ?_
    refine z_icmp_le hX 35 dX10_hold_28 (by decide) (fun c0 => ?_) (fun c0 => ?_)
    · replace h := h.1 c0
      refine z_iload_n hX dX10_hold_35 rfl 2 rfl ?_
      refine z_istore_n hX dX10_hold_36 rfl (by decide) [(2, .int x2), (0, .ref (X.1.2.1 0)), (1, .int x1), (3, .int x3)] rfl ?_
      refine z_iinc (v := x3 + (1 : Int32)) hX dX10_hold_37 3 rfl rfl (by decide) [(3, .int (x3 + (1 : Int32))), (2, .int x2), (0, .ref (X.1.2.1 0)), (1, .int x1)] rfl ?_
      refine z_goto hX 4 dX10_hold_40 (by decide) ?_
      exact z_sub [2, 3, 1, 0] rfl h
    · replace h := h.2 c0
      refine z_iload_n hX dX10_hold_31 rfl 3 rfl ?_
      refine z_goto hX 36 dX10_hold_32 (by decide) ?_
      refine z_istore_n hX dX10_hold_36 rfl (by decide) [(2, .int x3), (0, .ref (X.1.2.1 0)), (1, .int x1), (3, .int x3)] rfl ?_
      refine z_iinc (v := x3 + (1 : Int32)) hX dX10_hold_37 3 rfl rfl (by decide) [(3, .int (x3 + (1 : Int32))), (2, .int x3), (0, .ref (X.1.2.1 0)), (1, .int x1)] rfl ?_
      refine z_goto hX 4 dX10_hold_40 (by decide) ?_
      exact z_sub [2, 3, 1, 0] rfl h
set_option maxRecDepth 100000 in
set_option maxHeartbeats 4000000 in
theorem EX10_may {E : ET} {Q : Option Value → Mem → Prop} {x1 x2 : Int32} {M : Mem} (h : ∃ (r1 : Int32), CX10_isDress E [.ref (E.2.1 0), .int x1] M (z_is (some (.int r1)) M) ∧ ((¬ r1 = 0 → (∃ (r2 : Int32), CX10_restOf E [.ref (E.2.1 0), .int x2] M (z_is (some (.int r2)) M) ∧ ((¬ r2 = (-1 : Int32) → (∃ q6 : Mem → Prop, CX10_layCalms E [.ref (E.2.1 0)] M (z_pV q6) ∧ ∀ (M3 : Mem), q6 M3 → (∃ q5 : Mem → Prop, CX10_layFar E [.ref (E.2.1 0), .int x1] M3 (z_pV q5) ∧ ∀ (M4 : Mem), q5 M4 → (vp_in r2 1024 ∧ ((¬ (M4.1 9 r2.toNatClampNeg) = (-9 : Int32) → Q (some (.int (1 : Int32))) M4) ∧ ((M4.1 9 r2.toNatClampNeg) = (-9 : Int32) → Q (some (.int (0 : Int32))) M4)))))) ∧ (r2 = (-1 : Int32) → Q (some (.int (-1 : Int32))) M)))) ∧ (r1 = 0 → Q (some (.int (-2 : Int32))) M))) : CX10_may E [.ref (E.2.1 0), .int x1, .int x2] M Q := by
  refine z_entry (by decide +kernel) (Nat.le_of_ble_eq_true rfl) (fun X hE hX => ?_)
  subst hE
  show Z SM X 5 4 Q 0 [(0, .ref (X.1.2.1 0)), (1, .int x1), (2, .int x2)] [] M
  refine z_aload_n hX dX10_may_0 rfl 0 rfl ?_
  refine z_iload_n hX dX10_may_1 rfl 1 rfl ?_
  obtain ⟨r1, c9, h⟩ := h
  refine mcX10_90 hX dX10_may_2 (by decide) (Nat.le_of_ble_eq_true rfl) c9 ?_
  refine z_if_ne hX 11 dX10_may_5 (by decide) (fun c0 => ?_) (fun c0 => ?_)
  · replace h := h.1 c0
    refine z_aload_n hX dX10_may_11 rfl 0 rfl ?_
    refine z_iload_n hX dX10_may_12 rfl 2 rfl ?_
    obtain ⟨r2, c9, h⟩ := h
    refine mcX10_136 hX dX10_may_13 (by decide) (Nat.le_of_ble_eq_true rfl) c9 ?_
    refine z_istore_n hX dX10_may_16 rfl (by decide) [(3, .int r2), (0, .ref (X.1.2.1 0)), (1, .int x1), (2, .int x2)] rfl ?_
    refine z_iload_n hX dX10_may_17 rfl 0 rfl ?_
    refine z_iconst (v := -1) hX dX10_may_18 (by decide) ?_
    refine z_icmp_ne hX 24 dX10_may_19 (by decide) (fun c0 => ?_) (fun c0 => ?_)
    · replace h := h.1 c0
      refine z_aload_n hX dX10_may_24 rfl 1 rfl ?_
      obtain ⟨q6, c9, h⟩ := h
      refine mcX10_152 hX dX10_may_25 (by decide) (Nat.le_of_ble_eq_true rfl) c9 (fun M3 hq => ?_)
      replace h := h M3 hq
      refine z_aload_n hX dX10_may_28 rfl 1 rfl ?_
      refine z_iload_n hX dX10_may_29 rfl 2 rfl ?_
      obtain ⟨q5, c9, h⟩ := h
      refine mcX10_149 hX dX10_may_30 (by decide) (Nat.le_of_ble_eq_true rfl) c9 (fun M4 hq => ?_)
      replace h := h M4 hq
      refine z_aload_n hX dX10_may_33 rfl 1 rfl ?_
      refine gfX10_38 hX dX10_may_34 ?_
      refine z_iload_n hX dX10_may_37 rfl 0 rfl ?_
      refine z_iald hX 9 rfl h.1 dX10_may_38 ?_
      replace h := h.2
      refine z_bipush (v := -9) hX dX10_may_39 (by decide) ?_
      refine z_icmp_ne hX 48 dX10_may_41 (by decide) (fun c0 => ?_) (fun c0 => ?_)
      · replace h := h.1 c0
        refine z_iconst (v := 1) hX dX10_may_48 (by decide) ?_
        exact z_iret hX dX10_may_49 h
      · replace h := h.2 c0
        refine z_iconst (v := 0) hX dX10_may_44 (by decide) ?_
        refine z_goto hX 49 dX10_may_45 (by decide) ?_
        exact z_iret hX dX10_may_49 h
    · replace h := h.2 c0
      refine z_iconst (v := -1) hX dX10_may_22 (by decide) ?_
      exact z_iret hX dX10_may_23 h
  · replace h := h.2 c0
    refine z_bipush (v := -2) hX dX10_may_8 (by decide) ?_
    exact z_iret hX dX10_may_10 h
abbrev LX10_mays_24 (X : XT) (Q : Option Value → Mem → Prop) (x2 : Int32) (x3 : Int32) (M : Mem) : Prop := Z SM X 4 4 Q 24 [(0, .ref (X.1.2.1 0)), (2, .int x2), (3, .int x3)] [] M
set_option maxRecDepth 100000 in
set_option maxHeartbeats 4000000 in
theorem EX10_mays {E : ET} {Q : Option Value → Mem → Prop} {x1 : Int32} {M : Mem} (h : ∀ X : XT, X.1 = E → KX10_mays X → (∃ (r1 : Int32), CX10_isDress X.1 [.ref (X.1.2.1 0), .int x1] M (z_is (some (.int r1)) M) ∧ ((¬ r1 = 0 → (∃ q5 : Mem → Prop, CX10_layCalms X.1 [.ref (X.1.2.1 0)] M (z_pV q5) ∧ ∀ (M2 : Mem), q5 M2 → (∃ q4 : Mem → Prop, CX10_layFar X.1 [.ref (X.1.2.1 0), .int x1] M2 (z_pV q4) ∧ ∀ (M3 : Mem), q4 M3 → LX10_mays_24 X Q (0 : Int32) (0 : Int32) M3))) ∧ (r1 = 0 → Q (some (.int (-2 : Int32))) M)))) : CX10_mays E [.ref (E.2.1 0), .int x1] M Q := by
  refine z_entry (by decide +kernel) (Nat.le_of_ble_eq_true rfl) (fun X hE hX => ?_)
  subst hE
  replace h := h X rfl hX
  show Z SM X 4 4 Q 0 [(0, .ref (X.1.2.1 0)), (1, .int x1)] [] M
  refine z_aload_n hX dX10_mays_0 rfl 0 rfl ?_
  refine z_iload_n hX dX10_mays_1 rfl 1 rfl ?_
  obtain ⟨r1, c9, h⟩ := h
  refine mcX10_90 hX dX10_mays_2 (by decide) (Nat.le_of_ble_eq_true rfl) c9 ?_
  refine z_if_ne hX 11 dX10_mays_5 (by decide) (fun c0 => ?_) (fun c0 => ?_)
  · replace h := h.1 c0
    refine z_aload_n hX dX10_mays_11 rfl 0 rfl ?_
    obtain ⟨q5, c9, h⟩ := h
    refine mcX10_152 hX dX10_mays_12 (by decide) (Nat.le_of_ble_eq_true rfl) c9 (fun M2 hq => ?_)
    replace h := h M2 hq
    refine z_aload_n hX dX10_mays_15 rfl 0 rfl ?_
    refine z_iload_n hX dX10_mays_16 rfl 1 rfl ?_
    obtain ⟨q4, c9, h⟩ := h
    refine mcX10_149 hX dX10_mays_17 (by decide) (Nat.le_of_ble_eq_true rfl) c9 (fun M3 hq => ?_)
    replace h := h M3 hq
    refine z_iconst (v := 0) hX dX10_mays_20 (by decide) ?_
    refine z_istore_n hX dX10_mays_21 rfl (by decide) [(2, .int (0 : Int32)), (0, .ref (X.1.2.1 0)), (1, .int x1)] rfl ?_
    refine z_iconst (v := 0) hX dX10_mays_22 (by decide) ?_
    refine z_istore_n hX dX10_mays_23 rfl (by decide) [(3, .int (0 : Int32)), (2, .int (0 : Int32)), (0, .ref (X.1.2.1 0)), (1, .int x1)] rfl ?_
    exact z_sub [2, 1, 0] rfl h
  · replace h := h.2 c0
    refine z_bipush (v := -2) hX dX10_mays_8 (by decide) ?_
    exact z_iret hX dX10_mays_10 h
set_option maxRecDepth 100000 in
set_option maxHeartbeats 4000000 in
theorem BX10_mays_24 {X : XT} {Q : Option Value → Mem → Prop} (hX : KX10_mays X) {x2 x3 : Int32} {M : Mem} (h : ∃ (r1 : Int32), CX10_all X.1 [.ref (X.1.2.1 0)] M (z_is (some (.int r1)) M) ∧ ((r1 < x3 → Q (some (.int x2)) M) ∧ (¬ r1 < x3 → (vp_in x3 1024 ∧ (((M.1 9 x3.toNatClampNeg) = (-9 : Int32) → LX10_mays_24 X Q (x2 + (0 : Int32)) (x3 + (1 : Int32)) M) ∧ (¬ (M.1 9 x3.toNatClampNeg) = (-9 : Int32) → (∃ (r2 : Int32), CX10_isRest X.1 [.ref (X.1.2.1 0), .int x3] M (z_is (some (.int r2)) M) ∧ ((r2 = 0 → LX10_mays_24 X Q (x2 + (0 : Int32)) (x3 + (1 : Int32)) M) ∧ (¬ r2 = 0 → LX10_mays_24 X Q (x2 + (1 : Int32)) (x3 + (1 : Int32)) M))))))))) : LX10_mays_24 X Q x2 x3 M := by
  show Z SM X 4 4 Q 24 [(0, .ref (X.1.2.1 0)), (2, .int x2), (3, .int x3)] [] M
  refine z_iload_n hX dX10_mays_24 rfl 2 rfl ?_
  refine z_aload_n hX dX10_mays_25 rfl 0 rfl ?_
  obtain ⟨r1, c9, h⟩ := h
  refine mcX10_105 hX dX10_mays_26 (by decide) (Nat.le_of_ble_eq_true rfl) c9 ?_
  refine z_icmp_gt hX 65 dX10_mays_29 (by decide) (fun c0 => ?_) (fun c0 => ?_)
  · replace h := h.1 c0
    refine z_iload_n hX dX10_mays_65 rfl 1 rfl ?_
    exact z_iret hX dX10_mays_66 h
  · replace h := h.2 c0
    refine z_iload_n hX dX10_mays_32 rfl 1 rfl ?_
    refine z_aload_n hX dX10_mays_33 rfl 0 rfl ?_
    refine gfX10_38 hX dX10_mays_34 ?_
    refine z_iload_n hX dX10_mays_37 rfl 2 rfl ?_
    refine z_iald hX 9 rfl h.1 dX10_mays_38 ?_
    replace h := h.2
    refine z_bipush (v := -9) hX dX10_mays_39 (by decide) ?_
    refine z_icmp_eq hX 56 dX10_mays_41 (by decide) (fun c0 => ?_) (fun c0 => ?_)
    · replace h := h.1 c0
      refine z_iconst (v := 0) hX dX10_mays_56 (by decide) ?_
      refine z_iadd hX dX10_mays_57 ?_
      refine z_istore_n hX dX10_mays_58 rfl (by decide) [(2, .int (x2 + (0 : Int32))), (0, .ref (X.1.2.1 0)), (3, .int x3)] rfl ?_
      refine z_iinc (v := x3 + (1 : Int32)) hX dX10_mays_59 2 rfl rfl (by decide) [(3, .int (x3 + (1 : Int32))), (2, .int (x2 + (0 : Int32))), (0, .ref (X.1.2.1 0))] rfl ?_
      refine z_goto hX 24 dX10_mays_62 (by decide) ?_
      exact z_sub [2, 1, 0] rfl h
    · replace h := h.2 c0
      refine z_aload_n hX dX10_mays_44 rfl 0 rfl ?_
      refine z_iload_n hX dX10_mays_45 rfl 2 rfl ?_
      obtain ⟨r2, c9, h⟩ := h
      refine mcX10_133 hX dX10_mays_46 (by decide) (Nat.le_of_ble_eq_true rfl) c9 ?_
      refine z_if_eq hX 56 dX10_mays_49 (by decide) (fun c0 => ?_) (fun c0 => ?_)
      · replace h := h.1 c0
        refine z_iconst (v := 0) hX dX10_mays_56 (by decide) ?_
        refine z_iadd hX dX10_mays_57 ?_
        refine z_istore_n hX dX10_mays_58 rfl (by decide) [(2, .int (x2 + (0 : Int32))), (0, .ref (X.1.2.1 0)), (3, .int x3)] rfl ?_
        refine z_iinc (v := x3 + (1 : Int32)) hX dX10_mays_59 2 rfl rfl (by decide) [(3, .int (x3 + (1 : Int32))), (2, .int (x2 + (0 : Int32))), (0, .ref (X.1.2.1 0))] rfl ?_
        refine z_goto hX 24 dX10_mays_62 (by decide) ?_
        exact z_sub [2, 1, 0] rfl h
      · replace h := h.2 c0
        refine z_iconst (v := 1) hX dX10_mays_52 (by decide) ?_
        refine z_goto hX 57 dX10_mays_53 (by decide) ?_
        refine z_iadd hX dX10_mays_57 ?_
        refine z_istore_n hX dX10_mays_58 rfl (by decide) [(2, .int (x2 + (1 : Int32))), (0, .ref (X.1.2.1 0)), (3, .int x3)] rfl ?_
        refine z_iinc (v := x3 + (1 : Int32)) hX dX10_mays_59 2 rfl rfl (by decide) [(3, .int (x3 + (1 : Int32))), (2, .int (x2 + (1 : Int32))), (0, .ref (X.1.2.1 0))] rfl ?_
        refine z_goto hX 24 dX10_mays_62 (by decide) ?_
        exact z_sub [2, 1, 0] rfl h
abbrev LX10_soon_22 (X : XT) (Q : Option Value → Mem → Prop) (x2 : Int32) (M : Mem) : Prop := Z SM X 4 3 Q 22 [(0, .ref (X.1.2.1 0)), (2, .int x2)] [] M
set_option maxRecDepth 100000 in
set_option maxHeartbeats 4000000 in
theorem EX10_soon {E : ET} {Q : Option Value → Mem → Prop} {x1 : Int32} {M : Mem} (h : ∀ X : XT, X.1 = E → KX10_soon X → (∃ (r1 : Int32), CX10_isDress X.1 [.ref (X.1.2.1 0), .int x1] M (z_is (some (.int r1)) M) ∧ ((¬ r1 = 0 → (∃ q5 : Mem → Prop, CX10_layCalms X.1 [.ref (X.1.2.1 0)] M (z_pV q5) ∧ ∀ (M2 : Mem), q5 M2 → (∃ q4 : Mem → Prop, CX10_layFar X.1 [.ref (X.1.2.1 0), .int x1] M2 (z_pV q4) ∧ ∀ (M3 : Mem), q4 M3 → LX10_soon_22 X Q (0 : Int32) M3))) ∧ (r1 = 0 → Q (some (.int (-2 : Int32))) M)))) : CX10_soon E [.ref (E.2.1 0), .int x1] M Q := by
  refine z_entry (by decide +kernel) (Nat.le_of_ble_eq_true rfl) (fun X hE hX => ?_)
  subst hE
  replace h := h X rfl hX
  show Z SM X 4 3 Q 0 [(0, .ref (X.1.2.1 0)), (1, .int x1)] [] M
  refine z_aload_n hX dX10_soon_0 rfl 0 rfl ?_
  refine z_iload_n hX dX10_soon_1 rfl 1 rfl ?_
  obtain ⟨r1, c9, h⟩ := h
  refine mcX10_90 hX dX10_soon_2 (by decide) (Nat.le_of_ble_eq_true rfl) c9 ?_
  refine z_if_ne hX 11 dX10_soon_5 (by decide) (fun c0 => ?_) (fun c0 => ?_)
  · replace h := h.1 c0
    refine z_aload_n hX dX10_soon_11 rfl 0 rfl ?_
    obtain ⟨q5, c9, h⟩ := h
    refine mcX10_152 hX dX10_soon_12 (by decide) (Nat.le_of_ble_eq_true rfl) c9 (fun M2 hq => ?_)
    replace h := h M2 hq
    refine z_aload_n hX dX10_soon_15 rfl 0 rfl ?_
    refine z_iload_n hX dX10_soon_16 rfl 1 rfl ?_
    obtain ⟨q4, c9, h⟩ := h
    refine mcX10_149 hX dX10_soon_17 (by decide) (Nat.le_of_ble_eq_true rfl) c9 (fun M3 hq => ?_)
    replace h := h M3 hq
    refine z_iconst (v := 0) hX dX10_soon_20 (by decide) ?_
    refine z_istore_n hX dX10_soon_21 rfl (by decide) [(2, .int (0 : Int32)), (0, .ref (X.1.2.1 0)), (1, .int x1)] rfl ?_
    exact z_sub [1, 0] rfl h
  · replace h := h.2 c0
    refine z_bipush (v := -2) hX dX10_soon_8 (by decide) ?_
    exact z_iret hX dX10_soon_10 h
set_option maxRecDepth 100000 in
set_option maxHeartbeats 4000000 in
theorem BX10_soon_22 {X : XT} {Q : Option Value → Mem → Prop} (hX : KX10_soon X) {x2 : Int32} {M : Mem} (h : (((M.1 0 15) ≤ x2 → Q (some (.int (-9 : Int32))) M) ∧ (¬ (M.1 0 15) ≤ x2 → (vp_in x2 1024 ∧ (∃ (r1 : Int32), CX10_isRest X.1 [.ref (X.1.2.1 0), .int (M.1 10 x2.toNatClampNeg)] M (z_is (some (.int r1)) M) ∧ ((r1 = 0 → LX10_soon_22 X Q (x2 + (1 : Int32)) M) ∧ (¬ r1 = 0 → (vp_in x2 1024 ∧ (vp_in (M.1 10 x2.toNatClampNeg) 1024 ∧ Q (some (.int (M.1 9 (M.1 10 x2.toNatClampNeg).toNatClampNeg))) M))))))))) : LX10_soon_22 X Q x2 M := by
  show Z SM X 4 3 Q 22 [(0, .ref (X.1.2.1 0)), (2, .int x2)] [] M
  refine z_iload_n hX dX10_soon_22 rfl 1 rfl ?_
  refine z_aload_n hX dX10_soon_23 rfl 0 rfl ?_
  refine gfX10_146 hX dX10_soon_24 ?_
  refine z_icmp_ge hX 61 dX10_soon_27 (by decide) (fun c0 => ?_) (fun c0 => ?_)
  · replace h := h.1 c0
    refine z_bipush (v := -9) hX dX10_soon_61 (by decide) ?_
    exact z_iret hX dX10_soon_63 h
  · replace h := h.2 c0
    refine z_aload_n hX dX10_soon_30 rfl 0 rfl ?_
    refine z_aload_n hX dX10_soon_31 rfl 0 rfl ?_
    refine gfX10_41 hX dX10_soon_32 ?_
    refine z_iload_n hX dX10_soon_35 rfl 1 rfl ?_
    refine z_iald hX 10 rfl h.1 dX10_soon_36 ?_
    replace h := h.2
    obtain ⟨r1, c9, h⟩ := h
    refine mcX10_133 hX dX10_soon_37 (by decide) (Nat.le_of_ble_eq_true rfl) c9 ?_
    refine z_if_eq hX 55 dX10_soon_40 (by decide) (fun c0 => ?_) (fun c0 => ?_)
    · replace h := h.1 c0
      refine z_iinc (v := x2 + (1 : Int32)) hX dX10_soon_55 1 rfl rfl (by decide) [(2, .int (x2 + (1 : Int32))), (0, .ref (X.1.2.1 0))] rfl ?_
      refine z_goto hX 22 dX10_soon_58 (by decide) ?_
      exact z_sub [1, 0] rfl h
    · replace h := h.2 c0
      refine z_aload_n hX dX10_soon_43 rfl 0 rfl ?_
      refine gfX10_38 hX dX10_soon_44 ?_
      refine z_aload_n hX dX10_soon_47 rfl 0 rfl ?_
      refine gfX10_41 hX dX10_soon_48 ?_
      refine z_iload_n hX dX10_soon_51 rfl 1 rfl ?_
      refine z_iald hX 10 rfl h.1 dX10_soon_52 ?_
      replace h := h.2
      refine z_iald hX 9 rfl h.1 dX10_soon_53 ?_
      replace h := h.2
      exact z_iret hX dX10_soon_54 h
abbrev LX10_draw_2 (X : XT) (Q : Option Value → Mem → Prop) (x1 : Int32) (M : Mem) : Prop := Z SM X 3 4 Q 2 [(0, .ref (X.1.2.1 0)), (1, .int x1)] [] M
abbrev LX10_draw_25 (X : XT) (Q : Option Value → Mem → Prop) (x1 : Int32) (M : Mem) : Prop := Z SM X 3 4 Q 25 [(0, .ref (X.1.2.1 0)), (1, .int x1)] [] M
abbrev LX10_draw_147 (X : XT) (Q : Option Value → Mem → Prop) (x1 : Int32) (M : Mem) : Prop := Z SM X 3 4 Q 147 [(0, .ref (X.1.2.1 0)), (1, .int x1)] [] M
abbrev LX10_draw_86 (X : XT) (Q : Option Value → Mem → Prop) (x1 : Int32) (x2 : Int32) (x3 : Int32) (M : Mem) : Prop := Z SM X 3 4 Q 86 [(0, .ref (X.1.2.1 0)), (1, .int x1), (2, .int x2), (3, .int x3)] [] M
set_option maxRecDepth 100000 in
set_option maxHeartbeats 4000000 in
theorem EX10_draw {E : ET} {Q : Option Value → Mem → Prop} {M : Mem} (h : ∀ X : XT, X.1 = E → KX10_draw X → LX10_draw_2 X Q (0 : Int32) M) : CX10_draw E [.ref (E.2.1 0)] M Q := by
  refine z_entry (by decide +kernel) (Nat.le_of_ble_eq_true rfl) (fun X hE hX => ?_)
  subst hE
  replace h := h X rfl hX
  show Z SM X 3 4 Q 0 [(0, .ref (X.1.2.1 0))] [] M
  refine z_iconst (v := 0) hX dX10_draw_0 (by decide) ?_
  refine z_istore_n hX dX10_draw_1 rfl (by decide) [(1, .int (0 : Int32)), (0, .ref (X.1.2.1 0))] rfl ?_
  exact z_sub [1, 0] rfl h
set_option maxRecDepth 100000 in
set_option maxHeartbeats 4000000 in
theorem BX10_draw_2 {X : XT} {Q : Option Value → Mem → Prop} (hX : KX10_draw X) {x1 : Int32} {M : Mem} (h : ∃ (r1 : Int32), CX10_all X.1 [.ref (X.1.2.1 0)] M (z_is (some (.int r1)) M) ∧ ((r1 < x1 → LX10_draw_25 X Q (0 : Int32) M) ∧ (¬ r1 < x1 → (vp_in x1 1024 ∧ (∀ M2 : Mem, M2 = z_sl M 13 x1.toNatClampNeg (0 : Int64) → LX10_draw_2 X Q (x1 + (1 : Int32)) M2))))) : LX10_draw_2 X Q x1 M := by
  show Z SM X 3 4 Q 2 [(0, .ref (X.1.2.1 0)), (1, .int x1)] [] M
  refine z_iload_n hX dX10_draw_2 rfl 1 rfl ?_
  refine z_aload_n hX dX10_draw_3 rfl 0 rfl ?_
  obtain ⟨r1, c9, h⟩ := h
  refine mcX10_105 hX dX10_draw_4 (by decide) (Nat.le_of_ble_eq_true rfl) c9 ?_
  refine z_icmp_gt hX 23 dX10_draw_7 (by decide) (fun c0 => ?_) (fun c0 => ?_)
  · replace h := h.1 c0
    refine z_iconst (v := 0) hX dX10_draw_23 (by decide) ?_
    refine z_istore_n hX dX10_draw_24 rfl (by decide) [(1, .int (0 : Int32)), (0, .ref (X.1.2.1 0))] rfl ?_
    exact z_sub [1, 0] rfl h
  · replace h := h.2 c0
    refine z_aload_n hX dX10_draw_10 rfl 0 rfl ?_
    refine gfX10_51 hX dX10_draw_11 ?_
    refine z_iload_n hX dX10_draw_14 rfl 1 rfl ?_
    refine z_lconst (v := 0) hX dX10_draw_15 (by decide) ?_
    refine z_lastM hX 13 rfl h.1 dX10_draw_16 (fun M2 eM2 => ?_)
    replace h := h.2 M2 eM2
    refine z_iinc (v := x1 + (1 : Int32)) hX dX10_draw_17 1 rfl rfl (by decide) [(1, .int (x1 + (1 : Int32))), (0, .ref (X.1.2.1 0))] rfl ?_
    refine z_goto hX 2 dX10_draw_20 (by decide) ?_
    exact z_sub [1, 0] rfl h
set_option maxRecDepth 100000 in
set_option maxHeartbeats 4000000 in
theorem BX10_draw_25 {X : XT} {Q : Option Value → Mem → Prop} (hX : KX10_draw X) {x1 : Int32} {M : Mem} (h : ∃ (r1 : Int32), CX10_all X.1 [.ref (X.1.2.1 0)] M (z_is (some (.int r1)) M) ∧ ((r1 < x1 → LX10_draw_147 X Q (0 : Int32) M) ∧ (¬ r1 < x1 → (vp_in x1 1024 ∧ (((lg_cmp (M.2 12 x1.toNatClampNeg) (0 : Int64)) ≤ 0 → LX10_draw_25 X Q (x1 + (1 : Int32)) M) ∧ (¬ (lg_cmp (M.2 12 x1.toNatClampNeg) (0 : Int64)) ≤ 0 → (∃ (r2 : Int32), CX10_all X.1 [.ref (X.1.2.1 0)] M (z_is (some (.int r2)) M) ∧ (∃ (r3 : Int32), CX10_calmOf X.1 [.ref (X.1.2.1 0), .int x1] M (z_is (some (.int r3)) M) ∧ (vp_in x1 1024 ∧ ((¬ (r2 &&& (r3 ^^^ (-1 : Int32))) = 0 → (vp_in x1 1024 ∧ (∀ M4 : Mem, M4 = z_sl M 13 x1.toNatClampNeg ((M.2 13 x1.toNatClampNeg) + (0 : Int64)) → LX10_draw_86 X Q x1 (r2 &&& (r3 ^^^ (-1 : Int32))) (0 : Int32) M4))) ∧ ((r2 &&& (r3 ^^^ (-1 : Int32))) = 0 → (vp_in x1 1024 ∧ (vp_in x1 1024 ∧ (∀ M5 : Mem, M5 = z_sl M 13 x1.toNatClampNeg ((M.2 13 x1.toNatClampNeg) + ((2520 : Int64) * (M.2 12 x1.toNatClampNeg))) → LX10_draw_86 X Q x1 (r2 &&& (r3 ^^^ (-1 : Int32))) (0 : Int32) M5)))))))))))))) : LX10_draw_25 X Q x1 M := by
  show Z SM X 3 4 Q 25 [(0, .ref (X.1.2.1 0)), (1, .int x1)] [] M
  refine z_iload_n hX dX10_draw_25 rfl 1 rfl ?_
  refine z_aload_n hX dX10_draw_26 rfl 0 rfl ?_
  obtain ⟨r1, c9, h⟩ := h
  refine mcX10_105 hX dX10_draw_27 (by decide) (Nat.le_of_ble_eq_true rfl) c9 ?_
  refine z_icmp_gt hX 145 dX10_draw_30 (by decide) (fun c0 => ?_) (fun c0 => ?_)
  · replace h := h.1 c0
    refine z_iconst (v := 0) hX dX10_draw_145 (by decide) ?_
    refine z_istore_n hX dX10_draw_146 rfl (by decide) [(1, .int (0 : Int32)), (0, .ref (X.1.2.1 0))] rfl ?_
    exact z_sub [1, 0] rfl h
  · replace h := h.2 c0
    refine z_aload_n hX dX10_draw_33 rfl 0 rfl ?_
    refine gfX10_47 hX dX10_draw_34 ?_
    refine z_iload_n hX dX10_draw_37 rfl 1 rfl ?_
    refine z_lald hX 12 rfl h.1 dX10_draw_38 ?_
    replace h := h.2
    refine z_lconst (v := 0) hX dX10_draw_39 (by decide) ?_
    refine z_lcmp hX dX10_draw_40 ?_
    refine z_if_le hX 139 dX10_draw_41 (by decide) (fun c0 => ?_) (fun c0 => ?_)
    · replace h := h.1 c0
      refine z_iinc (v := x1 + (1 : Int32)) hX dX10_draw_139 1 rfl rfl (by decide) [(1, .int (x1 + (1 : Int32))), (0, .ref (X.1.2.1 0))] rfl ?_
      refine z_goto hX 25 dX10_draw_142 (by decide) ?_
      exact z_sub [1, 0] rfl h
    · replace h := h.2 c0
      refine z_aload_n hX dX10_draw_44 rfl 0 rfl ?_
      obtain ⟨r2, c9, h⟩ := h
      refine mcX10_105 hX dX10_draw_45 (by decide) (Nat.le_of_ble_eq_true rfl) c9 ?_
      refine z_aload_n hX dX10_draw_48 rfl 0 rfl ?_
      refine z_iload_n hX dX10_draw_49 rfl 1 rfl ?_
      obtain ⟨r3, c9, h⟩ := h
      refine mcX10_93 hX dX10_draw_50 (by decide) (Nat.le_of_ble_eq_true rfl) c9 ?_
      refine z_iconst (v := -1) hX dX10_draw_53 (by decide) ?_
      refine z_ixor hX dX10_draw_54 ?_
      refine z_iand hX dX10_draw_55 ?_
      refine z_istore_n hX dX10_draw_56 rfl (by decide) [(2, .int (r2 &&& (r3 ^^^ (-1 : Int32)))), (0, .ref (X.1.2.1 0)), (1, .int x1)] rfl ?_
      refine z_aload_n hX dX10_draw_57 rfl 1 rfl ?_
      refine gfX10_51 hX dX10_draw_58 ?_
      refine z_iload_n hX dX10_draw_61 rfl 2 rfl ?_
      refine z_dup2 hX dX10_draw_62 rfl rfl ?_
      refine z_lald hX 13 rfl h.1 dX10_draw_63 ?_
      replace h := h.2
      refine z_iload_n hX dX10_draw_64 rfl 0 rfl ?_
      refine z_if_ne hX 81 dX10_draw_65 (by decide) (fun c0 => ?_) (fun c0 => ?_)
      · replace h := h.1 c0
        refine z_lconst (v := 0) hX dX10_draw_81 (by decide) ?_
        refine z_ladd hX dX10_draw_82 ?_
        refine z_lastM hX 13 rfl h.1 dX10_draw_83 (fun M4 eM4 => ?_)
        replace h := h.2 M4 eM4
        refine z_iconst (v := 0) hX dX10_draw_84 (by decide) ?_
        refine z_istore_n hX dX10_draw_85 rfl (by decide) [(3, .int (0 : Int32)), (2, .int (r2 &&& (r3 ^^^ (-1 : Int32)))), (0, .ref (X.1.2.1 0)), (1, .int x1)] rfl ?_
        exact z_sub [2, 3, 1, 0] rfl h
      · replace h := h.2 c0
        refine z_ldc2 (v := 2520) hX dX10_draw_68 (z_w (List.mem_append_right _ (List.mem_of_getElem? (i := 1030) (by decide +kernel))) rfl) ?_
        refine z_aload_n hX dX10_draw_71 rfl 1 rfl ?_
        refine gfX10_47 hX dX10_draw_72 ?_
        refine z_iload_n hX dX10_draw_75 rfl 2 rfl ?_
        refine z_lald hX 12 rfl h.1 dX10_draw_76 ?_
        replace h := h.2
        refine z_lmul hX dX10_draw_77 ?_
        refine z_goto hX 82 dX10_draw_78 (by decide) ?_
        refine z_ladd hX dX10_draw_82 ?_
        refine z_lastM hX 13 rfl h.1 dX10_draw_83 (fun M5 eM5 => ?_)
        replace h := h.2 M5 eM5
        refine z_iconst (v := 0) hX dX10_draw_84 (by decide) ?_
        refine z_istore_n hX dX10_draw_85 rfl (by decide) [(3, .int (0 : Int32)), (2, .int (r2 &&& (r3 ^^^ (-1 : Int32)))), (0, .ref (X.1.2.1 0)), (1, .int x1)] rfl ?_
        exact z_sub [2, 3, 1, 0] rfl h
set_option maxRecDepth 100000 in
set_option maxHeartbeats 4000000 in
theorem BX10_draw_147 {X : XT} {Q : Option Value → Mem → Prop} (hX : KX10_draw X) {x1 : Int32} {M : Mem} (h : ∃ (r1 : Int32), CX10_all X.1 [.ref (X.1.2.1 0)] M (z_is (some (.int r1)) M) ∧ ((r1 < x1 → Q none M) ∧ (¬ r1 < x1 → (vp_in x1 1024 ∧ (vp_in x1 1024 ∧ (∀ M2 : Mem, M2 = z_sl M 12 x1.toNatClampNeg (M.2 13 x1.toNatClampNeg) → LX10_draw_147 X Q (x1 + (1 : Int32)) M2)))))) : LX10_draw_147 X Q x1 M := by
  show Z SM X 3 4 Q 147 [(0, .ref (X.1.2.1 0)), (1, .int x1)] [] M
  refine z_iload_n hX dX10_draw_147 rfl 1 rfl ?_
  refine z_aload_n hX dX10_draw_148 rfl 0 rfl ?_
  obtain ⟨r1, c9, h⟩ := h
  refine mcX10_105 hX dX10_draw_149 (by decide) (Nat.le_of_ble_eq_true rfl) c9 ?_
  refine z_icmp_gt hX 173 dX10_draw_152 (by decide) (fun c0 => ?_) (fun c0 => ?_)
  · replace h := h.1 c0
    exact z_vret hX dX10_draw_173 h
  · replace h := h.2 c0
    refine z_aload_n hX dX10_draw_155 rfl 0 rfl ?_
    refine gfX10_47 hX dX10_draw_156 ?_
    refine z_iload_n hX dX10_draw_159 rfl 1 rfl ?_
    refine z_aload_n hX dX10_draw_160 rfl 0 rfl ?_
    refine gfX10_51 hX dX10_draw_161 ?_
    refine z_iload_n hX dX10_draw_164 rfl 1 rfl ?_
    refine z_lald hX 13 rfl h.1 dX10_draw_165 ?_
    replace h := h.2
    refine z_lastM hX 12 rfl h.1 dX10_draw_166 (fun M2 eM2 => ?_)
    replace h := h.2 M2 eM2
    refine z_iinc (v := x1 + (1 : Int32)) hX dX10_draw_167 1 rfl rfl (by decide) [(1, .int (x1 + (1 : Int32))), (0, .ref (X.1.2.1 0))] rfl ?_
    refine z_goto hX 147 dX10_draw_170 (by decide) ?_
    exact z_sub [1, 0] rfl h
set_option maxRecDepth 100000 in
set_option maxHeartbeats 4000000 in
theorem BX10_draw_86 {X : XT} {Q : Option Value → Mem → Prop} (hX : KX10_draw X) {x1 x2 x3 : Int32} {M : Mem} (h : (((M.1 0 0) ≤ x3 → LX10_draw_25 X Q (x1 + (1 : Int32)) M) ∧ (¬ (M.1 0 0) ≤ x3 → ((¬ ((x2 >>> (x3 &&& 31)) &&& (1 : Int32)) = (1 : Int32) → LX10_draw_86 X Q x1 x2 (x3 + (1 : Int32)) M) ∧ (((x2 >>> (x3 &&& 31)) &&& (1 : Int32)) = (1 : Int32) → (∃ (r1 : Int32), CX10_loneOf X.1 [.ref (X.1.2.1 0), .int x3, .int x1] M (z_is (some (.int r1)) M) ∧ (vp_in r1 1024 ∧ (vp_in x1 1024 ∧ (∃ (r2 : Int32), CX10_ones X.1 [.int x2] M (z_is (some (.int r2)) M) ∧ (¬ r2 = 0 ∧ (vp_in r1 1024 ∧ (∀ M3 : Mem, M3 = z_sl M 13 r1.toNatClampNeg ((M.2 13 r1.toNatClampNeg) + ((M.2 12 x1.toNatClampNeg) * (((2520 : Int32) / r2).toInt64))) → LX10_draw_86 X Q x1 x2 (x3 + (1 : Int32)) M3)))))))))))) : LX10_draw_86 X Q x1 x2 x3 M := by
  show Z SM X 3 4 Q 86 [(0, .ref (X.1.2.1 0)), (1, .int x1), (2, .int x2), (3, .int x3)] [] M
  refine z_iload_n hX dX10_draw_86 rfl 3 rfl ?_
  refine z_aload_n hX dX10_draw_87 rfl 0 rfl ?_
  refine gfX10_7 hX dX10_draw_88 ?_
  refine z_icmp_ge hX 139 dX10_draw_91 (by decide) (fun c0 => ?_) (fun c0 => ?_)
  · replace h := h.1 c0
    refine z_iinc (v := x1 + (1 : Int32)) hX dX10_draw_139 1 rfl rfl (by decide) [(1, .int (x1 + (1 : Int32))), (0, .ref (X.1.2.1 0)), (2, .int x2), (3, .int x3)] rfl ?_
    refine z_goto hX 25 dX10_draw_142 (by decide) ?_
    exact z_sub [1, 0] rfl h
  · replace h := h.2 c0
    refine z_iload_n hX dX10_draw_94 rfl 2 rfl ?_
    refine z_iload_n hX dX10_draw_95 rfl 3 rfl ?_
    refine z_ishr hX dX10_draw_96 ?_
    refine z_iconst (v := 1) hX dX10_draw_97 (by decide) ?_
    refine z_iand hX dX10_draw_98 ?_
    refine z_iconst (v := 1) hX dX10_draw_99 (by decide) ?_
    refine z_icmp_ne hX 133 dX10_draw_100 (by decide) (fun c0 => ?_) (fun c0 => ?_)
    · replace h := h.1 c0
      refine z_iinc (v := x3 + (1 : Int32)) hX dX10_draw_133 3 rfl rfl (by decide) [(3, .int (x3 + (1 : Int32))), (0, .ref (X.1.2.1 0)), (1, .int x1), (2, .int x2)] rfl ?_
      refine z_goto hX 86 dX10_draw_136 (by decide) ?_
      exact z_sub [1, 2, 3, 0] rfl h
    · replace h := h.2 c0
      refine z_aload_n hX dX10_draw_103 rfl 0 rfl ?_
      refine gfX10_51 hX dX10_draw_104 ?_
      refine z_aload_n hX dX10_draw_107 rfl 0 rfl ?_
      refine z_iload_n hX dX10_draw_108 rfl 3 rfl ?_
      refine z_iload_n hX dX10_draw_109 rfl 1 rfl ?_
      obtain ⟨r1, c9, h⟩ := h
      refine mcX10_143 hX dX10_draw_110 (by decide) (Nat.le_of_ble_eq_true rfl) c9 ?_
      refine z_dup2 hX dX10_draw_113 rfl rfl ?_
      refine z_lald hX 13 rfl h.1 dX10_draw_114 ?_
      replace h := h.2
      refine z_aload_n hX dX10_draw_115 rfl 0 rfl ?_
      refine gfX10_47 hX dX10_draw_116 ?_
      refine z_iload_n hX dX10_draw_119 rfl 1 rfl ?_
      refine z_lald hX 12 rfl h.1 dX10_draw_120 ?_
      replace h := h.2
      refine z_sipush (v := 2520) hX dX10_draw_121 (by decide) ?_
      refine z_iload_n hX dX10_draw_124 rfl 2 rfl ?_
      obtain ⟨r2, c9, h⟩ := h
      refine mcX10_161 hX dX10_draw_125 (by decide) (Nat.le_of_ble_eq_true rfl) c9 ?_
      refine z_idiv hX dX10_draw_128 h.1 ?_
      replace h := h.2
      refine z_i2l hX dX10_draw_129 ?_
      refine z_lmul hX dX10_draw_130 ?_
      refine z_ladd hX dX10_draw_131 ?_
      refine z_lastM hX 13 rfl h.1 dX10_draw_132 (fun M3 eM3 => ?_)
      replace h := h.2 M3 eM3
      refine z_iinc (v := x3 + (1 : Int32)) hX dX10_draw_133 3 rfl rfl (by decide) [(3, .int (x3 + (1 : Int32))), (0, .ref (X.1.2.1 0)), (1, .int x1), (2, .int x2)] rfl ?_
      refine z_goto hX 86 dX10_draw_136 (by decide) ?_
      exact z_sub [1, 2, 3, 0] rfl h
abbrev LX10_likely_27 (X : XT) (Q : Option Value → Mem → Prop) (x1 : Int32) (x2 : Int32) (x3 : Int32) (x4 : Int32) (M : Mem) : Prop := Z SM X 4 14 Q 27 [(0, .ref (X.1.2.1 0)), (1, .int x1), (2, .int x2), (3, .int x3), (4, .int x4)] [] M
abbrev LX10_likely_66 (X : XT) (Q : Option Value → Mem → Prop) (x2 : Int32) (x3 : Int32) (x4 : Int64) (x6 : Int32) (M : Mem) : Prop := Z SM X 4 14 Q 66 [(0, .ref (X.1.2.1 0)), (2, .int x2), (3, .int x3), (4, .long x4), (6, .int x6)] [] M
abbrev LX10_likely_96 (X : XT) (Q : Option Value → Mem → Prop) (x3 : Int32) (x4 : Int64) (x6 : Int64) (x8 : Int32) (M : Mem) : Prop := Z SM X 4 14 Q 96 [(0, .ref (X.1.2.1 0)), (3, .int x3), (4, .long x4), (6, .long x6), (8, .int x8)] [] M
abbrev LX10_likely_156 (X : XT) (Q : Option Value → Mem → Prop) (x3 : Int32) (x4 : Int64) (x6 : Int64) (x8 : Int64) (x10 : Int64) (M : Mem) : Prop := Z SM X 4 14 Q 156 [(3, .int x3), (4, .long x4), (6, .long x6), (8, .long x8), (10, .long x10)] [] M
set_option maxRecDepth 100000 in
set_option maxHeartbeats 4000000 in
theorem EX10_likely {E : ET} {Q : Option Value → Mem → Prop} {x1 x2 x3 : Int32} {M : Mem} (h : ∀ X : XT, X.1 = E → KX10_likely X → (∃ (r1 : Int32), CX10_isDress X.1 [.ref (X.1.2.1 0), .int x1] M (z_is (some (.int r1)) M) ∧ ((r1 = 0 → Q (some (.long (-2 : Int64))) M) ∧ (¬ r1 = 0 → (∃ (r2 : Int32), CX10_in X.1 [.long x2.toInt64, .long (0 : Int64), .long (4 : Int64)] M (z_is (some (.int r2)) M) ∧ ((¬ r2 = 0 → LX10_likely_27 X Q x1 x2 x3 (0 : Int32) M) ∧ (r2 = 0 → Q (some (.long (-2 : Int64))) M))))))) : CX10_likely E [.ref (E.2.1 0), .int x1, .int x2, .int x3] M Q := by
  refine z_entry (by decide +kernel) (Nat.le_of_ble_eq_true rfl) (fun X hE hX => ?_)
  subst hE
  replace h := h X rfl hX
  show Z SM X 4 14 Q 0 [(0, .ref (X.1.2.1 0)), (1, .int x1), (2, .int x2), (3, .int x3)] [] M
  refine z_aload_n hX dX10_likely_0 rfl 0 rfl ?_
  refine z_iload_n hX dX10_likely_1 rfl 1 rfl ?_
  obtain ⟨r1, c9, h⟩ := h
  refine mcX10_90 hX dX10_likely_2 (by decide) (Nat.le_of_ble_eq_true rfl) c9 ?_
  refine z_if_eq hX 20 dX10_likely_5 (by decide) (fun c0 => ?_) (fun c0 => ?_)
  · replace h := h.1 c0
    refine z_ldc2 (v := -2) hX dX10_likely_20 (z_w (List.mem_append_right _ (List.mem_of_getElem? (i := 1025) (by decide +kernel))) rfl) ?_
    exact z_lret hX dX10_likely_23 h
  · replace h := h.2 c0
    refine z_iload_n hX dX10_likely_8 rfl 2 rfl ?_
    refine z_i2l hX dX10_likely_9 ?_
    refine z_lconst (v := 0) hX dX10_likely_10 (by decide) ?_
    refine z_ldc2 (v := 4) hX dX10_likely_11 (z_w (List.mem_append_right _ (List.mem_of_getElem? (i := 1024) (by decide +kernel))) rfl) ?_
    obtain ⟨r2, c9, h⟩ := h
    refine mcX10_60 hX dX10_likely_14 (by decide) (Nat.le_of_ble_eq_true rfl) c9 ?_
    refine z_if_ne hX 24 dX10_likely_17 (by decide) (fun c0 => ?_) (fun c0 => ?_)
    · replace h := h.1 c0
      refine z_iconst (v := 0) hX dX10_likely_24 (by decide) ?_
      refine z_istore hX dX10_likely_25 (by decide) [(4, .int (0 : Int32)), (0, .ref (X.1.2.1 0)), (1, .int x1), (2, .int x2), (3, .int x3)] rfl ?_
      exact z_sub [1, 2, 3, 4, 0] rfl h
    · replace h := h.2 c0
      refine z_ldc2 (v := -2) hX dX10_likely_20 (z_w (List.mem_append_right _ (List.mem_of_getElem? (i := 1025) (by decide +kernel))) rfl) ?_
      exact z_lret hX dX10_likely_23 h
set_option maxRecDepth 100000 in
set_option maxHeartbeats 4000000 in
theorem BX10_likely_27 {X : XT} {Q : Option Value → Mem → Prop} (hX : KX10_likely X) {x1 x2 x3 x4 : Int32} {M : Mem} (h : ∃ (r1 : Int32), CX10_all X.1 [.ref (X.1.2.1 0)] M (z_is (some (.int r1)) M) ∧ ((r1 < x4 → LX10_likely_66 X Q x2 x3 (1 : Int64) (0 : Int32) M) ∧ (¬ r1 < x4 → ((¬ x4 = x1 → (vp_in x4 1024 ∧ (∀ M2 : Mem, M2 = z_sl M 12 x4.toNatClampNeg (0 : Int64) → LX10_likely_27 X Q x1 x2 x3 (x4 + (1 : Int32)) M2))) ∧ (x4 = x1 → (vp_in x4 1024 ∧ (∀ M3 : Mem, M3 = z_sl M 12 x4.toNatClampNeg (1 : Int64) → LX10_likely_27 X Q x1 x2 x3 (x4 + (1 : Int32)) M3))))))) : LX10_likely_27 X Q x1 x2 x3 x4 M := by
  show Z SM X 4 14 Q 27 [(0, .ref (X.1.2.1 0)), (1, .int x1), (2, .int x2), (3, .int x3), (4, .int x4)] [] M
  refine z_iload hX dX10_likely_27 4 rfl ?_
  refine z_aload_n hX dX10_likely_29 rfl 0 rfl ?_
  obtain ⟨r1, c9, h⟩ := h
  refine mcX10_105 hX dX10_likely_30 (by decide) (Nat.le_of_ble_eq_true rfl) c9 ?_
  refine z_icmp_gt hX 60 dX10_likely_33 (by decide) (fun c0 => ?_) (fun c0 => ?_)
  · replace h := h.1 c0
    refine z_lconst (v := 1) hX dX10_likely_60 (by decide) ?_
    refine z_lstore hX dX10_likely_61 (by decide) [(4, .long (1 : Int64)), (0, .ref (X.1.2.1 0)), (1, .int x1), (2, .int x2), (3, .int x3)] rfl ?_
    refine z_iconst (v := 0) hX dX10_likely_63 (by decide) ?_
    refine z_istore hX dX10_likely_64 (by decide) [(6, .int (0 : Int32)), (4, .long (1 : Int64)), (0, .ref (X.1.2.1 0)), (1, .int x1), (2, .int x2), (3, .int x3)] rfl ?_
    exact z_sub [2, 4, 5, 1, 0] rfl h
  · replace h := h.2 c0
    refine z_aload_n hX dX10_likely_36 rfl 0 rfl ?_
    refine gfX10_47 hX dX10_likely_37 ?_
    refine z_iload hX dX10_likely_40 4 rfl ?_
    refine z_iload hX dX10_likely_42 4 rfl ?_
    refine z_iload_n hX dX10_likely_44 rfl 1 rfl ?_
    refine z_icmp_ne hX 52 dX10_likely_45 (by decide) (fun c0 => ?_) (fun c0 => ?_)
    · replace h := h.1 c0
      refine z_lconst (v := 0) hX dX10_likely_52 (by decide) ?_
      refine z_lastM hX 12 rfl h.1 dX10_likely_53 (fun M2 eM2 => ?_)
      replace h := h.2 M2 eM2
      refine z_iinc (v := x4 + (1 : Int32)) hX dX10_likely_54 4 rfl rfl (by decide) [(4, .int (x4 + (1 : Int32))), (0, .ref (X.1.2.1 0)), (1, .int x1), (2, .int x2), (3, .int x3)] rfl ?_
      refine z_goto hX 27 dX10_likely_57 (by decide) ?_
      exact z_sub [1, 2, 3, 4, 0] rfl h
    · replace h := h.2 c0
      refine z_lconst (v := 1) hX dX10_likely_48 (by decide) ?_
      refine z_goto hX 53 dX10_likely_49 (by decide) ?_
      refine z_lastM hX 12 rfl h.1 dX10_likely_53 (fun M3 eM3 => ?_)
      replace h := h.2 M3 eM3
      refine z_iinc (v := x4 + (1 : Int32)) hX dX10_likely_54 4 rfl rfl (by decide) [(4, .int (x4 + (1 : Int32))), (0, .ref (X.1.2.1 0)), (1, .int x1), (2, .int x2), (3, .int x3)] rfl ?_
      refine z_goto hX 27 dX10_likely_57 (by decide) ?_
      exact z_sub [1, 2, 3, 4, 0] rfl h
set_option maxRecDepth 100000 in
set_option maxHeartbeats 4000000 in
theorem BX10_likely_66 {X : XT} {Q : Option Value → Mem → Prop} (hX : KX10_likely X) {x2 x3 x6 : Int32} {x4 : Int64} {M : Mem} (h : ((x2 ≤ x6 → LX10_likely_96 X Q x3 x4 (0 : Int64) (0 : Int32) M) ∧ (¬ x2 ≤ x6 → (∃ q2 : Mem → Prop, CX10_draw X.1 [.ref (X.1.2.1 0)] M (z_pV q2) ∧ ∀ (M1 : Mem), q2 M1 → LX10_likely_66 X Q x2 x3 (x4 * (2520 : Int64)) (x6 + (1 : Int32)) M1)))) : LX10_likely_66 X Q x2 x3 x4 x6 M := by
  show Z SM X 4 14 Q 66 [(0, .ref (X.1.2.1 0)), (2, .int x2), (3, .int x3), (4, .long x4), (6, .int x6)] [] M
  refine z_iload hX dX10_likely_66 4 rfl ?_
  refine z_iload_n hX dX10_likely_68 rfl 1 rfl ?_
  refine z_icmp_ge hX 90 dX10_likely_69 (by decide) (fun c0 => ?_) (fun c0 => ?_)
  · replace h := h.1 c0
    refine z_lconst (v := 0) hX dX10_likely_90 (by decide) ?_
    refine z_lstore hX dX10_likely_91 (by decide) [(6, .long (0 : Int64)), (0, .ref (X.1.2.1 0)), (2, .int x2), (3, .int x3), (4, .long x4)] rfl ?_
    refine z_iconst (v := 0) hX dX10_likely_93 (by decide) ?_
    refine z_istore hX dX10_likely_94 (by decide) [(8, .int (0 : Int32)), (6, .long (0 : Int64)), (0, .ref (X.1.2.1 0)), (2, .int x2), (3, .int x3), (4, .long x4)] rfl ?_
    exact z_sub [2, 4, 5, 1, 0] rfl h
  · replace h := h.2 c0
    refine z_aload_n hX dX10_likely_72 rfl 0 rfl ?_
    obtain ⟨q2, c9, h⟩ := h
    refine mcX10_173 hX dX10_likely_73 (by decide) (Nat.le_of_ble_eq_true rfl) c9 (fun M1 hq => ?_)
    replace h := h M1 hq
    refine z_lload hX dX10_likely_76 3 rfl ?_
    refine z_ldc2 (v := 2520) hX dX10_likely_78 (z_w (List.mem_append_right _ (List.mem_of_getElem? (i := 1030) (by decide +kernel))) rfl) ?_
    refine z_lmul hX dX10_likely_81 ?_
    refine z_lstore hX dX10_likely_82 (by decide) [(4, .long (x4 * (2520 : Int64))), (0, .ref (X.1.2.1 0)), (2, .int x2), (3, .int x3), (6, .int x6)] rfl ?_
    refine z_iinc (v := x6 + (1 : Int32)) hX dX10_likely_84 4 rfl rfl (by decide) [(6, .int (x6 + (1 : Int32))), (4, .long (x4 * (2520 : Int64))), (0, .ref (X.1.2.1 0)), (2, .int x2), (3, .int x3)] rfl ?_
    refine z_goto hX 66 dX10_likely_87 (by decide) ?_
    exact z_sub [2, 3, 4, 1, 0] rfl h
set_option maxRecDepth 100000 in
set_option maxHeartbeats 4000000 in
theorem BX10_likely_96 {X : XT} {Q : Option Value → Mem → Prop} (hX : KX10_likely X) {x3 x8 : Int32} {x4 x6 : Int64} {M : Mem} (h : ∃ (r1 : Int32), CX10_all X.1 [.ref (X.1.2.1 0)] M (z_is (some (.int r1)) M) ∧ ((r1 < x8 → LX10_likely_156 X Q x3 x4 x6 x6 x4 M) ∧ (¬ r1 < x8 → (vp_in x8 1024 ∧ (((lg_cmp (M.2 12 x8.toNatClampNeg) (0 : Int64)) ≤ 0 → LX10_likely_96 X Q x3 x4 (x6 + (0 : Int64)) (x8 + (1 : Int32)) M) ∧ (¬ (lg_cmp (M.2 12 x8.toNatClampNeg) (0 : Int64)) ≤ 0 → (∃ (r2 : Int32), CX10_isRest X.1 [.ref (X.1.2.1 0), .int x8] M (z_is (some (.int r2)) M) ∧ ((r2 = 0 → LX10_likely_96 X Q x3 x4 (x6 + (0 : Int64)) (x8 + (1 : Int32)) M) ∧ (¬ r2 = 0 → (vp_in x8 1024 ∧ LX10_likely_96 X Q x3 x4 (x6 + (M.2 12 x8.toNatClampNeg)) (x8 + (1 : Int32)) M)))))))))) : LX10_likely_96 X Q x3 x4 x6 x8 M := by
  show Z SM X 4 14 Q 96 [(0, .ref (X.1.2.1 0)), (3, .int x3), (4, .long x4), (6, .long x6), (8, .int x8)] [] M
  refine z_iload hX dX10_likely_96 4 rfl ?_
  refine z_aload_n hX dX10_likely_98 rfl 0 rfl ?_
  obtain ⟨r1, c9, h⟩ := h
  refine mcX10_105 hX dX10_likely_99 (by decide) (Nat.le_of_ble_eq_true rfl) c9 ?_
  refine z_icmp_gt hX 148 dX10_likely_102 (by decide) (fun c0 => ?_) (fun c0 => ?_)
  · replace h := h.1 c0
    refine z_lload hX dX10_likely_148 3 rfl ?_
    refine z_lstore hX dX10_likely_150 (by decide) [(8, .long x6), (0, .ref (X.1.2.1 0)), (3, .int x3), (4, .long x4), (6, .long x6)] rfl ?_
    refine z_lload hX dX10_likely_152 3 rfl ?_
    refine z_lstore hX dX10_likely_154 (by decide) [(10, .long x4), (8, .long x6), (0, .ref (X.1.2.1 0)), (3, .int x3), (4, .long x4), (6, .long x6)] rfl ?_
    exact z_sub [3, 4, 5, 1, 0] rfl h
  · replace h := h.2 c0
    refine z_lload hX dX10_likely_105 3 rfl ?_
    refine z_aload_n hX dX10_likely_107 rfl 0 rfl ?_
    refine gfX10_47 hX dX10_likely_108 ?_
    refine z_iload hX dX10_likely_111 4 rfl ?_
    refine z_lald hX 12 rfl h.1 dX10_likely_113 ?_
    replace h := h.2
    refine z_lconst (v := 0) hX dX10_likely_114 (by decide) ?_
    refine z_lcmp hX dX10_likely_115 ?_
    refine z_if_le hX 138 dX10_likely_116 (by decide) (fun c0 => ?_) (fun c0 => ?_)
    · replace h := h.1 c0
      refine z_lconst (v := 0) hX dX10_likely_138 (by decide) ?_
      refine z_ladd hX dX10_likely_139 ?_
      refine z_lstore hX dX10_likely_140 (by decide) [(6, .long (x6 + (0 : Int64))), (0, .ref (X.1.2.1 0)), (3, .int x3), (4, .long x4), (8, .int x8)] rfl ?_
      refine z_iinc (v := x8 + (1 : Int32)) hX dX10_likely_142 4 rfl rfl (by decide) [(8, .int (x8 + (1 : Int32))), (6, .long (x6 + (0 : Int64))), (0, .ref (X.1.2.1 0)), (3, .int x3), (4, .long x4)] rfl ?_
      refine z_goto hX 96 dX10_likely_145 (by decide) ?_
      exact z_sub [2, 3, 4, 1, 0] rfl h
    · replace h := h.2 c0
      refine z_aload_n hX dX10_likely_119 rfl 0 rfl ?_
      refine z_iload hX dX10_likely_120 4 rfl ?_
      obtain ⟨r2, c9, h⟩ := h
      refine mcX10_133 hX dX10_likely_122 (by decide) (Nat.le_of_ble_eq_true rfl) c9 ?_
      refine z_if_eq hX 138 dX10_likely_125 (by decide) (fun c0 => ?_) (fun c0 => ?_)
      · replace h := h.1 c0
        refine z_lconst (v := 0) hX dX10_likely_138 (by decide) ?_
        refine z_ladd hX dX10_likely_139 ?_
        refine z_lstore hX dX10_likely_140 (by decide) [(6, .long (x6 + (0 : Int64))), (0, .ref (X.1.2.1 0)), (3, .int x3), (4, .long x4), (8, .int x8)] rfl ?_
        refine z_iinc (v := x8 + (1 : Int32)) hX dX10_likely_142 4 rfl rfl (by decide) [(8, .int (x8 + (1 : Int32))), (6, .long (x6 + (0 : Int64))), (0, .ref (X.1.2.1 0)), (3, .int x3), (4, .long x4)] rfl ?_
        refine z_goto hX 96 dX10_likely_145 (by decide) ?_
        exact z_sub [2, 3, 4, 1, 0] rfl h
      · replace h := h.2 c0
        refine z_aload_n hX dX10_likely_128 rfl 0 rfl ?_
        refine gfX10_47 hX dX10_likely_129 ?_
        refine z_iload hX dX10_likely_132 4 rfl ?_
        refine z_lald hX 12 rfl h.1 dX10_likely_134 ?_
        replace h := h.2
        refine z_goto hX 139 dX10_likely_135 (by decide) ?_
        refine z_ladd hX dX10_likely_139 ?_
        refine z_lstore hX dX10_likely_140 (by decide) [(6, .long (x6 + (M.2 12 x8.toNatClampNeg))), (0, .ref (X.1.2.1 0)), (3, .int x3), (4, .long x4), (8, .int x8)] rfl ?_
        refine z_iinc (v := x8 + (1 : Int32)) hX dX10_likely_142 4 rfl rfl (by decide) [(8, .int (x8 + (1 : Int32))), (6, .long (x6 + (M.2 12 x8.toNatClampNeg))), (0, .ref (X.1.2.1 0)), (3, .int x3), (4, .long x4)] rfl ?_
        refine z_goto hX 96 dX10_likely_145 (by decide) ?_
        exact z_sub [2, 3, 4, 1, 0] rfl h
set_option maxRecDepth 100000 in
set_option maxHeartbeats 4000000 in
theorem BX10_likely_156 {X : XT} {Q : Option Value → Mem → Prop} (hX : KX10_likely X) {x3 : Int32} {x4 x6 x8 x10 : Int64} {M : Mem} (h : (((lg_cmp x10 (0 : Int64)) = 0 → ((x3 = 0 → (¬ x8 = 0 ∧ Q (some (.long (x4 / x8))) M)) ∧ (¬ x3 = 0 → (¬ x8 = 0 ∧ Q (some (.long (x6 / x8))) M)))) ∧ (¬ (lg_cmp x10 (0 : Int64)) = 0 → (¬ x10 = 0 ∧ LX10_likely_156 X Q x3 x4 x6 x10 (x8 - x8 / x10 * x10) M)))) : LX10_likely_156 X Q x3 x4 x6 x8 x10 M := by
  show Z SM X 4 14 Q 156 [(3, .int x3), (4, .long x4), (6, .long x6), (8, .long x8), (10, .long x10)] [] M
  refine z_lload hX dX10_likely_156 4 rfl ?_
  refine z_lconst (v := 0) hX dX10_likely_158 (by decide) ?_
  refine z_lcmp hX dX10_likely_159 ?_
  refine z_if_eq hX 181 dX10_likely_160 (by decide) (fun c0 => ?_) (fun c0 => ?_)
  · replace h := h.1 c0
    refine z_iload_n hX dX10_likely_181 rfl 0 rfl ?_
    refine z_if_eq hX 193 dX10_likely_182 (by decide) (fun c0 => ?_) (fun c0 => ?_)
    · replace h := h.1 c0
      refine z_lload hX dX10_likely_193 1 rfl ?_
      refine z_lload hX dX10_likely_195 3 rfl ?_
      refine z_ldiv hX dX10_likely_197 h.1 ?_
      replace h := h.2
      exact z_lret hX dX10_likely_198 h
    · replace h := h.2 c0
      refine z_lload hX dX10_likely_185 2 rfl ?_
      refine z_lload hX dX10_likely_187 3 rfl ?_
      refine z_ldiv hX dX10_likely_189 h.1 ?_
      replace h := h.2
      refine z_goto hX 198 dX10_likely_190 (by decide) ?_
      exact z_lret hX dX10_likely_198 h
  · replace h := h.2 c0
    refine z_lload hX dX10_likely_163 3 rfl ?_
    refine z_lload hX dX10_likely_165 4 rfl ?_
    refine z_lrem hX dX10_likely_167 h.1 ?_
    replace h := h.2
    refine z_lstore hX dX10_likely_168 (by decide) [(12, .long (x8 - x8 / x10 * x10)), (3, .int x3), (4, .long x4), (6, .long x6), (8, .long x8), (10, .long x10)] rfl ?_
    refine z_lload hX dX10_likely_170 5 rfl ?_
    refine z_lstore hX dX10_likely_172 (by decide) [(8, .long x10), (12, .long (x8 - x8 / x10 * x10)), (3, .int x3), (4, .long x4), (6, .long x6), (10, .long x10)] rfl ?_
    refine z_lload hX dX10_likely_174 1 rfl ?_
    refine z_lstore hX dX10_likely_176 (by decide) [(10, .long (x8 - x8 / x10 * x10)), (8, .long x10), (12, .long (x8 - x8 / x10 * x10)), (3, .int x3), (4, .long x4), (6, .long x6)] rfl ?_
    refine z_goto hX 156 dX10_likely_178 (by decide) ?_
    exact z_sub [3, 4, 5, 1, 0] rfl h
set_option maxRecDepth 100000 in
set_option maxHeartbeats 4000000 in
theorem EX10_week {E : ET} {Q : Option Value → Mem → Prop} {x1 : Int32} {M : Mem} (h : ∃ (r1 : Int32), CX10_isDress E [.ref (E.2.1 0), .int x1] M (z_is (some (.int r1)) M) ∧ ((¬ r1 = 0 → ((¬ (M.1 0 18) = (8 : Int32) → (vp_in (M.1 0 18) 8 ∧ (∀ M2 : Mem, M2 = z_st M 14 (M.1 0 18).toNatClampNeg x1 → (∀ M3 : Mem, M3 = z_st M2 0 18 ((M2.1 0 18) + (1 : Int32)) → Q (some (.int (M3.1 0 18))) M3)))) ∧ ((M.1 0 18) = (8 : Int32) → Q (some (.int (-4 : Int32))) M))) ∧ (r1 = 0 → Q (some (.int (-2 : Int32))) M))) : CX10_week E [.ref (E.2.1 0), .int x1] M Q := by
  refine z_entry (by decide +kernel) (Nat.le_of_ble_eq_true rfl) (fun X hE hX => ?_)
  subst hE
  show Z SM X 2 2 Q 0 [(0, .ref (X.1.2.1 0)), (1, .int x1)] [] M
  refine z_aload_n hX dX10_week_0 rfl 0 rfl ?_
  refine z_iload_n hX dX10_week_1 rfl 1 rfl ?_
  obtain ⟨r1, c9, h⟩ := h
  refine mcX10_90 hX dX10_week_2 (by decide) (Nat.le_of_ble_eq_true rfl) c9 ?_
  refine z_if_ne hX 11 dX10_week_5 (by decide) (fun c0 => ?_) (fun c0 => ?_)
  · replace h := h.1 c0
    refine z_aload_n hX dX10_week_11 rfl 0 rfl ?_
    refine gfX10_66 hX dX10_week_12 ?_
    refine z_bipush (v := 8) hX dX10_week_15 (by decide) ?_
    refine z_icmp_ne hX 23 dX10_week_17 (by decide) (fun c0 => ?_) (fun c0 => ?_)
    · replace h := h.1 c0
      refine z_aload_n hX dX10_week_23 rfl 0 rfl ?_
      refine gfX10_54 hX dX10_week_24 ?_
      refine z_aload_n hX dX10_week_27 rfl 0 rfl ?_
      refine gfX10_66 hX dX10_week_28 ?_
      refine z_iload_n hX dX10_week_31 rfl 1 rfl ?_
      refine z_iastM hX 14 rfl h.1 dX10_week_32 (fun M2 eM2 => ?_)
      replace h := h.2 M2 eM2
      refine z_aload_n hX dX10_week_33 rfl 0 rfl ?_
      refine z_dup hX dX10_week_34 rfl ?_
      refine gfX10_66 hX dX10_week_35 ?_
      refine z_iconst (v := 1) hX dX10_week_38 (by decide) ?_
      refine z_iadd hX dX10_week_39 ?_
      refine pfX10_66 hX dX10_week_40 (fun M3 eM3 => ?_)
      replace h := h M3 eM3
      refine z_aload_n hX dX10_week_43 rfl 0 rfl ?_
      refine gfX10_66 hX dX10_week_44 ?_
      exact z_iret hX dX10_week_47 h
    · replace h := h.2 c0
      refine z_bipush (v := -4) hX dX10_week_20 (by decide) ?_
      exact z_iret hX dX10_week_22 h
  · replace h := h.2 c0
    refine z_bipush (v := -2) hX dX10_week_8 (by decide) ?_
    exact z_iret hX dX10_week_10 h
set_option maxRecDepth 100000 in
set_option maxHeartbeats 4000000 in
theorem EX10_wipe {E : ET} {Q : Option Value → Mem → Prop} {M : Mem} (h : ∀ M1 : Mem, M1 = z_st M 0 18 (0 : Int32) → Q (some (.int (M.1 0 18))) M1) : CX10_wipe E [.ref (E.2.1 0)] M Q := by
  refine z_entry (by decide +kernel) (Nat.le_of_ble_eq_true rfl) (fun X hE hX => ?_)
  subst hE
  show Z SM X 0 2 Q 0 [(0, .ref (X.1.2.1 0))] [] M
  refine z_aload_n hX dX10_wipe_0 rfl 0 rfl ?_
  refine gfX10_66 hX dX10_wipe_1 ?_
  refine z_istore_n hX dX10_wipe_4 rfl (by decide) [(1, .int (M.1 0 18)), (0, .ref (X.1.2.1 0))] rfl ?_
  refine z_aload_n hX dX10_wipe_5 rfl 1 rfl ?_
  refine z_iconst (v := 0) hX dX10_wipe_6 (by decide) ?_
  refine pfX10_66 hX dX10_wipe_7 (fun M1 eM1 => ?_)
  replace h := h M1 eM1
  refine z_iload_n hX dX10_wipe_10 rfl 0 rfl ?_
  exact z_iret hX dX10_wipe_11 h
abbrev LX10_maybeOf_4 (X : XT) (Q : Option Value → Mem → Prop) (x1 : Int32) (x2 : Int32) (x3 : Int32) (M : Mem) : Prop := Z SM X 2 6 Q 4 [(0, .ref (X.1.2.1 0)), (1, .int x1), (2, .int x2), (3, .int x3)] [] M
abbrev LX10_maybeOf_15 (X : XT) (Q : Option Value → Mem → Prop) (x1 : Int32) (x2 : Int32) (x3 : Int32) (x4 : Int32) (x5 : Int32) (M : Mem) : Prop := Z SM X 2 6 Q 15 [(0, .ref (X.1.2.1 0)), (1, .int x1), (2, .int x2), (3, .int x3), (4, .int x4), (5, .int x5)] [] M
set_option maxRecDepth 100000 in
set_option maxHeartbeats 4000000 in
theorem EX10_maybeOf {E : ET} {Q : Option Value → Mem → Prop} {x1 : Int32} {M : Mem} (h : ∀ X : XT, X.1 = E → KX10_maybeOf X → LX10_maybeOf_4 X Q x1 (0 : Int32) (0 : Int32) M) : CX10_maybeOf E [.ref (E.2.1 0), .int x1] M Q := by
  refine z_entry (by decide +kernel) (Nat.le_of_ble_eq_true rfl) (fun X hE hX => ?_)
  subst hE
  replace h := h X rfl hX
  show Z SM X 2 6 Q 0 [(0, .ref (X.1.2.1 0)), (1, .int x1)] [] M
  refine z_iconst (v := 0) hX dX10_maybeOf_0 (by decide) ?_
  refine z_istore_n hX dX10_maybeOf_1 rfl (by decide) [(2, .int (0 : Int32)), (0, .ref (X.1.2.1 0)), (1, .int x1)] rfl ?_
  refine z_iconst (v := 0) hX dX10_maybeOf_2 (by decide) ?_
  refine z_istore_n hX dX10_maybeOf_3 rfl (by decide) [(3, .int (0 : Int32)), (2, .int (0 : Int32)), (0, .ref (X.1.2.1 0)), (1, .int x1)] rfl ?_
  exact z_sub [2, 3, 1, 0] rfl h
set_option maxRecDepth 100000 in
set_option maxHeartbeats 4000000 in
theorem BX10_maybeOf_4 {X : XT} {Q : Option Value → Mem → Prop} (hX : KX10_maybeOf X) {x1 x2 x3 : Int32} {M : Mem} (h : (((4 : Int32) ≤ x3 → Q (some (.int x2)) M) ∧ (¬ (4 : Int32) ≤ x3 → LX10_maybeOf_15 X Q x1 x2 x3 (1 : Int32) (0 : Int32) M))) : LX10_maybeOf_4 X Q x1 x2 x3 M := by
  show Z SM X 2 6 Q 4 [(0, .ref (X.1.2.1 0)), (1, .int x1), (2, .int x2), (3, .int x3)] [] M
  refine z_iload_n hX dX10_maybeOf_4 rfl 3 rfl ?_
  refine z_iconst (v := 4) hX dX10_maybeOf_5 (by decide) ?_
  refine z_icmp_ge hX 94 dX10_maybeOf_6 (by decide) (fun c0 => ?_) (fun c0 => ?_)
  · replace h := h.1 c0
    refine z_iload_n hX dX10_maybeOf_94 rfl 2 rfl ?_
    exact z_iret hX dX10_maybeOf_95 h
  · replace h := h.2 c0
    refine z_iconst (v := 1) hX dX10_maybeOf_9 (by decide) ?_
    refine z_istore hX dX10_maybeOf_10 (by decide) [(4, .int (1 : Int32)), (0, .ref (X.1.2.1 0)), (1, .int x1), (2, .int x2), (3, .int x3)] rfl ?_
    refine z_iconst (v := 0) hX dX10_maybeOf_12 (by decide) ?_
    refine z_istore hX dX10_maybeOf_13 (by decide) [(5, .int (0 : Int32)), (4, .int (1 : Int32)), (0, .ref (X.1.2.1 0)), (1, .int x1), (2, .int x2), (3, .int x3)] rfl ?_
    exact z_sub [2, 3, 4, 5, 1, 0] rfl h
set_option maxRecDepth 100000 in
set_option maxHeartbeats 4000000 in
theorem BX10_maybeOf_15 {X : XT} {Q : Option Value → Mem → Prop} (hX : KX10_maybeOf X) {x1 x2 x3 x4 x5 : Int32} {M : Mem} (h : (((M.1 0 18) ≤ (x5 + (1 : Int32)) → ((x4 = 0 → LX10_maybeOf_4 X Q x1 (x2 ||| (0 : Int32)) (x3 + (1 : Int32)) M) ∧ (¬ x4 = 0 → LX10_maybeOf_4 X Q x1 (x2 ||| ((1 : Int32) <<< (x3 &&& 31))) (x3 + (1 : Int32)) M))) ∧ (¬ (M.1 0 18) ≤ (x5 + (1 : Int32)) → ((x4 = 0 → LX10_maybeOf_15 X Q x1 x2 x3 (0 : Int32) (x5 + (1 : Int32)) M) ∧ (¬ x4 = 0 → (vp_in x5 8 ∧ (∃ (r1 : Int32), CX10_nextOf X.1 [.ref (X.1.2.1 0), .int x1, .int x3, .int (M.1 14 x5.toNatClampNeg)] M (z_is (some (.int r1)) M) ∧ (vp_in (x5 + (1 : Int32)) 8 ∧ ((¬ r1 = (((M.1 14 (x5 + (1 : Int32)).toNatClampNeg) >>> (x1 &&& 31)) &&& (1 : Int32)) → LX10_maybeOf_15 X Q x1 x2 x3 (0 : Int32) (x5 + (1 : Int32)) M) ∧ (r1 = (((M.1 14 (x5 + (1 : Int32)).toNatClampNeg) >>> (x1 &&& 31)) &&& (1 : Int32)) → LX10_maybeOf_15 X Q x1 x2 x3 (1 : Int32) (x5 + (1 : Int32)) M)))))))))) : LX10_maybeOf_15 X Q x1 x2 x3 x4 x5 M := by
  show Z SM X 2 6 Q 15 [(0, .ref (X.1.2.1 0)), (1, .int x1), (2, .int x2), (3, .int x3), (4, .int x4), (5, .int x5)] [] M
  refine z_iload hX dX10_maybeOf_15 5 rfl ?_
  refine z_iconst (v := 1) hX dX10_maybeOf_17 (by decide) ?_
  refine z_iadd hX dX10_maybeOf_18 ?_
  refine z_aload_n hX dX10_maybeOf_19 rfl 0 rfl ?_
  refine gfX10_66 hX dX10_maybeOf_20 ?_
  refine z_icmp_ge hX 73 dX10_maybeOf_23 (by decide) (fun c0 => ?_) (fun c0 => ?_)
  · replace h := h.1 c0
    refine z_iload_n hX dX10_maybeOf_73 rfl 2 rfl ?_
    refine z_iload hX dX10_maybeOf_74 4 rfl ?_
    refine z_if_eq hX 85 dX10_maybeOf_76 (by decide) (fun c0 => ?_) (fun c0 => ?_)
    · replace h := h.1 c0
      refine z_iconst (v := 0) hX dX10_maybeOf_85 (by decide) ?_
      refine z_ior hX dX10_maybeOf_86 ?_
      refine z_istore_n hX dX10_maybeOf_87 rfl (by decide) [(2, .int (x2 ||| (0 : Int32))), (0, .ref (X.1.2.1 0)), (1, .int x1), (3, .int x3), (4, .int x4), (5, .int x5)] rfl ?_
      refine z_iinc (v := x3 + (1 : Int32)) hX dX10_maybeOf_88 3 rfl rfl (by decide) [(3, .int (x3 + (1 : Int32))), (2, .int (x2 ||| (0 : Int32))), (0, .ref (X.1.2.1 0)), (1, .int x1), (4, .int x4), (5, .int x5)] rfl ?_
      refine z_goto hX 4 dX10_maybeOf_91 (by decide) ?_
      exact z_sub [2, 3, 1, 0] rfl h
    · replace h := h.2 c0
      refine z_iconst (v := 1) hX dX10_maybeOf_79 (by decide) ?_
      refine z_iload_n hX dX10_maybeOf_80 rfl 3 rfl ?_
      refine z_ishl hX dX10_maybeOf_81 ?_
      refine z_goto hX 86 dX10_maybeOf_82 (by decide) ?_
      refine z_ior hX dX10_maybeOf_86 ?_
      refine z_istore_n hX dX10_maybeOf_87 rfl (by decide) [(2, .int (x2 ||| ((1 : Int32) <<< (x3 &&& 31)))), (0, .ref (X.1.2.1 0)), (1, .int x1), (3, .int x3), (4, .int x4), (5, .int x5)] rfl ?_
      refine z_iinc (v := x3 + (1 : Int32)) hX dX10_maybeOf_88 3 rfl rfl (by decide) [(3, .int (x3 + (1 : Int32))), (2, .int (x2 ||| ((1 : Int32) <<< (x3 &&& 31)))), (0, .ref (X.1.2.1 0)), (1, .int x1), (4, .int x4), (5, .int x5)] rfl ?_
      refine z_goto hX 4 dX10_maybeOf_91 (by decide) ?_
      exact z_sub [2, 3, 1, 0] rfl h
  · replace h := h.2 c0
    refine z_iload hX dX10_maybeOf_26 4 rfl ?_
    refine z_if_eq hX 64 dX10_maybeOf_28 (by decide) (fun c0 => ?_) (fun c0 => ?_)
    · replace h := h.1 c0
      refine z_iconst (v := 0) hX dX10_maybeOf_64 (by decide) ?_
      refine z_istore hX dX10_maybeOf_65 (by decide) [(4, .int (0 : Int32)), (0, .ref (X.1.2.1 0)), (1, .int x1), (2, .int x2), (3, .int x3), (5, .int x5)] rfl ?_
      refine z_iinc (v := x5 + (1 : Int32)) hX dX10_maybeOf_67 5 rfl rfl (by decide) [(5, .int (x5 + (1 : Int32))), (4, .int (0 : Int32)), (0, .ref (X.1.2.1 0)), (1, .int x1), (2, .int x2), (3, .int x3)] rfl ?_
      refine z_goto hX 15 dX10_maybeOf_70 (by decide) ?_
      exact z_sub [2, 3, 4, 5, 1, 0] rfl h
    · replace h := h.2 c0
      refine z_aload_n hX dX10_maybeOf_31 rfl 0 rfl ?_
      refine z_iload_n hX dX10_maybeOf_32 rfl 1 rfl ?_
      refine z_iload_n hX dX10_maybeOf_33 rfl 3 rfl ?_
      refine z_aload_n hX dX10_maybeOf_34 rfl 0 rfl ?_
      refine gfX10_54 hX dX10_maybeOf_35 ?_
      refine z_iload hX dX10_maybeOf_38 5 rfl ?_
      refine z_iald hX 14 rfl h.1 dX10_maybeOf_40 ?_
      replace h := h.2
      obtain ⟨r1, c9, h⟩ := h
      refine mcX10_83 hX dX10_maybeOf_41 (by decide) (Nat.le_of_ble_eq_true rfl) c9 ?_
      refine z_aload_n hX dX10_maybeOf_44 rfl 0 rfl ?_
      refine gfX10_54 hX dX10_maybeOf_45 ?_
      refine z_iload hX dX10_maybeOf_48 5 rfl ?_
      refine z_iconst (v := 1) hX dX10_maybeOf_50 (by decide) ?_
      refine z_iadd hX dX10_maybeOf_51 ?_
      refine z_iald hX 14 rfl h.1 dX10_maybeOf_52 ?_
      replace h := h.2
      refine z_iload_n hX dX10_maybeOf_53 rfl 1 rfl ?_
      refine z_ishr hX dX10_maybeOf_54 ?_
      refine z_iconst (v := 1) hX dX10_maybeOf_55 (by decide) ?_
      refine z_iand hX dX10_maybeOf_56 ?_
      refine z_icmp_ne hX 64 dX10_maybeOf_57 (by decide) (fun c0 => ?_) (fun c0 => ?_)
      · replace h := h.1 c0
        refine z_iconst (v := 0) hX dX10_maybeOf_64 (by decide) ?_
        refine z_istore hX dX10_maybeOf_65 (by decide) [(4, .int (0 : Int32)), (0, .ref (X.1.2.1 0)), (1, .int x1), (2, .int x2), (3, .int x3), (5, .int x5)] rfl ?_
        refine z_iinc (v := x5 + (1 : Int32)) hX dX10_maybeOf_67 5 rfl rfl (by decide) [(5, .int (x5 + (1 : Int32))), (4, .int (0 : Int32)), (0, .ref (X.1.2.1 0)), (1, .int x1), (2, .int x2), (3, .int x3)] rfl ?_
        refine z_goto hX 15 dX10_maybeOf_70 (by decide) ?_
        exact z_sub [2, 3, 4, 5, 1, 0] rfl h
      · replace h := h.2 c0
        refine z_iconst (v := 1) hX dX10_maybeOf_60 (by decide) ?_
        refine z_goto hX 65 dX10_maybeOf_61 (by decide) ?_
        refine z_istore hX dX10_maybeOf_65 (by decide) [(4, .int (1 : Int32)), (0, .ref (X.1.2.1 0)), (1, .int x1), (2, .int x2), (3, .int x3), (5, .int x5)] rfl ?_
        refine z_iinc (v := x5 + (1 : Int32)) hX dX10_maybeOf_67 5 rfl rfl (by decide) [(5, .int (x5 + (1 : Int32))), (4, .int (1 : Int32)), (0, .ref (X.1.2.1 0)), (1, .int x1), (2, .int x2), (3, .int x3)] rfl ?_
        refine z_goto hX 15 dX10_maybeOf_70 (by decide) ?_
        exact z_sub [2, 3, 4, 5, 1, 0] rfl h
set_option maxRecDepth 100000 in
set_option maxHeartbeats 4000000 in
theorem EX10_maybe {E : ET} {Q : Option Value → Mem → Prop} {x1 : Int32} {M : Mem} (h : ∃ (r1 : Int32), CX10_isPerson E [.ref (E.2.1 0), .int x1] M (z_is (some (.int r1)) M) ∧ ((r1 = 0 → Q (some (.int (-1 : Int32))) M) ∧ (¬ r1 = 0 → (∃ (r2 : Int32), CX10_maybeOf E [.ref (E.2.1 0), .int x1] M (z_is (some (.int r2)) M) ∧ Q (some (.int r2)) M)))) : CX10_maybe E [.ref (E.2.1 0), .int x1] M Q := by
  refine z_entry (by decide +kernel) (Nat.le_of_ble_eq_true rfl) (fun X hE hX => ?_)
  subst hE
  show Z SM X 3 2 Q 0 [(0, .ref (X.1.2.1 0)), (1, .int x1)] [] M
  refine z_aload_n hX dX10_maybe_0 rfl 0 rfl ?_
  refine z_iload_n hX dX10_maybe_1 rfl 1 rfl ?_
  obtain ⟨r1, c9, h⟩ := h
  refine mcX10_69 hX dX10_maybe_2 (by decide) (Nat.le_of_ble_eq_true rfl) c9 ?_
  refine z_if_eq hX 16 dX10_maybe_5 (by decide) (fun c0 => ?_) (fun c0 => ?_)
  · replace h := h.1 c0
    refine z_iconst (v := -1) hX dX10_maybe_16 (by decide) ?_
    exact z_iret hX dX10_maybe_17 h
  · replace h := h.2 c0
    refine z_aload_n hX dX10_maybe_8 rfl 0 rfl ?_
    refine z_iload_n hX dX10_maybe_9 rfl 1 rfl ?_
    obtain ⟨r2, c9, h⟩ := h
    refine mcX10_176 hX dX10_maybe_10 (by decide) (Nat.le_of_ble_eq_true rfl) c9 ?_
    refine z_goto hX 17 dX10_maybe_13 (by decide) ?_
    exact z_iret hX dX10_maybe_17 h
abbrev LX10_ways_4 (X : XT) (Q : Option Value → Mem → Prop) (x1 : Int64) (x3 : Int32) (M : Mem) : Prop := Z SM X 3 4 Q 4 [(0, .ref (X.1.2.1 0)), (1, .long x1), (3, .int x3)] [] M
set_option maxRecDepth 100000 in
set_option maxHeartbeats 4000000 in
theorem EX10_ways {E : ET} {Q : Option Value → Mem → Prop} {M : Mem} (h : ∀ X : XT, X.1 = E → KX10_ways X → LX10_ways_4 X Q (1 : Int64) (0 : Int32) M) : CX10_ways E [.ref (E.2.1 0)] M Q := by
  refine z_entry (by decide +kernel) (Nat.le_of_ble_eq_true rfl) (fun X hE hX => ?_)
  subst hE
  replace h := h X rfl hX
  show Z SM X 3 4 Q 0 [(0, .ref (X.1.2.1 0))] [] M
  refine z_lconst (v := 1) hX dX10_ways_0 (by decide) ?_
  refine z_lstore_n hX dX10_ways_1 rfl (by decide) [(1, .long (1 : Int64)), (0, .ref (X.1.2.1 0))] rfl ?_
  refine z_iconst (v := 0) hX dX10_ways_2 (by decide) ?_
  refine z_istore_n hX dX10_ways_3 rfl (by decide) [(3, .int (0 : Int32)), (1, .long (1 : Int64)), (0, .ref (X.1.2.1 0))] rfl ?_
  exact z_sub [2, 1, 0] rfl h
set_option maxRecDepth 100000 in
set_option maxHeartbeats 4000000 in
theorem BX10_ways_4 {X : XT} {Q : Option Value → Mem → Prop} (hX : KX10_ways X) {x3 : Int32} {x1 : Int64} {M : Mem} (h : (((M.1 0 0) ≤ x3 → Q (some (.long x1)) M) ∧ (¬ (M.1 0 0) ≤ x3 → (∃ (r1 : Int32), CX10_maybeOf X.1 [.ref (X.1.2.1 0), .int x3] M (z_is (some (.int r1)) M) ∧ (∃ (r2 : Int32), CX10_ones X.1 [.int r1] M (z_is (some (.int r2)) M) ∧ LX10_ways_4 X Q (x1 * r2.toInt64) (x3 + (1 : Int32)) M))))) : LX10_ways_4 X Q x1 x3 M := by
  show Z SM X 3 4 Q 4 [(0, .ref (X.1.2.1 0)), (1, .long x1), (3, .int x3)] [] M
  refine z_iload_n hX dX10_ways_4 rfl 2 rfl ?_
  refine z_aload_n hX dX10_ways_5 rfl 0 rfl ?_
  refine gfX10_7 hX dX10_ways_6 ?_
  refine z_icmp_ge hX 30 dX10_ways_9 (by decide) (fun c0 => ?_) (fun c0 => ?_)
  · replace h := h.1 c0
    refine z_lload_n hX dX10_ways_30 rfl 1 rfl ?_
    exact z_lret hX dX10_ways_31 h
  · replace h := h.2 c0
    refine z_lload_n hX dX10_ways_12 rfl 1 rfl ?_
    refine z_aload_n hX dX10_ways_13 rfl 0 rfl ?_
    refine z_iload_n hX dX10_ways_14 rfl 2 rfl ?_
    obtain ⟨r1, c9, h⟩ := h
    refine mcX10_176 hX dX10_ways_15 (by decide) (Nat.le_of_ble_eq_true rfl) c9 ?_
    obtain ⟨r2, c9, h⟩ := h
    refine mcX10_161 hX dX10_ways_18 (by decide) (Nat.le_of_ble_eq_true rfl) c9 ?_
    refine z_i2l hX dX10_ways_21 ?_
    refine z_lmul hX dX10_ways_22 ?_
    refine z_lstore_n hX dX10_ways_23 rfl (by decide) [(1, .long (x1 * r2.toInt64)), (0, .ref (X.1.2.1 0)), (3, .int x3)] rfl ?_
    refine z_iinc (v := x3 + (1 : Int32)) hX dX10_ways_24 2 rfl rfl (by decide) [(3, .int (x3 + (1 : Int32))), (1, .long (x1 * r2.toInt64)), (0, .ref (X.1.2.1 0))] rfl ?_
    refine z_goto hX 4 dX10_ways_27 (by decide) ?_
    exact z_sub [2, 1, 0] rfl h
abbrev LX10_take_16 (X : XT) (Q : Option Value → Mem → Prop) (x1 : Int32) (x2 : Int32) (M : Mem) : Prop := Z SM X 4 5 Q 16 [(0, .ref (X.1.2.1 0)), (1, .int x1), (2, .int x2)] [] M
abbrev LX10_take_33 (X : XT) (Q : Option Value → Mem → Prop) (x1 : Int32) (x2 : Int32) (x3 : Int32) (x4 : Int32) (M : Mem) : Prop := Z SM X 4 5 Q 33 [(0, .ref (X.1.2.1 0)), (1, .int x1), (2, .int x2), (3, .int x3), (4, .int x4)] [] M
set_option maxRecDepth 100000 in
set_option maxHeartbeats 4000000 in
theorem EX10_take {E : ET} {Q : Option Value → Mem → Prop} {M : Mem} (h : ∀ X : XT, X.1 = E → KX10_take X → (∃ (r1 : Int64), CX10_ways X.1 [.ref (X.1.2.1 0)] M (z_is (some (.long r1)) M) ∧ ((¬ (lg_cmp r1 (0 : Int64)) = 0 → LX10_take_16 X Q (0 : Int32) (0 : Int32) M) ∧ ((lg_cmp r1 (0 : Int64)) = 0 → Q (some (.int (-3 : Int32))) M)))) : CX10_take E [.ref (E.2.1 0)] M Q := by
  refine z_entry (by decide +kernel) (Nat.le_of_ble_eq_true rfl) (fun X hE hX => ?_)
  subst hE
  replace h := h X rfl hX
  show Z SM X 4 5 Q 0 [(0, .ref (X.1.2.1 0))] [] M
  refine z_aload_n hX dX10_take_0 rfl 0 rfl ?_
  obtain ⟨r1, c9, h⟩ := h
  refine mcX10_179 hX dX10_take_1 (by decide) (Nat.le_of_ble_eq_true rfl) c9 ?_
  refine z_lconst (v := 0) hX dX10_take_4 (by decide) ?_
  refine z_lcmp hX dX10_take_5 ?_
  refine z_if_ne hX 12 dX10_take_6 (by decide) (fun c0 => ?_) (fun c0 => ?_)
  · replace h := h.1 c0
    refine z_iconst (v := 0) hX dX10_take_12 (by decide) ?_
    refine z_istore_n hX dX10_take_13 rfl (by decide) [(1, .int (0 : Int32)), (0, .ref (X.1.2.1 0))] rfl ?_
    refine z_iconst (v := 0) hX dX10_take_14 (by decide) ?_
    refine z_istore_n hX dX10_take_15 rfl (by decide) [(2, .int (0 : Int32)), (1, .int (0 : Int32)), (0, .ref (X.1.2.1 0))] rfl ?_
    exact z_sub [2, 1, 0] rfl h
  · replace h := h.2 c0
    refine z_bipush (v := -3) hX dX10_take_9 (by decide) ?_
    exact z_iret hX dX10_take_11 h
set_option maxRecDepth 100000 in
set_option maxHeartbeats 4000000 in
theorem BX10_take_16 {X : XT} {Q : Option Value → Mem → Prop} (hX : KX10_take X) {x1 x2 : Int32} {M : Mem} (h : (((M.1 0 0) ≤ x2 → Q (some (.int x1)) M) ∧ (¬ (M.1 0 0) ≤ x2 → (∃ (r1 : Int32), CX10_maybeOf X.1 [.ref (X.1.2.1 0), .int x2] M (z_is (some (.int r1)) M) ∧ LX10_take_33 X Q x1 x2 r1 (0 : Int32) M)))) : LX10_take_16 X Q x1 x2 M := by
  show Z SM X 4 5 Q 16 [(0, .ref (X.1.2.1 0)), (1, .int x1), (2, .int x2)] [] M
  refine z_iload_n hX dX10_take_16 rfl 2 rfl ?_
  refine z_aload_n hX dX10_take_17 rfl 0 rfl ?_
  refine gfX10_7 hX dX10_take_18 ?_
  refine z_icmp_ge hX 81 dX10_take_21 (by decide) (fun c0 => ?_) (fun c0 => ?_)
  · replace h := h.1 c0
    refine z_iload_n hX dX10_take_81 rfl 1 rfl ?_
    exact z_iret hX dX10_take_82 h
  · replace h := h.2 c0
    refine z_aload_n hX dX10_take_24 rfl 0 rfl ?_
    refine z_iload_n hX dX10_take_25 rfl 2 rfl ?_
    obtain ⟨r1, c9, h⟩ := h
    refine mcX10_176 hX dX10_take_26 (by decide) (Nat.le_of_ble_eq_true rfl) c9 ?_
    refine z_istore_n hX dX10_take_29 rfl (by decide) [(3, .int r1), (0, .ref (X.1.2.1 0)), (1, .int x1), (2, .int x2)] rfl ?_
    refine z_iconst (v := 0) hX dX10_take_30 (by decide) ?_
    refine z_istore hX dX10_take_31 (by decide) [(4, .int (0 : Int32)), (3, .int r1), (0, .ref (X.1.2.1 0)), (1, .int x1), (2, .int x2)] rfl ?_
    exact z_sub [2, 3, 4, 1, 0] rfl h
set_option maxRecDepth 100000 in
set_option maxHeartbeats 4000000 in
theorem BX10_take_33 {X : XT} {Q : Option Value → Mem → Prop} (hX : KX10_take X) {x1 x2 x3 x4 : Int32} {M : Mem} (h : ((¬ ((x3 >>> (x4 &&& 31)) &&& (1 : Int32)) = 0 → (vp_in x2 10 ∧ ((¬ (M.1 2 x2.toNatClampNeg) = x4 → (vp_in x2 10 ∧ (∀ M1 : Mem, M1 = z_st M 2 x2.toNatClampNeg x4 → LX10_take_16 X Q (x1 + (1 : Int32)) (x2 + (1 : Int32)) M1))) ∧ ((M.1 2 x2.toNatClampNeg) = x4 → (vp_in x2 10 ∧ (∀ M2 : Mem, M2 = z_st M 2 x2.toNatClampNeg x4 → LX10_take_16 X Q (x1 + (0 : Int32)) (x2 + (1 : Int32)) M2)))))) ∧ (((x3 >>> (x4 &&& 31)) &&& (1 : Int32)) = 0 → LX10_take_33 X Q x1 x2 x3 (x4 + (1 : Int32)) M))) : LX10_take_33 X Q x1 x2 x3 x4 M := by
  show Z SM X 4 5 Q 33 [(0, .ref (X.1.2.1 0)), (1, .int x1), (2, .int x2), (3, .int x3), (4, .int x4)] [] M
  refine z_iload_n hX dX10_take_33 rfl 3 rfl ?_
  refine z_iload hX dX10_take_34 4 rfl ?_
  refine z_ishr hX dX10_take_36 ?_
  refine z_iconst (v := 1) hX dX10_take_37 (by decide) ?_
  refine z_iand hX dX10_take_38 ?_
  refine z_if_ne hX 48 dX10_take_39 (by decide) (fun c0 => ?_) (fun c0 => ?_)
  · replace h := h.1 c0
    refine z_iload_n hX dX10_take_48 rfl 1 rfl ?_
    refine z_aload_n hX dX10_take_49 rfl 0 rfl ?_
    refine gfX10_17 hX dX10_take_50 ?_
    refine z_iload_n hX dX10_take_53 rfl 2 rfl ?_
    refine z_iald hX 2 rfl h.1 dX10_take_54 ?_
    replace h := h.2
    refine z_iload hX dX10_take_55 4 rfl ?_
    refine z_icmp_ne hX 64 dX10_take_57 (by decide) (fun c0 => ?_) (fun c0 => ?_)
    · replace h := h.1 c0
      refine z_iconst (v := 1) hX dX10_take_64 (by decide) ?_
      refine z_iadd hX dX10_take_65 ?_
      refine z_istore_n hX dX10_take_66 rfl (by decide) [(1, .int (x1 + (1 : Int32))), (0, .ref (X.1.2.1 0)), (2, .int x2), (3, .int x3), (4, .int x4)] rfl ?_
      refine z_aload_n hX dX10_take_67 rfl 1 rfl ?_
      refine gfX10_17 hX dX10_take_68 ?_
      refine z_iload_n hX dX10_take_71 rfl 2 rfl ?_
      refine z_iload hX dX10_take_72 4 rfl ?_
      refine z_iastM hX 2 rfl h.1 dX10_take_74 (fun M1 eM1 => ?_)
      replace h := h.2 M1 eM1
      refine z_iinc (v := x2 + (1 : Int32)) hX dX10_take_75 2 rfl rfl (by decide) [(2, .int (x2 + (1 : Int32))), (1, .int (x1 + (1 : Int32))), (0, .ref (X.1.2.1 0)), (3, .int x3), (4, .int x4)] rfl ?_
      refine z_goto hX 16 dX10_take_78 (by decide) ?_
      exact z_sub [2, 1, 0] rfl h
    · replace h := h.2 c0
      refine z_iconst (v := 0) hX dX10_take_60 (by decide) ?_
      refine z_goto hX 65 dX10_take_61 (by decide) ?_
      refine z_iadd hX dX10_take_65 ?_
      refine z_istore_n hX dX10_take_66 rfl (by decide) [(1, .int (x1 + (0 : Int32))), (0, .ref (X.1.2.1 0)), (2, .int x2), (3, .int x3), (4, .int x4)] rfl ?_
      refine z_aload_n hX dX10_take_67 rfl 1 rfl ?_
      refine gfX10_17 hX dX10_take_68 ?_
      refine z_iload_n hX dX10_take_71 rfl 2 rfl ?_
      refine z_iload hX dX10_take_72 4 rfl ?_
      refine z_iastM hX 2 rfl h.1 dX10_take_74 (fun M2 eM2 => ?_)
      replace h := h.2 M2 eM2
      refine z_iinc (v := x2 + (1 : Int32)) hX dX10_take_75 2 rfl rfl (by decide) [(2, .int (x2 + (1 : Int32))), (1, .int (x1 + (0 : Int32))), (0, .ref (X.1.2.1 0)), (3, .int x3), (4, .int x4)] rfl ?_
      refine z_goto hX 16 dX10_take_78 (by decide) ?_
      exact z_sub [2, 1, 0] rfl h
  · replace h := h.2 c0
    refine z_iinc (v := x4 + (1 : Int32)) hX dX10_take_42 4 rfl rfl (by decide) [(4, .int (x4 + (1 : Int32))), (0, .ref (X.1.2.1 0)), (1, .int x1), (2, .int x2), (3, .int x3)] rfl ?_
    refine z_goto hX 33 dX10_take_45 (by decide) ?_
    exact z_sub [1, 2, 3, 4, 0] rfl h
abbrev LX10_askedOf_8 (X : XT) (Q : Option Value → Mem → Prop) (x2 : Int32) (x3 : Int32) (x4 : Int32) (x5 : Int32) (M : Mem) : Prop := Z SM X 1 7 Q 8 [(0, .ref (X.1.2.1 0)), (2, .int x2), (3, .int x3), (4, .int x4), (5, .int x5)] [] M
set_option maxRecDepth 100000 in
set_option maxHeartbeats 4000000 in
theorem EX10_askedOf {E : ET} {Q : Option Value → Mem → Prop} {x1 x2 : Int32} {M : Mem} (h : ∀ X : XT, X.1 = E → KX10_askedOf X → LX10_askedOf_8 X Q x2 x1 (0 : Int32) (0 : Int32) M) : CX10_askedOf E [.ref (E.2.1 0), .int x1, .int x2] M Q := by
  refine z_entry (by decide +kernel) (Nat.le_of_ble_eq_true rfl) (fun X hE hX => ?_)
  subst hE
  replace h := h X rfl hX
  show Z SM X 1 7 Q 0 [(0, .ref (X.1.2.1 0)), (1, .int x1), (2, .int x2)] [] M
  refine z_iload_n hX dX10_askedOf_0 rfl 1 rfl ?_
  refine z_istore_n hX dX10_askedOf_1 rfl (by decide) [(3, .int x1), (0, .ref (X.1.2.1 0)), (1, .int x1), (2, .int x2)] rfl ?_
  refine z_iconst (v := 0) hX dX10_askedOf_2 (by decide) ?_
  refine z_istore hX dX10_askedOf_3 (by decide) [(4, .int (0 : Int32)), (3, .int x1), (0, .ref (X.1.2.1 0)), (1, .int x1), (2, .int x2)] rfl ?_
  refine z_iconst (v := 0) hX dX10_askedOf_5 (by decide) ?_
  refine z_istore hX dX10_askedOf_6 (by decide) [(5, .int (0 : Int32)), (4, .int (0 : Int32)), (3, .int x1), (0, .ref (X.1.2.1 0)), (1, .int x1), (2, .int x2)] rfl ?_
  exact z_sub [3, 5, 2, 1, 0] rfl h
set_option maxRecDepth 100000 in
set_option maxHeartbeats 4000000 in
theorem BX10_askedOf_8 {X : XT} {Q : Option Value → Mem → Prop} (hX : KX10_askedOf X) {x2 x3 x4 x5 : Int32} {M : Mem} (h : ((x2 ≤ x5 → Q (some (.int x4)) M) ∧ (¬ x2 ≤ x5 → (vp_in x3 1024 ∧ (∃ (r1 : Int32), CX10_ones X.1 [.int ((M.1 4 x3.toNatClampNeg) &&& (x3 ^^^ (-1 : Int32)))] M (z_is (some (.int r1)) M) ∧ LX10_askedOf_8 X Q x2 (M.1 4 x3.toNatClampNeg) (x4 + r1) (x5 + (1 : Int32)) M))))) : LX10_askedOf_8 X Q x2 x3 x4 x5 M := by
  show Z SM X 1 7 Q 8 [(0, .ref (X.1.2.1 0)), (2, .int x2), (3, .int x3), (4, .int x4), (5, .int x5)] [] M
  refine z_iload hX dX10_askedOf_8 4 rfl ?_
  refine z_iload_n hX dX10_askedOf_10 rfl 1 rfl ?_
  refine z_icmp_ge hX 45 dX10_askedOf_11 (by decide) (fun c0 => ?_) (fun c0 => ?_)
  · replace h := h.1 c0
    refine z_iload hX dX10_askedOf_45 3 rfl ?_
    exact z_iret hX dX10_askedOf_47 h
  · replace h := h.2 c0
    refine z_aload_n hX dX10_askedOf_14 rfl 0 rfl ?_
    refine gfX10_23 hX dX10_askedOf_15 ?_
    refine z_iload_n hX dX10_askedOf_18 rfl 2 rfl ?_
    refine z_iald hX 4 rfl h.1 dX10_askedOf_19 ?_
    replace h := h.2
    refine z_istore hX dX10_askedOf_20 (by decide) [(6, .int (M.1 4 x3.toNatClampNeg)), (0, .ref (X.1.2.1 0)), (2, .int x2), (3, .int x3), (4, .int x4), (5, .int x5)] rfl ?_
    refine z_iload hX dX10_askedOf_22 4 rfl ?_
    refine z_iload hX dX10_askedOf_24 0 rfl ?_
    refine z_iload_n hX dX10_askedOf_26 rfl 3 rfl ?_
    refine z_iconst (v := -1) hX dX10_askedOf_27 (by decide) ?_
    refine z_ixor hX dX10_askedOf_28 ?_
    refine z_iand hX dX10_askedOf_29 ?_
    obtain ⟨r1, c9, h⟩ := h
    refine mcX10_161 hX dX10_askedOf_30 (by decide) (Nat.le_of_ble_eq_true rfl) c9 ?_
    refine z_iadd hX dX10_askedOf_33 ?_
    refine z_istore hX dX10_askedOf_34 (by decide) [(4, .int (x4 + r1)), (6, .int (M.1 4 x3.toNatClampNeg)), (0, .ref (X.1.2.1 0)), (2, .int x2), (3, .int x3), (5, .int x5)] rfl ?_
    refine z_iload hX dX10_askedOf_36 1 rfl ?_
    refine z_istore_n hX dX10_askedOf_38 rfl (by decide) [(3, .int (M.1 4 x3.toNatClampNeg)), (4, .int (x4 + r1)), (6, .int (M.1 4 x3.toNatClampNeg)), (0, .ref (X.1.2.1 0)), (2, .int x2), (5, .int x5)] rfl ?_
    refine z_iinc (v := x5 + (1 : Int32)) hX dX10_askedOf_39 5 rfl rfl (by decide) [(5, .int (x5 + (1 : Int32))), (3, .int (M.1 4 x3.toNatClampNeg)), (4, .int (x4 + r1)), (6, .int (M.1 4 x3.toNatClampNeg)), (0, .ref (X.1.2.1 0)), (2, .int x2)] rfl ?_
    refine z_goto hX 8 dX10_askedOf_42 (by decide) ?_
    exact z_sub [4, 5, 1, 2, 0] rfl h
set_option maxRecDepth 100000 in
set_option maxHeartbeats 4000000 in
theorem EX10_asked {E : ET} {Q : Option Value → Mem → Prop} {x1 x2 x3 : Int32} {M : Mem} (h : ∃ (r1 : Int32), CX10_isDress E [.ref (E.2.1 0), .int x1] M (z_is (some (.int r1)) M) ∧ ((r1 = 0 → Q (some (.int (-2 : Int32))) M) ∧ (¬ r1 = 0 → (∃ (r2 : Int32), CX10_isWay E [.int x2] M (z_is (some (.int r2)) M) ∧ ((r2 = 0 → Q (some (.int (-2 : Int32))) M) ∧ (¬ r2 = 0 → (∃ (r3 : Int32), CX10_in E [.long x3.toInt64, .long (1 : Int64), .long (50 : Int64)] M (z_is (some (.int r3)) M) ∧ ((¬ r3 = 0 → (∃ q6 : Mem → Prop, CX10_layLeads E [.ref (E.2.1 0), .int x2] M (z_pV q6) ∧ ∀ (M4 : Mem), q6 M4 → (∃ (r5 : Int32), CX10_askedOf E [.ref (E.2.1 0), .int x1, .int x3] M4 (z_is (some (.int r5)) M4) ∧ Q (some (.int r5)) M4))) ∧ (r3 = 0 → Q (some (.int (-2 : Int32))) M))))))))) : CX10_asked E [.ref (E.2.1 0), .int x1, .int x2, .int x3] M Q := by
  refine z_entry (by decide +kernel) (Nat.le_of_ble_eq_true rfl) (fun X hE hX => ?_)
  subst hE
  show Z SM X 4 4 Q 0 [(0, .ref (X.1.2.1 0)), (1, .int x1), (2, .int x2), (3, .int x3)] [] M
  refine z_aload_n hX dX10_asked_0 rfl 0 rfl ?_
  refine z_iload_n hX dX10_asked_1 rfl 1 rfl ?_
  obtain ⟨r1, c9, h⟩ := h
  refine mcX10_90 hX dX10_asked_2 (by decide) (Nat.le_of_ble_eq_true rfl) c9 ?_
  refine z_if_eq hX 27 dX10_asked_5 (by decide) (fun c0 => ?_) (fun c0 => ?_)
  · replace h := h.1 c0
    refine z_bipush (v := -2) hX dX10_asked_27 (by decide) ?_
    exact z_iret hX dX10_asked_29 h
  · replace h := h.2 c0
    refine z_iload_n hX dX10_asked_8 rfl 2 rfl ?_
    obtain ⟨r2, c9, h⟩ := h
    refine mcX10_97 hX dX10_asked_9 (by decide) (Nat.le_of_ble_eq_true rfl) c9 ?_
    refine z_if_eq hX 27 dX10_asked_12 (by decide) (fun c0 => ?_) (fun c0 => ?_)
    · replace h := h.1 c0
      refine z_bipush (v := -2) hX dX10_asked_27 (by decide) ?_
      exact z_iret hX dX10_asked_29 h
    · replace h := h.2 c0
      refine z_iload_n hX dX10_asked_15 rfl 3 rfl ?_
      refine z_i2l hX dX10_asked_16 ?_
      refine z_lconst (v := 1) hX dX10_asked_17 (by decide) ?_
      refine z_ldc2 (v := 50) hX dX10_asked_18 (z_w (List.mem_append_right _ (List.mem_of_getElem? (i := 1060) (by decide +kernel))) rfl) ?_
      obtain ⟨r3, c9, h⟩ := h
      refine mcX10_60 hX dX10_asked_21 (by decide) (Nat.le_of_ble_eq_true rfl) c9 ?_
      refine z_if_ne hX 30 dX10_asked_24 (by decide) (fun c0 => ?_) (fun c0 => ?_)
      · replace h := h.1 c0
        refine z_aload_n hX dX10_asked_30 rfl 0 rfl ?_
        refine z_iload_n hX dX10_asked_31 rfl 2 rfl ?_
        obtain ⟨q6, c9, h⟩ := h
        refine mcX10_120 hX dX10_asked_32 (by decide) (Nat.le_of_ble_eq_true rfl) c9 (fun M4 hq => ?_)
        replace h := h M4 hq
        refine z_aload_n hX dX10_asked_35 rfl 0 rfl ?_
        refine z_iload_n hX dX10_asked_36 rfl 1 rfl ?_
        refine z_iload_n hX dX10_asked_37 rfl 3 rfl ?_
        obtain ⟨r5, c9, h⟩ := h
        refine mcX10_185 hX dX10_asked_38 (by decide) (Nat.le_of_ble_eq_true rfl) c9 ?_
        exact z_iret hX dX10_asked_41 h
      · replace h := h.2 c0
        refine z_bipush (v := -2) hX dX10_asked_27 (by decide) ?_
        exact z_iret hX dX10_asked_29 h
abbrev LX10_layAsks_7 (X : XT) (Q : Option Value → Mem → Prop) (x2 : Int32) (x3 : Int32) (M : Mem) : Prop := Z SM X 4 4 Q 7 [(0, .ref (X.1.2.1 0)), (2, .int x2), (3, .int x3)] [] M
set_option maxRecDepth 100000 in
set_option maxHeartbeats 4000000 in
theorem EX10_layAsks {E : ET} {Q : Option Value → Mem → Prop} {x1 x2 : Int32} {M : Mem} (h : ∀ X : XT, X.1 = E → KX10_layAsks X → (∃ q2 : Mem → Prop, CX10_layLeads X.1 [.ref (X.1.2.1 0), .int x1] M (z_pV q2) ∧ ∀ (M1 : Mem), q2 M1 → LX10_layAsks_7 X Q x2 (0 : Int32) M1)) : CX10_layAsks E [.ref (E.2.1 0), .int x1, .int x2] M Q := by
  refine z_entry (by decide +kernel) (Nat.le_of_ble_eq_true rfl) (fun X hE hX => ?_)
  subst hE
  replace h := h X rfl hX
  show Z SM X 4 4 Q 0 [(0, .ref (X.1.2.1 0)), (1, .int x1), (2, .int x2)] [] M
  refine z_aload_n hX dX10_layAsks_0 rfl 0 rfl ?_
  refine z_iload_n hX dX10_layAsks_1 rfl 1 rfl ?_
  obtain ⟨q2, c9, h⟩ := h
  refine mcX10_120 hX dX10_layAsks_2 (by decide) (Nat.le_of_ble_eq_true rfl) c9 (fun M1 hq => ?_)
  replace h := h M1 hq
  refine z_iconst (v := 0) hX dX10_layAsks_5 (by decide) ?_
  refine z_istore_n hX dX10_layAsks_6 rfl (by decide) [(3, .int (0 : Int32)), (0, .ref (X.1.2.1 0)), (1, .int x1), (2, .int x2)] rfl ?_
  exact z_sub [1, 3, 0] rfl h
set_option maxRecDepth 100000 in
set_option maxHeartbeats 4000000 in
theorem BX10_layAsks_7 {X : XT} {Q : Option Value → Mem → Prop} (hX : KX10_layAsks X) {x2 x3 : Int32} {M : Mem} (h : ∃ (r1 : Int32), CX10_all X.1 [.ref (X.1.2.1 0)] M (z_is (some (.int r1)) M) ∧ ((r1 < x3 → Q none M) ∧ (¬ r1 < x3 → (∃ (r2 : Int32), CX10_askedOf X.1 [.ref (X.1.2.1 0), .int x3, .int x2] M (z_is (some (.int r2)) M) ∧ (vp_in x3 1024 ∧ (∀ M3 : Mem, M3 = z_st M 15 x3.toNatClampNeg r2 → LX10_layAsks_7 X Q x2 (x3 + (1 : Int32)) M3)))))) : LX10_layAsks_7 X Q x2 x3 M := by
  show Z SM X 4 4 Q 7 [(0, .ref (X.1.2.1 0)), (2, .int x2), (3, .int x3)] [] M
  refine z_iload_n hX dX10_layAsks_7 rfl 2 rfl ?_
  refine z_aload_n hX dX10_layAsks_8 rfl 0 rfl ?_
  obtain ⟨r1, c9, h⟩ := h
  refine mcX10_105 hX dX10_layAsks_9 (by decide) (Nat.le_of_ble_eq_true rfl) c9 ?_
  refine z_icmp_gt hX 33 dX10_layAsks_12 (by decide) (fun c0 => ?_) (fun c0 => ?_)
  · replace h := h.1 c0
    exact z_vret hX dX10_layAsks_33 h
  · replace h := h.2 c0
    refine z_aload_n hX dX10_layAsks_15 rfl 0 rfl ?_
    refine gfX10_57 hX dX10_layAsks_16 ?_
    refine z_iload_n hX dX10_layAsks_19 rfl 2 rfl ?_
    refine z_aload_n hX dX10_layAsks_20 rfl 0 rfl ?_
    refine z_iload_n hX dX10_layAsks_21 rfl 2 rfl ?_
    refine z_iload_n hX dX10_layAsks_22 rfl 1 rfl ?_
    obtain ⟨r2, c9, h⟩ := h
    refine mcX10_185 hX dX10_layAsks_23 (by decide) (Nat.le_of_ble_eq_true rfl) c9 ?_
    refine z_iastM hX 15 rfl h.1 dX10_layAsks_26 (fun M3 eM3 => ?_)
    replace h := h.2 M3 eM3
    refine z_iinc (v := x3 + (1 : Int32)) hX dX10_layAsks_27 2 rfl rfl (by decide) [(3, .int (x3 + (1 : Int32))), (0, .ref (X.1.2.1 0)), (2, .int x2)] rfl ?_
    refine z_goto hX 7 dX10_layAsks_30 (by decide) ?_
    exact z_sub [1, 2, 0] rfl h
abbrev LX10_gainOf_6 (X : XT) (Q : Option Value → Mem → Prop) (x1 : Int32) (x2 : Int32) (x3 : Int32) (x4 : Int32) (x5 : Int32) (M : Mem) : Prop := Z SM X 1 6 Q 6 [(0, .ref (X.1.2.1 0)), (1, .int x1), (2, .int x2), (3, .int x3), (4, .int x4), (5, .int x5)] [] M
set_option maxRecDepth 100000 in
set_option maxHeartbeats 4000000 in
theorem EX10_gainOf {E : ET} {Q : Option Value → Mem → Prop} {x1 x2 x3 : Int32} {M : Mem} (h : ∀ X : XT, X.1 = E → KX10_gainOf X → LX10_gainOf_6 X Q x1 x2 x3 (0 : Int32) (0 : Int32) M) : CX10_gainOf E [.ref (E.2.1 0), .int x1, .int x2, .int x3] M Q := by
  refine z_entry (by decide +kernel) (Nat.le_of_ble_eq_true rfl) (fun X hE hX => ?_)
  subst hE
  replace h := h X rfl hX
  show Z SM X 1 6 Q 0 [(0, .ref (X.1.2.1 0)), (1, .int x1), (2, .int x2), (3, .int x3)] [] M
  refine z_iconst (v := 0) hX dX10_gainOf_0 (by decide) ?_
  refine z_istore hX dX10_gainOf_1 (by decide) [(4, .int (0 : Int32)), (0, .ref (X.1.2.1 0)), (1, .int x1), (2, .int x2), (3, .int x3)] rfl ?_
  refine z_iconst (v := 0) hX dX10_gainOf_3 (by decide) ?_
  refine z_istore hX dX10_gainOf_4 (by decide) [(5, .int (0 : Int32)), (4, .int (0 : Int32)), (0, .ref (X.1.2.1 0)), (1, .int x1), (2, .int x2), (3, .int x3)] rfl ?_
  exact z_sub [2, 3, 4, 5, 1, 0] rfl h
set_option maxRecDepth 100000 in
set_option maxHeartbeats 4000000 in
theorem BX10_gainOf_6 {X : XT} {Q : Option Value → Mem → Prop} (hX : KX10_gainOf X) {x1 x2 x3 x4 x5 : Int32} {M : Mem} (h : ∃ (r1 : Int32), CX10_all X.1 [.ref (X.1.2.1 0)] M (z_is (some (.int r1)) M) ∧ ((r1 < x5 → Q (some (.int x4)) M) ∧ (¬ r1 < x5 → (vp_in x5 1024 ∧ ((x1 ≤ (M.1 15 x5.toNatClampNeg) → LX10_gainOf_6 X Q x1 x2 x3 (x4 + ((x3 * x1) - (x2 * x1))) (x5 + (1 : Int32)) M) ∧ (¬ x1 ≤ (M.1 15 x5.toNatClampNeg) → (vp_in x5 1024 ∧ LX10_gainOf_6 X Q x1 x2 x3 (x4 + ((x3 * (M.1 15 x5.toNatClampNeg)) - (x2 * x1))) (x5 + (1 : Int32)) M))))))) : LX10_gainOf_6 X Q x1 x2 x3 x4 x5 M := by
  show Z SM X 1 6 Q 6 [(0, .ref (X.1.2.1 0)), (1, .int x1), (2, .int x2), (3, .int x3), (4, .int x4), (5, .int x5)] [] M
  refine z_iload hX dX10_gainOf_6 5 rfl ?_
  refine z_aload_n hX dX10_gainOf_8 rfl 0 rfl ?_
  obtain ⟨r1, c9, h⟩ := h
  refine mcX10_105 hX dX10_gainOf_9 (by decide) (Nat.le_of_ble_eq_true rfl) c9 ?_
  refine z_icmp_gt hX 54 dX10_gainOf_12 (by decide) (fun c0 => ?_) (fun c0 => ?_)
  · replace h := h.1 c0
    refine z_iload hX dX10_gainOf_54 4 rfl ?_
    exact z_iret hX dX10_gainOf_56 h
  · replace h := h.2 c0
    refine z_iload hX dX10_gainOf_15 4 rfl ?_
    refine z_iload_n hX dX10_gainOf_17 rfl 3 rfl ?_
    refine z_aload_n hX dX10_gainOf_18 rfl 0 rfl ?_
    refine gfX10_57 hX dX10_gainOf_19 ?_
    refine z_iload hX dX10_gainOf_22 5 rfl ?_
    refine z_iald hX 15 rfl h.1 dX10_gainOf_24 ?_
    replace h := h.2
    refine z_iload_n hX dX10_gainOf_25 rfl 1 rfl ?_
    refine z_icmp_ge hX 39 dX10_gainOf_26 (by decide) (fun c0 => ?_) (fun c0 => ?_)
    · replace h := h.1 c0
      refine z_iload_n hX dX10_gainOf_39 rfl 1 rfl ?_
      refine z_imul hX dX10_gainOf_40 ?_
      refine z_iload_n hX dX10_gainOf_41 rfl 2 rfl ?_
      refine z_iload_n hX dX10_gainOf_42 rfl 1 rfl ?_
      refine z_imul hX dX10_gainOf_43 ?_
      refine z_isub hX dX10_gainOf_44 ?_
      refine z_iadd hX dX10_gainOf_45 ?_
      refine z_istore hX dX10_gainOf_46 (by decide) [(4, .int (x4 + ((x3 * x1) - (x2 * x1)))), (0, .ref (X.1.2.1 0)), (1, .int x1), (2, .int x2), (3, .int x3), (5, .int x5)] rfl ?_
      refine z_iinc (v := x5 + (1 : Int32)) hX dX10_gainOf_48 5 rfl rfl (by decide) [(5, .int (x5 + (1 : Int32))), (4, .int (x4 + ((x3 * x1) - (x2 * x1)))), (0, .ref (X.1.2.1 0)), (1, .int x1), (2, .int x2), (3, .int x3)] rfl ?_
      refine z_goto hX 6 dX10_gainOf_51 (by decide) ?_
      exact z_sub [2, 3, 4, 5, 1, 0] rfl h
    · replace h := h.2 c0
      refine z_aload_n hX dX10_gainOf_29 rfl 0 rfl ?_
      refine gfX10_57 hX dX10_gainOf_30 ?_
      refine z_iload hX dX10_gainOf_33 5 rfl ?_
      refine z_iald hX 15 rfl h.1 dX10_gainOf_35 ?_
      replace h := h.2
      refine z_goto hX 40 dX10_gainOf_36 (by decide) ?_
      refine z_imul hX dX10_gainOf_40 ?_
      refine z_iload_n hX dX10_gainOf_41 rfl 2 rfl ?_
      refine z_iload_n hX dX10_gainOf_42 rfl 1 rfl ?_
      refine z_imul hX dX10_gainOf_43 ?_
      refine z_isub hX dX10_gainOf_44 ?_
      refine z_iadd hX dX10_gainOf_45 ?_
      refine z_istore hX dX10_gainOf_46 (by decide) [(4, .int (x4 + ((x3 * (M.1 15 x5.toNatClampNeg)) - (x2 * x1)))), (0, .ref (X.1.2.1 0)), (1, .int x1), (2, .int x2), (3, .int x3), (5, .int x5)] rfl ?_
      refine z_iinc (v := x5 + (1 : Int32)) hX dX10_gainOf_48 5 rfl rfl (by decide) [(5, .int (x5 + (1 : Int32))), (4, .int (x4 + ((x3 * (M.1 15 x5.toNatClampNeg)) - (x2 * x1)))), (0, .ref (X.1.2.1 0)), (1, .int x1), (2, .int x2), (3, .int x3)] rfl ?_
      refine z_goto hX 6 dX10_gainOf_51 (by decide) ?_
      exact z_sub [2, 3, 4, 5, 1, 0] rfl h
set_option maxRecDepth 100000 in
set_option maxHeartbeats 4000000 in
theorem EX10_isShop {E : ET} {Q : Option Value → Mem → Prop} {x0 x1 x2 x3 : Int32} {M : Mem} (h : ∃ (r1 : Int32), CX10_isWay E [.int x0] M (z_is (some (.int r1)) M) ∧ ((r1 = 0 → Q (some (.int 0)) M) ∧ (¬ r1 = 0 → (∃ (r2 : Int32), CX10_in E [.long x1.toInt64, .long (1 : Int64), .long (50 : Int64)] M (z_is (some (.int r2)) M) ∧ ((r2 = 0 → Q (some (.int 0)) M) ∧ (¬ r2 = 0 → (∃ (r3 : Int32), CX10_in E [.long x2.toInt64, .long (1 : Int64), .long (99 : Int64)] M (z_is (some (.int r3)) M) ∧ ((r3 = 0 → Q (some (.int 0)) M) ∧ (¬ r3 = 0 → (∃ (r4 : Int32), CX10_in E [.long x3.toInt64, .long (1 : Int64), .long (99 : Int64)] M (z_is (some (.int r4)) M) ∧ ((r4 = 0 → Q (some (.int 0)) M) ∧ (¬ r4 = 0 → Q (some (.int 1)) M)))))))))))) : CX10_isShop E [.int x0, .int x1, .int x2, .int x3] M Q := by
  refine z_entry (by decide +kernel) (Nat.le_of_ble_eq_true rfl) (fun X hE hX => ?_)
  subst hE
  show Z SM X 2 4 Q 0 [(0, .int x0), (1, .int x1), (2, .int x2), (3, .int x3)] [] M
  refine z_iload_n hX dX10_isShop_0 rfl 0 rfl ?_
  obtain ⟨r1, c9, h⟩ := h
  refine mcX10_97 hX dX10_isShop_1 (by decide) (Nat.le_of_ble_eq_true rfl) c9 ?_
  refine z_if_eq hX 47 dX10_isShop_4 (by decide) (fun c0 => ?_) (fun c0 => ?_)
  · replace h := h.1 c0
    refine z_iconst (v := 0) hX dX10_isShop_47 (by decide) ?_
    exact z_zret hX dX10_isShop_48 (Or.inl rfl) h
  · replace h := h.2 c0
    refine z_iload_n hX dX10_isShop_7 rfl 1 rfl ?_
    refine z_i2l hX dX10_isShop_8 ?_
    refine z_lconst (v := 1) hX dX10_isShop_9 (by decide) ?_
    refine z_ldc2 (v := 50) hX dX10_isShop_10 (z_w (List.mem_append_right _ (List.mem_of_getElem? (i := 1060) (by decide +kernel))) rfl) ?_
    obtain ⟨r2, c9, h⟩ := h
    refine mcX10_60 hX dX10_isShop_13 (by decide) (Nat.le_of_ble_eq_true rfl) c9 ?_
    refine z_if_eq hX 47 dX10_isShop_16 (by decide) (fun c0 => ?_) (fun c0 => ?_)
    · replace h := h.1 c0
      refine z_iconst (v := 0) hX dX10_isShop_47 (by decide) ?_
      exact z_zret hX dX10_isShop_48 (Or.inl rfl) h
    · replace h := h.2 c0
      refine z_iload_n hX dX10_isShop_19 rfl 2 rfl ?_
      refine z_i2l hX dX10_isShop_20 ?_
      refine z_lconst (v := 1) hX dX10_isShop_21 (by decide) ?_
      refine z_ldc2 (v := 99) hX dX10_isShop_22 (z_w (List.mem_append_right _ (List.mem_of_getElem? (i := 1072) (by decide +kernel))) rfl) ?_
      obtain ⟨r3, c9, h⟩ := h
      refine mcX10_60 hX dX10_isShop_25 (by decide) (Nat.le_of_ble_eq_true rfl) c9 ?_
      refine z_if_eq hX 47 dX10_isShop_28 (by decide) (fun c0 => ?_) (fun c0 => ?_)
      · replace h := h.1 c0
        refine z_iconst (v := 0) hX dX10_isShop_47 (by decide) ?_
        exact z_zret hX dX10_isShop_48 (Or.inl rfl) h
      · replace h := h.2 c0
        refine z_iload_n hX dX10_isShop_31 rfl 3 rfl ?_
        refine z_i2l hX dX10_isShop_32 ?_
        refine z_lconst (v := 1) hX dX10_isShop_33 (by decide) ?_
        refine z_ldc2 (v := 99) hX dX10_isShop_34 (z_w (List.mem_append_right _ (List.mem_of_getElem? (i := 1072) (by decide +kernel))) rfl) ?_
        obtain ⟨r4, c9, h⟩ := h
        refine mcX10_60 hX dX10_isShop_37 (by decide) (Nat.le_of_ble_eq_true rfl) c9 ?_
        refine z_if_eq hX 47 dX10_isShop_40 (by decide) (fun c0 => ?_) (fun c0 => ?_)
        · replace h := h.1 c0
          refine z_iconst (v := 0) hX dX10_isShop_47 (by decide) ?_
          exact z_zret hX dX10_isShop_48 (Or.inl rfl) h
        · replace h := h.2 c0
          refine z_iconst (v := 1) hX dX10_isShop_43 (by decide) ?_
          refine z_goto hX 48 dX10_isShop_44 (by decide) ?_
          exact z_zret hX dX10_isShop_48 (Or.inr rfl) h
set_option maxRecDepth 100000 in
set_option maxHeartbeats 4000000 in
theorem EX10_gain {E : ET} {Q : Option Value → Mem → Prop} {x1 x2 x3 x4 x5 : Int32} {M : Mem} (h : ∃ (r1 : Int32), CX10_isShop E [.int x1, .int x2, .int x4, .int x5] M (z_is (some (.int r1)) M) ∧ ((r1 = 0 → Q (some (.int (-2 : Int32))) M) ∧ (¬ r1 = 0 → (∃ (r2 : Int32), CX10_in E [.long x3.toInt64, .long (0 : Int64), .long (500 : Int64)] M (z_is (some (.int r2)) M) ∧ ((¬ r2 = 0 → (∃ q5 : Mem → Prop, CX10_layAsks E [.ref (E.2.1 0), .int x1, .int x2] M (z_pV q5) ∧ ∀ (M3 : Mem), q5 M3 → (∃ (r4 : Int32), CX10_gainOf E [.ref (E.2.1 0), .int x3, .int x4, .int x5] M3 (z_is (some (.int r4)) M3) ∧ Q (some (.int r4)) M3))) ∧ (r2 = 0 → Q (some (.int (-2 : Int32))) M)))))) : CX10_gain E [.ref (E.2.1 0), .int x1, .int x2, .int x3, .int x4, .int x5] M Q := by
  refine z_entry (by decide +kernel) (Nat.le_of_ble_eq_true rfl) (fun X hE hX => ?_)
  subst hE
  show Z SM X 5 6 Q 0 [(0, .ref (X.1.2.1 0)), (1, .int x1), (2, .int x2), (3, .int x3), (4, .int x4), (5, .int x5)] [] M
  refine z_iload_n hX dX10_gain_0 rfl 1 rfl ?_
  refine z_iload_n hX dX10_gain_1 rfl 2 rfl ?_
  refine z_iload hX dX10_gain_2 4 rfl ?_
  refine z_iload hX dX10_gain_4 5 rfl ?_
  obtain ⟨r1, c9, h⟩ := h
  refine mcX10_190 hX dX10_gain_6 (by decide) (Nat.le_of_ble_eq_true rfl) c9 ?_
  refine z_if_eq hX 24 dX10_gain_9 (by decide) (fun c0 => ?_) (fun c0 => ?_)
  · replace h := h.1 c0
    refine z_bipush (v := -2) hX dX10_gain_24 (by decide) ?_
    exact z_iret hX dX10_gain_26 h
  · replace h := h.2 c0
    refine z_iload_n hX dX10_gain_12 rfl 3 rfl ?_
    refine z_i2l hX dX10_gain_13 ?_
    refine z_lconst (v := 0) hX dX10_gain_14 (by decide) ?_
    refine z_ldc2 (v := 500) hX dX10_gain_15 (z_w (List.mem_append_right _ (List.mem_of_getElem? (i := 1073) (by decide +kernel))) rfl) ?_
    obtain ⟨r2, c9, h⟩ := h
    refine mcX10_60 hX dX10_gain_18 (by decide) (Nat.le_of_ble_eq_true rfl) c9 ?_
    refine z_if_ne hX 27 dX10_gain_21 (by decide) (fun c0 => ?_) (fun c0 => ?_)
    · replace h := h.1 c0
      refine z_aload_n hX dX10_gain_27 rfl 0 rfl ?_
      refine z_iload_n hX dX10_gain_28 rfl 1 rfl ?_
      refine z_iload_n hX dX10_gain_29 rfl 2 rfl ?_
      obtain ⟨q5, c9, h⟩ := h
      refine mcX10_196 hX dX10_gain_30 (by decide) (Nat.le_of_ble_eq_true rfl) c9 (fun M3 hq => ?_)
      replace h := h M3 hq
      refine z_aload_n hX dX10_gain_33 rfl 0 rfl ?_
      refine z_iload_n hX dX10_gain_34 rfl 3 rfl ?_
      refine z_iload hX dX10_gain_35 4 rfl ?_
      refine z_iload hX dX10_gain_37 5 rfl ?_
      obtain ⟨r4, c9, h⟩ := h
      refine mcX10_200 hX dX10_gain_39 (by decide) (Nat.le_of_ble_eq_true rfl) c9 ?_
      exact z_iret hX dX10_gain_42 h
    · replace h := h.2 c0
      refine z_bipush (v := -2) hX dX10_gain_24 (by decide) ?_
      exact z_iret hX dX10_gain_26 h
abbrev LX10_order_29 (X : XT) (Q : Option Value → Mem → Prop) (x3 : Int32) (x4 : Int32) (x5 : Int32) (x6 : Int32) (x7 : Int32) (M : Mem) : Prop := Z SM X 5 9 Q 29 [(0, .ref (X.1.2.1 0)), (3, .int x3), (4, .int x4), (5, .int x5), (6, .int x6), (7, .int x7)] [] M
set_option maxRecDepth 100000 in
set_option maxHeartbeats 4000000 in
theorem EX10_order {E : ET} {Q : Option Value → Mem → Prop} {x1 x2 x3 x4 : Int32} {M : Mem} (h : ∀ X : XT, X.1 = E → KX10_order X → (∃ (r1 : Int32), CX10_isShop X.1 [.int x1, .int x2, .int x3, .int x4] M (z_is (some (.int r1)) M) ∧ ((¬ r1 = 0 → (∃ q3 : Mem → Prop, CX10_layAsks X.1 [.ref (X.1.2.1 0), .int x1, .int x2] M (z_pV q3) ∧ ∀ (M2 : Mem), q3 M2 → LX10_order_29 X Q x3 x4 (0 : Int32) (0 : Int32) (1 : Int32) M2)) ∧ (r1 = 0 → Q (some (.int (-2 : Int32))) M)))) : CX10_order E [.ref (E.2.1 0), .int x1, .int x2, .int x3, .int x4] M Q := by
  refine z_entry (by decide +kernel) (Nat.le_of_ble_eq_true rfl) (fun X hE hX => ?_)
  subst hE
  replace h := h X rfl hX
  show Z SM X 5 9 Q 0 [(0, .ref (X.1.2.1 0)), (1, .int x1), (2, .int x2), (3, .int x3), (4, .int x4)] [] M
  refine z_iload_n hX dX10_order_0 rfl 1 rfl ?_
  refine z_iload_n hX dX10_order_1 rfl 2 rfl ?_
  refine z_iload_n hX dX10_order_2 rfl 3 rfl ?_
  refine z_iload hX dX10_order_3 4 rfl ?_
  obtain ⟨r1, c9, h⟩ := h
  refine mcX10_190 hX dX10_order_5 (by decide) (Nat.le_of_ble_eq_true rfl) c9 ?_
  refine z_if_ne hX 14 dX10_order_8 (by decide) (fun c0 => ?_) (fun c0 => ?_)
  · replace h := h.1 c0
    refine z_aload_n hX dX10_order_14 rfl 0 rfl ?_
    refine z_iload_n hX dX10_order_15 rfl 1 rfl ?_
    refine z_iload_n hX dX10_order_16 rfl 2 rfl ?_
    obtain ⟨q3, c9, h⟩ := h
    refine mcX10_196 hX dX10_order_17 (by decide) (Nat.le_of_ble_eq_true rfl) c9 (fun M2 hq => ?_)
    replace h := h M2 hq
    refine z_iconst (v := 0) hX dX10_order_20 (by decide) ?_
    refine z_istore hX dX10_order_21 (by decide) [(5, .int (0 : Int32)), (0, .ref (X.1.2.1 0)), (1, .int x1), (2, .int x2), (3, .int x3), (4, .int x4)] rfl ?_
    refine z_iconst (v := 0) hX dX10_order_23 (by decide) ?_
    refine z_istore hX dX10_order_24 (by decide) [(6, .int (0 : Int32)), (5, .int (0 : Int32)), (0, .ref (X.1.2.1 0)), (1, .int x1), (2, .int x2), (3, .int x3), (4, .int x4)] rfl ?_
    refine z_iconst (v := 1) hX dX10_order_26 (by decide) ?_
    refine z_istore hX dX10_order_27 (by decide) [(7, .int (1 : Int32)), (6, .int (0 : Int32)), (5, .int (0 : Int32)), (0, .ref (X.1.2.1 0)), (1, .int x1), (2, .int x2), (3, .int x3), (4, .int x4)] rfl ?_
    exact z_sub [3, 6, 7, 2, 1, 0] rfl h
  · replace h := h.2 c0
    refine z_bipush (v := -2) hX dX10_order_11 (by decide) ?_
    exact z_iret hX dX10_order_13 h
set_option maxRecDepth 100000 in
set_option maxHeartbeats 4000000 in
theorem BX10_order_29 {X : XT} {Q : Option Value → Mem → Prop} (hX : KX10_order X) {x3 x4 x5 x6 x7 : Int32} {M : Mem} (h : (((501 : Int32) ≤ x7 → Q (some (.int x5)) M) ∧ (¬ (501 : Int32) ≤ x7 → (∃ (r1 : Int32), CX10_gainOf X.1 [.ref (X.1.2.1 0), .int x7, .int x3, .int x4] M (z_is (some (.int r1)) M) ∧ ((r1 ≤ x6 → ((r1 ≤ x6 → LX10_order_29 X Q x3 x4 x5 x6 (x7 + (1 : Int32)) M) ∧ (¬ r1 ≤ x6 → LX10_order_29 X Q x3 x4 x5 r1 (x7 + (1 : Int32)) M))) ∧ (¬ r1 ≤ x6 → ((r1 ≤ x6 → LX10_order_29 X Q x3 x4 x7 x6 (x7 + (1 : Int32)) M) ∧ (¬ r1 ≤ x6 → LX10_order_29 X Q x3 x4 x7 r1 (x7 + (1 : Int32)) M)))))))) : LX10_order_29 X Q x3 x4 x5 x6 x7 M := by
  show Z SM X 5 9 Q 29 [(0, .ref (X.1.2.1 0)), (3, .int x3), (4, .int x4), (5, .int x5), (6, .int x6), (7, .int x7)] [] M
  refine z_iload hX dX10_order_29 5 rfl ?_
  refine z_sipush (v := 501) hX dX10_order_31 (by decide) ?_
  refine z_icmp_ge hX 86 dX10_order_34 (by decide) (fun c0 => ?_) (fun c0 => ?_)
  · replace h := h.1 c0
    refine z_iload hX dX10_order_86 3 rfl ?_
    exact z_iret hX dX10_order_88 h
  · replace h := h.2 c0
    refine z_aload_n hX dX10_order_37 rfl 0 rfl ?_
    refine z_iload hX dX10_order_38 5 rfl ?_
    refine z_iload_n hX dX10_order_40 rfl 1 rfl ?_
    refine z_iload hX dX10_order_41 2 rfl ?_
    obtain ⟨r1, c9, h⟩ := h
    refine mcX10_200 hX dX10_order_43 (by decide) (Nat.le_of_ble_eq_true rfl) c9 ?_
    refine z_istore hX dX10_order_46 (by decide) [(8, .int r1), (0, .ref (X.1.2.1 0)), (3, .int x3), (4, .int x4), (5, .int x5), (6, .int x6), (7, .int x7)] rfl ?_
    refine z_iload hX dX10_order_48 0 rfl ?_
    refine z_iload hX dX10_order_50 5 rfl ?_
    refine z_icmp_le hX 60 dX10_order_52 (by decide) (fun c0 => ?_) (fun c0 => ?_)
    · replace h := h.1 c0
      refine z_iload hX dX10_order_60 4 rfl ?_
      refine z_istore hX dX10_order_62 (by decide) [(5, .int x5), (8, .int r1), (0, .ref (X.1.2.1 0)), (3, .int x3), (4, .int x4), (6, .int x6), (7, .int x7)] rfl ?_
      refine z_iload hX dX10_order_64 1 rfl ?_
      refine z_iload hX dX10_order_66 5 rfl ?_
      refine z_icmp_le hX 76 dX10_order_68 (by decide) (fun c0 => ?_) (fun c0 => ?_)
      · replace h := h.1 c0
        refine z_iload hX dX10_order_76 5 rfl ?_
        refine z_istore hX dX10_order_78 (by decide) [(6, .int x6), (5, .int x5), (8, .int r1), (0, .ref (X.1.2.1 0)), (3, .int x3), (4, .int x4), (7, .int x7)] rfl ?_
        refine z_iinc (v := x7 + (1 : Int32)) hX dX10_order_80 6 rfl rfl (by decide) [(7, .int (x7 + (1 : Int32))), (6, .int x6), (5, .int x5), (8, .int r1), (0, .ref (X.1.2.1 0)), (3, .int x3), (4, .int x4)] rfl ?_
        refine z_goto hX 29 dX10_order_83 (by decide) ?_
        exact z_sub [4, 5, 6, 2, 1, 0] rfl h
      · replace h := h.2 c0
        refine z_iload hX dX10_order_71 1 rfl ?_
        refine z_goto hX 78 dX10_order_73 (by decide) ?_
        refine z_istore hX dX10_order_78 (by decide) [(6, .int r1), (5, .int x5), (8, .int r1), (0, .ref (X.1.2.1 0)), (3, .int x3), (4, .int x4), (7, .int x7)] rfl ?_
        refine z_iinc (v := x7 + (1 : Int32)) hX dX10_order_80 6 rfl rfl (by decide) [(7, .int (x7 + (1 : Int32))), (6, .int r1), (5, .int x5), (8, .int r1), (0, .ref (X.1.2.1 0)), (3, .int x3), (4, .int x4)] rfl ?_
        refine z_goto hX 29 dX10_order_83 (by decide) ?_
        exact z_sub [4, 5, 6, 2, 1, 0] rfl h
    · replace h := h.2 c0
      refine z_iload hX dX10_order_55 6 rfl ?_
      refine z_goto hX 62 dX10_order_57 (by decide) ?_
      refine z_istore hX dX10_order_62 (by decide) [(5, .int x7), (8, .int r1), (0, .ref (X.1.2.1 0)), (3, .int x3), (4, .int x4), (6, .int x6), (7, .int x7)] rfl ?_
      refine z_iload hX dX10_order_64 1 rfl ?_
      refine z_iload hX dX10_order_66 5 rfl ?_
      refine z_icmp_le hX 76 dX10_order_68 (by decide) (fun c0 => ?_) (fun c0 => ?_)
      · replace h := h.1 c0
        refine z_iload hX dX10_order_76 5 rfl ?_
        refine z_istore hX dX10_order_78 (by decide) [(6, .int x6), (5, .int x7), (8, .int r1), (0, .ref (X.1.2.1 0)), (3, .int x3), (4, .int x4), (7, .int x7)] rfl ?_
        refine z_iinc (v := x7 + (1 : Int32)) hX dX10_order_80 6 rfl rfl (by decide) [(7, .int (x7 + (1 : Int32))), (6, .int x6), (5, .int x7), (8, .int r1), (0, .ref (X.1.2.1 0)), (3, .int x3), (4, .int x4)] rfl ?_
        refine z_goto hX 29 dX10_order_83 (by decide) ?_
        exact z_sub [4, 5, 6, 2, 1, 0] rfl h
      · replace h := h.2 c0
        refine z_iload hX dX10_order_71 1 rfl ?_
        refine z_goto hX 78 dX10_order_73 (by decide) ?_
        refine z_istore hX dX10_order_78 (by decide) [(6, .int r1), (5, .int x7), (8, .int r1), (0, .ref (X.1.2.1 0)), (3, .int x3), (4, .int x4), (7, .int x7)] rfl ?_
        refine z_iinc (v := x7 + (1 : Int32)) hX dX10_order_80 6 rfl rfl (by decide) [(7, .int (x7 + (1 : Int32))), (6, .int r1), (5, .int x7), (8, .int r1), (0, .ref (X.1.2.1 0)), (3, .int x3), (4, .int x4)] rfl ?_
        refine z_goto hX 29 dX10_order_83 (by decide) ?_
        exact z_sub [4, 5, 6, 2, 1, 0] rfl h
abbrev LX10_count_10 (X : XT) (Q : Option Value → Mem → Prop) (x1 : Int32) (x2 : Int32) (x3 : Int32) (x4 : Int32) (x5 : Int32) (M : Mem) : Prop := Z SM X 0 6 Q 10 [(0, .ref (X.1.2.1 0)), (1, .int x1), (2, .int x2), (3, .int x3), (4, .int x4), (5, .int x5)] [] M
abbrev LX10_count_44 (X : XT) (Q : Option Value → Mem → Prop) (x1 : Int32) (x2 : Int32) (x3 : Int32) (x4 : Int32) (x5 : Int32) (M : Mem) : Prop := Z SM X 0 6 Q 44 [(0, .ref (X.1.2.1 0)), (1, .int x1), (2, .int x2), (3, .int x3), (4, .int x4), (5, .int x5)] [] M
set_option maxRecDepth 100000 in
set_option maxHeartbeats 4000000 in
theorem EX10_count {E : ET} {Q : Option Value → Mem → Prop} {x1 : Int32} {M : Mem} (h : ∀ X : XT, X.1 = E → KX10_count X → LX10_count_10 X Q x1 (0 : Int32) (0 : Int32) (0 : Int32) (0 : Int32) M) : CX10_count E [.ref (E.2.1 0), .int x1] M Q := by
  refine z_entry (by decide +kernel) (Nat.le_of_ble_eq_true rfl) (fun X hE hX => ?_)
  subst hE
  replace h := h X rfl hX
  show Z SM X 0 6 Q 0 [(0, .ref (X.1.2.1 0)), (1, .int x1)] [] M
  refine z_iconst (v := 0) hX dX10_count_0 (by decide) ?_
  refine z_istore_n hX dX10_count_1 rfl (by decide) [(2, .int (0 : Int32)), (0, .ref (X.1.2.1 0)), (1, .int x1)] rfl ?_
  refine z_iconst (v := 0) hX dX10_count_2 (by decide) ?_
  refine z_istore_n hX dX10_count_3 rfl (by decide) [(3, .int (0 : Int32)), (2, .int (0 : Int32)), (0, .ref (X.1.2.1 0)), (1, .int x1)] rfl ?_
  refine z_iconst (v := 0) hX dX10_count_4 (by decide) ?_
  refine z_istore hX dX10_count_5 (by decide) [(4, .int (0 : Int32)), (3, .int (0 : Int32)), (2, .int (0 : Int32)), (0, .ref (X.1.2.1 0)), (1, .int x1)] rfl ?_
  refine z_iconst (v := 0) hX dX10_count_7 (by decide) ?_
  refine z_istore hX dX10_count_8 (by decide) [(5, .int (0 : Int32)), (4, .int (0 : Int32)), (3, .int (0 : Int32)), (2, .int (0 : Int32)), (0, .ref (X.1.2.1 0)), (1, .int x1)] rfl ?_
  exact z_sub [4, 5, 3, 2, 1, 0] rfl h
set_option maxRecDepth 100000 in
set_option maxHeartbeats 4000000 in
theorem BX10_count_10 {X : XT} {Q : Option Value → Mem → Prop} (hX : KX10_count X) {x1 x2 x3 x4 x5 : Int32} {M : Mem} (h : (((100 : Int32) ≤ x5 → LX10_count_44 X Q x1 x2 x3 x4 (0 : Int32) M) ∧ (¬ (100 : Int32) ≤ x5 → (vp_in x5 100 ∧ (((M.1 1 x5.toNatClampNeg) ≤ 0 → LX10_count_10 X Q x1 (x2 + (0 : Int32)) x3 x4 (x5 + (1 : Int32)) M) ∧ (¬ (M.1 1 x5.toNatClampNeg) ≤ 0 → LX10_count_10 X Q x1 (x2 + (1 : Int32)) x3 x4 (x5 + (1 : Int32)) M)))))) : LX10_count_10 X Q x1 x2 x3 x4 x5 M := by
  show Z SM X 0 6 Q 10 [(0, .ref (X.1.2.1 0)), (1, .int x1), (2, .int x2), (3, .int x3), (4, .int x4), (5, .int x5)] [] M
  refine z_iload hX dX10_count_10 5 rfl ?_
  refine z_bipush (v := 100) hX dX10_count_12 (by decide) ?_
  refine z_icmp_ge hX 41 dX10_count_14 (by decide) (fun c0 => ?_) (fun c0 => ?_)
  · replace h := h.1 c0
    refine z_iconst (v := 0) hX dX10_count_41 (by decide) ?_
    refine z_istore hX dX10_count_42 (by decide) [(5, .int (0 : Int32)), (0, .ref (X.1.2.1 0)), (1, .int x1), (2, .int x2), (3, .int x3), (4, .int x4)] rfl ?_
    exact z_sub [1, 2, 3, 4, 5, 0] rfl h
  · replace h := h.2 c0
    refine z_iload_n hX dX10_count_17 rfl 2 rfl ?_
    refine z_aload_n hX dX10_count_18 rfl 0 rfl ?_
    refine gfX10_13 hX dX10_count_19 ?_
    refine z_iload hX dX10_count_22 5 rfl ?_
    refine z_iald hX 1 rfl h.1 dX10_count_24 ?_
    replace h := h.2
    refine z_if_le hX 32 dX10_count_25 (by decide) (fun c0 => ?_) (fun c0 => ?_)
    · replace h := h.1 c0
      refine z_iconst (v := 0) hX dX10_count_32 (by decide) ?_
      refine z_iadd hX dX10_count_33 ?_
      refine z_istore_n hX dX10_count_34 rfl (by decide) [(2, .int (x2 + (0 : Int32))), (0, .ref (X.1.2.1 0)), (1, .int x1), (3, .int x3), (4, .int x4), (5, .int x5)] rfl ?_
      refine z_iinc (v := x5 + (1 : Int32)) hX dX10_count_35 5 rfl rfl (by decide) [(5, .int (x5 + (1 : Int32))), (2, .int (x2 + (0 : Int32))), (0, .ref (X.1.2.1 0)), (1, .int x1), (3, .int x3), (4, .int x4)] rfl ?_
      refine z_goto hX 10 dX10_count_38 (by decide) ?_
      exact z_sub [2, 3, 1, 4, 5, 0] rfl h
    · replace h := h.2 c0
      refine z_iconst (v := 1) hX dX10_count_28 (by decide) ?_
      refine z_goto hX 33 dX10_count_29 (by decide) ?_
      refine z_iadd hX dX10_count_33 ?_
      refine z_istore_n hX dX10_count_34 rfl (by decide) [(2, .int (x2 + (1 : Int32))), (0, .ref (X.1.2.1 0)), (1, .int x1), (3, .int x3), (4, .int x4), (5, .int x5)] rfl ?_
      refine z_iinc (v := x5 + (1 : Int32)) hX dX10_count_35 5 rfl rfl (by decide) [(5, .int (x5 + (1 : Int32))), (2, .int (x2 + (1 : Int32))), (0, .ref (X.1.2.1 0)), (1, .int x1), (3, .int x3), (4, .int x4)] rfl ?_
      refine z_goto hX 10 dX10_count_38 (by decide) ?_
      exact z_sub [2, 3, 1, 4, 5, 0] rfl h
set_option maxRecDepth 100000 in
set_option maxHeartbeats 4000000 in
theorem BX10_count_44 {X : XT} {Q : Option Value → Mem → Prop} (hX : KX10_count X) {x1 x2 x3 x4 x5 : Int32} {M : Mem} (h : (((M.1 0 0) ≤ x5 → (((x1.toInt < 0 ∨ 4 < x1.toInt) → Q (some (.int (-2 : Int32))) M) ∧ (x1 = 0 → Q (some (.int (M.1 0 0))) M) ∧ (x1 = 1 → Q (some (.int x2)) M) ∧ (x1 = 2 → Q (some (.int (M.1 0 18))) M) ∧ (x1 = 3 → Q (some (.int x3)) M) ∧ (x1 = 4 → Q (some (.int x4)) M))) ∧ (¬ (M.1 0 0) ≤ x5 → (vp_in x5 10 ∧ ((¬ (M.1 2 x5.toNatClampNeg) = 0 → (vp_in x5 10 ∧ ((¬ (M.1 2 x5.toNatClampNeg) = (1 : Int32) → LX10_count_44 X Q x1 x2 (x3 + (0 : Int32)) (x4 + (0 : Int32)) (x5 + (1 : Int32)) M) ∧ ((M.1 2 x5.toNatClampNeg) = (1 : Int32) → LX10_count_44 X Q x1 x2 (x3 + (0 : Int32)) (x4 + (1 : Int32)) (x5 + (1 : Int32)) M)))) ∧ ((M.1 2 x5.toNatClampNeg) = 0 → (vp_in x5 10 ∧ ((¬ (M.1 2 x5.toNatClampNeg) = (1 : Int32) → LX10_count_44 X Q x1 x2 (x3 + (1 : Int32)) (x4 + (0 : Int32)) (x5 + (1 : Int32)) M) ∧ ((M.1 2 x5.toNatClampNeg) = (1 : Int32) → LX10_count_44 X Q x1 x2 (x3 + (1 : Int32)) (x4 + (1 : Int32)) (x5 + (1 : Int32)) M))))))))) : LX10_count_44 X Q x1 x2 x3 x4 x5 M := by
  show Z SM X 0 6 Q 44 [(0, .ref (X.1.2.1 0)), (1, .int x1), (2, .int x2), (3, .int x3), (4, .int x4), (5, .int x5)] [] M
  refine z_iload hX dX10_count_44 5 rfl ?_
  refine z_aload_n hX dX10_count_46 rfl 0 rfl ?_
  refine gfX10_7 hX dX10_count_47 ?_
  refine z_icmp_ge hX 98 dX10_count_50 (by decide) (fun c0 => ?_) (fun c0 => ?_)
  · replace h := h.1 c0
    refine z_iload_n hX dX10_count_98 rfl 1 rfl ?_
    by_cases c0 : x1.toInt < 0 ∨ 4 < x1.toInt
    · replace h := h.1 c0
      refine z_tableOut hX 149 dX10_count_99 c0 (by decide) ?_
      refine z_bipush (v := -2) hX dX10_count_149 (by decide) ?_
      exact z_iret hX dX10_count_151 h
    · have c1 := z_tab5 c0
      replace h := h.2
      rcases c1 with c2 | c2 | c2 | c2 | c2
      · replace h := h.1 c2
        refine z_tableIn hX 132 dX10_count_99 (by rw [c2]; decide) (by rw [c2]; decide) (by rw [c2]; rfl) (by decide) ?_
        refine z_aload_n hX dX10_count_132 rfl 0 rfl ?_
        refine gfX10_7 hX dX10_count_133 ?_
        exact z_iret hX dX10_count_136 h
      · replace h := h.2.1 c2
        refine z_tableIn hX 137 dX10_count_99 (by rw [c2]; decide) (by rw [c2]; decide) (by rw [c2]; rfl) (by decide) ?_
        refine z_iload_n hX dX10_count_137 rfl 2 rfl ?_
        exact z_iret hX dX10_count_138 h
      · replace h := h.2.2.1 c2
        refine z_tableIn hX 139 dX10_count_99 (by rw [c2]; decide) (by rw [c2]; decide) (by rw [c2]; rfl) (by decide) ?_
        refine z_aload_n hX dX10_count_139 rfl 0 rfl ?_
        refine gfX10_66 hX dX10_count_140 ?_
        exact z_iret hX dX10_count_143 h
      · replace h := h.2.2.2.1 c2
        refine z_tableIn hX 144 dX10_count_99 (by rw [c2]; decide) (by rw [c2]; decide) (by rw [c2]; rfl) (by decide) ?_
        refine z_iload_n hX dX10_count_144 rfl 3 rfl ?_
        exact z_iret hX dX10_count_145 h
      · replace h := h.2.2.2.2 c2
        refine z_tableIn hX 146 dX10_count_99 (by rw [c2]; decide) (by rw [c2]; decide) (by rw [c2]; rfl) (by decide) ?_
        refine z_iload hX dX10_count_146 4 rfl ?_
        exact z_iret hX dX10_count_148 h
  · replace h := h.2 c0
    refine z_iload_n hX dX10_count_53 rfl 3 rfl ?_
    refine z_aload_n hX dX10_count_54 rfl 0 rfl ?_
    refine gfX10_17 hX dX10_count_55 ?_
    refine z_iload hX dX10_count_58 5 rfl ?_
    refine z_iald hX 2 rfl h.1 dX10_count_60 ?_
    replace h := h.2
    refine z_if_ne hX 68 dX10_count_61 (by decide) (fun c0 => ?_) (fun c0 => ?_)
    · replace h := h.1 c0
      refine z_iconst (v := 0) hX dX10_count_68 (by decide) ?_
      refine z_iadd hX dX10_count_69 ?_
      refine z_istore_n hX dX10_count_70 rfl (by decide) [(3, .int (x3 + (0 : Int32))), (0, .ref (X.1.2.1 0)), (1, .int x1), (2, .int x2), (4, .int x4), (5, .int x5)] rfl ?_
      refine z_iload hX dX10_count_71 4 rfl ?_
      refine z_aload_n hX dX10_count_73 rfl 1 rfl ?_
      refine gfX10_17 hX dX10_count_74 ?_
      refine z_iload hX dX10_count_77 5 rfl ?_
      refine z_iald hX 2 rfl h.1 dX10_count_79 ?_
      replace h := h.2
      refine z_iconst (v := 1) hX dX10_count_80 (by decide) ?_
      refine z_icmp_ne hX 88 dX10_count_81 (by decide) (fun c0 => ?_) (fun c0 => ?_)
      · replace h := h.1 c0
        refine z_iconst (v := 0) hX dX10_count_88 (by decide) ?_
        refine z_iadd hX dX10_count_89 ?_
        refine z_istore hX dX10_count_90 (by decide) [(4, .int (x4 + (0 : Int32))), (3, .int (x3 + (0 : Int32))), (0, .ref (X.1.2.1 0)), (1, .int x1), (2, .int x2), (5, .int x5)] rfl ?_
        refine z_iinc (v := x5 + (1 : Int32)) hX dX10_count_92 5 rfl rfl (by decide) [(5, .int (x5 + (1 : Int32))), (4, .int (x4 + (0 : Int32))), (3, .int (x3 + (0 : Int32))), (0, .ref (X.1.2.1 0)), (1, .int x1), (2, .int x2)] rfl ?_
        refine z_goto hX 44 dX10_count_95 (by decide) ?_
        exact z_sub [3, 4, 5, 2, 1, 0] rfl h
      · replace h := h.2 c0
        refine z_iconst (v := 1) hX dX10_count_84 (by decide) ?_
        refine z_goto hX 89 dX10_count_85 (by decide) ?_
        refine z_iadd hX dX10_count_89 ?_
        refine z_istore hX dX10_count_90 (by decide) [(4, .int (x4 + (1 : Int32))), (3, .int (x3 + (0 : Int32))), (0, .ref (X.1.2.1 0)), (1, .int x1), (2, .int x2), (5, .int x5)] rfl ?_
        refine z_iinc (v := x5 + (1 : Int32)) hX dX10_count_92 5 rfl rfl (by decide) [(5, .int (x5 + (1 : Int32))), (4, .int (x4 + (1 : Int32))), (3, .int (x3 + (0 : Int32))), (0, .ref (X.1.2.1 0)), (1, .int x1), (2, .int x2)] rfl ?_
        refine z_goto hX 44 dX10_count_95 (by decide) ?_
        exact z_sub [3, 4, 5, 2, 1, 0] rfl h
    · replace h := h.2 c0
      refine z_iconst (v := 1) hX dX10_count_64 (by decide) ?_
      refine z_goto hX 69 dX10_count_65 (by decide) ?_
      refine z_iadd hX dX10_count_69 ?_
      refine z_istore_n hX dX10_count_70 rfl (by decide) [(3, .int (x3 + (1 : Int32))), (0, .ref (X.1.2.1 0)), (1, .int x1), (2, .int x2), (4, .int x4), (5, .int x5)] rfl ?_
      refine z_iload hX dX10_count_71 4 rfl ?_
      refine z_aload_n hX dX10_count_73 rfl 1 rfl ?_
      refine gfX10_17 hX dX10_count_74 ?_
      refine z_iload hX dX10_count_77 5 rfl ?_
      refine z_iald hX 2 rfl h.1 dX10_count_79 ?_
      replace h := h.2
      refine z_iconst (v := 1) hX dX10_count_80 (by decide) ?_
      refine z_icmp_ne hX 88 dX10_count_81 (by decide) (fun c0 => ?_) (fun c0 => ?_)
      · replace h := h.1 c0
        refine z_iconst (v := 0) hX dX10_count_88 (by decide) ?_
        refine z_iadd hX dX10_count_89 ?_
        refine z_istore hX dX10_count_90 (by decide) [(4, .int (x4 + (0 : Int32))), (3, .int (x3 + (1 : Int32))), (0, .ref (X.1.2.1 0)), (1, .int x1), (2, .int x2), (5, .int x5)] rfl ?_
        refine z_iinc (v := x5 + (1 : Int32)) hX dX10_count_92 5 rfl rfl (by decide) [(5, .int (x5 + (1 : Int32))), (4, .int (x4 + (0 : Int32))), (3, .int (x3 + (1 : Int32))), (0, .ref (X.1.2.1 0)), (1, .int x1), (2, .int x2)] rfl ?_
        refine z_goto hX 44 dX10_count_95 (by decide) ?_
        exact z_sub [3, 4, 5, 2, 1, 0] rfl h
      · replace h := h.2 c0
        refine z_iconst (v := 1) hX dX10_count_84 (by decide) ?_
        refine z_goto hX 89 dX10_count_85 (by decide) ?_
        refine z_iadd hX dX10_count_89 ?_
        refine z_istore hX dX10_count_90 (by decide) [(4, .int (x4 + (1 : Int32))), (3, .int (x3 + (1 : Int32))), (0, .ref (X.1.2.1 0)), (1, .int x1), (2, .int x2), (5, .int x5)] rfl ?_
        refine z_iinc (v := x5 + (1 : Int32)) hX dX10_count_92 5 rfl rfl (by decide) [(5, .int (x5 + (1 : Int32))), (4, .int (x4 + (1 : Int32))), (3, .int (x3 + (1 : Int32))), (0, .ref (X.1.2.1 0)), (1, .int x1), (2, .int x2)] rfl ?_
        refine z_goto hX 44 dX10_count_95 (by decide) ?_
        exact z_sub [3, 4, 5, 2, 1, 0] rfl h
