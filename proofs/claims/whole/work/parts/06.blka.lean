set_option maxRecDepth 100000 in
set_option maxHeartbeats 4000000 in
theorem EJ6_bitCount_0f7a4 {S : ST} {E : ET} {Q : Option Value → Mem → Prop} {x0 : Int32} {M : Mem} (h : ∀ v1 : Int32, v1 = x0 - (((x0.toUInt32 >>> ((1 : Int32).toUInt32 &&& Int32.toUInt32 31)).toInt32) &&& (1431655765 : Int32)) → (∀ v2 : Int32, v2 = (v1 &&& (858993459 : Int32)) + (((v1.toUInt32 >>> ((2 : Int32).toUInt32 &&& Int32.toUInt32 31)).toInt32) &&& (858993459 : Int32)) → (∀ v3 : Int32, v3 = (v2 + ((v2.toUInt32 >>> ((4 : Int32).toUInt32 &&& Int32.toUInt32 31)).toInt32)) &&& (252645135 : Int32) → (∀ v4 : Int32, v4 = v3 + ((v3.toUInt32 >>> ((8 : Int32).toUInt32 &&& Int32.toUInt32 31)).toInt32) → (∀ v5 : Int32, v5 = v4 + ((v4.toUInt32 >>> ((16 : Int32).toUInt32 &&& Int32.toUInt32 31)).toInt32) → (Q (some (.int (v5 &&& (63 : Int32)))) M)))))) : CJ6_bitCount S E [.int x0] M Q := by
  refine z_entry (by decide +kernel) (Nat.le_of_ble_eq_true rfl) (fun X hE hX => ?_)
  subst hE
  show Z S X 0 1 Q 0 [(0, .int x0)] [] M
  refine z_iload_n hX dJ6_bitCount_0f7a4_0 rfl 0 rfl ?_
  refine z_iload_n hX dJ6_bitCount_0f7a4_1 rfl 0 rfl ?_
  refine z_iconst (v := 1) hX dJ6_bitCount_0f7a4_2 (by decide) ?_
  refine z_iushr hX dJ6_bitCount_0f7a4_3 ?_
  refine z_ldcw (v := 1431655765) hX dJ6_bitCount_0f7a4_4 (z_w (List.mem_append_right _ (List.mem_of_getElem? (i := 579) (by decide +kernel))) rfl) ?_
  refine z_iand hX dJ6_bitCount_0f7a4_7 ?_
  refine z_isub hX dJ6_bitCount_0f7a4_8 ?_
  refine z_topi (fun v1 ev1 => ?_)
  replace h := h v1 ev1
  refine z_istore_n hX dJ6_bitCount_0f7a4_9 rfl (by decide) [(0, .int v1)] rfl ?_
  refine z_iload_n hX dJ6_bitCount_0f7a4_10 rfl 0 rfl ?_
  refine z_ldcw (v := 858993459) hX dJ6_bitCount_0f7a4_11 (z_w (List.mem_append_right _ (List.mem_of_getElem? (i := 580) (by decide +kernel))) rfl) ?_
  refine z_iand hX dJ6_bitCount_0f7a4_14 ?_
  refine z_iload_n hX dJ6_bitCount_0f7a4_15 rfl 0 rfl ?_
  refine z_iconst (v := 2) hX dJ6_bitCount_0f7a4_16 (by decide) ?_
  refine z_iushr hX dJ6_bitCount_0f7a4_17 ?_
  refine z_ldcw (v := 858993459) hX dJ6_bitCount_0f7a4_18 (z_w (List.mem_append_right _ (List.mem_of_getElem? (i := 580) (by decide +kernel))) rfl) ?_
  refine z_iand hX dJ6_bitCount_0f7a4_21 ?_
  refine z_iadd hX dJ6_bitCount_0f7a4_22 ?_
  refine z_topi (fun v2 ev2 => ?_)
  replace h := h v2 ev2
  refine z_istore_n hX dJ6_bitCount_0f7a4_23 rfl (by decide) [(0, .int v2)] rfl ?_
  refine z_iload_n hX dJ6_bitCount_0f7a4_24 rfl 0 rfl ?_
  refine z_iload_n hX dJ6_bitCount_0f7a4_25 rfl 0 rfl ?_
  refine z_iconst (v := 4) hX dJ6_bitCount_0f7a4_26 (by decide) ?_
  refine z_iushr hX dJ6_bitCount_0f7a4_27 ?_
  refine z_iadd hX dJ6_bitCount_0f7a4_28 ?_
  refine z_ldcw (v := 252645135) hX dJ6_bitCount_0f7a4_29 (z_w (List.mem_append_right _ (List.mem_of_getElem? (i := 581) (by decide +kernel))) rfl) ?_
  refine z_iand hX dJ6_bitCount_0f7a4_32 ?_
  refine z_topi (fun v3 ev3 => ?_)
  replace h := h v3 ev3
  refine z_istore_n hX dJ6_bitCount_0f7a4_33 rfl (by decide) [(0, .int v3)] rfl ?_
  refine z_iload_n hX dJ6_bitCount_0f7a4_34 rfl 0 rfl ?_
  refine z_iload_n hX dJ6_bitCount_0f7a4_35 rfl 0 rfl ?_
  refine z_bipush (v := 8) hX dJ6_bitCount_0f7a4_36 (by decide) ?_
  refine z_iushr hX dJ6_bitCount_0f7a4_38 ?_
  refine z_iadd hX dJ6_bitCount_0f7a4_39 ?_
  refine z_topi (fun v4 ev4 => ?_)
  replace h := h v4 ev4
  refine z_istore_n hX dJ6_bitCount_0f7a4_40 rfl (by decide) [(0, .int v4)] rfl ?_
  refine z_iload_n hX dJ6_bitCount_0f7a4_41 rfl 0 rfl ?_
  refine z_iload_n hX dJ6_bitCount_0f7a4_42 rfl 0 rfl ?_
  refine z_bipush (v := 16) hX dJ6_bitCount_0f7a4_43 (by decide) ?_
  refine z_iushr hX dJ6_bitCount_0f7a4_45 ?_
  refine z_iadd hX dJ6_bitCount_0f7a4_46 ?_
  refine z_topi (fun v5 ev5 => ?_)
  replace h := h v5 ev5
  refine z_istore_n hX dJ6_bitCount_0f7a4_47 rfl (by decide) [(0, .int v5)] rfl ?_
  refine z_iload_n hX dJ6_bitCount_0f7a4_48 rfl 0 rfl ?_
  refine z_bipush (v := 63) hX dJ6_bitCount_0f7a4_49 (by decide) ?_
  refine z_iand hX dJ6_bitCount_0f7a4_51 ?_
  exact z_iret hX dJ6_bitCount_0f7a4_52 h
set_option maxRecDepth 100000 in
set_option maxHeartbeats 4000000 in
theorem EX7_size {E : ET} {Q : Option Value → Mem → Prop} {M : Mem} (h : Q (some (.int (M.1 7 5))) M) : CX7_size E [.ref (E.2.1 7)] M Q := by
  refine z_entry (by decide +kernel) (Nat.le_of_ble_eq_true rfl) (fun X hE hX => ?_)
  subst hE
  show Z SX X 0 1 Q 0 [(0, .ref (X.1.2.1 7))] [] M
  refine z_aload_n hX dX7_size_0 rfl 0 rfl ?_
  refine gfX7_29 hX dX7_size_1 ?_
  exact z_iret hX dX7_size_4 h
set_option maxRecDepth 100000 in
set_option maxHeartbeats 4000000 in
theorem EX7_dresses {E : ET} {Q : Option Value → Mem → Prop} {M : Mem} (h : Q (some (.int ((1 : Int32) <<< ((M.1 7 5) &&& 31)))) M) : CX7_dresses E [.ref (E.2.1 7)] M Q := by
  refine z_entry (by decide +kernel) (Nat.le_of_ble_eq_true rfl) (fun X hE hX => ?_)
  subst hE
  show Z SX X 0 1 Q 0 [(0, .ref (X.1.2.1 7))] [] M
  refine z_iconst (v := 1) hX dX7_dresses_0 (by decide) ?_
  refine z_aload_n hX dX7_dresses_1 rfl 0 rfl ?_
  refine gfX7_29 hX dX7_dresses_2 ?_
  refine z_ishl hX dX7_dresses_5 ?_
  exact z_iret hX dX7_dresses_6 h
set_option maxRecDepth 100000 in
set_option maxHeartbeats 4000000 in
theorem EX7_version {E : ET} {Q : Option Value → Mem → Prop} {M : Mem} (h : Q (some (.int (M.1 7 7))) M) : CX7_version E [.ref (E.2.1 7)] M Q := by
  refine z_entry (by decide +kernel) (Nat.le_of_ble_eq_true rfl) (fun X hE hX => ?_)
  subst hE
  show Z SX X 0 1 Q 0 [(0, .ref (X.1.2.1 7))] [] M
  refine z_aload_n hX dX7_version_0 rfl 0 rfl ?_
  refine gfX7_36 hX dX7_version_1 ?_
  exact z_iret hX dX7_version_4 h
set_option maxRecDepth 100000 in
set_option maxHeartbeats 4000000 in
theorem EX7_has {E : ET} {Q : Option Value → Mem → Prop} {x1 : Int32} {M : Mem} (h : ((x1 < 0 → Q (some (.int 0)) M) ∧ (¬ x1 < 0 → (((M.1 7 5) ≤ x1 → Q (some (.int 0)) M) ∧ (¬ (M.1 7 5) ≤ x1 → Q (some (.int 1)) M))))) : CX7_has E [.ref (E.2.1 7), .int x1] M Q := by
  refine z_entry (by decide +kernel) (Nat.le_of_ble_eq_true rfl) (fun X hE hX => ?_)
  subst hE
  show Z SX X 0 2 Q 0 [(0, .ref (X.1.2.1 7)), (1, .int x1)] [] M
  refine z_iload_n hX dX7_has_0 rfl 1 rfl ?_
  refine z_if_lt hX 16 dX7_has_1 (by decide) (fun c0 => ?_) (fun c0 => ?_)
  · replace h := h.1 c0
    refine z_iconst (v := 0) hX dX7_has_16 (by decide) ?_
    exact z_zret hX dX7_has_17 (Or.inl rfl) h
  · replace h := h.2 c0
    refine z_iload_n hX dX7_has_4 rfl 1 rfl ?_
    refine z_aload_n hX dX7_has_5 rfl 0 rfl ?_
    refine gfX7_29 hX dX7_has_6 ?_
    refine z_icmp_ge hX 16 dX7_has_9 (by decide) (fun c0 => ?_) (fun c0 => ?_)
    · replace h := h.1 c0
      refine z_iconst (v := 0) hX dX7_has_16 (by decide) ?_
      exact z_zret hX dX7_has_17 (Or.inl rfl) h
    · replace h := h.2 c0
      refine z_iconst (v := 1) hX dX7_has_12 (by decide) ?_
      refine z_goto hX 17 dX7_has_13 (by decide) ?_
      exact z_zret hX dX7_has_17 (Or.inr rfl) h
set_option maxRecDepth 100000 in
set_option maxHeartbeats 4000000 in
theorem EX7_isDress {E : ET} {Q : Option Value → Mem → Prop} {x1 : Int32} {M : Mem} (h : ((x1 < 0 → Q (some (.int 0)) M) ∧ (¬ x1 < 0 → (∃ (r1 : Int32), CX7_dresses E [.ref (E.2.1 7)] M (z_is (some (.int r1)) M) ∧ ((r1 ≤ x1 → Q (some (.int 0)) M) ∧ (¬ r1 ≤ x1 → Q (some (.int 1)) M)))))) : CX7_isDress E [.ref (E.2.1 7), .int x1] M Q := by
  refine z_entry (by decide +kernel) (Nat.le_of_ble_eq_true rfl) (fun X hE hX => ?_)
  subst hE
  show Z SX X 1 2 Q 0 [(0, .ref (X.1.2.1 7)), (1, .int x1)] [] M
  refine z_iload_n hX dX7_isDress_0 rfl 1 rfl ?_
  refine z_if_lt hX 16 dX7_isDress_1 (by decide) (fun c0 => ?_) (fun c0 => ?_)
  · replace h := h.1 c0
    refine z_iconst (v := 0) hX dX7_isDress_16 (by decide) ?_
    exact z_zret hX dX7_isDress_17 (Or.inl rfl) h
  · replace h := h.2 c0
    refine z_iload_n hX dX7_isDress_4 rfl 1 rfl ?_
    refine z_aload_n hX dX7_isDress_5 rfl 0 rfl ?_
    obtain ⟨r1, c9, h⟩ := h
    refine mcX7_39 hX dX7_isDress_6 (by decide) (Nat.le_of_ble_eq_true rfl) c9 ?_
    refine z_icmp_ge hX 16 dX7_isDress_9 (by decide) (fun c0 => ?_) (fun c0 => ?_)
    · replace h := h.1 c0
      refine z_iconst (v := 0) hX dX7_isDress_16 (by decide) ?_
      exact z_zret hX dX7_isDress_17 (Or.inl rfl) h
    · replace h := h.2 c0
      refine z_iconst (v := 1) hX dX7_isDress_12 (by decide) ?_
      refine z_goto hX 17 dX7_isDress_13 (by decide) ?_
      exact z_zret hX dX7_isDress_17 (Or.inr rfl) h
abbrev LX7_startAnew_7 (X : XT) (Q : Option Value → Mem → Prop) (x2 : Int32) (M : Mem) : Prop := Z SX X 1 4 Q 7 [(0, .ref (X.1.2.1 7)), (2, .int x2)] [] M
abbrev LX7_startAnew_63 (X : XT) (Q : Option Value → Mem → Prop) (x2 : Int32) (M : Mem) : Prop := Z SX X 1 4 Q 63 [(0, .ref (X.1.2.1 7)), (2, .int x2)] [] M
abbrev LX7_startAnew_15 (X : XT) (Q : Option Value → Mem → Prop) (x2 : Int32) (x3 : Int32) (M : Mem) : Prop := Z SX X 1 4 Q 15 [(0, .ref (X.1.2.1 7)), (2, .int x2), (3, .int x3)] [] M
set_option maxRecDepth 100000 in
set_option maxHeartbeats 4000000 in
theorem EX7_startAnew {E : ET} {Q : Option Value → Mem → Prop} {x1 : Int32} {M : Mem} (h : ∀ X : XT, X.1 = E → KX7_startAnew X → (∀ M1 : Mem, M1 = z_st M 7 5 x1 → LX7_startAnew_7 X Q (0 : Int32) M1)) : CX7_startAnew E [.ref (E.2.1 7), .int x1] M Q := by
  refine z_entry (by decide +kernel) (Nat.le_of_ble_eq_true rfl) (fun X hE hX => ?_)
  subst hE
  replace h := h X rfl hX
  show Z SX X 1 4 Q 0 [(0, .ref (X.1.2.1 7)), (1, .int x1)] [] M
  refine z_aload_n hX dX7_startAnew_0 rfl 0 rfl ?_
  refine z_iload_n hX dX7_startAnew_1 rfl 1 rfl ?_
  refine pfX7_29 hX dX7_startAnew_2 (fun M1 eM1 => ?_)
  replace h := h M1 eM1
  refine z_iconst (v := 0) hX dX7_startAnew_5 (by decide) ?_
  refine z_istore_n hX dX7_startAnew_6 rfl (by decide) [(2, .int (0 : Int32)), (0, .ref (X.1.2.1 7)), (1, .int x1)] rfl ?_
  exact z_sub [1, 0] rfl h
set_option maxRecDepth 100000 in
set_option maxHeartbeats 4000000 in
theorem BX7_startAnew_7 {X : XT} {Q : Option Value → Mem → Prop} (hX : KX7_startAnew X) {x2 : Int32} {M : Mem} (h : (((10 : Int32) ≤ x2 → LX7_startAnew_63 X Q (0 : Int32) M) ∧ (¬ (10 : Int32) ≤ x2 → LX7_startAnew_15 X Q x2 (0 : Int32) M))) : LX7_startAnew_7 X Q x2 M := by
  show Z SX X 1 4 Q 7 [(0, .ref (X.1.2.1 7)), (2, .int x2)] [] M
  refine z_iload_n hX dX7_startAnew_7 rfl 1 rfl ?_
  refine z_bipush (v := 10) hX dX7_startAnew_8 (by decide) ?_
  refine z_icmp_ge hX 61 dX7_startAnew_10 (by decide) (fun c0 => ?_) (fun c0 => ?_)
  · replace h := h.1 c0
    refine z_iconst (v := 0) hX dX7_startAnew_61 (by decide) ?_
    refine z_istore_n hX dX7_startAnew_62 rfl (by decide) [(2, .int (0 : Int32)), (0, .ref (X.1.2.1 7))] rfl ?_
    exact z_sub [1, 0] rfl h
  · replace h := h.2 c0
    refine z_iconst (v := 0) hX dX7_startAnew_13 (by decide) ?_
    refine z_istore_n hX dX7_startAnew_14 rfl (by decide) [(3, .int (0 : Int32)), (0, .ref (X.1.2.1 7)), (2, .int x2)] rfl ?_
    exact z_sub [1, 2, 0] rfl h
set_option maxRecDepth 100000 in
set_option maxHeartbeats 4000000 in
theorem BX7_startAnew_63 {X : XT} {Q : Option Value → Mem → Prop} (hX : KX7_startAnew X) {x2 : Int32} {M : Mem} (h : (((1024 : Int32) ≤ x2 → Q none M) ∧ (¬ (1024 : Int32) ≤ x2 → (vp_in x2 1024 ∧ (∀ M1 : Mem, M1 = z_st M 24 x2.toNatClampNeg (0 : Int32) → LX7_startAnew_63 X Q (x2 + (1 : Int32)) M1))))) : LX7_startAnew_63 X Q x2 M := by
  show Z SX X 1 4 Q 63 [(0, .ref (X.1.2.1 7)), (2, .int x2)] [] M
  refine z_iload_n hX dX7_startAnew_63 rfl 1 rfl ?_
  refine z_sipush (v := 1024) hX dX7_startAnew_64 (by decide) ?_
  refine z_icmp_ge hX 83 dX7_startAnew_67 (by decide) (fun c0 => ?_) (fun c0 => ?_)
  · replace h := h.1 c0
    exact z_vret hX dX7_startAnew_83 h
  · replace h := h.2 c0
    refine z_aload_n hX dX7_startAnew_70 rfl 0 rfl ?_
    refine gfX7_26 hX dX7_startAnew_71 ?_
    refine z_iload_n hX dX7_startAnew_74 rfl 1 rfl ?_
    refine z_iconst (v := 0) hX dX7_startAnew_75 (by decide) ?_
    refine z_iastM hX 24 rfl h.1 dX7_startAnew_76 (fun M1 eM1 => ?_)
    replace h := h.2 M1 eM1
    refine z_iinc (v := x2 + (1 : Int32)) hX dX7_startAnew_77 1 rfl rfl (by decide) [(2, .int (x2 + (1 : Int32))), (0, .ref (X.1.2.1 7))] rfl ?_
    refine z_goto hX 63 dX7_startAnew_80 (by decide) ?_
    exact z_sub [1, 0] rfl h
set_option maxRecDepth 100000 in
set_option maxHeartbeats 4000000 in
theorem BX7_startAnew_15 {X : XT} {Q : Option Value → Mem → Prop} (hX : KX7_startAnew X) {x2 x3 : Int32} {M : Mem} (h : (((10 : Int32) ≤ x3 → (vp_in x2 10 ∧ (∀ M1 : Mem, M1 = z_st M 21 x2.toNatClampNeg (0 : Int32) → (vp_in x2 10 ∧ (∀ M2 : Mem, M2 = z_st M1 22 x2.toNatClampNeg (0 : Int32) → (∃ q4 : Mem → Prop, CX7_changed X.1 [.ref (X.1.2.1 7), .int x2] M2 (z_pV q4) ∧ ∀ (M3 : Mem), q4 M3 → LX7_startAnew_7 X Q (x2 + (1 : Int32)) M3)))))) ∧ (¬ (10 : Int32) ≤ x3 → (vp_in x2 10 ∧ (vp_in x2 10 ∧ vp_in x3 10 ∧ (∀ M5 : Mem, M5 = z_st M (10 + x2.toNatClampNeg) x3.toNatClampNeg (0 : Int32) → LX7_startAnew_15 X Q x2 (x3 + (1 : Int32)) M5)))))) : LX7_startAnew_15 X Q x2 x3 M := by
  show Z SX X 1 4 Q 15 [(0, .ref (X.1.2.1 7)), (2, .int x2), (3, .int x3)] [] M
  refine z_iload_n hX dX7_startAnew_15 rfl 2 rfl ?_
  refine z_bipush (v := 10) hX dX7_startAnew_16 (by decide) ?_
  refine z_icmp_ge hX 36 dX7_startAnew_18 (by decide) (fun c0 => ?_) (fun c0 => ?_)
  · replace h := h.1 c0
    refine z_aload_n hX dX7_startAnew_36 rfl 0 rfl ?_
    refine gfX7_16 hX dX7_startAnew_37 ?_
    refine z_iload_n hX dX7_startAnew_40 rfl 1 rfl ?_
    refine z_iconst (v := 0) hX dX7_startAnew_41 (by decide) ?_
    refine z_iastM hX 21 rfl h.1 dX7_startAnew_42 (fun M1 eM1 => ?_)
    replace h := h.2 M1 eM1
    refine z_aload_n hX dX7_startAnew_43 rfl 0 rfl ?_
    refine gfX7_20 hX dX7_startAnew_44 ?_
    refine z_iload_n hX dX7_startAnew_47 rfl 1 rfl ?_
    refine z_iconst (v := 0) hX dX7_startAnew_48 (by decide) ?_
    refine z_iastM hX 22 rfl h.1 dX7_startAnew_49 (fun M2 eM2 => ?_)
    replace h := h.2 M2 eM2
    refine z_aload_n hX dX7_startAnew_50 rfl 0 rfl ?_
    refine z_iload_n hX dX7_startAnew_51 rfl 1 rfl ?_
    obtain ⟨q4, c9, h⟩ := h
    refine mcX7_43 hX dX7_startAnew_52 (by decide) (Nat.le_of_ble_eq_true rfl) c9 (fun M3 hq => ?_)
    replace h := h M3 hq
    refine z_iinc (v := x2 + (1 : Int32)) hX dX7_startAnew_55 1 rfl rfl (by decide) [(2, .int (x2 + (1 : Int32))), (0, .ref (X.1.2.1 7)), (3, .int x3)] rfl ?_
    refine z_goto hX 7 dX7_startAnew_58 (by decide) ?_
    exact z_sub [1, 0] rfl h
  · replace h := h.2 c0
    refine z_aload_n hX dX7_startAnew_21 rfl 0 rfl ?_
    refine gfX7_11 hX dX7_startAnew_22 ?_
    refine z_iload_n hX dX7_startAnew_25 rfl 1 rfl ?_
    refine z_aald hX 20 rfl h.1 (z_row h.1) dX7_startAnew_26 ?_
    replace h := h.2
    refine z_iload_n hX dX7_startAnew_27 rfl 2 rfl ?_
    refine z_iconst (v := 0) hX dX7_startAnew_28 (by decide) ?_
    refine z_iastM hX (10 + x2.toNatClampNeg) (z_rowc h.1) h.2.1 dX7_startAnew_29 (fun M5 eM5 => ?_)
    replace h := h.2.2 M5 eM5
    refine z_iinc (v := x3 + (1 : Int32)) hX dX7_startAnew_30 2 rfl rfl (by decide) [(3, .int (x3 + (1 : Int32))), (0, .ref (X.1.2.1 7)), (2, .int x2)] rfl ?_
    refine z_goto hX 15 dX7_startAnew_33 (by decide) ?_
    exact z_sub [1, 2, 0] rfl h
set_option maxRecDepth 100000 in
set_option maxHeartbeats 4000000 in
theorem EX7_weight {E : ET} {Q : Option Value → Mem → Prop} {x1 x2 : Int32} {M : Mem} (h : vp_in x1 10 ∧ (vp_in x1 10 ∧ vp_in x2 10 ∧ Q (some (.int (M.1 (10 + x1.toNatClampNeg) x2.toNatClampNeg))) M)) : CX7_weight E [.ref (E.2.1 7), .int x1, .int x2] M Q := by
  refine z_entry (by decide +kernel) (Nat.le_of_ble_eq_true rfl) (fun X hE hX => ?_)
  subst hE
  show Z SX X 0 3 Q 0 [(0, .ref (X.1.2.1 7)), (1, .int x1), (2, .int x2)] [] M
  refine z_aload_n hX dX7_weight_0 rfl 0 rfl ?_
  refine gfX7_11 hX dX7_weight_1 ?_
  refine z_iload_n hX dX7_weight_4 rfl 1 rfl ?_
  refine z_aald hX 20 rfl h.1 (z_row h.1) dX7_weight_5 ?_
  replace h := h.2
  refine z_iload_n hX dX7_weight_6 rfl 2 rfl ?_
  refine z_iald hX (10 + x1.toNatClampNeg) (z_rowc h.1) h.2.1 dX7_weight_7 ?_
  replace h := h.2.2
  exact z_iret hX dX7_weight_8 h
set_option maxRecDepth 100000 in
set_option maxHeartbeats 4000000 in
theorem EX7_setWeight {E : ET} {Q : Option Value → Mem → Prop} {x1 x2 x3 : Int32} {M : Mem} (h : vp_in x1 10 ∧ (vp_in x1 10 ∧ vp_in x2 10 ∧ (∀ M1 : Mem, M1 = z_st M (10 + x1.toNatClampNeg) x2.toNatClampNeg x3 → (∃ q3 : Mem → Prop, CX7_changed E [.ref (E.2.1 7), .int x1] M1 (z_pV q3) ∧ ∀ (M2 : Mem), q3 M2 → Q none M2)))) : CX7_setWeight E [.ref (E.2.1 7), .int x1, .int x2, .int x3] M Q := by
  refine z_entry (by decide +kernel) (Nat.le_of_ble_eq_true rfl) (fun X hE hX => ?_)
  subst hE
  show Z SX X 1 4 Q 0 [(0, .ref (X.1.2.1 7)), (1, .int x1), (2, .int x2), (3, .int x3)] [] M
  refine z_aload_n hX dX7_setWeight_0 rfl 0 rfl ?_
  refine gfX7_11 hX dX7_setWeight_1 ?_
  refine z_iload_n hX dX7_setWeight_4 rfl 1 rfl ?_
  refine z_aald hX 20 rfl h.1 (z_row h.1) dX7_setWeight_5 ?_
  replace h := h.2
  refine z_iload_n hX dX7_setWeight_6 rfl 2 rfl ?_
  refine z_iload_n hX dX7_setWeight_7 rfl 3 rfl ?_
  refine z_iastM hX (10 + x1.toNatClampNeg) (z_rowc h.1) h.2.1 dX7_setWeight_8 (fun M1 eM1 => ?_)
  replace h := h.2.2 M1 eM1
  refine z_aload_n hX dX7_setWeight_9 rfl 0 rfl ?_
  refine z_iload_n hX dX7_setWeight_10 rfl 1 rfl ?_
  obtain ⟨q3, c9, h⟩ := h
  refine mcX7_43 hX dX7_setWeight_11 (by decide) (Nat.le_of_ble_eq_true rfl) c9 (fun M2 hq => ?_)
  replace h := h M2 hq
  exact z_vret hX dX7_setWeight_14 h
set_option maxRecDepth 100000 in
set_option maxHeartbeats 4000000 in
theorem EX7_kind {E : ET} {Q : Option Value → Mem → Prop} {x1 : Int32} {M : Mem} (h : vp_in x1 10 ∧ Q (some (.int (M.1 21 x1.toNatClampNeg))) M) : CX7_kind E [.ref (E.2.1 7), .int x1] M Q := by
  refine z_entry (by decide +kernel) (Nat.le_of_ble_eq_true rfl) (fun X hE hX => ?_)
  subst hE
  show Z SX X 0 2 Q 0 [(0, .ref (X.1.2.1 7)), (1, .int x1)] [] M
  refine z_aload_n hX dX7_kind_0 rfl 0 rfl ?_
  refine gfX7_16 hX dX7_kind_1 ?_
  refine z_iload_n hX dX7_kind_4 rfl 1 rfl ?_
  refine z_iald hX 21 rfl h.1 dX7_kind_5 ?_
  replace h := h.2
  exact z_iret hX dX7_kind_6 h
set_option maxRecDepth 100000 in
set_option maxHeartbeats 4000000 in
theorem EX7_setKind {E : ET} {Q : Option Value → Mem → Prop} {x1 x2 : Int32} {M : Mem} (h : vp_in x1 10 ∧ (∀ M1 : Mem, M1 = z_st M 21 x1.toNatClampNeg x2 → (∃ q3 : Mem → Prop, CX7_changed E [.ref (E.2.1 7), .int x1] M1 (z_pV q3) ∧ ∀ (M2 : Mem), q3 M2 → Q none M2))) : CX7_setKind E [.ref (E.2.1 7), .int x1, .int x2] M Q := by
  refine z_entry (by decide +kernel) (Nat.le_of_ble_eq_true rfl) (fun X hE hX => ?_)
  subst hE
  show Z SX X 1 3 Q 0 [(0, .ref (X.1.2.1 7)), (1, .int x1), (2, .int x2)] [] M
  refine z_aload_n hX dX7_setKind_0 rfl 0 rfl ?_
  refine gfX7_16 hX dX7_setKind_1 ?_
  refine z_iload_n hX dX7_setKind_4 rfl 1 rfl ?_
  refine z_iload_n hX dX7_setKind_5 rfl 2 rfl ?_
  refine z_iastM hX 21 rfl h.1 dX7_setKind_6 (fun M1 eM1 => ?_)
  replace h := h.2 M1 eM1
  refine z_aload_n hX dX7_setKind_7 rfl 0 rfl ?_
  refine z_iload_n hX dX7_setKind_8 rfl 1 rfl ?_
  obtain ⟨q3, c9, h⟩ := h
  refine mcX7_43 hX dX7_setKind_9 (by decide) (Nat.le_of_ble_eq_true rfl) c9 (fun M2 hq => ?_)
  replace h := h M2 hq
  exact z_vret hX dX7_setKind_12 h
set_option maxRecDepth 100000 in
set_option maxHeartbeats 4000000 in
theorem EX7_lean {E : ET} {Q : Option Value → Mem → Prop} {x1 : Int32} {M : Mem} (h : vp_in x1 10 ∧ Q (some (.int (M.1 22 x1.toNatClampNeg))) M) : CX7_lean E [.ref (E.2.1 7), .int x1] M Q := by
  refine z_entry (by decide +kernel) (Nat.le_of_ble_eq_true rfl) (fun X hE hX => ?_)
  subst hE
  show Z SX X 0 2 Q 0 [(0, .ref (X.1.2.1 7)), (1, .int x1)] [] M
  refine z_aload_n hX dX7_lean_0 rfl 0 rfl ?_
  refine gfX7_20 hX dX7_lean_1 ?_
  refine z_iload_n hX dX7_lean_4 rfl 1 rfl ?_
  refine z_iald hX 22 rfl h.1 dX7_lean_5 ?_
  replace h := h.2
  exact z_iret hX dX7_lean_6 h
set_option maxRecDepth 100000 in
set_option maxHeartbeats 4000000 in
theorem EX7_setLean {E : ET} {Q : Option Value → Mem → Prop} {x1 x2 : Int32} {M : Mem} (h : vp_in x1 10 ∧ (∀ M1 : Mem, M1 = z_st M 22 x1.toNatClampNeg x2 → (∃ q3 : Mem → Prop, CX7_changed E [.ref (E.2.1 7), .int x1] M1 (z_pV q3) ∧ ∀ (M2 : Mem), q3 M2 → Q none M2))) : CX7_setLean E [.ref (E.2.1 7), .int x1, .int x2] M Q := by
  refine z_entry (by decide +kernel) (Nat.le_of_ble_eq_true rfl) (fun X hE hX => ?_)
  subst hE
  show Z SX X 1 3 Q 0 [(0, .ref (X.1.2.1 7)), (1, .int x1), (2, .int x2)] [] M
  refine z_aload_n hX dX7_setLean_0 rfl 0 rfl ?_
  refine gfX7_20 hX dX7_setLean_1 ?_
  refine z_iload_n hX dX7_setLean_4 rfl 1 rfl ?_
  refine z_iload_n hX dX7_setLean_5 rfl 2 rfl ?_
  refine z_iastM hX 22 rfl h.1 dX7_setLean_6 (fun M1 eM1 => ?_)
  replace h := h.2 M1 eM1
  refine z_aload_n hX dX7_setLean_7 rfl 0 rfl ?_
  refine z_iload_n hX dX7_setLean_8 rfl 1 rfl ?_
  obtain ⟨q3, c9, h⟩ := h
  refine mcX7_43 hX dX7_setLean_9 (by decide) (Nat.le_of_ble_eq_true rfl) c9 (fun M2 hq => ?_)
  replace h := h M2 hq
  exact z_vret hX dX7_setLean_12 h
set_option maxRecDepth 100000 in
set_option maxHeartbeats 4000000 in
theorem EX7_changed {E : ET} {Q : Option Value → Mem → Prop} {x1 : Int32} {M : Mem} (h : ∀ M1 : Mem, M1 = z_st M 7 6 ((M.1 7 6) ||| ((1 : Int32) <<< (x1 &&& 31))) → (∀ M2 : Mem, M2 = z_st M1 7 7 ((M1.1 7 7) + (1 : Int32)) → Q none M2)) : CX7_changed E [.ref (E.2.1 7), .int x1] M Q := by
  refine z_entry (by decide +kernel) (Nat.le_of_ble_eq_true rfl) (fun X hE hX => ?_)
  subst hE
  show Z SX X 0 2 Q 0 [(0, .ref (X.1.2.1 7)), (1, .int x1)] [] M
  refine z_aload_n hX dX7_changed_0 rfl 0 rfl ?_
  refine z_dup hX dX7_changed_1 rfl ?_
  refine gfX7_33 hX dX7_changed_2 ?_
  refine z_iconst (v := 1) hX dX7_changed_5 (by decide) ?_
  refine z_iload_n hX dX7_changed_6 rfl 1 rfl ?_
  refine z_ishl hX dX7_changed_7 ?_
  refine z_ior hX dX7_changed_8 ?_
  refine pfX7_33 hX dX7_changed_9 (fun M1 eM1 => ?_)
  replace h := h M1 eM1
  refine z_aload_n hX dX7_changed_12 rfl 0 rfl ?_
  refine z_dup hX dX7_changed_13 rfl ?_
  refine gfX7_36 hX dX7_changed_14 ?_
  refine z_iconst (v := 1) hX dX7_changed_17 (by decide) ?_
  refine z_iadd hX dX7_changed_18 ?_
  refine pfX7_36 hX dX7_changed_19 (fun M2 eM2 => ?_)
  replace h := h M2 eM2
  exact z_vret hX dX7_changed_22 h
abbrev LX7_seenBy_4 (X : XT) (Q : Option Value → Mem → Prop) (x1 : Int32) (x2 : Int32) (x3 : Int32) (M : Mem) : Prop := Z SX X 0 4 Q 4 [(0, .ref (X.1.2.1 7)), (1, .int x1), (2, .int x2), (3, .int x3)] [] M
set_option maxRecDepth 100000 in
set_option maxHeartbeats 4000000 in
theorem EX7_seenBy {E : ET} {Q : Option Value → Mem → Prop} {x1 : Int32} {M : Mem} (h : ∀ X : XT, X.1 = E → KX7_seenBy X → LX7_seenBy_4 X Q x1 (0 : Int32) (0 : Int32) M) : CX7_seenBy E [.ref (E.2.1 7), .int x1] M Q := by
  refine z_entry (by decide +kernel) (Nat.le_of_ble_eq_true rfl) (fun X hE hX => ?_)
  subst hE
  replace h := h X rfl hX
  show Z SX X 0 4 Q 0 [(0, .ref (X.1.2.1 7)), (1, .int x1)] [] M
  refine z_iconst (v := 0) hX dX7_seenBy_0 (by decide) ?_
  refine z_istore_n hX dX7_seenBy_1 rfl (by decide) [(2, .int (0 : Int32)), (0, .ref (X.1.2.1 7)), (1, .int x1)] rfl ?_
  refine z_iconst (v := 0) hX dX7_seenBy_2 (by decide) ?_
  refine z_istore_n hX dX7_seenBy_3 rfl (by decide) [(3, .int (0 : Int32)), (2, .int (0 : Int32)), (0, .ref (X.1.2.1 7)), (1, .int x1)] rfl ?_
  exact z_sub [2, 3, 1, 0] rfl h
set_option maxRecDepth 100000 in
set_option maxHeartbeats 4000000 in
theorem BX7_seenBy_4 {X : XT} {Q : Option Value → Mem → Prop} (hX : KX7_seenBy X) {x1 x2 x3 : Int32} {M : Mem} (h : (((M.1 7 5) ≤ x3 → Q (some (.int x2)) M) ∧ (¬ (M.1 7 5) ≤ x3 → (vp_in x1 10 ∧ (vp_in x1 10 ∧ vp_in x3 10 ∧ (((M.1 (10 + x1.toNatClampNeg) x3.toNatClampNeg) ≤ 0 → LX7_seenBy_4 X Q x1 x2 (x3 + (1 : Int32)) M) ∧ (¬ (M.1 (10 + x1.toNatClampNeg) x3.toNatClampNeg) ≤ 0 → LX7_seenBy_4 X Q x1 (x2 + (1 : Int32)) (x3 + (1 : Int32)) M))))))) : LX7_seenBy_4 X Q x1 x2 x3 M := by
  show Z SX X 0 4 Q 4 [(0, .ref (X.1.2.1 7)), (1, .int x1), (2, .int x2), (3, .int x3)] [] M
  refine z_iload_n hX dX7_seenBy_4 rfl 3 rfl ?_
  refine z_aload_n hX dX7_seenBy_5 rfl 0 rfl ?_
  refine gfX7_29 hX dX7_seenBy_6 ?_
  refine z_icmp_ge hX 32 dX7_seenBy_9 (by decide) (fun c0 => ?_) (fun c0 => ?_)
  · replace h := h.1 c0
    refine z_iload_n hX dX7_seenBy_32 rfl 2 rfl ?_
    exact z_iret hX dX7_seenBy_33 h
  · replace h := h.2 c0
    refine z_aload_n hX dX7_seenBy_12 rfl 0 rfl ?_
    refine gfX7_11 hX dX7_seenBy_13 ?_
    refine z_iload_n hX dX7_seenBy_16 rfl 1 rfl ?_
    refine z_aald hX 20 rfl h.1 (z_row h.1) dX7_seenBy_17 ?_
    replace h := h.2
    refine z_iload_n hX dX7_seenBy_18 rfl 3 rfl ?_
    refine z_iald hX (10 + x1.toNatClampNeg) (z_rowc h.1) h.2.1 dX7_seenBy_19 ?_
    replace h := h.2.2
    refine z_if_le hX 26 dX7_seenBy_20 (by decide) (fun c0 => ?_) (fun c0 => ?_)
    · replace h := h.1 c0
      refine z_iinc (v := x3 + (1 : Int32)) hX dX7_seenBy_26 3 rfl rfl (by decide) [(3, .int (x3 + (1 : Int32))), (0, .ref (X.1.2.1 7)), (1, .int x1), (2, .int x2)] rfl ?_
      refine z_goto hX 4 dX7_seenBy_29 (by decide) ?_
      exact z_sub [1, 2, 3, 0] rfl h
    · replace h := h.2 c0
      refine z_iinc (v := x2 + (1 : Int32)) hX dX7_seenBy_23 2 rfl rfl (by decide) [(2, .int (x2 + (1 : Int32))), (0, .ref (X.1.2.1 7)), (1, .int x1), (3, .int x3)] rfl ?_
      refine z_iinc (v := x3 + (1 : Int32)) hX dX7_seenBy_26 3 rfl rfl (by decide) [(3, .int (x3 + (1 : Int32))), (2, .int (x2 + (1 : Int32))), (0, .ref (X.1.2.1 7)), (1, .int x1)] rfl ?_
      refine z_goto hX 4 dX7_seenBy_29 (by decide) ?_
      exact z_sub [2, 3, 1, 0] rfl h
abbrev LX7_seeing_4 (X : XT) (Q : Option Value → Mem → Prop) (x1 : Int32) (x2 : Int32) (x3 : Int32) (M : Mem) : Prop := Z SX X 0 4 Q 4 [(0, .ref (X.1.2.1 7)), (1, .int x1), (2, .int x2), (3, .int x3)] [] M
set_option maxRecDepth 100000 in
set_option maxHeartbeats 4000000 in
theorem EX7_seeing {E : ET} {Q : Option Value → Mem → Prop} {x1 : Int32} {M : Mem} (h : ∀ X : XT, X.1 = E → KX7_seeing X → LX7_seeing_4 X Q x1 (0 : Int32) (0 : Int32) M) : CX7_seeing E [.ref (E.2.1 7), .int x1] M Q := by
  refine z_entry (by decide +kernel) (Nat.le_of_ble_eq_true rfl) (fun X hE hX => ?_)
  subst hE
  replace h := h X rfl hX
  show Z SX X 0 4 Q 0 [(0, .ref (X.1.2.1 7)), (1, .int x1)] [] M
  refine z_iconst (v := 0) hX dX7_seeing_0 (by decide) ?_
  refine z_istore_n hX dX7_seeing_1 rfl (by decide) [(2, .int (0 : Int32)), (0, .ref (X.1.2.1 7)), (1, .int x1)] rfl ?_
  refine z_iconst (v := 0) hX dX7_seeing_2 (by decide) ?_
  refine z_istore_n hX dX7_seeing_3 rfl (by decide) [(3, .int (0 : Int32)), (2, .int (0 : Int32)), (0, .ref (X.1.2.1 7)), (1, .int x1)] rfl ?_
  exact z_sub [2, 3, 1, 0] rfl h
set_option maxRecDepth 100000 in
set_option maxHeartbeats 4000000 in
theorem BX7_seeing_4 {X : XT} {Q : Option Value → Mem → Prop} (hX : KX7_seeing X) {x1 x2 x3 : Int32} {M : Mem} (h : (((M.1 7 5) ≤ x3 → Q (some (.int x2)) M) ∧ (¬ (M.1 7 5) ≤ x3 → (vp_in x3 10 ∧ (vp_in x3 10 ∧ vp_in x1 10 ∧ (((M.1 (10 + x3.toNatClampNeg) x1.toNatClampNeg) ≤ 0 → LX7_seeing_4 X Q x1 x2 (x3 + (1 : Int32)) M) ∧ (¬ (M.1 (10 + x3.toNatClampNeg) x1.toNatClampNeg) ≤ 0 → LX7_seeing_4 X Q x1 (x2 + (1 : Int32)) (x3 + (1 : Int32)) M))))))) : LX7_seeing_4 X Q x1 x2 x3 M := by
  show Z SX X 0 4 Q 4 [(0, .ref (X.1.2.1 7)), (1, .int x1), (2, .int x2), (3, .int x3)] [] M
  refine z_iload_n hX dX7_seeing_4 rfl 3 rfl ?_
  refine z_aload_n hX dX7_seeing_5 rfl 0 rfl ?_
  refine gfX7_29 hX dX7_seeing_6 ?_
  refine z_icmp_ge hX 32 dX7_seeing_9 (by decide) (fun c0 => ?_) (fun c0 => ?_)
  · replace h := h.1 c0
    refine z_iload_n hX dX7_seeing_32 rfl 2 rfl ?_
    exact z_iret hX dX7_seeing_33 h
  · replace h := h.2 c0
    refine z_aload_n hX dX7_seeing_12 rfl 0 rfl ?_
    refine gfX7_11 hX dX7_seeing_13 ?_
    refine z_iload_n hX dX7_seeing_16 rfl 3 rfl ?_
    refine z_aald hX 20 rfl h.1 (z_row h.1) dX7_seeing_17 ?_
    replace h := h.2
    refine z_iload_n hX dX7_seeing_18 rfl 1 rfl ?_
    refine z_iald hX (10 + x3.toNatClampNeg) (z_rowc h.1) h.2.1 dX7_seeing_19 ?_
    replace h := h.2.2
    refine z_if_le hX 26 dX7_seeing_20 (by decide) (fun c0 => ?_) (fun c0 => ?_)
    · replace h := h.1 c0
      refine z_iinc (v := x3 + (1 : Int32)) hX dX7_seeing_26 3 rfl rfl (by decide) [(3, .int (x3 + (1 : Int32))), (0, .ref (X.1.2.1 7)), (1, .int x1), (2, .int x2)] rfl ?_
      refine z_goto hX 4 dX7_seeing_29 (by decide) ?_
      exact z_sub [1, 2, 3, 0] rfl h
    · replace h := h.2 c0
      refine z_iinc (v := x2 + (1 : Int32)) hX dX7_seeing_23 2 rfl rfl (by decide) [(2, .int (x2 + (1 : Int32))), (0, .ref (X.1.2.1 7)), (1, .int x1), (3, .int x3)] rfl ?_
      refine z_iinc (v := x3 + (1 : Int32)) hX dX7_seeing_26 3 rfl rfl (by decide) [(3, .int (x3 + (1 : Int32))), (2, .int (x2 + (1 : Int32))), (0, .ref (X.1.2.1 7)), (1, .int x1)] rfl ?_
      refine z_goto hX 4 dX7_seeing_29 (by decide) ?_
      exact z_sub [2, 3, 1, 0] rfl h
abbrev LX7_ties_4 (X : XT) (Q : Option Value → Mem → Prop) (x1 : Int32) (x2 : Int32) (M : Mem) : Prop := Z SX X 1 3 Q 4 [(0, .ref (X.1.2.1 7)), (1, .int x1), (2, .int x2)] [] M
set_option maxRecDepth 100000 in
set_option maxHeartbeats 4000000 in
theorem EX7_ties {E : ET} {Q : Option Value → Mem → Prop} {M : Mem} (h : ∀ X : XT, X.1 = E → KX7_ties X → LX7_ties_4 X Q (0 : Int32) (0 : Int32) M) : CX7_ties E [.ref (E.2.1 7)] M Q := by
  refine z_entry (by decide +kernel) (Nat.le_of_ble_eq_true rfl) (fun X hE hX => ?_)
  subst hE
  replace h := h X rfl hX
  show Z SX X 1 3 Q 0 [(0, .ref (X.1.2.1 7))] [] M
  refine z_iconst (v := 0) hX dX7_ties_0 (by decide) ?_
  refine z_istore_n hX dX7_ties_1 rfl (by decide) [(1, .int (0 : Int32)), (0, .ref (X.1.2.1 7))] rfl ?_
  refine z_iconst (v := 0) hX dX7_ties_2 (by decide) ?_
  refine z_istore_n hX dX7_ties_3 rfl (by decide) [(2, .int (0 : Int32)), (1, .int (0 : Int32)), (0, .ref (X.1.2.1 7))] rfl ?_
  exact z_sub [2, 1, 0] rfl h
set_option maxRecDepth 100000 in
set_option maxHeartbeats 4000000 in
theorem BX7_ties_4 {X : XT} {Q : Option Value → Mem → Prop} (hX : KX7_ties X) {x1 x2 : Int32} {M : Mem} (h : (((M.1 7 5) ≤ x2 → Q (some (.int x1)) M) ∧ (¬ (M.1 7 5) ≤ x2 → (∃ (r1 : Int32), CX7_seenBy X.1 [.ref (X.1.2.1 7), .int x2] M (z_is (some (.int r1)) M) ∧ LX7_ties_4 X Q (x1 + r1) (x2 + (1 : Int32)) M)))) : LX7_ties_4 X Q x1 x2 M := by
  show Z SX X 1 3 Q 4 [(0, .ref (X.1.2.1 7)), (1, .int x1), (2, .int x2)] [] M
  refine z_iload_n hX dX7_ties_4 rfl 2 rfl ?_
  refine z_aload_n hX dX7_ties_5 rfl 0 rfl ?_
  refine gfX7_29 hX dX7_ties_6 ?_
  refine z_icmp_ge hX 26 dX7_ties_9 (by decide) (fun c0 => ?_) (fun c0 => ?_)
  · replace h := h.1 c0
    refine z_iload_n hX dX7_ties_26 rfl 1 rfl ?_
    exact z_iret hX dX7_ties_27 h
  · replace h := h.2 c0
    refine z_iload_n hX dX7_ties_12 rfl 1 rfl ?_
    refine z_aload_n hX dX7_ties_13 rfl 0 rfl ?_
    refine z_iload_n hX dX7_ties_14 rfl 2 rfl ?_
    obtain ⟨r1, c9, h⟩ := h
    refine mcX7_47 hX dX7_ties_15 (by decide) (Nat.le_of_ble_eq_true rfl) c9 ?_
    refine z_iadd hX dX7_ties_18 ?_
    refine z_istore_n hX dX7_ties_19 rfl (by decide) [(1, .int (x1 + r1)), (0, .ref (X.1.2.1 7)), (2, .int x2)] rfl ?_
    refine z_iinc (v := x2 + (1 : Int32)) hX dX7_ties_20 2 rfl rfl (by decide) [(2, .int (x2 + (1 : Int32))), (1, .int (x1 + r1)), (0, .ref (X.1.2.1 7))] rfl ?_
    refine z_goto hX 4 dX7_ties_23 (by decide) ?_
    exact z_sub [2, 1, 0] rfl h
abbrev LX7_countKind_4 (X : XT) (Q : Option Value → Mem → Prop) (x1 : Int32) (x2 : Int32) (x3 : Int32) (M : Mem) : Prop := Z SX X 0 4 Q 4 [(0, .ref (X.1.2.1 7)), (1, .int x1), (2, .int x2), (3, .int x3)] [] M
set_option maxRecDepth 100000 in
set_option maxHeartbeats 4000000 in
theorem EX7_countKind {E : ET} {Q : Option Value → Mem → Prop} {x1 : Int32} {M : Mem} (h : ∀ X : XT, X.1 = E → KX7_countKind X → LX7_countKind_4 X Q x1 (0 : Int32) (0 : Int32) M) : CX7_countKind E [.ref (E.2.1 7), .int x1] M Q := by
  refine z_entry (by decide +kernel) (Nat.le_of_ble_eq_true rfl) (fun X hE hX => ?_)
  subst hE
  replace h := h X rfl hX
  show Z SX X 0 4 Q 0 [(0, .ref (X.1.2.1 7)), (1, .int x1)] [] M
  refine z_iconst (v := 0) hX dX7_countKind_0 (by decide) ?_
  refine z_istore_n hX dX7_countKind_1 rfl (by decide) [(2, .int (0 : Int32)), (0, .ref (X.1.2.1 7)), (1, .int x1)] rfl ?_
  refine z_iconst (v := 0) hX dX7_countKind_2 (by decide) ?_
  refine z_istore_n hX dX7_countKind_3 rfl (by decide) [(3, .int (0 : Int32)), (2, .int (0 : Int32)), (0, .ref (X.1.2.1 7)), (1, .int x1)] rfl ?_
  exact z_sub [2, 3, 1, 0] rfl h
set_option maxRecDepth 100000 in
set_option maxHeartbeats 4000000 in
theorem BX7_countKind_4 {X : XT} {Q : Option Value → Mem → Prop} (hX : KX7_countKind X) {x1 x2 x3 : Int32} {M : Mem} (h : (((M.1 7 5) ≤ x3 → Q (some (.int x2)) M) ∧ (¬ (M.1 7 5) ≤ x3 → (vp_in x3 10 ∧ ((¬ (M.1 21 x3.toNatClampNeg) = x1 → LX7_countKind_4 X Q x1 x2 (x3 + (1 : Int32)) M) ∧ ((M.1 21 x3.toNatClampNeg) = x1 → LX7_countKind_4 X Q x1 (x2 + (1 : Int32)) (x3 + (1 : Int32)) M)))))) : LX7_countKind_4 X Q x1 x2 x3 M := by
  show Z SX X 0 4 Q 4 [(0, .ref (X.1.2.1 7)), (1, .int x1), (2, .int x2), (3, .int x3)] [] M
  refine z_iload_n hX dX7_countKind_4 rfl 3 rfl ?_
  refine z_aload_n hX dX7_countKind_5 rfl 0 rfl ?_
  refine gfX7_29 hX dX7_countKind_6 ?_
  refine z_icmp_ge hX 31 dX7_countKind_9 (by decide) (fun c0 => ?_) (fun c0 => ?_)
  · replace h := h.1 c0
    refine z_iload_n hX dX7_countKind_31 rfl 2 rfl ?_
    exact z_iret hX dX7_countKind_32 h
  · replace h := h.2 c0
    refine z_aload_n hX dX7_countKind_12 rfl 0 rfl ?_
    refine gfX7_16 hX dX7_countKind_13 ?_
    refine z_iload_n hX dX7_countKind_16 rfl 3 rfl ?_
    refine z_iald hX 21 rfl h.1 dX7_countKind_17 ?_
    replace h := h.2
    refine z_iload_n hX dX7_countKind_18 rfl 1 rfl ?_
    refine z_icmp_ne hX 25 dX7_countKind_19 (by decide) (fun c0 => ?_) (fun c0 => ?_)
    · replace h := h.1 c0
      refine z_iinc (v := x3 + (1 : Int32)) hX dX7_countKind_25 3 rfl rfl (by decide) [(3, .int (x3 + (1 : Int32))), (0, .ref (X.1.2.1 7)), (1, .int x1), (2, .int x2)] rfl ?_
      refine z_goto hX 4 dX7_countKind_28 (by decide) ?_
      exact z_sub [1, 2, 3, 0] rfl h
    · replace h := h.2 c0
      refine z_iinc (v := x2 + (1 : Int32)) hX dX7_countKind_22 2 rfl rfl (by decide) [(2, .int (x2 + (1 : Int32))), (0, .ref (X.1.2.1 7)), (1, .int x1), (3, .int x3)] rfl ?_
      refine z_iinc (v := x3 + (1 : Int32)) hX dX7_countKind_25 3 rfl rfl (by decide) [(3, .int (x3 + (1 : Int32))), (2, .int (x2 + (1 : Int32))), (0, .ref (X.1.2.1 7)), (1, .int x1)] rfl ?_
      refine z_goto hX 4 dX7_countKind_28 (by decide) ?_
      exact z_sub [2, 3, 1, 0] rfl h
abbrev LX7_sumOf_10 (X : XT) (Q : Option Value → Mem → Prop) (x1 : Int32) (x2 : Int32) (x3 : Int32) (x4 : Int32) (M : Mem) : Prop := Z SX X 1 6 Q 10 [(0, .ref (X.1.2.1 7)), (1, .int x1), (2, .int x2), (3, .int x3), (4, .int x4)] [] M
set_option maxRecDepth 100000 in
set_option maxHeartbeats 4000000 in
theorem EX7_sumOf {E : ET} {Q : Option Value → Mem → Prop} {x1 x2 : Int32} {M : Mem} (h : ∀ X : XT, X.1 = E → KX7_sumOf X → (vp_in x1 10 ∧ LX7_sumOf_10 X Q x1 x2 (M.1 22 x1.toNatClampNeg) (0 : Int32) M)) : CX7_sumOf E [.ref (E.2.1 7), .int x1, .int x2] M Q := by
  refine z_entry (by decide +kernel) (Nat.le_of_ble_eq_true rfl) (fun X hE hX => ?_)
  subst hE
  replace h := h X rfl hX
  show Z SX X 1 6 Q 0 [(0, .ref (X.1.2.1 7)), (1, .int x1), (2, .int x2)] [] M
  refine z_aload_n hX dX7_sumOf_0 rfl 0 rfl ?_
  refine gfX7_20 hX dX7_sumOf_1 ?_
  refine z_iload_n hX dX7_sumOf_4 rfl 1 rfl ?_
  refine z_iald hX 22 rfl h.1 dX7_sumOf_5 ?_
  replace h := h.2
  refine z_istore_n hX dX7_sumOf_6 rfl (by decide) [(3, .int (M.1 22 x1.toNatClampNeg)), (0, .ref (X.1.2.1 7)), (1, .int x1), (2, .int x2)] rfl ?_
  refine z_iconst (v := 0) hX dX7_sumOf_7 (by decide) ?_
  refine z_istore hX dX7_sumOf_8 (by decide) [(4, .int (0 : Int32)), (3, .int (M.1 22 x1.toNatClampNeg)), (0, .ref (X.1.2.1 7)), (1, .int x1), (2, .int x2)] rfl ?_
  exact z_sub [2, 3, 4, 1, 0] rfl h
set_option maxRecDepth 100000 in
set_option maxHeartbeats 4000000 in
theorem BX7_sumOf_10 {X : XT} {Q : Option Value → Mem → Prop} (hX : KX7_sumOf X) {x1 x2 x3 x4 : Int32} {M : Mem} (h : (((M.1 7 5) ≤ x4 → Q (some (.int x3)) M) ∧ (¬ (M.1 7 5) ≤ x4 → (vp_in x1 10 ∧ (vp_in x1 10 ∧ vp_in x4 10 ∧ (∃ (r1 : Int32), CX7_worn X.1 [.int x2, .int x4] M (z_is (some (.int r1)) M) ∧ ((¬ r1 = (1 : Int32) → LX7_sumOf_10 X Q x1 x2 (x3 + (-(M.1 (10 + x1.toNatClampNeg) x4.toNatClampNeg))) (x4 + (1 : Int32)) M) ∧ (r1 = (1 : Int32) → LX7_sumOf_10 X Q x1 x2 (x3 + (M.1 (10 + x1.toNatClampNeg) x4.toNatClampNeg)) (x4 + (1 : Int32)) M)))))))) : LX7_sumOf_10 X Q x1 x2 x3 x4 M := by
  show Z SX X 1 6 Q 10 [(0, .ref (X.1.2.1 7)), (1, .int x1), (2, .int x2), (3, .int x3), (4, .int x4)] [] M
  refine z_iload hX dX7_sumOf_10 4 rfl ?_
  refine z_aload_n hX dX7_sumOf_12 rfl 0 rfl ?_
  refine gfX7_29 hX dX7_sumOf_13 ?_
  refine z_icmp_ge hX 57 dX7_sumOf_16 (by decide) (fun c0 => ?_) (fun c0 => ?_)
  · replace h := h.1 c0
    refine z_iload_n hX dX7_sumOf_57 rfl 3 rfl ?_
    exact z_iret hX dX7_sumOf_58 h
  · replace h := h.2 c0
    refine z_aload_n hX dX7_sumOf_19 rfl 0 rfl ?_
    refine gfX7_11 hX dX7_sumOf_20 ?_
    refine z_iload_n hX dX7_sumOf_23 rfl 1 rfl ?_
    refine z_aald hX 20 rfl h.1 (z_row h.1) dX7_sumOf_24 ?_
    replace h := h.2
    refine z_iload hX dX7_sumOf_25 4 rfl ?_
    refine z_iald hX (10 + x1.toNatClampNeg) (z_rowc h.1) h.2.1 dX7_sumOf_27 ?_
    replace h := h.2.2
    refine z_istore hX dX7_sumOf_28 (by decide) [(5, .int (M.1 (10 + x1.toNatClampNeg) x4.toNatClampNeg)), (0, .ref (X.1.2.1 7)), (1, .int x1), (2, .int x2), (3, .int x3), (4, .int x4)] rfl ?_
    refine z_iload_n hX dX7_sumOf_30 rfl 4 rfl ?_
    refine z_iload_n hX dX7_sumOf_31 rfl 3 rfl ?_
    refine z_iload hX dX7_sumOf_32 5 rfl ?_
    obtain ⟨r1, c9, h⟩ := h
    refine mcX7_51 hX dX7_sumOf_34 (by decide) (Nat.le_of_ble_eq_true rfl) c9 ?_
    refine z_iconst (v := 1) hX dX7_sumOf_37 (by decide) ?_
    refine z_icmp_ne hX 46 dX7_sumOf_38 (by decide) (fun c0 => ?_) (fun c0 => ?_)
    · replace h := h.1 c0
      refine z_iload hX dX7_sumOf_46 0 rfl ?_
      refine z_ineg hX dX7_sumOf_48 ?_
      refine z_iadd hX dX7_sumOf_49 ?_
      refine z_istore_n hX dX7_sumOf_50 rfl (by decide) [(3, .int (x3 + (-(M.1 (10 + x1.toNatClampNeg) x4.toNatClampNeg)))), (5, .int (M.1 (10 + x1.toNatClampNeg) x4.toNatClampNeg)), (0, .ref (X.1.2.1 7)), (1, .int x1), (2, .int x2), (4, .int x4)] rfl ?_
      refine z_iinc (v := x4 + (1 : Int32)) hX dX7_sumOf_51 5 rfl rfl (by decide) [(4, .int (x4 + (1 : Int32))), (3, .int (x3 + (-(M.1 (10 + x1.toNatClampNeg) x4.toNatClampNeg)))), (5, .int (M.1 (10 + x1.toNatClampNeg) x4.toNatClampNeg)), (0, .ref (X.1.2.1 7)), (1, .int x1), (2, .int x2)] rfl ?_
      refine z_goto hX 10 dX7_sumOf_54 (by decide) ?_
      exact z_sub [3, 4, 5, 1, 0] rfl h
    · replace h := h.2 c0
      refine z_iload hX dX7_sumOf_41 0 rfl ?_
      refine z_goto hX 49 dX7_sumOf_43 (by decide) ?_
      refine z_iadd hX dX7_sumOf_49 ?_
      refine z_istore_n hX dX7_sumOf_50 rfl (by decide) [(3, .int (x3 + (M.1 (10 + x1.toNatClampNeg) x4.toNatClampNeg))), (5, .int (M.1 (10 + x1.toNatClampNeg) x4.toNatClampNeg)), (0, .ref (X.1.2.1 7)), (1, .int x1), (2, .int x2), (4, .int x4)] rfl ?_
      refine z_iinc (v := x4 + (1 : Int32)) hX dX7_sumOf_51 5 rfl rfl (by decide) [(4, .int (x4 + (1 : Int32))), (3, .int (x3 + (M.1 (10 + x1.toNatClampNeg) x4.toNatClampNeg))), (5, .int (M.1 (10 + x1.toNatClampNeg) x4.toNatClampNeg)), (0, .ref (X.1.2.1 7)), (1, .int x1), (2, .int x2)] rfl ?_
      refine z_goto hX 10 dX7_sumOf_54 (by decide) ?_
      exact z_sub [3, 4, 5, 1, 0] rfl h
set_option maxRecDepth 100000 in
set_option maxHeartbeats 4000000 in
theorem EX7_worn {E : ET} {Q : Option Value → Mem → Prop} {x0 x1 : Int32} {M : Mem} (h : Q (some (.int ((x0 >>> (x1 &&& 31)) &&& (1 : Int32)))) M) : CX7_worn E [.int x0, .int x1] M Q := by
  refine z_entry (by decide +kernel) (Nat.le_of_ble_eq_true rfl) (fun X hE hX => ?_)
  subst hE
  show Z SX X 0 2 Q 0 [(0, .int x0), (1, .int x1)] [] M
  refine z_iload_n hX dX7_worn_0 rfl 0 rfl ?_
  refine z_iload_n hX dX7_worn_1 rfl 1 rfl ?_
  refine z_ishr hX dX7_worn_2 ?_
  refine z_iconst (v := 1) hX dX7_worn_3 (by decide) ?_
  refine z_iand hX dX7_worn_4 ?_
  exact z_iret hX dX7_worn_5 h
set_option maxRecDepth 100000 in
set_option maxHeartbeats 4000000 in
theorem EX7_nextOf {E : ET} {Q : Option Value → Mem → Prop} {x0 x1 x2 : Int32} {M : Mem} (h : ((¬ x0 = (3 : Int32) → ((x0 = (2 : Int32) → Q (some (.int x2)) M) ∧ (¬ x0 = (2 : Int32) → ((¬ x1 = 0 → ((x1 ≤ 0 → ((¬ x0 = 0 → ((¬ (0 : Int32) = (0 : Int32) → Q (some (.int (0 : Int32))) M) ∧ ((0 : Int32) = (0 : Int32) → Q (some (.int (1 : Int32))) M))) ∧ (x0 = 0 → ((¬ (0 : Int32) = (1 : Int32) → Q (some (.int (0 : Int32))) M) ∧ ((0 : Int32) = (1 : Int32) → Q (some (.int (1 : Int32))) M))))) ∧ (¬ x1 ≤ 0 → ((¬ x0 = 0 → ((¬ (1 : Int32) = (0 : Int32) → Q (some (.int (0 : Int32))) M) ∧ ((1 : Int32) = (0 : Int32) → Q (some (.int (1 : Int32))) M))) ∧ (x0 = 0 → ((¬ (1 : Int32) = (1 : Int32) → Q (some (.int (0 : Int32))) M) ∧ ((1 : Int32) = (1 : Int32) → Q (some (.int (1 : Int32))) M))))))) ∧ (x1 = 0 → Q (some (.int x2)) M))))) ∧ (x0 = (3 : Int32) → Q (some (.int ((1 : Int32) - x2))) M))) : CX7_nextOf E [.int x0, .int x1, .int x2] M Q := by
  refine z_entry (by decide +kernel) (Nat.le_of_ble_eq_true rfl) (fun X hE hX => ?_)
  subst hE
  show Z SX X 0 3 Q 0 [(0, .int x0), (1, .int x1), (2, .int x2)] [] M
  refine z_iload_n hX dX7_nextOf_0 rfl 0 rfl ?_
  refine z_iconst (v := 3) hX dX7_nextOf_1 (by decide) ?_
  refine z_icmp_ne hX 9 dX7_nextOf_2 (by decide) (fun c0 => ?_) (fun c0 => ?_)
  · replace h := h.1 c0
    refine z_iload_n hX dX7_nextOf_9 rfl 0 rfl ?_
    refine z_iconst (v := 2) hX dX7_nextOf_10 (by decide) ?_
    refine z_icmp_eq hX 18 dX7_nextOf_11 (by decide) (fun c0 => ?_) (fun c0 => ?_)
    · replace h := h.1 c0
      refine z_iload_n hX dX7_nextOf_18 rfl 2 rfl ?_
      exact z_iret hX dX7_nextOf_19 h
    · replace h := h.2 c0
      refine z_iload_n hX dX7_nextOf_14 rfl 1 rfl ?_
      refine z_if_ne hX 20 dX7_nextOf_15 (by decide) (fun c0 => ?_) (fun c0 => ?_)
      · replace h := h.1 c0
        refine z_iload_n hX dX7_nextOf_20 rfl 1 rfl ?_
        refine z_if_le hX 28 dX7_nextOf_21 (by decide) (fun c0 => ?_) (fun c0 => ?_)
        · replace h := h.1 c0
          refine z_iconst (v := 0) hX dX7_nextOf_28 (by decide) ?_
          refine z_iload_n hX dX7_nextOf_29 rfl 0 rfl ?_
          refine z_if_ne hX 37 dX7_nextOf_30 (by decide) (fun c0 => ?_) (fun c0 => ?_)
          · replace h := h.1 c0
            refine z_iconst (v := 0) hX dX7_nextOf_37 (by decide) ?_
            refine z_icmp_ne hX 45 dX7_nextOf_38 (by decide) (fun c0 => ?_) (fun c0 => ?_)
            · replace h := h.1 c0
              refine z_iconst (v := 0) hX dX7_nextOf_45 (by decide) ?_
              exact z_iret hX dX7_nextOf_46 h
            · replace h := h.2 c0
              refine z_iconst (v := 1) hX dX7_nextOf_41 (by decide) ?_
              refine z_goto hX 46 dX7_nextOf_42 (by decide) ?_
              exact z_iret hX dX7_nextOf_46 h
          · replace h := h.2 c0
            refine z_iconst (v := 1) hX dX7_nextOf_33 (by decide) ?_
            refine z_goto hX 38 dX7_nextOf_34 (by decide) ?_
            refine z_icmp_ne hX 45 dX7_nextOf_38 (by decide) (fun c0 => ?_) (fun c0 => ?_)
            · replace h := h.1 c0
              refine z_iconst (v := 0) hX dX7_nextOf_45 (by decide) ?_
              exact z_iret hX dX7_nextOf_46 h
            · replace h := h.2 c0
              refine z_iconst (v := 1) hX dX7_nextOf_41 (by decide) ?_
              refine z_goto hX 46 dX7_nextOf_42 (by decide) ?_
              exact z_iret hX dX7_nextOf_46 h
        · replace h := h.2 c0
          refine z_iconst (v := 1) hX dX7_nextOf_24 (by decide) ?_
          refine z_goto hX 29 dX7_nextOf_25 (by decide) ?_
          refine z_iload_n hX dX7_nextOf_29 rfl 0 rfl ?_
          refine z_if_ne hX 37 dX7_nextOf_30 (by decide) (fun c0 => ?_) (fun c0 => ?_)
          · replace h := h.1 c0
            refine z_iconst (v := 0) hX dX7_nextOf_37 (by decide) ?_
            refine z_icmp_ne hX 45 dX7_nextOf_38 (by decide) (fun c0 => ?_) (fun c0 => ?_)
            · replace h := h.1 c0
              refine z_iconst (v := 0) hX dX7_nextOf_45 (by decide) ?_
              exact z_iret hX dX7_nextOf_46 h
            · replace h := h.2 c0
              refine z_iconst (v := 1) hX dX7_nextOf_41 (by decide) ?_
              refine z_goto hX 46 dX7_nextOf_42 (by decide) ?_
              exact z_iret hX dX7_nextOf_46 h
          · replace h := h.2 c0
            refine z_iconst (v := 1) hX dX7_nextOf_33 (by decide) ?_
            refine z_goto hX 38 dX7_nextOf_34 (by decide) ?_
            refine z_icmp_ne hX 45 dX7_nextOf_38 (by decide) (fun c0 => ?_) (fun c0 => ?_)
            · replace h := h.1 c0
              refine z_iconst (v := 0) hX dX7_nextOf_45 (by decide) ?_
              exact z_iret hX dX7_nextOf_46 h
            · replace h := h.2 c0
              refine z_iconst (v := 1) hX dX7_nextOf_41 (by decide) ?_
              refine z_goto hX 46 dX7_nextOf_42 (by decide) ?_
              exact z_iret hX dX7_nextOf_46 h
      · replace h := h.2 c0
        refine z_iload_n hX dX7_nextOf_18 rfl 2 rfl ?_
        exact z_iret hX dX7_nextOf_19 h
  · replace h := h.2 c0
    refine z_iconst (v := 1) hX dX7_nextOf_5 (by decide) ?_
    refine z_iload_n hX dX7_nextOf_6 rfl 2 rfl ?_
    refine z_isub hX dX7_nextOf_7 ?_
    exact z_iret hX dX7_nextOf_8 h
set_option maxRecDepth 100000 in
set_option maxHeartbeats 4000000 in
theorem EX7_isCalm {E : ET} {Q : Option Value → Mem → Prop} {x1 x2 : Int32} {M : Mem} (h : ∃ (r1 : Int32), CX7_worn E [.int x2, .int x1] M (z_is (some (.int r1)) M) ∧ (vp_in x1 10 ∧ (∃ (r2 : Int32), CX7_sumOf E [.ref (E.2.1 7), .int x1, .int x2] M (z_is (some (.int r2)) M) ∧ (∃ (r3 : Int32), CX7_nextOf E [.int (M.1 21 x1.toNatClampNeg), .int r2, .int r1] M (z_is (some (.int r3)) M) ∧ ((¬ r3 = r1 → Q (some (.int 0)) M) ∧ (r3 = r1 → Q (some (.int 1)) M)))))) : CX7_isCalm E [.ref (E.2.1 7), .int x1, .int x2] M Q := by
  refine z_entry (by decide +kernel) (Nat.le_of_ble_eq_true rfl) (fun X hE hX => ?_)
  subst hE
  show Z SX X 2 4 Q 0 [(0, .ref (X.1.2.1 7)), (1, .int x1), (2, .int x2)] [] M
  refine z_iload_n hX dX7_isCalm_0 rfl 2 rfl ?_
  refine z_iload_n hX dX7_isCalm_1 rfl 1 rfl ?_
  obtain ⟨r1, c9, h⟩ := h
  refine mcX7_51 hX dX7_isCalm_2 (by decide) (Nat.le_of_ble_eq_true rfl) c9 ?_
  refine z_istore_n hX dX7_isCalm_5 rfl (by decide) [(3, .int r1), (0, .ref (X.1.2.1 7)), (1, .int x1), (2, .int x2)] rfl ?_
  refine z_aload_n hX dX7_isCalm_6 rfl 1 rfl ?_
  refine gfX7_16 hX dX7_isCalm_7 ?_
  refine z_iload_n hX dX7_isCalm_10 rfl 2 rfl ?_
  refine z_iald hX 21 rfl h.1 dX7_isCalm_11 ?_
  replace h := h.2
  refine z_aload_n hX dX7_isCalm_12 rfl 1 rfl ?_
  refine z_iload_n hX dX7_isCalm_13 rfl 2 rfl ?_
  refine z_iload_n hX dX7_isCalm_14 rfl 3 rfl ?_
  obtain ⟨r2, c9, h⟩ := h
  refine mcX7_55 hX dX7_isCalm_15 (by decide) (Nat.le_of_ble_eq_true rfl) c9 ?_
  refine z_iload_n hX dX7_isCalm_18 rfl 0 rfl ?_
  obtain ⟨r3, c9, h⟩ := h
  refine mcX7_58 hX dX7_isCalm_19 (by decide) (Nat.le_of_ble_eq_true rfl) c9 ?_
  refine z_iload_n hX dX7_isCalm_22 rfl 0 rfl ?_
  refine z_icmp_ne hX 30 dX7_isCalm_23 (by decide) (fun c0 => ?_) (fun c0 => ?_)
  · replace h := h.1 c0
    refine z_iconst (v := 0) hX dX7_isCalm_30 (by decide) ?_
    exact z_zret hX dX7_isCalm_31 (Or.inl rfl) h
  · replace h := h.2 c0
    refine z_iconst (v := 1) hX dX7_isCalm_26 (by decide) ?_
    refine z_goto hX 31 dX7_isCalm_27 (by decide) ?_
    exact z_zret hX dX7_isCalm_31 (Or.inr rfl) h
abbrev LX7_restlessIn_4 (X : XT) (Q : Option Value → Mem → Prop) (x1 : Int32) (x2 : Int32) (x3 : Int32) (M : Mem) : Prop := Z SX X 3 4 Q 4 [(0, .ref (X.1.2.1 7)), (1, .int x1), (2, .int x2), (3, .int x3)] [] M
set_option maxRecDepth 100000 in
set_option maxHeartbeats 4000000 in
theorem EX7_restlessIn {E : ET} {Q : Option Value → Mem → Prop} {x1 : Int32} {M : Mem} (h : ∀ X : XT, X.1 = E → KX7_restlessIn X → LX7_restlessIn_4 X Q x1 (0 : Int32) (0 : Int32) M) : CX7_restlessIn E [.ref (E.2.1 7), .int x1] M Q := by
  refine z_entry (by decide +kernel) (Nat.le_of_ble_eq_true rfl) (fun X hE hX => ?_)
  subst hE
  replace h := h X rfl hX
  show Z SX X 3 4 Q 0 [(0, .ref (X.1.2.1 7)), (1, .int x1)] [] M
  refine z_iconst (v := 0) hX dX7_restlessIn_0 (by decide) ?_
  refine z_istore_n hX dX7_restlessIn_1 rfl (by decide) [(2, .int (0 : Int32)), (0, .ref (X.1.2.1 7)), (1, .int x1)] rfl ?_
  refine z_iconst (v := 0) hX dX7_restlessIn_2 (by decide) ?_
  refine z_istore_n hX dX7_restlessIn_3 rfl (by decide) [(3, .int (0 : Int32)), (2, .int (0 : Int32)), (0, .ref (X.1.2.1 7)), (1, .int x1)] rfl ?_
  exact z_sub [2, 3, 1, 0] rfl h
set_option maxRecDepth 100000 in
set_option maxHeartbeats 4000000 in
theorem BX7_restlessIn_4 {X : XT} {Q : Option Value → Mem → Prop} (hX : KX7_restlessIn X) {x1 x2 x3 : Int32} {M : Mem} (h : (((M.1 7 5) ≤ x3 → Q (some (.int x2)) M) ∧ (¬ (M.1 7 5) ≤ x3 → (∃ (r1 : Int32), CX7_isCalm X.1 [.ref (X.1.2.1 7), .int x3, .int x1] M (z_is (some (.int r1)) M) ∧ ((¬ r1 = 0 → LX7_restlessIn_4 X Q x1 x2 (x3 + (1 : Int32)) M) ∧ (r1 = 0 → LX7_restlessIn_4 X Q x1 (x2 ||| ((1 : Int32) <<< (x3 &&& 31))) (x3 + (1 : Int32)) M)))))) : LX7_restlessIn_4 X Q x1 x2 x3 M := by
  show Z SX X 3 4 Q 4 [(0, .ref (X.1.2.1 7)), (1, .int x1), (2, .int x2), (3, .int x3)] [] M
  refine z_iload_n hX dX7_restlessIn_4 rfl 3 rfl ?_
  refine z_aload_n hX dX7_restlessIn_5 rfl 0 rfl ?_
  refine gfX7_29 hX dX7_restlessIn_6 ?_
  refine z_icmp_ge hX 33 dX7_restlessIn_9 (by decide) (fun c0 => ?_) (fun c0 => ?_)
  · replace h := h.1 c0
    refine z_iload_n hX dX7_restlessIn_33 rfl 2 rfl ?_
    exact z_iret hX dX7_restlessIn_34 h
  · replace h := h.2 c0
    refine z_aload_n hX dX7_restlessIn_12 rfl 0 rfl ?_
    refine z_iload_n hX dX7_restlessIn_13 rfl 3 rfl ?_
    refine z_iload_n hX dX7_restlessIn_14 rfl 1 rfl ?_
    obtain ⟨r1, c9, h⟩ := h
    refine mcX7_62 hX dX7_restlessIn_15 (by decide) (Nat.le_of_ble_eq_true rfl) c9 ?_
    refine z_if_ne hX 27 dX7_restlessIn_18 (by decide) (fun c0 => ?_) (fun c0 => ?_)
    · replace h := h.1 c0
      refine z_iinc (v := x3 + (1 : Int32)) hX dX7_restlessIn_27 3 rfl rfl (by decide) [(3, .int (x3 + (1 : Int32))), (0, .ref (X.1.2.1 7)), (1, .int x1), (2, .int x2)] rfl ?_
      refine z_goto hX 4 dX7_restlessIn_30 (by decide) ?_
      exact z_sub [1, 2, 3, 0] rfl h
    · replace h := h.2 c0
      refine z_iload_n hX dX7_restlessIn_21 rfl 2 rfl ?_
      refine z_iconst (v := 1) hX dX7_restlessIn_22 (by decide) ?_
      refine z_iload_n hX dX7_restlessIn_23 rfl 3 rfl ?_
      refine z_ishl hX dX7_restlessIn_24 ?_
      refine z_ior hX dX7_restlessIn_25 ?_
      refine z_istore_n hX dX7_restlessIn_26 rfl (by decide) [(2, .int (x2 ||| ((1 : Int32) <<< (x3 &&& 31)))), (0, .ref (X.1.2.1 7)), (1, .int x1), (3, .int x3)] rfl ?_
      refine z_iinc (v := x3 + (1 : Int32)) hX dX7_restlessIn_27 3 rfl rfl (by decide) [(3, .int (x3 + (1 : Int32))), (2, .int (x2 ||| ((1 : Int32) <<< (x3 &&& 31)))), (0, .ref (X.1.2.1 7)), (1, .int x1)] rfl ?_
      refine z_goto hX 4 dX7_restlessIn_30 (by decide) ?_
      exact z_sub [2, 3, 1, 0] rfl h
abbrev LX7_restless_2 (X : XT) (Q : Option Value → Mem → Prop) (x1 : Int32) (M : Mem) : Prop := Z SX X 2 2 Q 2 [(0, .ref (X.1.2.1 7)), (1, .int x1)] [] M
set_option maxRecDepth 100000 in
set_option maxHeartbeats 4000000 in
theorem EX7_restless {E : ET} {Q : Option Value → Mem → Prop} {M : Mem} (h : ∀ X : XT, X.1 = E → KX7_restless X → LX7_restless_2 X Q (0 : Int32) M) : CX7_restless E [.ref (E.2.1 7)] M Q := by
  refine z_entry (by decide +kernel) (Nat.le_of_ble_eq_true rfl) (fun X hE hX => ?_)
  subst hE
  replace h := h X rfl hX
  show Z SX X 2 2 Q 0 [(0, .ref (X.1.2.1 7))] [] M
  refine z_iconst (v := 0) hX dX7_restless_0 (by decide) ?_
  refine z_istore_n hX dX7_restless_1 rfl (by decide) [(1, .int (0 : Int32)), (0, .ref (X.1.2.1 7))] rfl ?_
  exact z_sub [1, 0] rfl h
set_option maxRecDepth 100000 in
set_option maxHeartbeats 4000000 in
theorem BX7_restless_2 {X : XT} {Q : Option Value → Mem → Prop} (hX : KX7_restless X) {x1 : Int32} {M : Mem} (h : (((M.1 7 5) ≤ x1 → (∀ M1 : Mem, M1 = z_st M 7 6 (0 : Int32) → Q (some (.ref (X.1.2.1 24))) M1)) ∧ (¬ (M.1 7 5) ≤ x1 → (∃ (r2 : Int32), CX7_worn X.1 [.int (M.1 7 6), .int x1] M (z_is (some (.int r2)) M) ∧ ((¬ r2 = (1 : Int32) → LX7_restless_2 X Q (x1 + (1 : Int32)) M) ∧ (r2 = (1 : Int32) → (∃ q4 : Mem → Prop, CX7_renew X.1 [.ref (X.1.2.1 7), .int x1] M (z_pV q4) ∧ ∀ (M3 : Mem), q4 M3 → LX7_restless_2 X Q (x1 + (1 : Int32)) M3))))))) : LX7_restless_2 X Q x1 M := by
  show Z SX X 2 2 Q 2 [(0, .ref (X.1.2.1 7)), (1, .int x1)] [] M
  refine z_iload_n hX dX7_restless_2 rfl 1 rfl ?_
  refine z_aload_n hX dX7_restless_3 rfl 0 rfl ?_
  refine gfX7_29 hX dX7_restless_4 ?_
  refine z_icmp_ge hX 33 dX7_restless_7 (by decide) (fun c0 => ?_) (fun c0 => ?_)
  · replace h := h.1 c0
    refine z_aload_n hX dX7_restless_33 rfl 0 rfl ?_
    refine z_iconst (v := 0) hX dX7_restless_34 (by decide) ?_
    refine pfX7_33 hX dX7_restless_35 (fun M1 eM1 => ?_)
    replace h := h M1 eM1
    refine z_aload_n hX dX7_restless_38 rfl 0 rfl ?_
    refine gfX7_26 hX dX7_restless_39 ?_
    exact z_aret hX dX7_restless_42 h
  · replace h := h.2 c0
    refine z_aload_n hX dX7_restless_10 rfl 0 rfl ?_
    refine gfX7_33 hX dX7_restless_11 ?_
    refine z_iload_n hX dX7_restless_14 rfl 1 rfl ?_
    obtain ⟨r2, c9, h⟩ := h
    refine mcX7_51 hX dX7_restless_15 (by decide) (Nat.le_of_ble_eq_true rfl) c9 ?_
    refine z_iconst (v := 1) hX dX7_restless_18 (by decide) ?_
    refine z_icmp_ne hX 27 dX7_restless_19 (by decide) (fun c0 => ?_) (fun c0 => ?_)
    · replace h := h.1 c0
      refine z_iinc (v := x1 + (1 : Int32)) hX dX7_restless_27 1 rfl rfl (by decide) [(1, .int (x1 + (1 : Int32))), (0, .ref (X.1.2.1 7))] rfl ?_
      refine z_goto hX 2 dX7_restless_30 (by decide) ?_
      exact z_sub [1, 0] rfl h
    · replace h := h.2 c0
      refine z_aload_n hX dX7_restless_22 rfl 0 rfl ?_
      refine z_iload_n hX dX7_restless_23 rfl 1 rfl ?_
      obtain ⟨q4, c9, h⟩ := h
      refine mcX7_66 hX dX7_restless_24 (by decide) (Nat.le_of_ble_eq_true rfl) c9 (fun M3 hq => ?_)
      replace h := h M3 hq
      refine z_iinc (v := x1 + (1 : Int32)) hX dX7_restless_27 1 rfl rfl (by decide) [(1, .int (x1 + (1 : Int32))), (0, .ref (X.1.2.1 7))] rfl ?_
      refine z_goto hX 2 dX7_restless_30 (by decide) ?_
      exact z_sub [1, 0] rfl h
abbrev LX7_renew_25 (X : XT) (Q : Option Value → Mem → Prop) (x1 : Int32) (x2 : Int32) (x3 : Int32) (x4 : Int32) (x5 : Int32) (M : Mem) : Prop := Z SX X 1 8 Q 25 [(0, .ref (X.1.2.1 7)), (1, .int x1), (2, .int x2), (3, .int x3), (4, .int x4), (5, .int x5)] [] M
set_option maxRecDepth 100000 in
set_option maxHeartbeats 4000000 in
theorem EX7_renew {E : ET} {Q : Option Value → Mem → Prop} {x1 : Int32} {M : Mem} (h : ∀ X : XT, X.1 = E → KX7_renew X → (∃ q3 : Mem → Prop, CX7_fillSums X.1 [.ref (X.1.2.1 7), .int x1] M (z_pV q3) ∧ ∀ (M1 : Mem), q3 M1 → (vp_in x1 10 ∧ (∃ (r2 : Int32), CX7_dresses X.1 [.ref (X.1.2.1 7)] M1 (z_is (some (.int r2)) M1) ∧ LX7_renew_25 X Q x1 (M1.1 21 x1.toNatClampNeg) ((1 : Int32) <<< (x1 &&& 31)) r2 (0 : Int32) M1)))) : CX7_renew E [.ref (E.2.1 7), .int x1] M Q := by
  refine z_entry (by decide +kernel) (Nat.le_of_ble_eq_true rfl) (fun X hE hX => ?_)
  subst hE
  replace h := h X rfl hX
  show Z SX X 1 8 Q 0 [(0, .ref (X.1.2.1 7)), (1, .int x1)] [] M
  refine z_aload_n hX dX7_renew_0 rfl 0 rfl ?_
  refine z_iload_n hX dX7_renew_1 rfl 1 rfl ?_
  obtain ⟨q3, c9, h⟩ := h
  refine mcX7_69 hX dX7_renew_2 (by decide) (Nat.le_of_ble_eq_true rfl) c9 (fun M1 hq => ?_)
  replace h := h M1 hq
  refine z_aload_n hX dX7_renew_5 rfl 0 rfl ?_
  refine gfX7_16 hX dX7_renew_6 ?_
  refine z_iload_n hX dX7_renew_9 rfl 1 rfl ?_
  refine z_iald hX 21 rfl h.1 dX7_renew_10 ?_
  replace h := h.2
  refine z_istore_n hX dX7_renew_11 rfl (by decide) [(2, .int (M1.1 21 x1.toNatClampNeg)), (0, .ref (X.1.2.1 7)), (1, .int x1)] rfl ?_
  refine z_iconst (v := 1) hX dX7_renew_12 (by decide) ?_
  refine z_iload_n hX dX7_renew_13 rfl 2 rfl ?_
  refine z_ishl hX dX7_renew_14 ?_
  refine z_istore_n hX dX7_renew_15 rfl (by decide) [(3, .int ((1 : Int32) <<< (x1 &&& 31))), (2, .int (M1.1 21 x1.toNatClampNeg)), (0, .ref (X.1.2.1 7)), (1, .int x1)] rfl ?_
  refine z_aload_n hX dX7_renew_16 rfl 2 rfl ?_
  obtain ⟨r2, c9, h⟩ := h
  refine mcX7_39 hX dX7_renew_17 (by decide) (Nat.le_of_ble_eq_true rfl) c9 ?_
  refine z_istore hX dX7_renew_20 (by decide) [(4, .int r2), (3, .int ((1 : Int32) <<< (x1 &&& 31))), (2, .int (M1.1 21 x1.toNatClampNeg)), (0, .ref (X.1.2.1 7)), (1, .int x1)] rfl ?_
  refine z_iconst (v := 0) hX dX7_renew_22 (by decide) ?_
  refine z_istore hX dX7_renew_23 (by decide) [(5, .int (0 : Int32)), (4, .int r2), (3, .int ((1 : Int32) <<< (x1 &&& 31))), (2, .int (M1.1 21 x1.toNatClampNeg)), (0, .ref (X.1.2.1 7)), (1, .int x1)] rfl ?_
  exact z_sub [4, 5, 3, 2, 1, 0] rfl h
set_option maxRecDepth 100000 in
set_option maxHeartbeats 4000000 in
theorem BX7_renew_25 {X : XT} {Q : Option Value → Mem → Prop} (hX : KX7_renew X) {x1 x2 x3 x4 x5 : Int32} {M : Mem} (h : ((x4 ≤ x5 → Q none M) ∧ (¬ x4 ≤ x5 → (∃ (r1 : Int32), CX7_worn X.1 [.int x5, .int x1] M (z_is (some (.int r1)) M) ∧ (vp_in x5 1024 ∧ (∃ (r2 : Int32), CX7_nextOf X.1 [.int x2, .int (M.1 23 x5.toNatClampNeg), .int r1] M (z_is (some (.int r2)) M) ∧ ((¬ r2 = r1 → (((0 : Int32) = 0 → (vp_in x5 1024 ∧ (vp_in x5 1024 ∧ (∀ M3 : Mem, M3 = z_st M 24 x5.toNatClampNeg ((M.1 24 x5.toNatClampNeg) ||| x3) → LX7_renew_25 X Q x1 x2 x3 x4 (x5 + (1 : Int32)) M3)))) ∧ (¬ (0 : Int32) = 0 → (vp_in x5 1024 ∧ (vp_in x5 1024 ∧ (∀ M4 : Mem, M4 = z_st M 24 x5.toNatClampNeg ((M.1 24 x5.toNatClampNeg) &&& (x3 ^^^ (-1 : Int32))) → LX7_renew_25 X Q x1 x2 x3 x4 (x5 + (1 : Int32)) M4)))))) ∧ (r2 = r1 → (((1 : Int32) = 0 → (vp_in x5 1024 ∧ (vp_in x5 1024 ∧ (∀ M5 : Mem, M5 = z_st M 24 x5.toNatClampNeg ((M.1 24 x5.toNatClampNeg) ||| x3) → LX7_renew_25 X Q x1 x2 x3 x4 (x5 + (1 : Int32)) M5)))) ∧ (¬ (1 : Int32) = 0 → (vp_in x5 1024 ∧ (vp_in x5 1024 ∧ (∀ M6 : Mem, M6 = z_st M 24 x5.toNatClampNeg ((M.1 24 x5.toNatClampNeg) &&& (x3 ^^^ (-1 : Int32))) → LX7_renew_25 X Q x1 x2 x3 x4 (x5 + (1 : Int32)) M6))))))))))))) : LX7_renew_25 X Q x1 x2 x3 x4 x5 M := by
  show Z SX X 1 8 Q 25 [(0, .ref (X.1.2.1 7)), (1, .int x1), (2, .int x2), (3, .int x3), (4, .int x4), (5, .int x5)] [] M
  refine z_iload hX dX7_renew_25 5 rfl ?_
  refine z_iload hX dX7_renew_27 4 rfl ?_
  refine z_icmp_ge hX 106 dX7_renew_29 (by decide) (fun c0 => ?_) (fun c0 => ?_)
  · replace h := h.1 c0
    exact z_vret hX dX7_renew_106 h
  · replace h := h.2 c0
    refine z_iload hX dX7_renew_32 5 rfl ?_
    refine z_iload_n hX dX7_renew_34 rfl 1 rfl ?_
    obtain ⟨r1, c9, h⟩ := h
    refine mcX7_51 hX dX7_renew_35 (by decide) (Nat.le_of_ble_eq_true rfl) c9 ?_
    refine z_istore hX dX7_renew_38 (by decide) [(6, .int r1), (0, .ref (X.1.2.1 7)), (1, .int x1), (2, .int x2), (3, .int x3), (4, .int x4), (5, .int x5)] rfl ?_
    refine z_iload_n hX dX7_renew_40 rfl 3 rfl ?_
    refine z_aload_n hX dX7_renew_41 rfl 1 rfl ?_
    refine gfX7_23 hX dX7_renew_42 ?_
    refine z_iload hX dX7_renew_45 6 rfl ?_
    refine z_iald hX 23 rfl h.1 dX7_renew_47 ?_
    replace h := h.2
    refine z_iload hX dX7_renew_48 0 rfl ?_
    obtain ⟨r2, c9, h⟩ := h
    refine mcX7_58 hX dX7_renew_50 (by decide) (Nat.le_of_ble_eq_true rfl) c9 ?_
    refine z_iload hX dX7_renew_53 0 rfl ?_
    refine z_icmp_ne hX 62 dX7_renew_55 (by decide) (fun c0 => ?_) (fun c0 => ?_)
    · replace h := h.1 c0
      refine z_iconst (v := 0) hX dX7_renew_62 (by decide) ?_
      refine z_istore hX dX7_renew_63 (by decide) [(7, .int (0 : Int32)), (6, .int r1), (0, .ref (X.1.2.1 7)), (1, .int x1), (2, .int x2), (3, .int x3), (4, .int x4), (5, .int x5)] rfl ?_
      refine z_aload_n hX dX7_renew_65 rfl 2 rfl ?_
      refine gfX7_26 hX dX7_renew_66 ?_
      refine z_iload hX dX7_renew_69 7 rfl ?_
      refine z_iload hX dX7_renew_71 0 rfl ?_
      refine z_if_eq hX 90 dX7_renew_73 (by decide) (fun c0 => ?_) (fun c0 => ?_)
      · replace h := h.1 c0
        refine z_aload_n hX dX7_renew_90 rfl 2 rfl ?_
        refine gfX7_26 hX dX7_renew_91 ?_
        refine z_iload hX dX7_renew_94 7 rfl ?_
        refine z_iald hX 24 rfl h.1 dX7_renew_96 ?_
        replace h := h.2
        refine z_iload_n hX dX7_renew_97 rfl 5 rfl ?_
        refine z_ior hX dX7_renew_98 ?_
        refine z_iastM hX 24 rfl h.1 dX7_renew_99 (fun M3 eM3 => ?_)
        replace h := h.2 M3 eM3
        refine z_iinc (v := x5 + (1 : Int32)) hX dX7_renew_100 7 rfl rfl (by decide) [(5, .int (x5 + (1 : Int32))), (7, .int (0 : Int32)), (6, .int r1), (0, .ref (X.1.2.1 7)), (1, .int x1), (2, .int x2), (3, .int x3), (4, .int x4)] rfl ?_
        refine z_goto hX 25 dX7_renew_103 (by decide) ?_
        exact z_sub [3, 4, 5, 6, 7, 0] rfl h
      · replace h := h.2 c0
        refine z_aload_n hX dX7_renew_76 rfl 2 rfl ?_
        refine gfX7_26 hX dX7_renew_77 ?_
        refine z_iload hX dX7_renew_80 7 rfl ?_
        refine z_iald hX 24 rfl h.1 dX7_renew_82 ?_
        replace h := h.2
        refine z_iload_n hX dX7_renew_83 rfl 5 rfl ?_
        refine z_iconst (v := -1) hX dX7_renew_84 (by decide) ?_
        refine z_ixor hX dX7_renew_85 ?_
        refine z_iand hX dX7_renew_86 ?_
        refine z_goto hX 99 dX7_renew_87 (by decide) ?_
        refine z_iastM hX 24 rfl h.1 dX7_renew_99 (fun M4 eM4 => ?_)
        replace h := h.2 M4 eM4
        refine z_iinc (v := x5 + (1 : Int32)) hX dX7_renew_100 7 rfl rfl (by decide) [(5, .int (x5 + (1 : Int32))), (7, .int (0 : Int32)), (6, .int r1), (0, .ref (X.1.2.1 7)), (1, .int x1), (2, .int x2), (3, .int x3), (4, .int x4)] rfl ?_
        refine z_goto hX 25 dX7_renew_103 (by decide) ?_
        exact z_sub [3, 4, 5, 6, 7, 0] rfl h
    · replace h := h.2 c0
      refine z_iconst (v := 1) hX dX7_renew_58 (by decide) ?_
      refine z_goto hX 63 dX7_renew_59 (by decide) ?_
      refine z_istore hX dX7_renew_63 (by decide) [(7, .int (1 : Int32)), (6, .int r1), (0, .ref (X.1.2.1 7)), (1, .int x1), (2, .int x2), (3, .int x3), (4, .int x4), (5, .int x5)] rfl ?_
      refine z_aload_n hX dX7_renew_65 rfl 2 rfl ?_
      refine gfX7_26 hX dX7_renew_66 ?_
      refine z_iload hX dX7_renew_69 7 rfl ?_
      refine z_iload hX dX7_renew_71 0 rfl ?_
      refine z_if_eq hX 90 dX7_renew_73 (by decide) (fun c0 => ?_) (fun c0 => ?_)
      · replace h := h.1 c0
        refine z_aload_n hX dX7_renew_90 rfl 2 rfl ?_
        refine gfX7_26 hX dX7_renew_91 ?_
        refine z_iload hX dX7_renew_94 7 rfl ?_
        refine z_iald hX 24 rfl h.1 dX7_renew_96 ?_
        replace h := h.2
        refine z_iload_n hX dX7_renew_97 rfl 5 rfl ?_
        refine z_ior hX dX7_renew_98 ?_
        refine z_iastM hX 24 rfl h.1 dX7_renew_99 (fun M5 eM5 => ?_)
        replace h := h.2 M5 eM5
        refine z_iinc (v := x5 + (1 : Int32)) hX dX7_renew_100 7 rfl rfl (by decide) [(5, .int (x5 + (1 : Int32))), (7, .int (1 : Int32)), (6, .int r1), (0, .ref (X.1.2.1 7)), (1, .int x1), (2, .int x2), (3, .int x3), (4, .int x4)] rfl ?_
        refine z_goto hX 25 dX7_renew_103 (by decide) ?_
        exact z_sub [3, 4, 5, 6, 7, 0] rfl h
      · replace h := h.2 c0
        refine z_aload_n hX dX7_renew_76 rfl 2 rfl ?_
        refine gfX7_26 hX dX7_renew_77 ?_
        refine z_iload hX dX7_renew_80 7 rfl ?_
        refine z_iald hX 24 rfl h.1 dX7_renew_82 ?_
        replace h := h.2
        refine z_iload_n hX dX7_renew_83 rfl 5 rfl ?_
        refine z_iconst (v := -1) hX dX7_renew_84 (by decide) ?_
        refine z_ixor hX dX7_renew_85 ?_
        refine z_iand hX dX7_renew_86 ?_
        refine z_goto hX 99 dX7_renew_87 (by decide) ?_
        refine z_iastM hX 24 rfl h.1 dX7_renew_99 (fun M6 eM6 => ?_)
        replace h := h.2 M6 eM6
        refine z_iinc (v := x5 + (1 : Int32)) hX dX7_renew_100 7 rfl rfl (by decide) [(5, .int (x5 + (1 : Int32))), (7, .int (1 : Int32)), (6, .int r1), (0, .ref (X.1.2.1 7)), (1, .int x1), (2, .int x2), (3, .int x3), (4, .int x4)] rfl ?_
        refine z_goto hX 25 dX7_renew_103 (by decide) ?_
        exact z_sub [3, 4, 5, 6, 7, 0] rfl h
abbrev LX7_fillSums_17 (X : XT) (Q : Option Value → Mem → Prop) (x1 : Int32) (x3 : Int32) (x4 : Int32) (M : Mem) : Prop := Z SX X 0 8 Q 17 [(0, .ref (X.1.2.1 7)), (1, .int x1), (2, .ref (X.1.2.1 (10 + x1.toNatClampNeg))), (3, .int x3), (4, .int x4)] [] M
abbrev LX7_fillSums_49 (X : XT) (Q : Option Value → Mem → Prop) (x1 : Int32) (x4 : Int32) (M : Mem) : Prop := Z SX X 0 8 Q 49 [(0, .ref (X.1.2.1 7)), (1, .int x1), (2, .ref (X.1.2.1 (10 + x1.toNatClampNeg))), (4, .int x4)] [] M
abbrev LX7_fillSums_75 (X : XT) (Q : Option Value → Mem → Prop) (x1 : Int32) (x4 : Int32) (x5 : Int32) (x6 : Int32) (x7 : Int32) (M : Mem) : Prop := Z SX X 0 8 Q 75 [(0, .ref (X.1.2.1 7)), (1, .int x1), (2, .ref (X.1.2.1 (10 + x1.toNatClampNeg))), (4, .int x4), (5, .int x5), (6, .int x6), (7, .int x7)] [] M
set_option maxRecDepth 100000 in
set_option maxHeartbeats 4000000 in
theorem EX7_fillSums {E : ET} {Q : Option Value → Mem → Prop} {x1 : Int32} {M : Mem} (h : ∀ X : XT, X.1 = E → KX7_fillSums X → (vp_in x1 10 ∧ (vp_in x1 10 ∧ LX7_fillSums_17 X Q x1 (M.1 22 x1.toNatClampNeg) (0 : Int32) M))) : CX7_fillSums E [.ref (E.2.1 7), .int x1] M Q := by
  refine z_entry (by decide +kernel) (Nat.le_of_ble_eq_true rfl) (fun X hE hX => ?_)
  subst hE
  replace h := h X rfl hX
  show Z SX X 0 8 Q 0 [(0, .ref (X.1.2.1 7)), (1, .int x1)] [] M
  refine z_aload_n hX dX7_fillSums_0 rfl 0 rfl ?_
  refine gfX7_11 hX dX7_fillSums_1 ?_
  refine z_iload_n hX dX7_fillSums_4 rfl 1 rfl ?_
  refine z_aald hX 20 rfl h.1 (z_row h.1) dX7_fillSums_5 ?_
  replace h := h.2
  refine z_astore_n hX dX7_fillSums_6 rfl (by decide) [(2, .ref (X.1.2.1 (10 + x1.toNatClampNeg))), (0, .ref (X.1.2.1 7)), (1, .int x1)] rfl ?_
  refine z_aload_n hX dX7_fillSums_7 rfl 1 rfl ?_
  refine gfX7_20 hX dX7_fillSums_8 ?_
  refine z_iload_n hX dX7_fillSums_11 rfl 2 rfl ?_
  refine z_iald hX 22 rfl h.1 dX7_fillSums_12 ?_
  replace h := h.2
  refine z_istore_n hX dX7_fillSums_13 rfl (by decide) [(3, .int (M.1 22 x1.toNatClampNeg)), (2, .ref (X.1.2.1 (10 + x1.toNatClampNeg))), (0, .ref (X.1.2.1 7)), (1, .int x1)] rfl ?_
  refine z_iconst (v := 0) hX dX7_fillSums_14 (by decide) ?_
  refine z_istore hX dX7_fillSums_15 (by decide) [(4, .int (0 : Int32)), (3, .int (M.1 22 x1.toNatClampNeg)), (2, .ref (X.1.2.1 (10 + x1.toNatClampNeg))), (0, .ref (X.1.2.1 7)), (1, .int x1)] rfl ?_
  exact z_sub [3, 4, 2, 1, 0] rfl h
set_option maxRecDepth 100000 in
set_option maxHeartbeats 4000000 in
theorem BX7_fillSums_17 {X : XT} {Q : Option Value → Mem → Prop} (hX : KX7_fillSums X) {x1 x3 x4 : Int32} {M : Mem} (h : (((M.1 7 5) ≤ x4 → (vp_in (0 : Int32) 1024 ∧ (∀ M1 : Mem, M1 = z_st M 23 (0 : Int32).toNatClampNeg x3 → LX7_fillSums_49 X Q x1 (0 : Int32) M1))) ∧ (¬ (M.1 7 5) ≤ x4 → (vp_in x1 10 ∧ vp_in x4 10 ∧ LX7_fillSums_17 X Q x1 (x3 - (M.1 (10 + x1.toNatClampNeg) x4.toNatClampNeg)) (x4 + (1 : Int32)) M)))) : LX7_fillSums_17 X Q x1 x3 x4 M := by
  show Z SX X 0 8 Q 17 [(0, .ref (X.1.2.1 7)), (1, .int x1), (2, .ref (X.1.2.1 (10 + x1.toNatClampNeg))), (3, .int x3), (4, .int x4)] [] M
  refine z_iload hX dX7_fillSums_17 4 rfl ?_
  refine z_aload_n hX dX7_fillSums_19 rfl 0 rfl ?_
  refine gfX7_29 hX dX7_fillSums_20 ?_
  refine z_icmp_ge hX 39 dX7_fillSums_23 (by decide) (fun c0 => ?_) (fun c0 => ?_)
  · replace h := h.1 c0
    refine z_aload_n hX dX7_fillSums_39 rfl 0 rfl ?_
    refine gfX7_23 hX dX7_fillSums_40 ?_
    refine z_iconst (v := 0) hX dX7_fillSums_43 (by decide) ?_
    refine z_iload_n hX dX7_fillSums_44 rfl 3 rfl ?_
    refine z_iastM hX 23 rfl h.1 dX7_fillSums_45 (fun M1 eM1 => ?_)
    replace h := h.2 M1 eM1
    refine z_iconst (v := 0) hX dX7_fillSums_46 (by decide) ?_
    refine z_istore hX dX7_fillSums_47 (by decide) [(4, .int (0 : Int32)), (0, .ref (X.1.2.1 7)), (1, .int x1), (2, .ref (X.1.2.1 (10 + x1.toNatClampNeg))), (3, .int x3)] rfl ?_
    exact z_sub [1, 2, 3, 0] rfl h
  · replace h := h.2 c0
    refine z_iload_n hX dX7_fillSums_26 rfl 3 rfl ?_
    refine z_aload_n hX dX7_fillSums_27 rfl 2 rfl ?_
    refine z_iload hX dX7_fillSums_28 4 rfl ?_
    refine z_iald hX (10 + x1.toNatClampNeg) (z_rowc h.1) h.2.1 dX7_fillSums_30 ?_
    replace h := h.2.2
    refine z_isub hX dX7_fillSums_31 ?_
    refine z_istore_n hX dX7_fillSums_32 rfl (by decide) [(3, .int (x3 - (M.1 (10 + x1.toNatClampNeg) x4.toNatClampNeg))), (0, .ref (X.1.2.1 7)), (1, .int x1), (2, .ref (X.1.2.1 (10 + x1.toNatClampNeg))), (4, .int x4)] rfl ?_
    refine z_iinc (v := x4 + (1 : Int32)) hX dX7_fillSums_33 4 rfl rfl (by decide) [(4, .int (x4 + (1 : Int32))), (3, .int (x3 - (M.1 (10 + x1.toNatClampNeg) x4.toNatClampNeg))), (0, .ref (X.1.2.1 7)), (1, .int x1), (2, .ref (X.1.2.1 (10 + x1.toNatClampNeg)))] rfl ?_
    refine z_goto hX 17 dX7_fillSums_36 (by decide) ?_
    exact z_sub [2, 3, 4, 1, 0] rfl h
set_option maxRecDepth 100000 in
set_option maxHeartbeats 4000000 in
theorem BX7_fillSums_49 {X : XT} {Q : Option Value → Mem → Prop} (hX : KX7_fillSums X) {x1 x4 : Int32} {M : Mem} (h : (((M.1 7 5) ≤ x4 → Q none M) ∧ (¬ (M.1 7 5) ≤ x4 → (vp_in x1 10 ∧ vp_in x4 10 ∧ LX7_fillSums_75 X Q x1 x4 ((1 : Int32) <<< (x4 &&& 31)) ((2 : Int32) * (M.1 (10 + x1.toNatClampNeg) x4.toNatClampNeg)) (0 : Int32) M)))) : LX7_fillSums_49 X Q x1 x4 M := by
  show Z SX X 0 8 Q 49 [(0, .ref (X.1.2.1 7)), (1, .int x1), (2, .ref (X.1.2.1 (10 + x1.toNatClampNeg))), (4, .int x4)] [] M
  refine z_iload hX dX7_fillSums_49 3 rfl ?_
  refine z_aload_n hX dX7_fillSums_51 rfl 0 rfl ?_
  refine gfX7_29 hX dX7_fillSums_52 ?_
  refine z_icmp_ge hX 114 dX7_fillSums_55 (by decide) (fun c0 => ?_) (fun c0 => ?_)
  · replace h := h.1 c0
    exact z_vret hX dX7_fillSums_114 h
  · replace h := h.2 c0
    refine z_iconst (v := 1) hX dX7_fillSums_58 (by decide) ?_
    refine z_iload hX dX7_fillSums_59 3 rfl ?_
    refine z_ishl hX dX7_fillSums_61 ?_
    refine z_istore hX dX7_fillSums_62 (by decide) [(5, .int ((1 : Int32) <<< (x4 &&& 31))), (0, .ref (X.1.2.1 7)), (1, .int x1), (2, .ref (X.1.2.1 (10 + x1.toNatClampNeg))), (4, .int x4)] rfl ?_
    refine z_iconst (v := 2) hX dX7_fillSums_64 (by decide) ?_
    refine z_aload_n hX dX7_fillSums_65 rfl 3 rfl ?_
    refine z_iload hX dX7_fillSums_66 4 rfl ?_
    refine z_iald hX (10 + x1.toNatClampNeg) (z_rowc h.1) h.2.1 dX7_fillSums_68 ?_
    replace h := h.2.2
    refine z_imul hX dX7_fillSums_69 ?_
    refine z_istore hX dX7_fillSums_70 (by decide) [(6, .int ((2 : Int32) * (M.1 (10 + x1.toNatClampNeg) x4.toNatClampNeg))), (5, .int ((1 : Int32) <<< (x4 &&& 31))), (0, .ref (X.1.2.1 7)), (1, .int x1), (2, .ref (X.1.2.1 (10 + x1.toNatClampNeg))), (4, .int x4)] rfl ?_
    refine z_iconst (v := 0) hX dX7_fillSums_72 (by decide) ?_
    refine z_istore hX dX7_fillSums_73 (by decide) [(7, .int (0 : Int32)), (6, .int ((2 : Int32) * (M.1 (10 + x1.toNatClampNeg) x4.toNatClampNeg))), (5, .int ((1 : Int32) <<< (x4 &&& 31))), (0, .ref (X.1.2.1 7)), (1, .int x1), (2, .ref (X.1.2.1 (10 + x1.toNatClampNeg))), (4, .int x4)] rfl ?_
    exact z_sub [3, 4, 5, 6, 2, 1, 0] rfl h
set_option maxRecDepth 100000 in
set_option maxHeartbeats 4000000 in
theorem BX7_fillSums_75 {X : XT} {Q : Option Value → Mem → Prop} (hX : KX7_fillSums X) {x1 x4 x5 x6 x7 : Int32} {M : Mem} (h : ((x5 ≤ x7 → LX7_fillSums_49 X Q x1 (x4 + (1 : Int32)) M) ∧ (¬ x5 ≤ x7 → (vp_in x7 1024 ∧ (vp_in (x7 + x5) 1024 ∧ (∀ M1 : Mem, M1 = z_st M 23 (x7 + x5).toNatClampNeg ((M.1 23 x7.toNatClampNeg) + x6) → LX7_fillSums_75 X Q x1 x4 x5 x6 (x7 + (1 : Int32)) M1)))))) : LX7_fillSums_75 X Q x1 x4 x5 x6 x7 M := by
  show Z SX X 0 8 Q 75 [(0, .ref (X.1.2.1 7)), (1, .int x1), (2, .ref (X.1.2.1 (10 + x1.toNatClampNeg))), (4, .int x4), (5, .int x5), (6, .int x6), (7, .int x7)] [] M
  refine z_iload hX dX7_fillSums_75 6 rfl ?_
  refine z_iload hX dX7_fillSums_77 4 rfl ?_
  refine z_icmp_ge hX 108 dX7_fillSums_79 (by decide) (fun c0 => ?_) (fun c0 => ?_)
  · replace h := h.1 c0
    refine z_iinc (v := x4 + (1 : Int32)) hX dX7_fillSums_108 3 rfl rfl (by decide) [(4, .int (x4 + (1 : Int32))), (0, .ref (X.1.2.1 7)), (1, .int x1), (2, .ref (X.1.2.1 (10 + x1.toNatClampNeg))), (5, .int x5), (6, .int x6), (7, .int x7)] rfl ?_
    refine z_goto hX 49 dX7_fillSums_111 (by decide) ?_
    exact z_sub [1, 2, 3, 0] rfl h
  · replace h := h.2 c0
    refine z_aload_n hX dX7_fillSums_82 rfl 0 rfl ?_
    refine gfX7_23 hX dX7_fillSums_83 ?_
    refine z_iload hX dX7_fillSums_86 6 rfl ?_
    refine z_iload hX dX7_fillSums_88 4 rfl ?_
    refine z_iadd hX dX7_fillSums_90 ?_
    refine z_aload_n hX dX7_fillSums_91 rfl 0 rfl ?_
    refine gfX7_23 hX dX7_fillSums_92 ?_
    refine z_iload hX dX7_fillSums_95 6 rfl ?_
    refine z_iald hX 23 rfl h.1 dX7_fillSums_97 ?_
    replace h := h.2
    refine z_iload hX dX7_fillSums_98 5 rfl ?_
    refine z_iadd hX dX7_fillSums_100 ?_
    refine z_iastM hX 23 rfl h.1 dX7_fillSums_101 (fun M1 eM1 => ?_)
    replace h := h.2 M1 eM1
    refine z_iinc (v := x7 + (1 : Int32)) hX dX7_fillSums_102 6 rfl rfl (by decide) [(7, .int (x7 + (1 : Int32))), (0, .ref (X.1.2.1 7)), (1, .int x1), (2, .ref (X.1.2.1 (10 + x1.toNatClampNeg))), (4, .int x4), (5, .int x5), (6, .int x6)] rfl ?_
    refine z_goto hX 75 dX7_fillSums_105 (by decide) ?_
    exact z_sub [1, 2, 3, 4, 5, 6, 0] rfl h
