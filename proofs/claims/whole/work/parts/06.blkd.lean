abbrev LX4_leastDress_18 (X : XT) (Q : Option Value → Mem → Prop) (x2 : Int32) (x3 : Int32) (M : Mem) : Prop := Z SX X 4 5 Q 18 [(0, .ref (X.1.2.1 4)), (1, .ref (X.1.2.1 24)), (2, .int x2), (3, .int x3)] [] M
abbrev LX4_leastDress_60 (X : XT) (Q : Option Value → Mem → Prop) (x2 : Int32) (x3 : Int32) (x4 : Int32) (M : Mem) : Prop := Z SX X 4 5 Q 60 [(0, .ref (X.1.2.1 4)), (2, .int x2), (3, .int x3), (4, .int x4)] [] M
set_option maxRecDepth 100000 in
set_option maxHeartbeats 4000000 in
theorem EX4_leastDress {E : ET} {Q : Option Value → Mem → Prop} {M : Mem} (h : ∀ X : XT, X.1 = E → KX4_leastDress X → (∃ q3 : Mem → Prop, CX7_restless X.1 [.ref (X.1.2.1 7)] M (z_pR (X.1.2.1 24) q3) ∧ ∀ (M1 : Mem), q3 M1 → (∃ (r2 : Int32), CX7_dresses X.1 [.ref (X.1.2.1 7)] M1 (z_is (some (.int r2)) M1) ∧ LX4_leastDress_18 X Q r2 (0 : Int32) M1))) : CX4_leastDress E [.ref (E.2.1 4)] M Q := by
  refine z_entry (by decide +kernel) (Nat.le_of_ble_eq_true rfl) (fun X hE hX => ?_)
  subst hE
  replace h := h X rfl hX
  show Z SX X 4 5 Q 0 [(0, .ref (X.1.2.1 4))] [] M
  refine z_aload_n hX dX4_leastDress_0 rfl 0 rfl ?_
  refine gfX4_9 hX dX4_leastDress_1 ?_
  obtain ⟨q3, c9, h⟩ := h
  refine mcX4_48 hX dX4_leastDress_4 (by decide) (Nat.le_of_ble_eq_true rfl) c9 (fun M1 hq => ?_)
  replace h := h M1 hq
  refine z_astore_n hX dX4_leastDress_7 rfl (by decide) [(1, .ref (X.1.2.1 24)), (0, .ref (X.1.2.1 4))] rfl ?_
  refine z_aload_n hX dX4_leastDress_8 rfl 1 rfl ?_
  refine gfX4_9 hX dX4_leastDress_9 ?_
  obtain ⟨r2, c9, h⟩ := h
  refine mcX4_54 hX dX4_leastDress_12 (by decide) (Nat.le_of_ble_eq_true rfl) c9 ?_
  refine z_istore_n hX dX4_leastDress_15 rfl (by decide) [(2, .int r2), (1, .ref (X.1.2.1 24)), (0, .ref (X.1.2.1 4))] rfl ?_
  refine z_iconst (v := 0) hX dX4_leastDress_16 (by decide) ?_
  refine z_istore_n hX dX4_leastDress_17 rfl (by decide) [(3, .int (0 : Int32)), (2, .int r2), (1, .ref (X.1.2.1 24)), (0, .ref (X.1.2.1 4))] rfl ?_
  exact z_sub [3, 2, 1, 0] rfl h
set_option maxRecDepth 100000 in
set_option maxHeartbeats 4000000 in
theorem BX4_leastDress_18 {X : XT} {Q : Option Value → Mem → Prop} (hX : KX4_leastDress X) {x2 x3 : Int32} {M : Mem} (h : ((x2 ≤ x3 → (∀ M1 : Mem, M1 = z_st M 4 6 (0 : Int32) → (∀ M2 : Mem, M2 = z_st M1 4 8 (0 : Int32) → LX4_leastDress_60 X Q x2 x2 (0 : Int32) M2))) ∧ (¬ x2 ≤ x3 → (vp_in x3 1024 ∧ (∀ M3 : Mem, M3 = z_st M 29 x3.toNatClampNeg (0 : Int32) → (vp_in x3 1024 ∧ (vp_in x3 1024 ∧ (∀ M4 : Mem, M4 = z_st M3 33 x3.toNatClampNeg (M3.1 24 x3.toNatClampNeg) → LX4_leastDress_18 X Q x2 (x3 + (1 : Int32)) M4)))))))) : LX4_leastDress_18 X Q x2 x3 M := by
  show Z SX X 4 5 Q 18 [(0, .ref (X.1.2.1 4)), (1, .ref (X.1.2.1 24)), (2, .int x2), (3, .int x3)] [] M
  refine z_iload_n hX dX4_leastDress_18 rfl 3 rfl ?_
  refine z_iload_n hX dX4_leastDress_19 rfl 2 rfl ?_
  refine z_icmp_ge hX 45 dX4_leastDress_20 (by decide) (fun c0 => ?_) (fun c0 => ?_)
  · replace h := h.1 c0
    refine z_aload_n hX dX4_leastDress_45 rfl 0 rfl ?_
    refine z_iconst (v := 0) hX dX4_leastDress_46 (by decide) ?_
    refine pfX4_58 hX dX4_leastDress_47 (fun M1 eM1 => ?_)
    replace h := h M1 eM1
    refine z_aload_n hX dX4_leastDress_50 rfl 0 rfl ?_
    refine z_iconst (v := 0) hX dX4_leastDress_51 (by decide) ?_
    refine pfX4_62 hX dX4_leastDress_52 (fun M2 eM2 => ?_)
    replace h := h M2 eM2
    refine z_iload_n hX dX4_leastDress_55 rfl 2 rfl ?_
    refine z_istore_n hX dX4_leastDress_56 rfl (by decide) [(3, .int x2), (0, .ref (X.1.2.1 4)), (1, .ref (X.1.2.1 24)), (2, .int x2)] rfl ?_
    refine z_iconst (v := 0) hX dX4_leastDress_57 (by decide) ?_
    refine z_istore hX dX4_leastDress_58 (by decide) [(4, .int (0 : Int32)), (3, .int x2), (0, .ref (X.1.2.1 4)), (1, .ref (X.1.2.1 24)), (2, .int x2)] rfl ?_
    exact z_sub [2, 4, 1, 0] rfl h
  · replace h := h.2 c0
    refine z_aload_n hX dX4_leastDress_23 rfl 0 rfl ?_
    refine gfX4_21 hX dX4_leastDress_24 ?_
    refine z_iload_n hX dX4_leastDress_27 rfl 3 rfl ?_
    refine z_iconst (v := 0) hX dX4_leastDress_28 (by decide) ?_
    refine z_iastM hX 29 rfl h.1 dX4_leastDress_29 (fun M3 eM3 => ?_)
    replace h := h.2 M3 eM3
    refine z_aload_n hX dX4_leastDress_30 rfl 0 rfl ?_
    refine gfX4_45 hX dX4_leastDress_31 ?_
    refine z_iload_n hX dX4_leastDress_34 rfl 3 rfl ?_
    refine z_aload_n hX dX4_leastDress_35 rfl 1 rfl ?_
    refine z_iload_n hX dX4_leastDress_36 rfl 3 rfl ?_
    refine z_iald hX 24 rfl h.1 dX4_leastDress_37 ?_
    replace h := h.2
    refine z_iastM hX 33 rfl h.1 dX4_leastDress_38 (fun M4 eM4 => ?_)
    replace h := h.2 M4 eM4
    refine z_iinc (v := x3 + (1 : Int32)) hX dX4_leastDress_39 3 rfl rfl (by decide) [(3, .int (x3 + (1 : Int32))), (0, .ref (X.1.2.1 4)), (1, .ref (X.1.2.1 24)), (2, .int x2)] rfl ?_
    refine z_goto hX 18 dX4_leastDress_42 (by decide) ?_
    exact z_sub [1, 2, 3, 0] rfl h
set_option maxRecDepth 100000 in
set_option maxHeartbeats 4000000 in
theorem BX4_leastDress_60 {X : XT} {Q : Option Value → Mem → Prop} (hX : KX4_leastDress X) {x2 x3 x4 : Int32} {M : Mem} (h : ((x3 ≤ x4 → ((x2 ≤ x3 → Q (some (.int (-1 : Int32))) M) ∧ (¬ x2 ≤ x3 → Q (some (.int x3)) M))) ∧ (¬ x3 ≤ x4 → (vp_in x4 1024 ∧ ((¬ (M.1 29 x4.toNatClampNeg) = 0 → LX4_leastDress_60 X Q x2 x3 (x4 + (1 : Int32)) M) ∧ ((M.1 29 x4.toNatClampNeg) = 0 → (∃ q3 : Int32 → Mem → Prop, CX4_searchFrom X.1 [.ref (X.1.2.1 4), .int x4, .int x2] M (z_pI q3) ∧ ∀ (r2 : Int32) (M1 : Mem), q3 r2 M1 → LX4_leastDress_60 X Q x2 (if r2 < x3 then r2 else x3) (x4 + (1 : Int32)) M1))))))) : LX4_leastDress_60 X Q x2 x3 x4 M := by
  show Z SX X 4 5 Q 60 [(0, .ref (X.1.2.1 4)), (2, .int x2), (3, .int x3), (4, .int x4)] [] M
  refine z_iload hX dX4_leastDress_60 3 rfl ?_
  refine z_iload_n hX dX4_leastDress_62 rfl 2 rfl ?_
  refine z_icmp_ge hX 94 dX4_leastDress_63 (by decide) (fun c0 => ?_) (fun c0 => ?_)
  · replace h := h.1 c0
    refine z_iload_n hX dX4_leastDress_94 rfl 2 rfl ?_
    refine z_iload_n hX dX4_leastDress_95 rfl 1 rfl ?_
    refine z_icmp_ge hX 103 dX4_leastDress_96 (by decide) (fun c0 => ?_) (fun c0 => ?_)
    · replace h := h.1 c0
      refine z_iconst (v := -1) hX dX4_leastDress_103 (by decide) ?_
      exact z_iret hX dX4_leastDress_104 h
    · replace h := h.2 c0
      refine z_iload_n hX dX4_leastDress_99 rfl 2 rfl ?_
      refine z_goto hX 104 dX4_leastDress_100 (by decide) ?_
      exact z_iret hX dX4_leastDress_104 h
  · replace h := h.2 c0
    refine z_aload_n hX dX4_leastDress_66 rfl 0 rfl ?_
    refine gfX4_21 hX dX4_leastDress_67 ?_
    refine z_iload hX dX4_leastDress_70 3 rfl ?_
    refine z_iald hX 29 rfl h.1 dX4_leastDress_72 ?_
    replace h := h.2
    refine z_if_ne hX 88 dX4_leastDress_73 (by decide) (fun c0 => ?_) (fun c0 => ?_)
    · replace h := h.1 c0
      refine z_iinc (v := x4 + (1 : Int32)) hX dX4_leastDress_88 3 rfl rfl (by decide) [(4, .int (x4 + (1 : Int32))), (0, .ref (X.1.2.1 4)), (2, .int x2), (3, .int x3)] rfl ?_
      refine z_goto hX 60 dX4_leastDress_91 (by decide) ?_
      exact z_sub [1, 2, 3, 0] rfl h
    · replace h := h.2 c0
      refine z_iload_n hX dX4_leastDress_76 rfl 2 rfl ?_
      refine z_aload_n hX dX4_leastDress_77 rfl 0 rfl ?_
      refine z_iload hX dX4_leastDress_78 3 rfl ?_
      refine z_iload_n hX dX4_leastDress_80 rfl 1 rfl ?_
      obtain ⟨q3, c9, h⟩ := h
      refine mcX4_65 hX dX4_leastDress_81 (by decide) (Nat.le_of_ble_eq_true rfl) c9 (fun r2 M1 hq => ?_)
      replace h := h r2 M1 hq
      refine mcX4_69 hX dX4_leastDress_84 (by decide) (Nat.le_of_ble_eq_true rfl) ?_
      refine z_istore_n hX dX4_leastDress_87 rfl (by decide) [(3, .int (if r2 < x3 then r2 else x3)), (0, .ref (X.1.2.1 4)), (2, .int x2), (4, .int x4)] rfl ?_
      refine z_iinc (v := x4 + (1 : Int32)) hX dX4_leastDress_88 3 rfl rfl (by decide) [(4, .int (x4 + (1 : Int32))), (3, .int (if r2 < x3 then r2 else x3)), (0, .ref (X.1.2.1 4)), (2, .int x2)] rfl ?_
      refine z_goto hX 60 dX4_leastDress_91 (by decide) ?_
      exact z_sub [2, 3, 1, 0] rfl h
abbrev LX4_searchFrom_20 (X : XT) (Q : Option Value → Mem → Prop) (x2 : Int32) (x3 : Int32) (x4 : Int32) (x5 : Int32) (M : Mem) : Prop := Z SX X 3 7 Q 20 [(0, .ref (X.1.2.1 4)), (2, .int x2), (3, .int x3), (4, .int x4), (5, .int x5)] [] M
set_option maxRecDepth 100000 in
set_option maxHeartbeats 4000000 in
theorem EX4_searchFrom {E : ET} {Q : Option Value → Mem → Prop} {x1 x2 : Int32} {M : Mem} (h : ∀ X : XT, X.1 = E → KX4_searchFrom X → (∀ M1 : Mem, M1 = z_st M 4 7 (0 : Int32) → (∃ q3 : Mem → Prop, CX4_enter X.1 [.ref (X.1.2.1 4), .int x1] M1 (z_pV q3) ∧ ∀ (M2 : Mem), q3 M2 → LX4_searchFrom_20 X Q x2 (11264 : Int32) x2 (0 : Int32) M2))) : CX4_searchFrom E [.ref (E.2.1 4), .int x1, .int x2] M Q := by
  refine z_entry (by decide +kernel) (Nat.le_of_ble_eq_true rfl) (fun X hE hX => ?_)
  subst hE
  replace h := h X rfl hX
  show Z SX X 3 7 Q 0 [(0, .ref (X.1.2.1 4)), (1, .int x1), (2, .int x2)] [] M
  refine z_sipush (v := 11264) hX dX4_searchFrom_0 (by decide) ?_
  refine z_istore_n hX dX4_searchFrom_3 rfl (by decide) [(3, .int (11264 : Int32)), (0, .ref (X.1.2.1 4)), (1, .int x1), (2, .int x2)] rfl ?_
  refine z_iload_n hX dX4_searchFrom_4 rfl 3 rfl ?_
  refine z_istore hX dX4_searchFrom_5 (by decide) [(4, .int x2), (3, .int (11264 : Int32)), (0, .ref (X.1.2.1 4)), (1, .int x1), (2, .int x2)] rfl ?_
  refine z_aload_n hX dX4_searchFrom_7 rfl 2 rfl ?_
  refine z_iconst (v := 0) hX dX4_searchFrom_8 (by decide) ?_
  refine pfX4_74 hX dX4_searchFrom_9 (fun M1 eM1 => ?_)
  replace h := h M1 eM1
  refine z_aload_n hX dX4_searchFrom_12 rfl 2 rfl ?_
  refine z_iload_n hX dX4_searchFrom_13 rfl 3 rfl ?_
  obtain ⟨q3, c9, h⟩ := h
  refine mcX4_77 hX dX4_searchFrom_14 (by decide) (Nat.le_of_ble_eq_true rfl) c9 (fun M2 hq => ?_)
  replace h := h M2 hq
  refine z_iconst (v := 0) hX dX4_searchFrom_17 (by decide) ?_
  refine z_istore hX dX4_searchFrom_18 (by decide) [(5, .int (0 : Int32)), (4, .int x2), (3, .int (11264 : Int32)), (0, .ref (X.1.2.1 4)), (1, .int x1), (2, .int x2)] rfl ?_
  exact z_sub [3, 5, 2, 1, 0] rfl h
set_option maxRecDepth 100000 in
set_option maxHeartbeats 4000000 in
theorem BX4_searchFrom_20 {X : XT} {Q : Option Value → Mem → Prop} (hX : KX4_searchFrom X) {x2 x3 x4 x5 : Int32} {M : Mem} (h : ((x3 ≤ x5 → Q (some (.int x4)) M) ∧ (¬ x3 ≤ x5 → (((M.1 4 7) ≤ 0 → Q (some (.int x4)) M) ∧ (¬ (M.1 4 7) ≤ 0 → (vp_in ((M.1 4 7) - (1 : Int32)) 1024 ∧ (vp_in (M.1 31 ((M.1 4 7) - (1 : Int32)).toNatClampNeg) 1024 ∧ (((M.1 33 (M.1 31 ((M.1 4 7) - (1 : Int32)).toNatClampNeg).toNatClampNeg) = 0 → (∃ q3 : Int32 → Mem → Prop, CX4_goBack X.1 [.ref (X.1.2.1 4), .int (M.1 31 ((M.1 4 7) - (1 : Int32)).toNatClampNeg), .int x2] M (z_pI q3) ∧ ∀ (r2 : Int32) (M1 : Mem), q3 r2 M1 → LX4_searchFrom_20 X Q x2 x3 (if r2 < x4 then r2 else x4) (x5 + (1 : Int32)) M1)) ∧ (¬ (M.1 33 (M.1 31 ((M.1 4 7) - (1 : Int32)).toNatClampNeg).toNatClampNeg) = 0 → (∃ q5 : Mem → Prop, CX4_followOne X.1 [.ref (X.1.2.1 4), .int (M.1 31 ((M.1 4 7) - (1 : Int32)).toNatClampNeg)] M (z_pV q5) ∧ ∀ (M4 : Mem), q5 M4 → LX4_searchFrom_20 X Q x2 x3 x4 (x5 + (1 : Int32)) M4)))))))))) : LX4_searchFrom_20 X Q x2 x3 x4 x5 M := by
  show Z SX X 3 7 Q 20 [(0, .ref (X.1.2.1 4)), (2, .int x2), (3, .int x3), (4, .int x4), (5, .int x5)] [] M
  refine z_iload hX dX4_searchFrom_20 4 rfl ?_
  refine z_iload_n hX dX4_searchFrom_22 rfl 2 rfl ?_
  refine z_icmp_ge hX 85 dX4_searchFrom_23 (by decide) (fun c0 => ?_) (fun c0 => ?_)
  · replace h := h.1 c0
    refine z_iload hX dX4_searchFrom_85 3 rfl ?_
    exact z_iret hX dX4_searchFrom_87 h
  · replace h := h.2 c0
    refine z_aload_n hX dX4_searchFrom_26 rfl 0 rfl ?_
    refine gfX4_74 hX dX4_searchFrom_27 ?_
    refine z_if_le hX 85 dX4_searchFrom_30 (by decide) (fun c0 => ?_) (fun c0 => ?_)
    · replace h := h.1 c0
      refine z_iload hX dX4_searchFrom_85 3 rfl ?_
      exact z_iret hX dX4_searchFrom_87 h
    · replace h := h.2 c0
      refine z_aload_n hX dX4_searchFrom_33 rfl 0 rfl ?_
      refine gfX4_33 hX dX4_searchFrom_34 ?_
      refine z_aload_n hX dX4_searchFrom_37 rfl 0 rfl ?_
      refine gfX4_74 hX dX4_searchFrom_38 ?_
      refine z_iconst (v := 1) hX dX4_searchFrom_41 (by decide) ?_
      refine z_isub hX dX4_searchFrom_42 ?_
      refine z_iald hX 31 rfl h.1 dX4_searchFrom_43 ?_
      replace h := h.2
      refine z_istore hX dX4_searchFrom_44 (by decide) [(6, .int (M.1 31 ((M.1 4 7) - (1 : Int32)).toNatClampNeg)), (0, .ref (X.1.2.1 4)), (2, .int x2), (3, .int x3), (4, .int x4), (5, .int x5)] rfl ?_
      refine z_aload_n hX dX4_searchFrom_46 rfl 1 rfl ?_
      refine gfX4_45 hX dX4_searchFrom_47 ?_
      refine z_iload hX dX4_searchFrom_50 0 rfl ?_
      refine z_iald hX 33 rfl h.1 dX4_searchFrom_52 ?_
      replace h := h.2
      refine z_if_eq hX 65 dX4_searchFrom_53 (by decide) (fun c0 => ?_) (fun c0 => ?_)
      · replace h := h.1 c0
        refine z_iload hX dX4_searchFrom_65 4 rfl ?_
        refine z_aload_n hX dX4_searchFrom_67 rfl 1 rfl ?_
        refine z_iload hX dX4_searchFrom_68 0 rfl ?_
        refine z_iload_n hX dX4_searchFrom_70 rfl 2 rfl ?_
        obtain ⟨q3, c9, h⟩ := h
        refine mcX4_84 hX dX4_searchFrom_71 (by decide) (Nat.le_of_ble_eq_true rfl) c9 (fun r2 M1 hq => ?_)
        replace h := h r2 M1 hq
        refine mcX4_69 hX dX4_searchFrom_74 (by decide) (Nat.le_of_ble_eq_true rfl) ?_
        refine z_istore hX dX4_searchFrom_77 (by decide) [(4, .int (if r2 < x4 then r2 else x4)), (6, .int (M.1 31 ((M.1 4 7) - (1 : Int32)).toNatClampNeg)), (0, .ref (X.1.2.1 4)), (2, .int x2), (3, .int x3), (5, .int x5)] rfl ?_
        refine z_iinc (v := x5 + (1 : Int32)) hX dX4_searchFrom_79 5 rfl rfl (by decide) [(5, .int (x5 + (1 : Int32))), (4, .int (if r2 < x4 then r2 else x4)), (6, .int (M.1 31 ((M.1 4 7) - (1 : Int32)).toNatClampNeg)), (0, .ref (X.1.2.1 4)), (2, .int x2), (3, .int x3)] rfl ?_
        refine z_goto hX 20 dX4_searchFrom_82 (by decide) ?_
        exact z_sub [3, 4, 5, 1, 0] rfl h
      · replace h := h.2 c0
        refine z_aload_n hX dX4_searchFrom_56 rfl 1 rfl ?_
        refine z_iload hX dX4_searchFrom_57 0 rfl ?_
        obtain ⟨q5, c9, h⟩ := h
        refine mcX4_81 hX dX4_searchFrom_59 (by decide) (Nat.le_of_ble_eq_true rfl) c9 (fun M4 hq => ?_)
        replace h := h M4 hq
        refine z_goto hX 79 dX4_searchFrom_62 (by decide) ?_
        refine z_iinc (v := x5 + (1 : Int32)) hX dX4_searchFrom_79 5 rfl rfl (by decide) [(5, .int (x5 + (1 : Int32))), (6, .int (M.1 31 ((M.1 4 7) - (1 : Int32)).toNatClampNeg)), (0, .ref (X.1.2.1 4)), (2, .int x2), (3, .int x3), (4, .int x4)] rfl ?_
        refine z_goto hX 20 dX4_searchFrom_82 (by decide) ?_
        exact z_sub [2, 3, 4, 5, 0] rfl h
set_option maxRecDepth 100000 in
set_option maxHeartbeats 4000000 in
theorem EX4_enter {E : ET} {Q : Option Value → Mem → Prop} {x1 : Int32} {M : Mem} (h : ∀ M1 : Mem, M1 = z_st M 4 6 ((M.1 4 6) + (1 : Int32)) → (vp_in x1 1024 ∧ (∀ M2 : Mem, M2 = z_st M1 29 x1.toNatClampNeg (M1.1 4 6) → (vp_in x1 1024 ∧ (∀ M3 : Mem, M3 = z_st M2 30 x1.toNatClampNeg (M2.1 4 6) → (∀ M4 : Mem, M4 = z_st M3 4 7 ((M3.1 4 7) + (1 : Int32)) → (vp_in (M3.1 4 7) 1024 ∧ (∀ M5 : Mem, M5 = z_st M4 31 (M3.1 4 7).toNatClampNeg x1 → (∀ M6 : Mem, M6 = z_st M5 4 8 ((M5.1 4 8) + (1 : Int32)) → (vp_in (M5.1 4 8) 1024 ∧ (∀ M7 : Mem, M7 = z_st M6 32 (M5.1 4 8).toNatClampNeg x1 → Q none M7))))))))))) : CX4_enter E [.ref (E.2.1 4), .int x1] M Q := by
  refine z_entry (by decide +kernel) (Nat.le_of_ble_eq_true rfl) (fun X hE hX => ?_)
  subst hE
  show Z SX X 0 2 Q 0 [(0, .ref (X.1.2.1 4)), (1, .int x1)] [] M
  refine z_aload_n hX dX4_enter_0 rfl 0 rfl ?_
  refine z_dup hX dX4_enter_1 rfl ?_
  refine gfX4_58 hX dX4_enter_2 ?_
  refine z_iconst (v := 1) hX dX4_enter_5 (by decide) ?_
  refine z_iadd hX dX4_enter_6 ?_
  refine pfX4_58 hX dX4_enter_7 (fun M1 eM1 => ?_)
  replace h := h M1 eM1
  refine z_aload_n hX dX4_enter_10 rfl 0 rfl ?_
  refine gfX4_21 hX dX4_enter_11 ?_
  refine z_iload_n hX dX4_enter_14 rfl 1 rfl ?_
  refine z_aload_n hX dX4_enter_15 rfl 0 rfl ?_
  refine gfX4_58 hX dX4_enter_16 ?_
  refine z_iastM hX 29 rfl h.1 dX4_enter_19 (fun M2 eM2 => ?_)
  replace h := h.2 M2 eM2
  refine z_aload_n hX dX4_enter_20 rfl 0 rfl ?_
  refine gfX4_27 hX dX4_enter_21 ?_
  refine z_iload_n hX dX4_enter_24 rfl 1 rfl ?_
  refine z_aload_n hX dX4_enter_25 rfl 0 rfl ?_
  refine gfX4_58 hX dX4_enter_26 ?_
  refine z_iastM hX 30 rfl h.1 dX4_enter_29 (fun M3 eM3 => ?_)
  replace h := h.2 M3 eM3
  refine z_aload_n hX dX4_enter_30 rfl 0 rfl ?_
  refine gfX4_33 hX dX4_enter_31 ?_
  refine z_aload_n hX dX4_enter_34 rfl 0 rfl ?_
  refine z_dup hX dX4_enter_35 rfl ?_
  refine gfX4_74 hX dX4_enter_36 ?_
  refine z_dup_x1 hX dX4_enter_39 rfl rfl ?_
  refine z_iconst (v := 1) hX dX4_enter_40 (by decide) ?_
  refine z_iadd hX dX4_enter_41 ?_
  refine pfX4_74 hX dX4_enter_42 (fun M4 eM4 => ?_)
  replace h := h M4 eM4
  refine z_iload_n hX dX4_enter_45 rfl 1 rfl ?_
  refine z_iastM hX 31 rfl h.1 dX4_enter_46 (fun M5 eM5 => ?_)
  replace h := h.2 M5 eM5
  refine z_aload_n hX dX4_enter_47 rfl 0 rfl ?_
  refine gfX4_39 hX dX4_enter_48 ?_
  refine z_aload_n hX dX4_enter_51 rfl 0 rfl ?_
  refine z_dup hX dX4_enter_52 rfl ?_
  refine gfX4_62 hX dX4_enter_53 ?_
  refine z_dup_x1 hX dX4_enter_56 rfl rfl ?_
  refine z_iconst (v := 1) hX dX4_enter_57 (by decide) ?_
  refine z_iadd hX dX4_enter_58 ?_
  refine pfX4_62 hX dX4_enter_59 (fun M6 eM6 => ?_)
  replace h := h M6 eM6
  refine z_iload_n hX dX4_enter_62 rfl 1 rfl ?_
  refine z_iastM hX 32 rfl h.1 dX4_enter_63 (fun M7 eM7 => ?_)
  replace h := h.2 M7 eM7
  exact z_vret hX dX4_enter_64 h
set_option maxRecDepth 100000 in
set_option maxHeartbeats 4000000 in
theorem EX4_followOne {E : ET} {Q : Option Value → Mem → Prop} {x1 : Int32} {M : Mem} (h : vp_in x1 1024 ∧ (vp_in x1 1024 ∧ (vp_in x1 1024 ∧ (vp_in x1 1024 ∧ (∀ M1 : Mem, M1 = z_st M 33 x1.toNatClampNeg ((M.1 33 x1.toNatClampNeg) ^^^ ((M.1 33 x1.toNatClampNeg) &&& (-(M.1 33 x1.toNatClampNeg)))) → (vp_in (x1 ^^^ ((M.1 33 x1.toNatClampNeg) &&& (-(M.1 33 x1.toNatClampNeg)))) 1024 ∧ ((¬ (M1.1 29 (x1 ^^^ ((M.1 33 x1.toNatClampNeg) &&& (-(M.1 33 x1.toNatClampNeg)))).toNatClampNeg) = 0 → (vp_in (x1 ^^^ ((M.1 33 x1.toNatClampNeg) &&& (-(M.1 33 x1.toNatClampNeg)))) 1024 ∧ (((M1.1 30 (x1 ^^^ ((M.1 33 x1.toNatClampNeg) &&& (-(M.1 33 x1.toNatClampNeg)))).toNatClampNeg) = (1025 : Int32) → Q none M1) ∧ (¬ (M1.1 30 (x1 ^^^ ((M.1 33 x1.toNatClampNeg) &&& (-(M.1 33 x1.toNatClampNeg)))).toNatClampNeg) = (1025 : Int32) → (vp_in x1 1024 ∧ (vp_in (x1 ^^^ ((M.1 33 x1.toNatClampNeg) &&& (-(M.1 33 x1.toNatClampNeg)))) 1024 ∧ (vp_in x1 1024 ∧ (∀ M2 : Mem, M2 = z_st M1 30 x1.toNatClampNeg (if (M1.1 29 (x1 ^^^ ((M.1 33 x1.toNatClampNeg) &&& (-(M.1 33 x1.toNatClampNeg)))).toNatClampNeg) < (M1.1 30 x1.toNatClampNeg) then (M1.1 29 (x1 ^^^ ((M.1 33 x1.toNatClampNeg) &&& (-(M.1 33 x1.toNatClampNeg)))).toNatClampNeg) else (M1.1 30 x1.toNatClampNeg)) → Q none M2)))))))) ∧ ((M1.1 29 (x1 ^^^ ((M.1 33 x1.toNatClampNeg) &&& (-(M.1 33 x1.toNatClampNeg)))).toNatClampNeg) = 0 → (∃ q4 : Mem → Prop, CX4_enter E [.ref (E.2.1 4), .int (x1 ^^^ ((M.1 33 x1.toNatClampNeg) &&& (-(M.1 33 x1.toNatClampNeg))))] M1 (z_pV q4) ∧ ∀ (M3 : Mem), q4 M3 → Q none M3))))))))) : CX4_followOne E [.ref (E.2.1 4), .int x1] M Q := by
  refine z_entry (by decide +kernel) (Nat.le_of_ble_eq_true rfl) (fun X hE hX => ?_)
  subst hE
  show Z SX X 1 4 Q 0 [(0, .ref (X.1.2.1 4)), (1, .int x1)] [] M
  refine z_aload_n hX dX4_followOne_0 rfl 0 rfl ?_
  refine gfX4_45 hX dX4_followOne_1 ?_
  refine z_iload_n hX dX4_followOne_4 rfl 1 rfl ?_
  refine z_iald hX 33 rfl h.1 dX4_followOne_5 ?_
  replace h := h.2
  refine z_aload_n hX dX4_followOne_6 rfl 0 rfl ?_
  refine gfX4_45 hX dX4_followOne_7 ?_
  refine z_iload_n hX dX4_followOne_10 rfl 1 rfl ?_
  refine z_iald hX 33 rfl h.1 dX4_followOne_11 ?_
  replace h := h.2
  refine z_ineg hX dX4_followOne_12 ?_
  refine z_iand hX dX4_followOne_13 ?_
  refine z_istore_n hX dX4_followOne_14 rfl (by decide) [(2, .int ((M.1 33 x1.toNatClampNeg) &&& (-(M.1 33 x1.toNatClampNeg)))), (0, .ref (X.1.2.1 4)), (1, .int x1)] rfl ?_
  refine z_aload_n hX dX4_followOne_15 rfl 1 rfl ?_
  refine gfX4_45 hX dX4_followOne_16 ?_
  refine z_iload_n hX dX4_followOne_19 rfl 2 rfl ?_
  refine z_dup2 hX dX4_followOne_20 rfl rfl ?_
  refine z_iald hX 33 rfl h.1 dX4_followOne_21 ?_
  replace h := h.2
  refine z_iload_n hX dX4_followOne_22 rfl 0 rfl ?_
  refine z_ixor hX dX4_followOne_23 ?_
  refine z_iastM hX 33 rfl h.1 dX4_followOne_24 (fun M1 eM1 => ?_)
  replace h := h.2 M1 eM1
  refine z_iload_n hX dX4_followOne_25 rfl 2 rfl ?_
  refine z_iload_n hX dX4_followOne_26 rfl 0 rfl ?_
  refine z_ixor hX dX4_followOne_27 ?_
  refine z_istore_n hX dX4_followOne_28 rfl (by decide) [(3, .int (x1 ^^^ ((M.1 33 x1.toNatClampNeg) &&& (-(M.1 33 x1.toNatClampNeg))))), (2, .int ((M.1 33 x1.toNatClampNeg) &&& (-(M.1 33 x1.toNatClampNeg)))), (0, .ref (X.1.2.1 4)), (1, .int x1)] rfl ?_
  refine z_aload_n hX dX4_followOne_29 rfl 2 rfl ?_
  refine gfX4_21 hX dX4_followOne_30 ?_
  refine z_iload_n hX dX4_followOne_33 rfl 0 rfl ?_
  refine z_iald hX 29 rfl h.1 dX4_followOne_34 ?_
  replace h := h.2
  refine z_if_ne hX 46 dX4_followOne_35 (by decide) (fun c0 => ?_) (fun c0 => ?_)
  · replace h := h.1 c0
    refine z_aload_n hX dX4_followOne_46 rfl 2 rfl ?_
    refine gfX4_27 hX dX4_followOne_47 ?_
    refine z_iload_n hX dX4_followOne_50 rfl 0 rfl ?_
    refine z_iald hX 30 rfl h.1 dX4_followOne_51 ?_
    replace h := h.2
    refine z_sipush (v := 1025) hX dX4_followOne_52 (by decide) ?_
    refine z_icmp_eq hX 79 dX4_followOne_55 (by decide) (fun c0 => ?_) (fun c0 => ?_)
    · replace h := h.1 c0
      exact z_vret hX dX4_followOne_79 h
    · replace h := h.2 c0
      refine z_aload_n hX dX4_followOne_58 rfl 2 rfl ?_
      refine gfX4_27 hX dX4_followOne_59 ?_
      refine z_iload_n hX dX4_followOne_62 rfl 3 rfl ?_
      refine z_aload_n hX dX4_followOne_63 rfl 2 rfl ?_
      refine gfX4_27 hX dX4_followOne_64 ?_
      refine z_iload_n hX dX4_followOne_67 rfl 3 rfl ?_
      refine z_iald hX 30 rfl h.1 dX4_followOne_68 ?_
      replace h := h.2
      refine z_aload_n hX dX4_followOne_69 rfl 2 rfl ?_
      refine gfX4_21 hX dX4_followOne_70 ?_
      refine z_iload_n hX dX4_followOne_73 rfl 0 rfl ?_
      refine z_iald hX 29 rfl h.1 dX4_followOne_74 ?_
      replace h := h.2
      refine mcX4_69 hX dX4_followOne_75 (by decide) (Nat.le_of_ble_eq_true rfl) ?_
      refine z_iastM hX 30 rfl h.1 dX4_followOne_78 (fun M2 eM2 => ?_)
      replace h := h.2 M2 eM2
      exact z_vret hX dX4_followOne_79 h
  · replace h := h.2 c0
    refine z_aload_n hX dX4_followOne_38 rfl 2 rfl ?_
    refine z_iload_n hX dX4_followOne_39 rfl 0 rfl ?_
    obtain ⟨q4, c9, h⟩ := h
    refine mcX4_77 hX dX4_followOne_40 (by decide) (Nat.le_of_ble_eq_true rfl) c9 (fun M3 hq => ?_)
    replace h := h M3 hq
    refine z_goto hX 79 dX4_followOne_43 (by decide) ?_
    exact z_vret hX dX4_followOne_79 h
set_option maxRecDepth 100000 in
set_option maxHeartbeats 4000000 in
theorem EX4_goBack {E : ET} {Q : Option Value → Mem → Prop} {x1 x2 : Int32} {M : Mem} (h : ∀ M1 : Mem, M1 = z_st M 4 7 ((M.1 4 7) - (1 : Int32)) → (vp_in x1 1024 ∧ (vp_in x1 1024 ∧ ((¬ (M1.1 30 x1.toNatClampNeg) = (M1.1 29 x1.toNatClampNeg) → (((M1.1 4 7) ≤ 0 → Q (some (.int x2)) M1) ∧ (¬ (M1.1 4 7) ≤ 0 → (vp_in ((M1.1 4 7) - (1 : Int32)) 1024 ∧ (vp_in (M1.1 31 ((M1.1 4 7) - (1 : Int32)).toNatClampNeg) 1024 ∧ (vp_in x1 1024 ∧ (vp_in (M1.1 31 ((M1.1 4 7) - (1 : Int32)).toNatClampNeg) 1024 ∧ (∀ M2 : Mem, M2 = z_st M1 30 (M1.1 31 ((M1.1 4 7) - (1 : Int32)).toNatClampNeg).toNatClampNeg (if (M1.1 30 x1.toNatClampNeg) < (M1.1 30 (M1.1 31 ((M1.1 4 7) - (1 : Int32)).toNatClampNeg).toNatClampNeg) then (M1.1 30 x1.toNatClampNeg) else (M1.1 30 (M1.1 31 ((M1.1 4 7) - (1 : Int32)).toNatClampNeg).toNatClampNeg)) → Q (some (.int x2)) M2)))))))) ∧ ((M1.1 30 x1.toNatClampNeg) = (M1.1 29 x1.toNatClampNeg) → (∃ q5 : Int32 → Mem → Prop, CX4_close E [.ref (E.2.1 4), .int x1, .int x2] M1 (z_pI q5) ∧ ∀ (r4 : Int32) (M3 : Mem), q5 r4 M3 → Q (some (.int r4)) M3)))))) : CX4_goBack E [.ref (E.2.1 4), .int x1, .int x2] M Q := by
  refine z_entry (by decide +kernel) (Nat.le_of_ble_eq_true rfl) (fun X hE hX => ?_)
  subst hE
  show Z SX X 2 4 Q 0 [(0, .ref (X.1.2.1 4)), (1, .int x1), (2, .int x2)] [] M
  refine z_aload_n hX dX4_goBack_0 rfl 0 rfl ?_
  refine z_dup hX dX4_goBack_1 rfl ?_
  refine gfX4_74 hX dX4_goBack_2 ?_
  refine z_iconst (v := 1) hX dX4_goBack_5 (by decide) ?_
  refine z_isub hX dX4_goBack_6 ?_
  refine pfX4_74 hX dX4_goBack_7 (fun M1 eM1 => ?_)
  replace h := h M1 eM1
  refine z_aload_n hX dX4_goBack_10 rfl 0 rfl ?_
  refine gfX4_27 hX dX4_goBack_11 ?_
  refine z_iload_n hX dX4_goBack_14 rfl 1 rfl ?_
  refine z_iald hX 30 rfl h.1 dX4_goBack_15 ?_
  replace h := h.2
  refine z_aload_n hX dX4_goBack_16 rfl 0 rfl ?_
  refine gfX4_21 hX dX4_goBack_17 ?_
  refine z_iload_n hX dX4_goBack_20 rfl 1 rfl ?_
  refine z_iald hX 29 rfl h.1 dX4_goBack_21 ?_
  replace h := h.2
  refine z_icmp_ne hX 32 dX4_goBack_22 (by decide) (fun c0 => ?_) (fun c0 => ?_)
  · replace h := h.1 c0
    refine z_aload_n hX dX4_goBack_32 rfl 0 rfl ?_
    refine gfX4_74 hX dX4_goBack_33 ?_
    refine z_if_le hX 72 dX4_goBack_36 (by decide) (fun c0 => ?_) (fun c0 => ?_)
    · replace h := h.1 c0
      refine z_iload_n hX dX4_goBack_72 rfl 2 rfl ?_
      exact z_iret hX dX4_goBack_73 h
    · replace h := h.2 c0
      refine z_aload_n hX dX4_goBack_39 rfl 0 rfl ?_
      refine gfX4_33 hX dX4_goBack_40 ?_
      refine z_aload_n hX dX4_goBack_43 rfl 0 rfl ?_
      refine gfX4_74 hX dX4_goBack_44 ?_
      refine z_iconst (v := 1) hX dX4_goBack_47 (by decide) ?_
      refine z_isub hX dX4_goBack_48 ?_
      refine z_iald hX 31 rfl h.1 dX4_goBack_49 ?_
      replace h := h.2
      refine z_istore_n hX dX4_goBack_50 rfl (by decide) [(3, .int (M1.1 31 ((M1.1 4 7) - (1 : Int32)).toNatClampNeg)), (0, .ref (X.1.2.1 4)), (1, .int x1), (2, .int x2)] rfl ?_
      refine z_aload_n hX dX4_goBack_51 rfl 1 rfl ?_
      refine gfX4_27 hX dX4_goBack_52 ?_
      refine z_iload_n hX dX4_goBack_55 rfl 0 rfl ?_
      refine z_aload_n hX dX4_goBack_56 rfl 1 rfl ?_
      refine gfX4_27 hX dX4_goBack_57 ?_
      refine z_iload_n hX dX4_goBack_60 rfl 0 rfl ?_
      refine z_iald hX 30 rfl h.1 dX4_goBack_61 ?_
      replace h := h.2
      refine z_aload_n hX dX4_goBack_62 rfl 1 rfl ?_
      refine gfX4_27 hX dX4_goBack_63 ?_
      refine z_iload_n hX dX4_goBack_66 rfl 2 rfl ?_
      refine z_iald hX 30 rfl h.1 dX4_goBack_67 ?_
      replace h := h.2
      refine mcX4_69 hX dX4_goBack_68 (by decide) (Nat.le_of_ble_eq_true rfl) ?_
      refine z_iastM hX 30 rfl h.1 dX4_goBack_71 (fun M2 eM2 => ?_)
      replace h := h.2 M2 eM2
      refine z_iload_n hX dX4_goBack_72 rfl 3 rfl ?_
      exact z_iret hX dX4_goBack_73 h
  · replace h := h.2 c0
    refine z_aload_n hX dX4_goBack_25 rfl 0 rfl ?_
    refine z_iload_n hX dX4_goBack_26 rfl 1 rfl ?_
    refine z_iload_n hX dX4_goBack_27 rfl 2 rfl ?_
    obtain ⟨q5, c9, h⟩ := h
    refine mcX4_87 hX dX4_goBack_28 (by decide) (Nat.le_of_ble_eq_true rfl) c9 (fun r4 M3 hq => ?_)
    replace h := h r4 M3 hq
    exact z_iret hX dX4_goBack_31 h
abbrev LX4_close_8 (X : XT) (Q : Option Value → Mem → Prop) (x1 : Int32) (x2 : Int32) (x3 : Int32) (x4 : Int32) (x5 : Int32) (M : Mem) : Prop := Z SX X 1 6 Q 8 [(0, .ref (X.1.2.1 4)), (1, .int x1), (2, .int x2), (3, .int x3), (4, .int x4), (5, .int x5)] [] M
set_option maxRecDepth 100000 in
set_option maxHeartbeats 4000000 in
theorem EX4_close {E : ET} {Q : Option Value → Mem → Prop} {x1 x2 : Int32} {M : Mem} (h : ∀ X : XT, X.1 = E → KX4_close X → LX4_close_8 X Q x1 x2 x1 (0 : Int32) (-1 : Int32) M) : CX4_close E [.ref (E.2.1 4), .int x1, .int x2] M Q := by
  refine z_entry (by decide +kernel) (Nat.le_of_ble_eq_true rfl) (fun X hE hX => ?_)
  subst hE
  replace h := h X rfl hX
  show Z SX X 1 6 Q 0 [(0, .ref (X.1.2.1 4)), (1, .int x1), (2, .int x2)] [] M
  refine z_iload_n hX dX4_close_0 rfl 1 rfl ?_
  refine z_istore_n hX dX4_close_1 rfl (by decide) [(3, .int x1), (0, .ref (X.1.2.1 4)), (1, .int x1), (2, .int x2)] rfl ?_
  refine z_iconst (v := 0) hX dX4_close_2 (by decide) ?_
  refine z_istore hX dX4_close_3 (by decide) [(4, .int (0 : Int32)), (3, .int x1), (0, .ref (X.1.2.1 4)), (1, .int x1), (2, .int x2)] rfl ?_
  refine z_iconst (v := -1) hX dX4_close_5 (by decide) ?_
  refine z_istore hX dX4_close_6 (by decide) [(5, .int (-1 : Int32)), (4, .int (0 : Int32)), (3, .int x1), (0, .ref (X.1.2.1 4)), (1, .int x1), (2, .int x2)] rfl ?_
  exact z_sub [3, 4, 5, 2, 1, 0] rfl h
set_option maxRecDepth 100000 in
set_option maxHeartbeats 4000000 in
theorem BX4_close_8 {X : XT} {Q : Option Value → Mem → Prop} (hX : KX4_close X) {x1 x2 x3 x4 x5 : Int32} {M : Mem} (h : (((M.1 4 8) ≤ 0 → ((x4 ≤ (1 : Int32) → Q (some (.int x2)) M) ∧ (¬ x4 ≤ (1 : Int32) → Q (some (.int x3)) M))) ∧ (¬ (M.1 4 8) ≤ 0 → ((x5 = x1 → ((x4 ≤ (1 : Int32) → Q (some (.int x2)) M) ∧ (¬ x4 ≤ (1 : Int32) → Q (some (.int x3)) M))) ∧ (¬ x5 = x1 → (∀ M1 : Mem, M1 = z_st M 4 8 ((M.1 4 8) - (1 : Int32)) → (vp_in ((M.1 4 8) - (1 : Int32)) 1024 ∧ (vp_in (M1.1 32 ((M.1 4 8) - (1 : Int32)).toNatClampNeg) 1024 ∧ (∀ M2 : Mem, M2 = z_st M1 30 (M1.1 32 ((M.1 4 8) - (1 : Int32)).toNatClampNeg).toNatClampNeg (1025 : Int32) → (∀ v3 : Int32, v3 = (if (M1.1 32 ((M.1 4 8) - (1 : Int32)).toNatClampNeg) < x3 then (M1.1 32 ((M.1 4 8) - (1 : Int32)).toNatClampNeg) else x3) → (LX4_close_8 X Q x1 x2 v3 (x4 + (1 : Int32)) (M1.1 32 ((M.1 4 8) - (1 : Int32)).toNatClampNeg) M2))))))))))) : LX4_close_8 X Q x1 x2 x3 x4 x5 M := by
  show Z SX X 1 6 Q 8 [(0, .ref (X.1.2.1 4)), (1, .int x1), (2, .int x2), (3, .int x3), (4, .int x4), (5, .int x5)] [] M
  refine z_aload_n hX dX4_close_8 rfl 0 rfl ?_
  refine gfX4_62 hX dX4_close_9 ?_
  refine z_if_le hX 62 dX4_close_12 (by decide) (fun c0 => ?_) (fun c0 => ?_)
  · replace h := h.1 c0
    refine z_iload hX dX4_close_62 4 rfl ?_
    refine z_iconst (v := 1) hX dX4_close_64 (by decide) ?_
    refine z_icmp_le hX 72 dX4_close_65 (by decide) (fun c0 => ?_) (fun c0 => ?_)
    · replace h := h.1 c0
      refine z_iload_n hX dX4_close_72 rfl 2 rfl ?_
      exact z_iret hX dX4_close_73 h
    · replace h := h.2 c0
      refine z_iload_n hX dX4_close_68 rfl 3 rfl ?_
      refine z_goto hX 73 dX4_close_69 (by decide) ?_
      exact z_iret hX dX4_close_73 h
  · replace h := h.2 c0
    refine z_iload hX dX4_close_15 5 rfl ?_
    refine z_iload_n hX dX4_close_17 rfl 1 rfl ?_
    refine z_icmp_eq hX 62 dX4_close_18 (by decide) (fun c0 => ?_) (fun c0 => ?_)
    · replace h := h.1 c0
      refine z_iload hX dX4_close_62 4 rfl ?_
      refine z_iconst (v := 1) hX dX4_close_64 (by decide) ?_
      refine z_icmp_le hX 72 dX4_close_65 (by decide) (fun c0 => ?_) (fun c0 => ?_)
      · replace h := h.1 c0
        refine z_iload_n hX dX4_close_72 rfl 2 rfl ?_
        exact z_iret hX dX4_close_73 h
      · replace h := h.2 c0
        refine z_iload_n hX dX4_close_68 rfl 3 rfl ?_
        refine z_goto hX 73 dX4_close_69 (by decide) ?_
        exact z_iret hX dX4_close_73 h
    · replace h := h.2 c0
      refine z_aload_n hX dX4_close_21 rfl 0 rfl ?_
      refine gfX4_39 hX dX4_close_22 ?_
      refine z_aload_n hX dX4_close_25 rfl 0 rfl ?_
      refine z_dup hX dX4_close_26 rfl ?_
      refine gfX4_62 hX dX4_close_27 ?_
      refine z_iconst (v := 1) hX dX4_close_30 (by decide) ?_
      refine z_isub hX dX4_close_31 ?_
      refine z_dup_x1 hX dX4_close_32 rfl rfl ?_
      refine pfX4_62 hX dX4_close_33 (fun M1 eM1 => ?_)
      replace h := h M1 eM1
      refine z_iald hX 32 rfl h.1 dX4_close_36 ?_
      replace h := h.2
      refine z_istore hX dX4_close_37 (by decide) [(5, .int (M1.1 32 ((M.1 4 8) - (1 : Int32)).toNatClampNeg)), (0, .ref (X.1.2.1 4)), (1, .int x1), (2, .int x2), (3, .int x3), (4, .int x4)] rfl ?_
      refine z_aload_n hX dX4_close_39 rfl 1 rfl ?_
      refine gfX4_27 hX dX4_close_40 ?_
      refine z_iload hX dX4_close_43 0 rfl ?_
      refine z_sipush (v := 1025) hX dX4_close_45 (by decide) ?_
      refine z_iastM hX 30 rfl h.1 dX4_close_48 (fun M2 eM2 => ?_)
      replace h := h.2 M2 eM2
      refine z_iload_n hX dX4_close_49 rfl 4 rfl ?_
      refine z_iload hX dX4_close_50 0 rfl ?_
      refine mcX4_69 hX dX4_close_52 (by decide) (Nat.le_of_ble_eq_true rfl) ?_
      refine z_topi (fun v3 ev3 => ?_)
      replace h := h v3 ev3
      refine z_istore_n hX dX4_close_55 rfl (by decide) [(3, .int v3), (5, .int (M1.1 32 ((M.1 4 8) - (1 : Int32)).toNatClampNeg)), (0, .ref (X.1.2.1 4)), (1, .int x1), (2, .int x2), (4, .int x4)] rfl ?_
      refine z_iinc (v := x4 + (1 : Int32)) hX dX4_close_56 5 rfl rfl (by decide) [(4, .int (x4 + (1 : Int32))), (3, .int v3), (5, .int (M1.1 32 ((M.1 4 8) - (1 : Int32)).toNatClampNeg)), (0, .ref (X.1.2.1 4)), (1, .int x1), (2, .int x2)] rfl ?_
      refine z_goto hX 8 dX4_close_59 (by decide) ?_
      exact z_sub [3, 4, 5, 1, 0, 2] rfl h
set_option maxRecDepth 100000 in
set_option maxHeartbeats 4000000 in
theorem EX0_canReach {E : ET} {Q : Option Value → Mem → Prop} {x1 x2 : Int32} {M : Mem} (h : ∃ q5 : Mem → Prop, CX7_restless E [.ref (E.2.1 7)] M (z_pR (E.2.1 24) q5) ∧ ∀ (M1 : Mem), q5 M1 → (∃ q4 : Int32 → Mem → Prop, CX0_search E [.ref (E.2.1 0), .int x1, .ref (E.2.1 24)] M1 (z_pI q4) ∧ ∀ (r3 : Int32) (M2 : Mem), q4 r3 M2 → (vp_in x2 1024 ∧ (((M2.1 29 x2.toNatClampNeg) < 0 → Q (some (.int 0)) M2) ∧ (¬ (M2.1 29 x2.toNatClampNeg) < 0 → Q (some (.int 1)) M2))))) : CX0_canReach E [.ref (E.2.1 0), .int x1, .int x2] M Q := by
  refine z_entry (by decide +kernel) (Nat.le_of_ble_eq_true rfl) (fun X hE hX => ?_)
  subst hE
  show Z SX X 3 3 Q 0 [(0, .ref (X.1.2.1 0)), (1, .int x1), (2, .int x2)] [] M
  refine z_aload_n hX dX0_canReach_0 rfl 0 rfl ?_
  refine z_iload_n hX dX0_canReach_1 rfl 1 rfl ?_
  refine z_aload_n hX dX0_canReach_2 rfl 0 rfl ?_
  refine gfX0_18 hX dX0_canReach_3 ?_
  obtain ⟨q5, c9, h⟩ := h
  refine mcX0_37 hX dX0_canReach_6 (by decide) (Nat.le_of_ble_eq_true rfl) c9 (fun M1 hq => ?_)
  replace h := h M1 hq
  obtain ⟨q4, c9, h⟩ := h
  refine mcX0_43 hX dX0_canReach_9 (by decide) (Nat.le_of_ble_eq_true rfl) c9 (fun r3 M2 hq => ?_)
  replace h := h r3 M2 hq
  refine z_pop hX dX0_canReach_12 rfl ?_
  refine z_aload_n hX dX0_canReach_13 rfl 0 rfl ?_
  refine gfX0_28 hX dX0_canReach_14 ?_
  refine z_iload_n hX dX0_canReach_17 rfl 2 rfl ?_
  refine z_iald hX 29 rfl h.1 dX0_canReach_18 ?_
  replace h := h.2
  refine z_if_lt hX 26 dX0_canReach_19 (by decide) (fun c0 => ?_) (fun c0 => ?_)
  · replace h := h.1 c0
    refine z_iconst (v := 0) hX dX0_canReach_26 (by decide) ?_
    exact z_zret hX dX0_canReach_27 (Or.inl rfl) h
  · replace h := h.2 c0
    refine z_iconst (v := 1) hX dX0_canReach_22 (by decide) ?_
    refine z_goto hX 27 dX0_canReach_23 (by decide) ?_
    exact z_zret hX dX0_canReach_27 (Or.inr rfl) h
abbrev LX0_restsFrom_21 (X : XT) (Q : Option Value → Mem → Prop) (x3 : Int32) (x4 : Int32) (x5 : Int32) (M : Mem) : Prop := Z SX X 3 6 Q 21 [(0, .ref (X.1.2.1 0)), (2, .ref (X.1.2.1 24)), (3, .int x3), (4, .int x4), (5, .int x5)] [] M
set_option maxRecDepth 100000 in
set_option maxHeartbeats 4000000 in
theorem EX0_restsFrom {E : ET} {Q : Option Value → Mem → Prop} {x1 : Int32} {M : Mem} (h : ∀ X : XT, X.1 = E → KX0_restsFrom X → (∃ q5 : Mem → Prop, CX7_restless X.1 [.ref (X.1.2.1 7)] M (z_pR (X.1.2.1 24) q5) ∧ ∀ (M1 : Mem), q5 M1 → (∃ q4 : Int32 → Mem → Prop, CX0_search X.1 [.ref (X.1.2.1 0), .int x1, .ref (X.1.2.1 24)] M1 (z_pI q4) ∧ ∀ (r3 : Int32) (M2 : Mem), q4 r3 M2 → LX0_restsFrom_21 X Q r3 (0 : Int32) (0 : Int32) M2))) : CX0_restsFrom E [.ref (E.2.1 0), .int x1] M Q := by
  refine z_entry (by decide +kernel) (Nat.le_of_ble_eq_true rfl) (fun X hE hX => ?_)
  subst hE
  replace h := h X rfl hX
  show Z SX X 3 6 Q 0 [(0, .ref (X.1.2.1 0)), (1, .int x1)] [] M
  refine z_aload_n hX dX0_restsFrom_0 rfl 0 rfl ?_
  refine gfX0_18 hX dX0_restsFrom_1 ?_
  obtain ⟨q5, c9, h⟩ := h
  refine mcX0_37 hX dX0_restsFrom_4 (by decide) (Nat.le_of_ble_eq_true rfl) c9 (fun M1 hq => ?_)
  replace h := h M1 hq
  refine z_astore_n hX dX0_restsFrom_7 rfl (by decide) [(2, .ref (X.1.2.1 24)), (0, .ref (X.1.2.1 0)), (1, .int x1)] rfl ?_
  refine z_aload_n hX dX0_restsFrom_8 rfl 1 rfl ?_
  refine z_iload_n hX dX0_restsFrom_9 rfl 2 rfl ?_
  refine z_aload_n hX dX0_restsFrom_10 rfl 0 rfl ?_
  obtain ⟨q4, c9, h⟩ := h
  refine mcX0_43 hX dX0_restsFrom_11 (by decide) (Nat.le_of_ble_eq_true rfl) c9 (fun r3 M2 hq => ?_)
  replace h := h r3 M2 hq
  refine z_istore_n hX dX0_restsFrom_14 rfl (by decide) [(3, .int r3), (2, .ref (X.1.2.1 24)), (0, .ref (X.1.2.1 0)), (1, .int x1)] rfl ?_
  refine z_iconst (v := 0) hX dX0_restsFrom_15 (by decide) ?_
  refine z_istore hX dX0_restsFrom_16 (by decide) [(4, .int (0 : Int32)), (3, .int r3), (2, .ref (X.1.2.1 24)), (0, .ref (X.1.2.1 0)), (1, .int x1)] rfl ?_
  refine z_iconst (v := 0) hX dX0_restsFrom_18 (by decide) ?_
  refine z_istore hX dX0_restsFrom_19 (by decide) [(5, .int (0 : Int32)), (4, .int (0 : Int32)), (3, .int r3), (2, .ref (X.1.2.1 24)), (0, .ref (X.1.2.1 0)), (1, .int x1)] rfl ?_
  exact z_sub [4, 3, 2, 1, 0] rfl h
set_option maxRecDepth 100000 in
set_option maxHeartbeats 4000000 in
theorem BX0_restsFrom_21 {X : XT} {Q : Option Value → Mem → Prop} (hX : KX0_restsFrom X) {x3 x4 x5 : Int32} {M : Mem} (h : ((x3 ≤ x5 → Q (some (.int x4)) M) ∧ (¬ x3 ≤ x5 → (vp_in x5 1024 ∧ (vp_in (M.1 30 x5.toNatClampNeg) 1024 ∧ ((¬ (M.1 24 (M.1 30 x5.toNatClampNeg).toNatClampNeg) = 0 → LX0_restsFrom_21 X Q x3 x4 (x5 + (1 : Int32)) M) ∧ ((M.1 24 (M.1 30 x5.toNatClampNeg).toNatClampNeg) = 0 → LX0_restsFrom_21 X Q x3 (x4 + (1 : Int32)) (x5 + (1 : Int32)) M))))))) : LX0_restsFrom_21 X Q x3 x4 x5 M := by
  show Z SX X 3 6 Q 21 [(0, .ref (X.1.2.1 0)), (2, .ref (X.1.2.1 24)), (3, .int x3), (4, .int x4), (5, .int x5)] [] M
  refine z_iload hX dX0_restsFrom_21 4 rfl ?_
  refine z_iload_n hX dX0_restsFrom_23 rfl 2 rfl ?_
  refine z_icmp_ge hX 48 dX0_restsFrom_24 (by decide) (fun c0 => ?_) (fun c0 => ?_)
  · replace h := h.1 c0
    refine z_iload hX dX0_restsFrom_48 3 rfl ?_
    exact z_iret hX dX0_restsFrom_50 h
  · replace h := h.2 c0
    refine z_aload_n hX dX0_restsFrom_27 rfl 1 rfl ?_
    refine z_aload_n hX dX0_restsFrom_28 rfl 0 rfl ?_
    refine gfX0_34 hX dX0_restsFrom_29 ?_
    refine z_iload hX dX0_restsFrom_32 4 rfl ?_
    refine z_iald hX 30 rfl h.1 dX0_restsFrom_34 ?_
    replace h := h.2
    refine z_iald hX 24 rfl h.1 dX0_restsFrom_35 ?_
    replace h := h.2
    refine z_if_ne hX 42 dX0_restsFrom_36 (by decide) (fun c0 => ?_) (fun c0 => ?_)
    · replace h := h.1 c0
      refine z_iinc (v := x5 + (1 : Int32)) hX dX0_restsFrom_42 4 rfl rfl (by decide) [(5, .int (x5 + (1 : Int32))), (0, .ref (X.1.2.1 0)), (2, .ref (X.1.2.1 24)), (3, .int x3), (4, .int x4)] rfl ?_
      refine z_goto hX 21 dX0_restsFrom_45 (by decide) ?_
      exact z_sub [1, 2, 3, 4, 0] rfl h
    · replace h := h.2 c0
      refine z_iinc (v := x4 + (1 : Int32)) hX dX0_restsFrom_39 3 rfl rfl (by decide) [(4, .int (x4 + (1 : Int32))), (0, .ref (X.1.2.1 0)), (2, .ref (X.1.2.1 24)), (3, .int x3), (5, .int x5)] rfl ?_
      refine z_iinc (v := x5 + (1 : Int32)) hX dX0_restsFrom_42 4 rfl rfl (by decide) [(5, .int (x5 + (1 : Int32))), (4, .int (x4 + (1 : Int32))), (0, .ref (X.1.2.1 0)), (2, .ref (X.1.2.1 24)), (3, .int x3)] rfl ?_
      refine z_goto hX 21 dX0_restsFrom_45 (by decide) ?_
      exact z_sub [2, 3, 4, 1, 0] rfl h
abbrev LX0_fewestDraws_18 (X : XT) (Q : Option Value → Mem → Prop) (x3 : Int32) (x4 : Int32) (M : Mem) : Prop := Z SX X 3 5 Q 18 [(0, .ref (X.1.2.1 0)), (2, .ref (X.1.2.1 24)), (3, .int x3), (4, .int x4)] [] M
set_option maxRecDepth 100000 in
set_option maxHeartbeats 4000000 in
theorem EX0_fewestDraws {E : ET} {Q : Option Value → Mem → Prop} {x1 : Int32} {M : Mem} (h : ∀ X : XT, X.1 = E → KX0_fewestDraws X → (∃ q5 : Mem → Prop, CX7_restless X.1 [.ref (X.1.2.1 7)] M (z_pR (X.1.2.1 24) q5) ∧ ∀ (M1 : Mem), q5 M1 → (∃ q4 : Int32 → Mem → Prop, CX0_search X.1 [.ref (X.1.2.1 0), .int x1, .ref (X.1.2.1 24)] M1 (z_pI q4) ∧ ∀ (r3 : Int32) (M2 : Mem), q4 r3 M2 → LX0_fewestDraws_18 X Q r3 (0 : Int32) M2))) : CX0_fewestDraws E [.ref (E.2.1 0), .int x1] M Q := by
  refine z_entry (by decide +kernel) (Nat.le_of_ble_eq_true rfl) (fun X hE hX => ?_)
  subst hE
  replace h := h X rfl hX
  show Z SX X 3 5 Q 0 [(0, .ref (X.1.2.1 0)), (1, .int x1)] [] M
  refine z_aload_n hX dX0_fewestDraws_0 rfl 0 rfl ?_
  refine gfX0_18 hX dX0_fewestDraws_1 ?_
  obtain ⟨q5, c9, h⟩ := h
  refine mcX0_37 hX dX0_fewestDraws_4 (by decide) (Nat.le_of_ble_eq_true rfl) c9 (fun M1 hq => ?_)
  replace h := h M1 hq
  refine z_astore_n hX dX0_fewestDraws_7 rfl (by decide) [(2, .ref (X.1.2.1 24)), (0, .ref (X.1.2.1 0)), (1, .int x1)] rfl ?_
  refine z_aload_n hX dX0_fewestDraws_8 rfl 1 rfl ?_
  refine z_iload_n hX dX0_fewestDraws_9 rfl 2 rfl ?_
  refine z_aload_n hX dX0_fewestDraws_10 rfl 0 rfl ?_
  obtain ⟨q4, c9, h⟩ := h
  refine mcX0_43 hX dX0_fewestDraws_11 (by decide) (Nat.le_of_ble_eq_true rfl) c9 (fun r3 M2 hq => ?_)
  replace h := h r3 M2 hq
  refine z_istore_n hX dX0_fewestDraws_14 rfl (by decide) [(3, .int r3), (2, .ref (X.1.2.1 24)), (0, .ref (X.1.2.1 0)), (1, .int x1)] rfl ?_
  refine z_iconst (v := 0) hX dX0_fewestDraws_15 (by decide) ?_
  refine z_istore hX dX0_fewestDraws_16 (by decide) [(4, .int (0 : Int32)), (3, .int r3), (2, .ref (X.1.2.1 24)), (0, .ref (X.1.2.1 0)), (1, .int x1)] rfl ?_
  exact z_sub [3, 2, 1, 0] rfl h
set_option maxRecDepth 100000 in
set_option maxHeartbeats 4000000 in
theorem BX0_fewestDraws_18 {X : XT} {Q : Option Value → Mem → Prop} (hX : KX0_fewestDraws X) {x3 x4 : Int32} {M : Mem} (h : ((x3 ≤ x4 → Q (some (.int (-1 : Int32))) M) ∧ (¬ x3 ≤ x4 → (vp_in x4 1024 ∧ (vp_in (M.1 30 x4.toNatClampNeg) 1024 ∧ ((¬ (M.1 24 (M.1 30 x4.toNatClampNeg).toNatClampNeg) = 0 → LX0_fewestDraws_18 X Q x3 (x4 + (1 : Int32)) M) ∧ ((M.1 24 (M.1 30 x4.toNatClampNeg).toNatClampNeg) = 0 → (vp_in x4 1024 ∧ (vp_in (M.1 30 x4.toNatClampNeg) 1024 ∧ Q (some (.int (M.1 29 (M.1 30 x4.toNatClampNeg).toNatClampNeg))) M))))))))) : LX0_fewestDraws_18 X Q x3 x4 M := by
  show Z SX X 3 5 Q 18 [(0, .ref (X.1.2.1 0)), (2, .ref (X.1.2.1 24)), (3, .int x3), (4, .int x4)] [] M
  refine z_iload hX dX0_fewestDraws_18 3 rfl ?_
  refine z_iload_n hX dX0_fewestDraws_20 rfl 2 rfl ?_
  refine z_icmp_ge hX 55 dX0_fewestDraws_21 (by decide) (fun c0 => ?_) (fun c0 => ?_)
  · replace h := h.1 c0
    refine z_iconst (v := -1) hX dX0_fewestDraws_55 (by decide) ?_
    exact z_iret hX dX0_fewestDraws_56 h
  · replace h := h.2 c0
    refine z_aload_n hX dX0_fewestDraws_24 rfl 1 rfl ?_
    refine z_aload_n hX dX0_fewestDraws_25 rfl 0 rfl ?_
    refine gfX0_34 hX dX0_fewestDraws_26 ?_
    refine z_iload hX dX0_fewestDraws_29 3 rfl ?_
    refine z_iald hX 30 rfl h.1 dX0_fewestDraws_31 ?_
    replace h := h.2
    refine z_iald hX 24 rfl h.1 dX0_fewestDraws_32 ?_
    replace h := h.2
    refine z_if_ne hX 49 dX0_fewestDraws_33 (by decide) (fun c0 => ?_) (fun c0 => ?_)
    · replace h := h.1 c0
      refine z_iinc (v := x4 + (1 : Int32)) hX dX0_fewestDraws_49 3 rfl rfl (by decide) [(4, .int (x4 + (1 : Int32))), (0, .ref (X.1.2.1 0)), (2, .ref (X.1.2.1 24)), (3, .int x3)] rfl ?_
      refine z_goto hX 18 dX0_fewestDraws_52 (by decide) ?_
      exact z_sub [1, 2, 3, 0] rfl h
    · replace h := h.2 c0
      refine z_aload_n hX dX0_fewestDraws_36 rfl 0 rfl ?_
      refine gfX0_28 hX dX0_fewestDraws_37 ?_
      refine z_aload_n hX dX0_fewestDraws_40 rfl 0 rfl ?_
      refine gfX0_34 hX dX0_fewestDraws_41 ?_
      refine z_iload hX dX0_fewestDraws_44 3 rfl ?_
      refine z_iald hX 30 rfl h.1 dX0_fewestDraws_46 ?_
      replace h := h.2
      refine z_iald hX 29 rfl h.1 dX0_fewestDraws_47 ?_
      replace h := h.2
      exact z_iret hX dX0_fewestDraws_48 h
abbrev LX0_search_11 (X : XT) (Q : Option Value → Mem → Prop) (x1 : Int32) (x3 : Int32) (x4 : Int32) (M : Mem) : Prop := Z SX X 1 10 Q 11 [(0, .ref (X.1.2.1 0)), (1, .int x1), (2, .ref (X.1.2.1 24)), (3, .int x3), (4, .int x4)] [] M
abbrev LX0_search_51 (X : XT) (Q : Option Value → Mem → Prop) (x3 : Int32) (x4 : Int32) (x5 : Int32) (M : Mem) : Prop := Z SX X 1 10 Q 51 [(0, .ref (X.1.2.1 0)), (2, .ref (X.1.2.1 24)), (3, .int x3), (4, .int x4), (5, .int x5)] [] M
abbrev LX0_search_76 (X : XT) (Q : Option Value → Mem → Prop) (x3 : Int32) (x4 : Int32) (x5 : Int32) (x6 : Int32) (x7 : Int32) (M : Mem) : Prop := Z SX X 1 10 Q 76 [(0, .ref (X.1.2.1 0)), (2, .ref (X.1.2.1 24)), (3, .int x3), (4, .int x4), (5, .int x5), (6, .int x6), (7, .int x7)] [] M
set_option maxRecDepth 100000 in
set_option maxHeartbeats 4000000 in
theorem EX0_search {E : ET} {Q : Option Value → Mem → Prop} {x1 : Int32} {M : Mem} (h : ∀ X : XT, X.1 = E → KX0_search X → (∃ (r1 : Int32), CX7_dresses X.1 [.ref (X.1.2.1 7)] M (z_is (some (.int r1)) M) ∧ LX0_search_11 X Q x1 r1 (0 : Int32) M)) : CX0_search E [.ref (E.2.1 0), .int x1, .ref (E.2.1 24)] M Q := by
  refine z_entry (by decide +kernel) (Nat.le_of_ble_eq_true rfl) (fun X hE hX => ?_)
  subst hE
  replace h := h X rfl hX
  show Z SX X 1 10 Q 0 [(0, .ref (X.1.2.1 0)), (1, .int x1), (2, .ref (X.1.2.1 24))] [] M
  refine z_aload_n hX dX0_search_0 rfl 0 rfl ?_
  refine gfX0_18 hX dX0_search_1 ?_
  obtain ⟨r1, c9, h⟩ := h
  refine mcX0_47 hX dX0_search_4 (by decide) (Nat.le_of_ble_eq_true rfl) c9 ?_
  refine z_istore_n hX dX0_search_7 rfl (by decide) [(3, .int r1), (0, .ref (X.1.2.1 0)), (1, .int x1), (2, .ref (X.1.2.1 24))] rfl ?_
  refine z_iconst (v := 0) hX dX0_search_8 (by decide) ?_
  refine z_istore hX dX0_search_9 (by decide) [(4, .int (0 : Int32)), (3, .int r1), (0, .ref (X.1.2.1 0)), (1, .int x1), (2, .ref (X.1.2.1 24))] rfl ?_
  exact z_sub [2, 3, 4, 1, 0] rfl h
set_option maxRecDepth 100000 in
set_option maxHeartbeats 4000000 in
theorem BX0_search_11 {X : XT} {Q : Option Value → Mem → Prop} (hX : KX0_search X) {x1 x3 x4 : Int32} {M : Mem} (h : ((x3 ≤ x4 → (vp_in x1 1024 ∧ (∀ M1 : Mem, M1 = z_st M 29 x1.toNatClampNeg (0 : Int32) → (vp_in (0 : Int32) 1024 ∧ (∀ M2 : Mem, M2 = z_st M1 30 (0 : Int32).toNatClampNeg x1 → LX0_search_51 X Q x3 (1 : Int32) (0 : Int32) M2))))) ∧ (¬ x3 ≤ x4 → (vp_in x4 1024 ∧ (∀ M3 : Mem, M3 = z_st M 29 x4.toNatClampNeg (-1 : Int32) → LX0_search_11 X Q x1 x3 (x4 + (1 : Int32)) M3))))) : LX0_search_11 X Q x1 x3 x4 M := by
  show Z SX X 1 10 Q 11 [(0, .ref (X.1.2.1 0)), (1, .int x1), (2, .ref (X.1.2.1 24)), (3, .int x3), (4, .int x4)] [] M
  refine z_iload hX dX0_search_11 4 rfl ?_
  refine z_iload_n hX dX0_search_13 rfl 3 rfl ?_
  refine z_icmp_ge hX 31 dX0_search_14 (by decide) (fun c0 => ?_) (fun c0 => ?_)
  · replace h := h.1 c0
    refine z_aload_n hX dX0_search_31 rfl 0 rfl ?_
    refine gfX0_28 hX dX0_search_32 ?_
    refine z_iload_n hX dX0_search_35 rfl 1 rfl ?_
    refine z_iconst (v := 0) hX dX0_search_36 (by decide) ?_
    refine z_iastM hX 29 rfl h.1 dX0_search_37 (fun M1 eM1 => ?_)
    replace h := h.2 M1 eM1
    refine z_aload_n hX dX0_search_38 rfl 0 rfl ?_
    refine gfX0_34 hX dX0_search_39 ?_
    refine z_iconst (v := 0) hX dX0_search_42 (by decide) ?_
    refine z_iload_n hX dX0_search_43 rfl 1 rfl ?_
    refine z_iastM hX 30 rfl h.1 dX0_search_44 (fun M2 eM2 => ?_)
    replace h := h.2 M2 eM2
    refine z_iconst (v := 1) hX dX0_search_45 (by decide) ?_
    refine z_istore hX dX0_search_46 (by decide) [(4, .int (1 : Int32)), (0, .ref (X.1.2.1 0)), (1, .int x1), (2, .ref (X.1.2.1 24)), (3, .int x3)] rfl ?_
    refine z_iconst (v := 0) hX dX0_search_48 (by decide) ?_
    refine z_istore hX dX0_search_49 (by decide) [(5, .int (0 : Int32)), (4, .int (1 : Int32)), (0, .ref (X.1.2.1 0)), (1, .int x1), (2, .ref (X.1.2.1 24)), (3, .int x3)] rfl ?_
    exact z_sub [2, 4, 5, 1, 0] rfl h
  · replace h := h.2 c0
    refine z_aload_n hX dX0_search_17 rfl 0 rfl ?_
    refine gfX0_28 hX dX0_search_18 ?_
    refine z_iload hX dX0_search_21 4 rfl ?_
    refine z_iconst (v := -1) hX dX0_search_23 (by decide) ?_
    refine z_iastM hX 29 rfl h.1 dX0_search_24 (fun M3 eM3 => ?_)
    replace h := h.2 M3 eM3
    refine z_iinc (v := x4 + (1 : Int32)) hX dX0_search_25 4 rfl rfl (by decide) [(4, .int (x4 + (1 : Int32))), (0, .ref (X.1.2.1 0)), (1, .int x1), (2, .ref (X.1.2.1 24)), (3, .int x3)] rfl ?_
    refine z_goto hX 11 dX0_search_28 (by decide) ?_
    exact z_sub [1, 2, 3, 4, 0] rfl h
set_option maxRecDepth 100000 in
set_option maxHeartbeats 4000000 in
theorem BX0_search_51 {X : XT} {Q : Option Value → Mem → Prop} (hX : KX0_search X) {x3 x4 x5 : Int32} {M : Mem} (h : ((x4 ≤ x5 → Q (some (.int x4)) M) ∧ (¬ x4 ≤ x5 → ((x3 ≤ x5 → Q (some (.int x4)) M) ∧ (¬ x3 ≤ x5 → (vp_in x5 1024 ∧ LX0_search_76 X Q x3 x4 x5 (M.1 30 x5.toNatClampNeg) (0 : Int32) M)))))) : LX0_search_51 X Q x3 x4 x5 M := by
  show Z SX X 1 10 Q 51 [(0, .ref (X.1.2.1 0)), (2, .ref (X.1.2.1 24)), (3, .int x3), (4, .int x4), (5, .int x5)] [] M
  refine z_iload hX dX0_search_51 4 rfl ?_
  refine z_iload hX dX0_search_53 3 rfl ?_
  refine z_icmp_ge hX 161 dX0_search_55 (by decide) (fun c0 => ?_) (fun c0 => ?_)
  · replace h := h.1 c0
    refine z_iload hX dX0_search_161 3 rfl ?_
    exact z_iret hX dX0_search_163 h
  · replace h := h.2 c0
    refine z_iload hX dX0_search_58 4 rfl ?_
    refine z_iload_n hX dX0_search_60 rfl 2 rfl ?_
    refine z_icmp_ge hX 161 dX0_search_61 (by decide) (fun c0 => ?_) (fun c0 => ?_)
    · replace h := h.1 c0
      refine z_iload hX dX0_search_161 3 rfl ?_
      exact z_iret hX dX0_search_163 h
    · replace h := h.2 c0
      refine z_aload_n hX dX0_search_64 rfl 0 rfl ?_
      refine gfX0_34 hX dX0_search_65 ?_
      refine z_iload hX dX0_search_68 4 rfl ?_
      refine z_iald hX 30 rfl h.1 dX0_search_70 ?_
      replace h := h.2
      refine z_istore hX dX0_search_71 (by decide) [(6, .int (M.1 30 x5.toNatClampNeg)), (0, .ref (X.1.2.1 0)), (2, .ref (X.1.2.1 24)), (3, .int x3), (4, .int x4), (5, .int x5)] rfl ?_
      refine z_iconst (v := 0) hX dX0_search_73 (by decide) ?_
      refine z_istore hX dX0_search_74 (by decide) [(7, .int (0 : Int32)), (6, .int (M.1 30 x5.toNatClampNeg)), (0, .ref (X.1.2.1 0)), (2, .ref (X.1.2.1 24)), (3, .int x3), (4, .int x4), (5, .int x5)] rfl ?_
      exact z_sub [2, 3, 4, 5, 6, 1, 0] rfl h
set_option maxRecDepth 100000 in
set_option maxHeartbeats 4000000 in
theorem BX0_search_76 {X : XT} {Q : Option Value → Mem → Prop} (hX : KX0_search X) {x3 x4 x5 x6 x7 : Int32} {M : Mem} (h : ∃ (r1 : Int32), CX7_size X.1 [.ref (X.1.2.1 7)] M (z_is (some (.int r1)) M) ∧ ((r1 ≤ x7 → LX0_search_51 X Q x3 x4 (x5 + (1 : Int32)) M) ∧ (¬ r1 ≤ x7 → (vp_in x6 1024 ∧ ((((M.1 24 x6.toNatClampNeg) &&& ((1 : Int32) <<< (x7 &&& 31))) = 0 → LX0_search_76 X Q x3 x4 x5 x6 (x7 + (1 : Int32)) M) ∧ (¬ ((M.1 24 x6.toNatClampNeg) &&& ((1 : Int32) <<< (x7 &&& 31))) = 0 → (vp_in (x6 ^^^ ((M.1 24 x6.toNatClampNeg) &&& ((1 : Int32) <<< (x7 &&& 31)))) 1024 ∧ ((0 ≤ (M.1 29 (x6 ^^^ ((M.1 24 x6.toNatClampNeg) &&& ((1 : Int32) <<< (x7 &&& 31)))).toNatClampNeg) → LX0_search_76 X Q x3 x4 x5 x6 (x7 + (1 : Int32)) M) ∧ (¬ 0 ≤ (M.1 29 (x6 ^^^ ((M.1 24 x6.toNatClampNeg) &&& ((1 : Int32) <<< (x7 &&& 31)))).toNatClampNeg) → (vp_in x6 1024 ∧ (vp_in (x6 ^^^ ((M.1 24 x6.toNatClampNeg) &&& ((1 : Int32) <<< (x7 &&& 31)))) 1024 ∧ (∀ M2 : Mem, M2 = z_st M 29 (x6 ^^^ ((M.1 24 x6.toNatClampNeg) &&& ((1 : Int32) <<< (x7 &&& 31)))).toNatClampNeg ((M.1 29 x6.toNatClampNeg) + (1 : Int32)) → (vp_in x4 1024 ∧ (∀ M3 : Mem, M3 = z_st M2 30 x4.toNatClampNeg (x6 ^^^ ((M.1 24 x6.toNatClampNeg) &&& ((1 : Int32) <<< (x7 &&& 31)))) → LX0_search_76 X Q x3 (x4 + (1 : Int32)) x5 x6 (x7 + (1 : Int32)) M3)))))))))))))) : LX0_search_76 X Q x3 x4 x5 x6 x7 M := by
  show Z SX X 1 10 Q 76 [(0, .ref (X.1.2.1 0)), (2, .ref (X.1.2.1 24)), (3, .int x3), (4, .int x4), (5, .int x5), (6, .int x6), (7, .int x7)] [] M
  refine z_iload hX dX0_search_76 6 rfl ?_
  refine z_aload_n hX dX0_search_78 rfl 0 rfl ?_
  refine gfX0_18 hX dX0_search_79 ?_
  obtain ⟨r1, c9, h⟩ := h
  refine mcX0_51 hX dX0_search_82 (by decide) (Nat.le_of_ble_eq_true rfl) c9 ?_
  refine z_icmp_ge hX 155 dX0_search_85 (by decide) (fun c0 => ?_) (fun c0 => ?_)
  · replace h := h.1 c0
    refine z_iinc (v := x5 + (1 : Int32)) hX dX0_search_155 4 rfl rfl (by decide) [(5, .int (x5 + (1 : Int32))), (0, .ref (X.1.2.1 0)), (2, .ref (X.1.2.1 24)), (3, .int x3), (4, .int x4), (6, .int x6), (7, .int x7)] rfl ?_
    refine z_goto hX 51 dX0_search_158 (by decide) ?_
    exact z_sub [1, 2, 3, 4, 0] rfl h
  · replace h := h.2 c0
    refine z_aload_n hX dX0_search_88 rfl 1 rfl ?_
    refine z_iload hX dX0_search_89 5 rfl ?_
    refine z_iald hX 24 rfl h.1 dX0_search_91 ?_
    replace h := h.2
    refine z_iconst (v := 1) hX dX0_search_92 (by decide) ?_
    refine z_iload hX dX0_search_93 6 rfl ?_
    refine z_ishl hX dX0_search_95 ?_
    refine z_iand hX dX0_search_96 ?_
    refine z_istore hX dX0_search_97 (by decide) [(8, .int ((M.1 24 x6.toNatClampNeg) &&& ((1 : Int32) <<< (x7 &&& 31)))), (0, .ref (X.1.2.1 0)), (2, .ref (X.1.2.1 24)), (3, .int x3), (4, .int x4), (5, .int x5), (6, .int x6), (7, .int x7)] rfl ?_
    refine z_iload hX dX0_search_99 6 rfl ?_
    refine z_iload hX dX0_search_101 0 rfl ?_
    refine z_ixor hX dX0_search_103 ?_
    refine z_istore hX dX0_search_104 (by decide) [(9, .int (x6 ^^^ ((M.1 24 x6.toNatClampNeg) &&& ((1 : Int32) <<< (x7 &&& 31))))), (8, .int ((M.1 24 x6.toNatClampNeg) &&& ((1 : Int32) <<< (x7 &&& 31)))), (0, .ref (X.1.2.1 0)), (2, .ref (X.1.2.1 24)), (3, .int x3), (4, .int x4), (5, .int x5), (6, .int x6), (7, .int x7)] rfl ?_
    refine z_iload hX dX0_search_106 1 rfl ?_
    refine z_if_eq hX 149 dX0_search_108 (by decide) (fun c0 => ?_) (fun c0 => ?_)
    · replace h := h.1 c0
      refine z_iinc (v := x7 + (1 : Int32)) hX dX0_search_149 8 rfl rfl (by decide) [(7, .int (x7 + (1 : Int32))), (9, .int (x6 ^^^ ((M.1 24 x6.toNatClampNeg) &&& ((1 : Int32) <<< (x7 &&& 31))))), (8, .int ((M.1 24 x6.toNatClampNeg) &&& ((1 : Int32) <<< (x7 &&& 31)))), (0, .ref (X.1.2.1 0)), (2, .ref (X.1.2.1 24)), (3, .int x3), (4, .int x4), (5, .int x5), (6, .int x6)] rfl ?_
      refine z_goto hX 76 dX0_search_152 (by decide) ?_
      exact z_sub [3, 4, 5, 6, 7, 8, 0] rfl h
    · replace h := h.2 c0
      refine z_aload_n hX dX0_search_111 rfl 2 rfl ?_
      refine gfX0_28 hX dX0_search_112 ?_
      refine z_iload hX dX0_search_115 0 rfl ?_
      refine z_iald hX 29 rfl h.1 dX0_search_117 ?_
      replace h := h.2
      refine z_if_ge hX 149 dX0_search_118 (by decide) (fun c0 => ?_) (fun c0 => ?_)
      · replace h := h.1 c0
        refine z_iinc (v := x7 + (1 : Int32)) hX dX0_search_149 8 rfl rfl (by decide) [(7, .int (x7 + (1 : Int32))), (9, .int (x6 ^^^ ((M.1 24 x6.toNatClampNeg) &&& ((1 : Int32) <<< (x7 &&& 31))))), (8, .int ((M.1 24 x6.toNatClampNeg) &&& ((1 : Int32) <<< (x7 &&& 31)))), (0, .ref (X.1.2.1 0)), (2, .ref (X.1.2.1 24)), (3, .int x3), (4, .int x4), (5, .int x5), (6, .int x6)] rfl ?_
        refine z_goto hX 76 dX0_search_152 (by decide) ?_
        exact z_sub [3, 4, 5, 6, 7, 8, 0] rfl h
      · replace h := h.2 c0
        refine z_aload_n hX dX0_search_121 rfl 2 rfl ?_
        refine gfX0_28 hX dX0_search_122 ?_
        refine z_iload hX dX0_search_125 0 rfl ?_
        refine z_aload_n hX dX0_search_127 rfl 2 rfl ?_
        refine gfX0_28 hX dX0_search_128 ?_
        refine z_iload hX dX0_search_131 7 rfl ?_
        refine z_iald hX 29 rfl h.1 dX0_search_133 ?_
        replace h := h.2
        refine z_iconst (v := 1) hX dX0_search_134 (by decide) ?_
        refine z_iadd hX dX0_search_135 ?_
        refine z_iastM hX 29 rfl h.1 dX0_search_136 (fun M2 eM2 => ?_)
        replace h := h.2 M2 eM2
        refine z_aload_n hX dX0_search_137 rfl 2 rfl ?_
        refine gfX0_34 hX dX0_search_138 ?_
        refine z_iload hX dX0_search_141 5 rfl ?_
        refine z_iinc (v := x4 + (1 : Int32)) hX dX0_search_143 5 rfl rfl (by decide) [(4, .int (x4 + (1 : Int32))), (9, .int (x6 ^^^ ((M.1 24 x6.toNatClampNeg) &&& ((1 : Int32) <<< (x7 &&& 31))))), (8, .int ((M.1 24 x6.toNatClampNeg) &&& ((1 : Int32) <<< (x7 &&& 31)))), (0, .ref (X.1.2.1 0)), (2, .ref (X.1.2.1 24)), (3, .int x3), (5, .int x5), (6, .int x6), (7, .int x7)] rfl ?_
        refine z_iload hX dX0_search_146 1 rfl ?_
        refine z_iastM hX 30 rfl h.1 dX0_search_148 (fun M3 eM3 => ?_)
        replace h := h.2 M3 eM3
        refine z_iinc (v := x7 + (1 : Int32)) hX dX0_search_149 8 rfl rfl (by decide) [(7, .int (x7 + (1 : Int32))), (4, .int (x4 + (1 : Int32))), (9, .int (x6 ^^^ ((M.1 24 x6.toNatClampNeg) &&& ((1 : Int32) <<< (x7 &&& 31))))), (8, .int ((M.1 24 x6.toNatClampNeg) &&& ((1 : Int32) <<< (x7 &&& 31)))), (0, .ref (X.1.2.1 0)), (2, .ref (X.1.2.1 24)), (3, .int x3), (5, .int x5), (6, .int x6)] rfl ?_
        refine z_goto hX 76 dX0_search_152 (by decide) ?_
        exact z_sub [4, 5, 6, 1, 7, 8, 0] rfl h
abbrev LX0_fraction_21 (X : XT) (Q : Option Value → Mem → Prop) (x1 : Int32) (x2 : Int32) (x3 : Int32) (x5 : Int32) (x6 : Int32) (M : Mem) : Prop := Z SX X 3 12 Q 21 [(0, .ref (X.1.2.1 0)), (1, .int x1), (2, .int x2), (3, .int x3), (4, .ref (X.1.2.1 24)), (5, .int x5), (6, .int x6)] [] M
abbrev LX0_fraction_55 (X : XT) (Q : Option Value → Mem → Prop) (x2 : Int32) (x3 : Int32) (x5 : Int32) (x6 : Int64) (x8 : Int32) (M : Mem) : Prop := Z SX X 3 12 Q 55 [(0, .ref (X.1.2.1 0)), (2, .int x2), (3, .int x3), (4, .ref (X.1.2.1 24)), (5, .int x5), (6, .long x6), (8, .int x8)] [] M
abbrev LX0_fraction_89 (X : XT) (Q : Option Value → Mem → Prop) (x3 : Int32) (x5 : Int32) (x6 : Int64) (x8 : Int64) (x10 : Int32) (M : Mem) : Prop := Z SX X 3 12 Q 89 [(0, .ref (X.1.2.1 0)), (3, .int x3), (4, .ref (X.1.2.1 24)), (5, .int x5), (6, .long x6), (8, .long x8), (10, .int x10)] [] M
set_option maxRecDepth 100000 in
set_option maxHeartbeats 4000000 in
theorem EX0_fraction {E : ET} {Q : Option Value → Mem → Prop} {x1 x2 x3 : Int32} {M : Mem} (h : ∀ X : XT, X.1 = E → KX0_fraction X → (∃ q3 : Mem → Prop, CX7_restless X.1 [.ref (X.1.2.1 7)] M (z_pR (X.1.2.1 24) q3) ∧ ∀ (M1 : Mem), q3 M1 → (∃ (r2 : Int32), CX7_dresses X.1 [.ref (X.1.2.1 7)] M1 (z_is (some (.int r2)) M1) ∧ LX0_fraction_21 X Q x1 x2 x3 r2 (0 : Int32) M1))) : CX0_fraction E [.ref (E.2.1 0), .int x1, .int x2, .int x3] M Q := by
  refine z_entry (by decide +kernel) (Nat.le_of_ble_eq_true rfl) (fun X hE hX => ?_)
  subst hE
  replace h := h X rfl hX
  show Z SX X 3 12 Q 0 [(0, .ref (X.1.2.1 0)), (1, .int x1), (2, .int x2), (3, .int x3)] [] M
  refine z_aload_n hX dX0_fraction_0 rfl 0 rfl ?_
  refine gfX0_18 hX dX0_fraction_1 ?_
  obtain ⟨q3, c9, h⟩ := h
  refine mcX0_37 hX dX0_fraction_4 (by decide) (Nat.le_of_ble_eq_true rfl) c9 (fun M1 hq => ?_)
  replace h := h M1 hq
  refine z_astore hX dX0_fraction_7 (by decide) [(4, .ref (X.1.2.1 24)), (0, .ref (X.1.2.1 0)), (1, .int x1), (2, .int x2), (3, .int x3)] rfl ?_
  refine z_aload_n hX dX0_fraction_9 rfl 1 rfl ?_
  refine gfX0_18 hX dX0_fraction_10 ?_
  obtain ⟨r2, c9, h⟩ := h
  refine mcX0_47 hX dX0_fraction_13 (by decide) (Nat.le_of_ble_eq_true rfl) c9 ?_
  refine z_istore hX dX0_fraction_16 (by decide) [(5, .int r2), (4, .ref (X.1.2.1 24)), (0, .ref (X.1.2.1 0)), (1, .int x1), (2, .int x2), (3, .int x3)] rfl ?_
  refine z_iconst (v := 0) hX dX0_fraction_18 (by decide) ?_
  refine z_istore hX dX0_fraction_19 (by decide) [(6, .int (0 : Int32)), (5, .int r2), (4, .ref (X.1.2.1 24)), (0, .ref (X.1.2.1 0)), (1, .int x1), (2, .int x2), (3, .int x3)] rfl ?_
  exact z_sub [3, 4, 5, 6, 2, 1, 0] rfl h
set_option maxRecDepth 100000 in
set_option maxHeartbeats 4000000 in
theorem BX0_fraction_21 {X : XT} {Q : Option Value → Mem → Prop} (hX : KX0_fraction X) {x1 x2 x3 x5 x6 : Int32} {M : Mem} (h : ((x5 ≤ x6 → (vp_in x1 1024 ∧ (∀ M1 : Mem, M1 = z_sl M 34 x1.toNatClampNeg (1 : Int64) → LX0_fraction_55 X Q x2 x3 x5 (1 : Int64) (0 : Int32) M1))) ∧ (¬ x5 ≤ x6 → (vp_in x6 1024 ∧ (∀ M2 : Mem, M2 = z_sl M 34 x6.toNatClampNeg (0 : Int64) → LX0_fraction_21 X Q x1 x2 x3 x5 (x6 + (1 : Int32)) M2))))) : LX0_fraction_21 X Q x1 x2 x3 x5 x6 M := by
  show Z SX X 3 12 Q 21 [(0, .ref (X.1.2.1 0)), (1, .int x1), (2, .int x2), (3, .int x3), (4, .ref (X.1.2.1 24)), (5, .int x5), (6, .int x6)] [] M
  refine z_iload hX dX0_fraction_21 6 rfl ?_
  refine z_iload hX dX0_fraction_23 5 rfl ?_
  refine z_icmp_ge hX 42 dX0_fraction_25 (by decide) (fun c0 => ?_) (fun c0 => ?_)
  · replace h := h.1 c0
    refine z_aload_n hX dX0_fraction_42 rfl 0 rfl ?_
    refine gfX0_9 hX dX0_fraction_43 ?_
    refine z_iload_n hX dX0_fraction_46 rfl 1 rfl ?_
    refine z_lconst (v := 1) hX dX0_fraction_47 (by decide) ?_
    refine z_lastM hX 34 rfl h.1 dX0_fraction_48 (fun M1 eM1 => ?_)
    replace h := h.2 M1 eM1
    refine z_lconst (v := 1) hX dX0_fraction_49 (by decide) ?_
    refine z_lstore hX dX0_fraction_50 (by decide) [(6, .long (1 : Int64)), (0, .ref (X.1.2.1 0)), (1, .int x1), (2, .int x2), (3, .int x3), (4, .ref (X.1.2.1 24)), (5, .int x5)] rfl ?_
    refine z_iconst (v := 0) hX dX0_fraction_52 (by decide) ?_
    refine z_istore hX dX0_fraction_53 (by decide) [(8, .int (0 : Int32)), (6, .long (1 : Int64)), (0, .ref (X.1.2.1 0)), (1, .int x1), (2, .int x2), (3, .int x3), (4, .ref (X.1.2.1 24)), (5, .int x5)] rfl ?_
    exact z_sub [2, 4, 5, 6, 7, 1, 0] rfl h
  · replace h := h.2 c0
    refine z_aload_n hX dX0_fraction_28 rfl 0 rfl ?_
    refine gfX0_9 hX dX0_fraction_29 ?_
    refine z_iload hX dX0_fraction_32 6 rfl ?_
    refine z_lconst (v := 0) hX dX0_fraction_34 (by decide) ?_
    refine z_lastM hX 34 rfl h.1 dX0_fraction_35 (fun M2 eM2 => ?_)
    replace h := h.2 M2 eM2
    refine z_iinc (v := x6 + (1 : Int32)) hX dX0_fraction_36 6 rfl rfl (by decide) [(6, .int (x6 + (1 : Int32))), (0, .ref (X.1.2.1 0)), (1, .int x1), (2, .int x2), (3, .int x3), (4, .ref (X.1.2.1 24)), (5, .int x5)] rfl ?_
    refine z_goto hX 21 dX0_fraction_39 (by decide) ?_
    exact z_sub [1, 2, 3, 4, 5, 6, 0] rfl h
set_option maxRecDepth 100000 in
set_option maxHeartbeats 4000000 in
theorem BX0_fraction_55 {X : XT} {Q : Option Value → Mem → Prop} (hX : KX0_fraction X) {x2 x3 x5 x8 : Int32} {x6 : Int64} {M : Mem} (h : ((x2 ≤ x8 → LX0_fraction_89 X Q x3 x5 x6 (0 : Int64) (0 : Int32) M) ∧ (¬ x2 ≤ x8 → (∃ q2 : Mem → Prop, CX0_drawOnce X.1 [.ref (X.1.2.1 0), .ref (X.1.2.1 24), .int x5] M (z_pV q2) ∧ ∀ (M1 : Mem), q2 M1 → LX0_fraction_55 X Q x2 x3 x5 (x6 * (2520 : Int64)) (x8 + (1 : Int32)) M1)))) : LX0_fraction_55 X Q x2 x3 x5 x6 x8 M := by
  show Z SX X 3 12 Q 55 [(0, .ref (X.1.2.1 0)), (2, .int x2), (3, .int x3), (4, .ref (X.1.2.1 24)), (5, .int x5), (6, .long x6), (8, .int x8)] [] M
  refine z_iload hX dX0_fraction_55 6 rfl ?_
  refine z_iload_n hX dX0_fraction_57 rfl 1 rfl ?_
  refine z_icmp_ge hX 83 dX0_fraction_58 (by decide) (fun c0 => ?_) (fun c0 => ?_)
  · replace h := h.1 c0
    refine z_lconst (v := 0) hX dX0_fraction_83 (by decide) ?_
    refine z_lstore hX dX0_fraction_84 (by decide) [(8, .long (0 : Int64)), (0, .ref (X.1.2.1 0)), (2, .int x2), (3, .int x3), (4, .ref (X.1.2.1 24)), (5, .int x5), (6, .long x6)] rfl ?_
    refine z_iconst (v := 0) hX dX0_fraction_86 (by decide) ?_
    refine z_istore hX dX0_fraction_87 (by decide) [(10, .int (0 : Int32)), (8, .long (0 : Int64)), (0, .ref (X.1.2.1 0)), (2, .int x2), (3, .int x3), (4, .ref (X.1.2.1 24)), (5, .int x5), (6, .long x6)] rfl ?_
    exact z_sub [2, 4, 5, 6, 7, 1, 0] rfl h
  · replace h := h.2 c0
    refine z_aload_n hX dX0_fraction_61 rfl 0 rfl ?_
    refine z_aload hX dX0_fraction_62 3 rfl ?_
    refine z_iload hX dX0_fraction_64 4 rfl ?_
    obtain ⟨q2, c9, h⟩ := h
    refine mcX0_54 hX dX0_fraction_66 (by decide) (Nat.le_of_ble_eq_true rfl) c9 (fun M1 hq => ?_)
    replace h := h M1 hq
    refine z_lload hX dX0_fraction_69 5 rfl ?_
    refine z_ldc2 (v := 2520) hX dX0_fraction_71 (z_w (List.mem_append_right _ (List.mem_of_getElem? (i := 644) (by decide +kernel))) rfl) ?_
    refine z_lmul hX dX0_fraction_74 ?_
    refine z_lstore hX dX0_fraction_75 (by decide) [(6, .long (x6 * (2520 : Int64))), (0, .ref (X.1.2.1 0)), (2, .int x2), (3, .int x3), (4, .ref (X.1.2.1 24)), (5, .int x5), (8, .int x8)] rfl ?_
    refine z_iinc (v := x8 + (1 : Int32)) hX dX0_fraction_77 6 rfl rfl (by decide) [(8, .int (x8 + (1 : Int32))), (6, .long (x6 * (2520 : Int64))), (0, .ref (X.1.2.1 0)), (2, .int x2), (3, .int x3), (4, .ref (X.1.2.1 24)), (5, .int x5)] rfl ?_
    refine z_goto hX 55 dX0_fraction_80 (by decide) ?_
    exact z_sub [2, 3, 4, 5, 6, 1, 0] rfl h
set_option maxRecDepth 100000 in
set_option maxHeartbeats 4000000 in
theorem BX0_fraction_89 {X : XT} {Q : Option Value → Mem → Prop} (hX : KX0_fraction X) {x3 x5 x10 : Int32} {x6 x8 : Int64} {M : Mem} (h : ((x5 ≤ x10 → (∃ (r1 : Int64), CX0_commonDivisor X.1 [.long x6, .long x8] M (z_is (some (.long r1)) M) ∧ ((0 < (lg_cmp r1 (0 : Int64)) → ((x3 = 0 → (¬ r1 = 0 ∧ Q (some (.long (x6 / r1))) M)) ∧ (¬ x3 = 0 → (¬ r1 = 0 ∧ Q (some (.long (x8 / r1))) M)))) ∧ (¬ 0 < (lg_cmp r1 (0 : Int64)) → Q (some (.long (0 : Int64))) M)))) ∧ (¬ x5 ≤ x10 → (vp_in x10 1024 ∧ ((¬ (M.1 24 x10.toNatClampNeg) = 0 → LX0_fraction_89 X Q x3 x5 x6 x8 (x10 + (1 : Int32)) M) ∧ ((M.1 24 x10.toNatClampNeg) = 0 → (vp_in x10 1024 ∧ LX0_fraction_89 X Q x3 x5 x6 (x8 + (M.2 34 x10.toNatClampNeg)) (x10 + (1 : Int32)) M))))))) : LX0_fraction_89 X Q x3 x5 x6 x8 x10 M := by
  show Z SX X 3 12 Q 89 [(0, .ref (X.1.2.1 0)), (3, .int x3), (4, .ref (X.1.2.1 24)), (5, .int x5), (6, .long x6), (8, .long x8), (10, .int x10)] [] M
  refine z_iload hX dX0_fraction_89 6 rfl ?_
  refine z_iload hX dX0_fraction_91 3 rfl ?_
  refine z_icmp_ge hX 122 dX0_fraction_93 (by decide) (fun c0 => ?_) (fun c0 => ?_)
  · replace h := h.1 c0
    refine z_lload hX dX0_fraction_122 4 rfl ?_
    refine z_lload hX dX0_fraction_124 5 rfl ?_
    obtain ⟨r1, c9, h⟩ := h
    refine mcX0_60 hX dX0_fraction_126 (by decide) (Nat.le_of_ble_eq_true rfl) c9 ?_
    refine z_lstore hX dX0_fraction_129 (by decide) [(10, .long r1), (0, .ref (X.1.2.1 0)), (3, .int x3), (4, .ref (X.1.2.1 24)), (5, .int x5), (6, .long x6), (8, .long x8)] rfl ?_
    refine z_lload hX dX0_fraction_131 0 rfl ?_
    refine z_lconst (v := 0) hX dX0_fraction_133 (by decide) ?_
    refine z_lcmp hX dX0_fraction_134 ?_
    refine z_if_gt hX 140 dX0_fraction_135 (by decide) (fun c0 => ?_) (fun c0 => ?_)
    · replace h := h.1 c0
      refine z_iload_n hX dX0_fraction_140 rfl 2 rfl ?_
      refine z_if_eq hX 152 dX0_fraction_141 (by decide) (fun c0 => ?_) (fun c0 => ?_)
      · replace h := h.1 c0
        refine z_lload hX dX0_fraction_152 5 rfl ?_
        refine z_lload hX dX0_fraction_154 0 rfl ?_
        refine z_ldiv hX dX0_fraction_156 h.1 ?_
        replace h := h.2
        exact z_lret hX dX0_fraction_157 h
      · replace h := h.2 c0
        refine z_lload hX dX0_fraction_144 6 rfl ?_
        refine z_lload hX dX0_fraction_146 0 rfl ?_
        refine z_ldiv hX dX0_fraction_148 h.1 ?_
        replace h := h.2
        refine z_goto hX 157 dX0_fraction_149 (by decide) ?_
        exact z_lret hX dX0_fraction_157 h
    · replace h := h.2 c0
      refine z_lconst (v := 0) hX dX0_fraction_138 (by decide) ?_
      exact z_lret hX dX0_fraction_139 h
  · replace h := h.2 c0
    refine z_aload hX dX0_fraction_96 2 rfl ?_
    refine z_iload hX dX0_fraction_98 6 rfl ?_
    refine z_iald hX 24 rfl h.1 dX0_fraction_100 ?_
    replace h := h.2
    refine z_if_ne hX 116 dX0_fraction_101 (by decide) (fun c0 => ?_) (fun c0 => ?_)
    · replace h := h.1 c0
      refine z_iinc (v := x10 + (1 : Int32)) hX dX0_fraction_116 6 rfl rfl (by decide) [(10, .int (x10 + (1 : Int32))), (0, .ref (X.1.2.1 0)), (3, .int x3), (4, .ref (X.1.2.1 24)), (5, .int x5), (6, .long x6), (8, .long x8)] rfl ?_
      refine z_goto hX 89 dX0_fraction_119 (by decide) ?_
      exact z_sub [1, 2, 3, 4, 5, 6, 0] rfl h
    · replace h := h.2 c0
      refine z_lload hX dX0_fraction_104 5 rfl ?_
      refine z_aload_n hX dX0_fraction_106 rfl 0 rfl ?_
      refine gfX0_9 hX dX0_fraction_107 ?_
      refine z_iload hX dX0_fraction_110 6 rfl ?_
      refine z_lald hX 34 rfl h.1 dX0_fraction_112 ?_
      replace h := h.2
      refine z_ladd hX dX0_fraction_113 ?_
      refine z_lstore hX dX0_fraction_114 (by decide) [(8, .long (x8 + (M.2 34 x10.toNatClampNeg))), (0, .ref (X.1.2.1 0)), (3, .int x3), (4, .ref (X.1.2.1 24)), (5, .int x5), (6, .long x6), (10, .int x10)] rfl ?_
      refine z_iinc (v := x10 + (1 : Int32)) hX dX0_fraction_116 6 rfl rfl (by decide) [(10, .int (x10 + (1 : Int32))), (8, .long (x8 + (M.2 34 x10.toNatClampNeg))), (0, .ref (X.1.2.1 0)), (3, .int x3), (4, .ref (X.1.2.1 24)), (5, .int x5), (6, .long x6)] rfl ?_
      refine z_goto hX 89 dX0_fraction_119 (by decide) ?_
      exact z_sub [2, 3, 4, 5, 6, 1, 0] rfl h
abbrev LX0_drawOnce_2 (X : XT) (Q : Option Value → Mem → Prop) (x2 : Int32) (x3 : Int32) (M : Mem) : Prop := Z SX X 2 4 Q 2 [(0, .ref (X.1.2.1 0)), (1, .ref (X.1.2.1 24)), (2, .int x2), (3, .int x3)] [] M
abbrev LX0_drawOnce_22 (X : XT) (Q : Option Value → Mem → Prop) (x2 : Int32) (x3 : Int32) (M : Mem) : Prop := Z SX X 2 4 Q 22 [(0, .ref (X.1.2.1 0)), (1, .ref (X.1.2.1 24)), (2, .int x2), (3, .int x3)] [] M
abbrev LX0_drawOnce_54 (X : XT) (Q : Option Value → Mem → Prop) (x2 : Int32) (x3 : Int32) (M : Mem) : Prop := Z SX X 2 4 Q 54 [(0, .ref (X.1.2.1 0)), (2, .int x2), (3, .int x3)] [] M
set_option maxRecDepth 100000 in
set_option maxHeartbeats 4000000 in
theorem EX0_drawOnce {E : ET} {Q : Option Value → Mem → Prop} {x2 : Int32} {M : Mem} (h : ∀ X : XT, X.1 = E → KX0_drawOnce X → LX0_drawOnce_2 X Q x2 (0 : Int32) M) : CX0_drawOnce E [.ref (E.2.1 0), .ref (E.2.1 24), .int x2] M Q := by
  refine z_entry (by decide +kernel) (Nat.le_of_ble_eq_true rfl) (fun X hE hX => ?_)
  subst hE
  replace h := h X rfl hX
  show Z SX X 2 4 Q 0 [(0, .ref (X.1.2.1 0)), (1, .ref (X.1.2.1 24)), (2, .int x2)] [] M
  refine z_iconst (v := 0) hX dX0_drawOnce_0 (by decide) ?_
  refine z_istore_n hX dX0_drawOnce_1 rfl (by decide) [(3, .int (0 : Int32)), (0, .ref (X.1.2.1 0)), (1, .ref (X.1.2.1 24)), (2, .int x2)] rfl ?_
  exact z_sub [1, 2, 3, 0] rfl h
set_option maxRecDepth 100000 in
set_option maxHeartbeats 4000000 in
theorem BX0_drawOnce_2 {X : XT} {Q : Option Value → Mem → Prop} (hX : KX0_drawOnce X) {x2 x3 : Int32} {M : Mem} (h : ((x2 ≤ x3 → LX0_drawOnce_22 X Q x2 (0 : Int32) M) ∧ (¬ x2 ≤ x3 → (vp_in x3 1024 ∧ (∀ M1 : Mem, M1 = z_sl M 35 x3.toNatClampNeg (0 : Int64) → LX0_drawOnce_2 X Q x2 (x3 + (1 : Int32)) M1))))) : LX0_drawOnce_2 X Q x2 x3 M := by
  show Z SX X 2 4 Q 2 [(0, .ref (X.1.2.1 0)), (1, .ref (X.1.2.1 24)), (2, .int x2), (3, .int x3)] [] M
  refine z_iload_n hX dX0_drawOnce_2 rfl 3 rfl ?_
  refine z_iload_n hX dX0_drawOnce_3 rfl 2 rfl ?_
  refine z_icmp_ge hX 20 dX0_drawOnce_4 (by decide) (fun c0 => ?_) (fun c0 => ?_)
  · replace h := h.1 c0
    refine z_iconst (v := 0) hX dX0_drawOnce_20 (by decide) ?_
    refine z_istore_n hX dX0_drawOnce_21 rfl (by decide) [(3, .int (0 : Int32)), (0, .ref (X.1.2.1 0)), (1, .ref (X.1.2.1 24)), (2, .int x2)] rfl ?_
    exact z_sub [1, 2, 3, 0] rfl h
  · replace h := h.2 c0
    refine z_aload_n hX dX0_drawOnce_7 rfl 0 rfl ?_
    refine gfX0_15 hX dX0_drawOnce_8 ?_
    refine z_iload_n hX dX0_drawOnce_11 rfl 3 rfl ?_
    refine z_lconst (v := 0) hX dX0_drawOnce_12 (by decide) ?_
    refine z_lastM hX 35 rfl h.1 dX0_drawOnce_13 (fun M1 eM1 => ?_)
    replace h := h.2 M1 eM1
    refine z_iinc (v := x3 + (1 : Int32)) hX dX0_drawOnce_14 3 rfl rfl (by decide) [(3, .int (x3 + (1 : Int32))), (0, .ref (X.1.2.1 0)), (1, .ref (X.1.2.1 24)), (2, .int x2)] rfl ?_
    refine z_goto hX 2 dX0_drawOnce_17 (by decide) ?_
    exact z_sub [1, 2, 3, 0] rfl h
set_option maxRecDepth 100000 in
set_option maxHeartbeats 4000000 in
theorem BX0_drawOnce_22 {X : XT} {Q : Option Value → Mem → Prop} (hX : KX0_drawOnce X) {x2 x3 : Int32} {M : Mem} (h : ((x2 ≤ x3 → LX0_drawOnce_54 X Q x2 (0 : Int32) M) ∧ (¬ x2 ≤ x3 → (vp_in x3 1024 ∧ (((lg_cmp (M.2 34 x3.toNatClampNeg) (0 : Int64)) ≤ 0 → LX0_drawOnce_22 X Q x2 (x3 + (1 : Int32)) M) ∧ (¬ (lg_cmp (M.2 34 x3.toNatClampNeg) (0 : Int64)) ≤ 0 → (vp_in x3 1024 ∧ (∃ q2 : Mem → Prop, CX0_handOn X.1 [.ref (X.1.2.1 0), .int x3, .int (M.1 24 x3.toNatClampNeg)] M (z_pV q2) ∧ ∀ (M1 : Mem), q2 M1 → LX0_drawOnce_22 X Q x2 (x3 + (1 : Int32)) M1)))))))) : LX0_drawOnce_22 X Q x2 x3 M := by
  show Z SX X 2 4 Q 22 [(0, .ref (X.1.2.1 0)), (1, .ref (X.1.2.1 24)), (2, .int x2), (3, .int x3)] [] M
  refine z_iload_n hX dX0_drawOnce_22 rfl 3 rfl ?_
  refine z_iload_n hX dX0_drawOnce_23 rfl 2 rfl ?_
  refine z_icmp_ge hX 52 dX0_drawOnce_24 (by decide) (fun c0 => ?_) (fun c0 => ?_)
  · replace h := h.1 c0
    refine z_iconst (v := 0) hX dX0_drawOnce_52 (by decide) ?_
    refine z_istore_n hX dX0_drawOnce_53 rfl (by decide) [(3, .int (0 : Int32)), (0, .ref (X.1.2.1 0)), (1, .ref (X.1.2.1 24)), (2, .int x2)] rfl ?_
    exact z_sub [1, 3, 0] rfl h
  · replace h := h.2 c0
    refine z_aload_n hX dX0_drawOnce_27 rfl 0 rfl ?_
    refine gfX0_9 hX dX0_drawOnce_28 ?_
    refine z_iload_n hX dX0_drawOnce_31 rfl 3 rfl ?_
    refine z_lald hX 34 rfl h.1 dX0_drawOnce_32 ?_
    replace h := h.2
    refine z_lconst (v := 0) hX dX0_drawOnce_33 (by decide) ?_
    refine z_lcmp hX dX0_drawOnce_34 ?_
    refine z_if_le hX 46 dX0_drawOnce_35 (by decide) (fun c0 => ?_) (fun c0 => ?_)
    · replace h := h.1 c0
      refine z_iinc (v := x3 + (1 : Int32)) hX dX0_drawOnce_46 3 rfl rfl (by decide) [(3, .int (x3 + (1 : Int32))), (0, .ref (X.1.2.1 0)), (1, .ref (X.1.2.1 24)), (2, .int x2)] rfl ?_
      refine z_goto hX 22 dX0_drawOnce_49 (by decide) ?_
      exact z_sub [1, 2, 3, 0] rfl h
    · replace h := h.2 c0
      refine z_aload_n hX dX0_drawOnce_38 rfl 0 rfl ?_
      refine z_iload_n hX dX0_drawOnce_39 rfl 3 rfl ?_
      refine z_aload_n hX dX0_drawOnce_40 rfl 1 rfl ?_
      refine z_iload_n hX dX0_drawOnce_41 rfl 3 rfl ?_
      refine z_iald hX 24 rfl h.1 dX0_drawOnce_42 ?_
      replace h := h.2
      obtain ⟨q2, c9, h⟩ := h
      refine mcX0_64 hX dX0_drawOnce_43 (by decide) (Nat.le_of_ble_eq_true rfl) c9 (fun M1 hq => ?_)
      replace h := h M1 hq
      refine z_iinc (v := x3 + (1 : Int32)) hX dX0_drawOnce_46 3 rfl rfl (by decide) [(3, .int (x3 + (1 : Int32))), (0, .ref (X.1.2.1 0)), (1, .ref (X.1.2.1 24)), (2, .int x2)] rfl ?_
      refine z_goto hX 22 dX0_drawOnce_49 (by decide) ?_
      exact z_sub [1, 2, 3, 0] rfl h
set_option maxRecDepth 100000 in
set_option maxHeartbeats 4000000 in
theorem BX0_drawOnce_54 {X : XT} {Q : Option Value → Mem → Prop} (hX : KX0_drawOnce X) {x2 x3 : Int32} {M : Mem} (h : ((x2 ≤ x3 → Q none M) ∧ (¬ x2 ≤ x3 → (vp_in x3 1024 ∧ (vp_in x3 1024 ∧ (∀ M1 : Mem, M1 = z_sl M 34 x3.toNatClampNeg (M.2 35 x3.toNatClampNeg) → LX0_drawOnce_54 X Q x2 (x3 + (1 : Int32)) M1)))))) : LX0_drawOnce_54 X Q x2 x3 M := by
  show Z SX X 2 4 Q 54 [(0, .ref (X.1.2.1 0)), (2, .int x2), (3, .int x3)] [] M
  refine z_iload_n hX dX0_drawOnce_54 rfl 2 rfl ?_
  refine z_iload_n hX dX0_drawOnce_55 rfl 1 rfl ?_
  refine z_icmp_ge hX 77 dX0_drawOnce_56 (by decide) (fun c0 => ?_) (fun c0 => ?_)
  · replace h := h.1 c0
    exact z_vret hX dX0_drawOnce_77 h
  · replace h := h.2 c0
    refine z_aload_n hX dX0_drawOnce_59 rfl 0 rfl ?_
    refine gfX0_9 hX dX0_drawOnce_60 ?_
    refine z_iload_n hX dX0_drawOnce_63 rfl 2 rfl ?_
    refine z_aload_n hX dX0_drawOnce_64 rfl 0 rfl ?_
    refine gfX0_15 hX dX0_drawOnce_65 ?_
    refine z_iload_n hX dX0_drawOnce_68 rfl 2 rfl ?_
    refine z_lald hX 35 rfl h.1 dX0_drawOnce_69 ?_
    replace h := h.2
    refine z_lastM hX 34 rfl h.1 dX0_drawOnce_70 (fun M1 eM1 => ?_)
    replace h := h.2 M1 eM1
    refine z_iinc (v := x3 + (1 : Int32)) hX dX0_drawOnce_71 2 rfl rfl (by decide) [(3, .int (x3 + (1 : Int32))), (0, .ref (X.1.2.1 0)), (2, .int x2)] rfl ?_
    refine z_goto hX 54 dX0_drawOnce_74 (by decide) ?_
    exact z_sub [1, 2, 0] rfl h
abbrev LX0_handOn_47 (X : XT) (Q : Option Value → Mem → Prop) (x1 : Int32) (x2 : Int32) (x4 : Int64) (x6 : Int32) (M : Mem) : Prop := Z SX X 1 8 Q 47 [(0, .ref (X.1.2.1 0)), (1, .int x1), (2, .int x2), (4, .long x4), (6, .int x6)] [] M
set_option maxRecDepth 100000 in
set_option maxHeartbeats 4000000 in
theorem EX0_handOn {E : ET} {Q : Option Value → Mem → Prop} {x1 x2 : Int32} {M : Mem} (h : ∀ X : XT, X.1 = E → KX0_handOn X → (∃ (r1 : Int32), CJ6_bitCount SX X.1 [.int x2] M (z_is (some (.int r1)) M) ∧ ((¬ r1 = 0 → (vp_in x1 1024 ∧ (¬ r1 = 0 ∧ LX0_handOn_47 X Q x1 x2 ((M.2 34 x1.toNatClampNeg) * (((2520 : Int32) / r1).toInt64)) (0 : Int32) M))) ∧ (r1 = 0 → (vp_in x1 1024 ∧ (vp_in x1 1024 ∧ (vp_in x1 1024 ∧ (∀ M2 : Mem, M2 = z_sl M 35 x1.toNatClampNeg ((M.2 35 x1.toNatClampNeg) + ((M.2 34 x1.toNatClampNeg) * (2520 : Int64))) → Q none M2)))))))) : CX0_handOn E [.ref (E.2.1 0), .int x1, .int x2] M Q := by
  refine z_entry (by decide +kernel) (Nat.le_of_ble_eq_true rfl) (fun X hE hX => ?_)
  subst hE
  replace h := h X rfl hX
  show Z SX X 1 8 Q 0 [(0, .ref (X.1.2.1 0)), (1, .int x1), (2, .int x2)] [] M
  refine z_iload_n hX dX0_handOn_0 rfl 2 rfl ?_
  obtain ⟨r1, c9, h⟩ := h
  refine mcX0_68 hX dX0_handOn_1 (by decide) (Nat.le_of_ble_eq_true rfl) c9 ?_
  refine z_istore_n hX dX0_handOn_4 rfl (by decide) [(3, .int r1), (0, .ref (X.1.2.1 0)), (1, .int x1), (2, .int x2)] rfl ?_
  refine z_iload_n hX dX0_handOn_5 rfl 0 rfl ?_
  refine z_if_ne hX 29 dX0_handOn_6 (by decide) (fun c0 => ?_) (fun c0 => ?_)
  · replace h := h.1 c0
    refine z_aload_n hX dX0_handOn_29 rfl 1 rfl ?_
    refine gfX0_9 hX dX0_handOn_30 ?_
    refine z_iload_n hX dX0_handOn_33 rfl 2 rfl ?_
    refine z_lald hX 34 rfl h.1 dX0_handOn_34 ?_
    replace h := h.2
    refine z_sipush (v := 2520) hX dX0_handOn_35 (by decide) ?_
    refine z_iload_n hX dX0_handOn_38 rfl 0 rfl ?_
    refine z_idiv hX dX0_handOn_39 h.1 ?_
    replace h := h.2
    refine z_i2l hX dX0_handOn_40 ?_
    refine z_lmul hX dX0_handOn_41 ?_
    refine z_lstore hX dX0_handOn_42 (by decide) [(4, .long ((M.2 34 x1.toNatClampNeg) * (((2520 : Int32) / r1).toInt64))), (3, .int r1), (0, .ref (X.1.2.1 0)), (1, .int x1), (2, .int x2)] rfl ?_
    refine z_iconst (v := 0) hX dX0_handOn_44 (by decide) ?_
    refine z_istore hX dX0_handOn_45 (by decide) [(6, .int (0 : Int32)), (4, .long ((M.2 34 x1.toNatClampNeg) * (((2520 : Int32) / r1).toInt64))), (3, .int r1), (0, .ref (X.1.2.1 0)), (1, .int x1), (2, .int x2)] rfl ?_
    exact z_sub [3, 4, 5, 1, 0] rfl h
  · replace h := h.2 c0
    refine z_aload_n hX dX0_handOn_9 rfl 1 rfl ?_
    refine gfX0_15 hX dX0_handOn_10 ?_
    refine z_iload_n hX dX0_handOn_13 rfl 2 rfl ?_
    refine z_dup2 hX dX0_handOn_14 rfl rfl ?_
    refine z_lald hX 35 rfl h.1 dX0_handOn_15 ?_
    replace h := h.2
    refine z_aload_n hX dX0_handOn_16 rfl 1 rfl ?_
    refine gfX0_9 hX dX0_handOn_17 ?_
    refine z_iload_n hX dX0_handOn_20 rfl 2 rfl ?_
    refine z_lald hX 34 rfl h.1 dX0_handOn_21 ?_
    replace h := h.2
    refine z_ldc2 (v := 2520) hX dX0_handOn_22 (z_w (List.mem_append_right _ (List.mem_of_getElem? (i := 644) (by decide +kernel))) rfl) ?_
    refine z_lmul hX dX0_handOn_25 ?_
    refine z_ladd hX dX0_handOn_26 ?_
    refine z_lastM hX 35 rfl h.1 dX0_handOn_27 (fun M2 eM2 => ?_)
    replace h := h.2 M2 eM2
    exact z_vret hX dX0_handOn_28 h
set_option maxRecDepth 100000 in
set_option maxHeartbeats 4000000 in
theorem BX0_handOn_47 {X : XT} {Q : Option Value → Mem → Prop} (hX : KX0_handOn X) {x1 x2 x6 : Int32} {x4 : Int64} {M : Mem} (h : ∃ (r1 : Int32), CX7_size X.1 [.ref (X.1.2.1 7)] M (z_is (some (.int r1)) M) ∧ ((r1 ≤ x6 → Q none M) ∧ (¬ r1 ≤ x6 → (((x2 &&& ((1 : Int32) <<< (x6 &&& 31))) = 0 → LX0_handOn_47 X Q x1 x2 x4 (x6 + (1 : Int32)) M) ∧ (¬ (x2 &&& ((1 : Int32) <<< (x6 &&& 31))) = 0 → (vp_in (x1 ^^^ (x2 &&& ((1 : Int32) <<< (x6 &&& 31)))) 1024 ∧ (vp_in (x1 ^^^ (x2 &&& ((1 : Int32) <<< (x6 &&& 31)))) 1024 ∧ (∀ M2 : Mem, M2 = z_sl M 35 (x1 ^^^ (x2 &&& ((1 : Int32) <<< (x6 &&& 31)))).toNatClampNeg ((M.2 35 (x1 ^^^ (x2 &&& ((1 : Int32) <<< (x6 &&& 31)))).toNatClampNeg) + x4) → LX0_handOn_47 X Q x1 x2 x4 (x6 + (1 : Int32)) M2)))))))) : LX0_handOn_47 X Q x1 x2 x4 x6 M := by
  show Z SX X 1 8 Q 47 [(0, .ref (X.1.2.1 0)), (1, .int x1), (2, .int x2), (4, .long x4), (6, .int x6)] [] M
  refine z_iload hX dX0_handOn_47 4 rfl ?_
  refine z_aload_n hX dX0_handOn_49 rfl 0 rfl ?_
  refine gfX0_18 hX dX0_handOn_50 ?_
  obtain ⟨r1, c9, h⟩ := h
  refine mcX0_51 hX dX0_handOn_53 (by decide) (Nat.le_of_ble_eq_true rfl) c9 ?_
  refine z_icmp_ge hX 92 dX0_handOn_56 (by decide) (fun c0 => ?_) (fun c0 => ?_)
  · replace h := h.1 c0
    exact z_vret hX dX0_handOn_92 h
  · replace h := h.2 c0
    refine z_iload_n hX dX0_handOn_59 rfl 2 rfl ?_
    refine z_iconst (v := 1) hX dX0_handOn_60 (by decide) ?_
    refine z_iload hX dX0_handOn_61 4 rfl ?_
    refine z_ishl hX dX0_handOn_63 ?_
    refine z_iand hX dX0_handOn_64 ?_
    refine z_istore hX dX0_handOn_65 (by decide) [(7, .int (x2 &&& ((1 : Int32) <<< (x6 &&& 31)))), (0, .ref (X.1.2.1 0)), (1, .int x1), (2, .int x2), (4, .long x4), (6, .int x6)] rfl ?_
    refine z_iload hX dX0_handOn_67 0 rfl ?_
    refine z_if_eq hX 86 dX0_handOn_69 (by decide) (fun c0 => ?_) (fun c0 => ?_)
    · replace h := h.1 c0
      refine z_iinc (v := x6 + (1 : Int32)) hX dX0_handOn_86 5 rfl rfl (by decide) [(6, .int (x6 + (1 : Int32))), (7, .int (x2 &&& ((1 : Int32) <<< (x6 &&& 31)))), (0, .ref (X.1.2.1 0)), (1, .int x1), (2, .int x2), (4, .long x4)] rfl ?_
      refine z_goto hX 47 dX0_handOn_89 (by decide) ?_
      exact z_sub [2, 3, 4, 5, 0] rfl h
    · replace h := h.2 c0
      refine z_aload_n hX dX0_handOn_72 rfl 1 rfl ?_
      refine gfX0_15 hX dX0_handOn_73 ?_
      refine z_iload_n hX dX0_handOn_76 rfl 2 rfl ?_
      refine z_iload hX dX0_handOn_77 0 rfl ?_
      refine z_ixor hX dX0_handOn_79 ?_
      refine z_dup2 hX dX0_handOn_80 rfl rfl ?_
      refine z_lald hX 35 rfl h.1 dX0_handOn_81 ?_
      replace h := h.2
      refine z_lload hX dX0_handOn_82 4 rfl ?_
      refine z_ladd hX dX0_handOn_84 ?_
      refine z_lastM hX 35 rfl h.1 dX0_handOn_85 (fun M2 eM2 => ?_)
      replace h := h.2 M2 eM2
      refine z_iinc (v := x6 + (1 : Int32)) hX dX0_handOn_86 5 rfl rfl (by decide) [(6, .int (x6 + (1 : Int32))), (7, .int (x2 &&& ((1 : Int32) <<< (x6 &&& 31)))), (0, .ref (X.1.2.1 0)), (1, .int x1), (2, .int x2), (4, .long x4)] rfl ?_
      refine z_goto hX 47 dX0_handOn_89 (by decide) ?_
      exact z_sub [2, 3, 4, 5, 0] rfl h
abbrev LX0_commonDivisor_9 (X : XT) (Q : Option Value → Mem → Prop) (x4 : Int64) (x6 : Int64) (x8 : Int32) (M : Mem) : Prop := Z SX X 0 11 Q 9 [(4, .long x4), (6, .long x6), (8, .int x8)] [] M
set_option maxRecDepth 100000 in
set_option maxHeartbeats 4000000 in
theorem EX0_commonDivisor {E : ET} {Q : Option Value → Mem → Prop} {x0 x2 : Int64} {M : Mem} (h : ∀ X : XT, X.1 = E → KX0_commonDivisor X → LX0_commonDivisor_9 X Q x0 x2 (0 : Int32) M) : CX0_commonDivisor E [.long x0, .long x2] M Q := by
  refine z_entry (by decide +kernel) (Nat.le_of_ble_eq_true rfl) (fun X hE hX => ?_)
  subst hE
  replace h := h X rfl hX
  show Z SX X 0 11 Q 0 [(0, .long x0), (2, .long x2)] [] M
  refine z_lload_n hX dX0_commonDivisor_0 rfl 0 rfl ?_
  refine z_lstore hX dX0_commonDivisor_1 (by decide) [(4, .long x0), (0, .long x0), (2, .long x2)] rfl ?_
  refine z_lload_n hX dX0_commonDivisor_3 rfl 2 rfl ?_
  refine z_lstore hX dX0_commonDivisor_4 (by decide) [(6, .long x2), (4, .long x0), (0, .long x0), (2, .long x2)] rfl ?_
  refine z_iconst (v := 0) hX dX0_commonDivisor_6 (by decide) ?_
  refine z_istore hX dX0_commonDivisor_7 (by decide) [(8, .int (0 : Int32)), (6, .long x2), (4, .long x0), (0, .long x0), (2, .long x2)] rfl ?_
  exact z_sub [2, 1, 0] rfl h
set_option maxRecDepth 100000 in
set_option maxHeartbeats 4000000 in
theorem BX0_commonDivisor_9 {X : XT} {Q : Option Value → Mem → Prop} (hX : KX0_commonDivisor X) {x8 : Int32} {x4 x6 : Int64} {M : Mem} (h : (((200 : Int32) ≤ x8 → Q (some (.long x4)) M) ∧ (¬ (200 : Int32) ≤ x8 → (((lg_cmp x6 (0 : Int64)) = 0 → Q (some (.long x4)) M) ∧ (¬ (lg_cmp x6 (0 : Int64)) = 0 → (¬ x6 = 0 ∧ LX0_commonDivisor_9 X Q x6 (x4 - x4 / x6 * x6) (x8 + (1 : Int32)) M)))))) : LX0_commonDivisor_9 X Q x4 x6 x8 M := by
  show Z SX X 0 11 Q 9 [(4, .long x4), (6, .long x6), (8, .int x8)] [] M
  refine z_iload hX dX0_commonDivisor_9 2 rfl ?_
  refine z_sipush (v := 200) hX dX0_commonDivisor_11 (by decide) ?_
  refine z_icmp_ge hX 45 dX0_commonDivisor_14 (by decide) (fun c0 => ?_) (fun c0 => ?_)
  · replace h := h.1 c0
    refine z_lload hX dX0_commonDivisor_45 0 rfl ?_
    exact z_lret hX dX0_commonDivisor_47 h
  · replace h := h.2 c0
    refine z_lload hX dX0_commonDivisor_17 1 rfl ?_
    refine z_lconst (v := 0) hX dX0_commonDivisor_19 (by decide) ?_
    refine z_lcmp hX dX0_commonDivisor_20 ?_
    refine z_if_eq hX 45 dX0_commonDivisor_21 (by decide) (fun c0 => ?_) (fun c0 => ?_)
    · replace h := h.1 c0
      refine z_lload hX dX0_commonDivisor_45 0 rfl ?_
      exact z_lret hX dX0_commonDivisor_47 h
    · replace h := h.2 c0
      refine z_lload hX dX0_commonDivisor_24 0 rfl ?_
      refine z_lload hX dX0_commonDivisor_26 1 rfl ?_
      refine z_lrem hX dX0_commonDivisor_28 h.1 ?_
      replace h := h.2
      refine z_lstore hX dX0_commonDivisor_29 (by decide) [(9, .long (x4 - x4 / x6 * x6)), (4, .long x4), (6, .long x6), (8, .int x8)] rfl ?_
      refine z_lload hX dX0_commonDivisor_31 2 rfl ?_
      refine z_lstore hX dX0_commonDivisor_33 (by decide) [(4, .long x6), (9, .long (x4 - x4 / x6 * x6)), (6, .long x6), (8, .int x8)] rfl ?_
      refine z_lload hX dX0_commonDivisor_35 1 rfl ?_
      refine z_lstore hX dX0_commonDivisor_37 (by decide) [(6, .long (x4 - x4 / x6 * x6)), (4, .long x6), (9, .long (x4 - x4 / x6 * x6)), (8, .int x8)] rfl ?_
      refine z_iinc (v := x8 + (1 : Int32)) hX dX0_commonDivisor_39 3 rfl rfl (by decide) [(8, .int (x8 + (1 : Int32))), (6, .long (x4 - x4 / x6 * x6)), (4, .long x6), (9, .long (x4 - x4 / x6 * x6))] rfl ?_
      refine z_goto hX 9 dX0_commonDivisor_42 (by decide) ?_
      exact z_sub [2, 1, 0] rfl h
