abbrev LX8_stepsBy_41 (X : XT) (Q : Option Value → Mem → Prop) (x1 : Int32) (x3 : Int32) (x4 : Int32) (M : Mem) : Prop := Z SX X 3 5 Q 41 [(0, .ref (X.1.2.1 8)), (1, .int x1), (2, .ref (X.1.2.1 24)), (3, .int x3), (4, .int x4)] [] M
set_option maxRecDepth 100000 in
set_option maxHeartbeats 4000000 in
theorem EX8_stepsBy {E : ET} {Q : Option Value → Mem → Prop} {x1 : Int32} {M : Mem} (h : ∀ X : XT, X.1 = E → KX8_stepsBy X → ((¬ (M.1 8 5) = x1 → (∃ q3 : Mem → Prop, CX7_restless X.1 [.ref (X.1.2.1 7)] M (z_pR (X.1.2.1 24) q3) ∧ ∀ (M1 : Mem), q3 M1 → (∃ (r2 : Int32), CX7_dresses X.1 [.ref (X.1.2.1 7)] M1 (z_is (some (.int r2)) M1) ∧ LX8_stepsBy_41 X Q x1 r2 (0 : Int32) M1))) ∧ ((M.1 8 5) = x1 → (∃ (r4 : Int32), CX7_version X.1 [.ref (X.1.2.1 7)] M (z_is (some (.int r4)) M) ∧ (((M.1 8 6) = r4 → Q (some (.ref (X.1.2.1 25))) M) ∧ (¬ (M.1 8 6) = r4 → (∃ q7 : Mem → Prop, CX7_restless X.1 [.ref (X.1.2.1 7)] M (z_pR (X.1.2.1 24) q7) ∧ ∀ (M5 : Mem), q7 M5 → (∃ (r6 : Int32), CX7_dresses X.1 [.ref (X.1.2.1 7)] M5 (z_is (some (.int r6)) M5) ∧ LX8_stepsBy_41 X Q x1 r6 (0 : Int32) M5)))))))) : CX8_stepsBy E [.ref (E.2.1 8), .int x1] M Q := by
  refine z_entry (by decide +kernel) (Nat.le_of_ble_eq_true rfl) (fun X hE hX => ?_)
  subst hE
  replace h := h X rfl hX
  show Z SX X 3 5 Q 0 [(0, .ref (X.1.2.1 8)), (1, .int x1)] [] M
  refine z_aload_n hX dX8_stepsBy_0 rfl 0 rfl ?_
  refine gfX8_24 hX dX8_stepsBy_1 ?_
  refine z_iload_n hX dX8_stepsBy_4 rfl 1 rfl ?_
  refine z_icmp_ne hX 22 dX8_stepsBy_5 (by decide) (fun c0 => ?_) (fun c0 => ?_)
  · replace h := h.1 c0
    refine z_aload_n hX dX8_stepsBy_22 rfl 0 rfl ?_
    refine gfX8_37 hX dX8_stepsBy_23 ?_
    obtain ⟨q3, c9, h⟩ := h
    refine mcX8_47 hX dX8_stepsBy_26 (by decide) (Nat.le_of_ble_eq_true rfl) c9 (fun M1 hq => ?_)
    replace h := h M1 hq
    refine z_astore_n hX dX8_stepsBy_29 rfl (by decide) [(2, .ref (X.1.2.1 24)), (0, .ref (X.1.2.1 8)), (1, .int x1)] rfl ?_
    refine z_aload_n hX dX8_stepsBy_30 rfl 1 rfl ?_
    refine gfX8_37 hX dX8_stepsBy_31 ?_
    obtain ⟨r2, c9, h⟩ := h
    refine mcX8_51 hX dX8_stepsBy_34 (by decide) (Nat.le_of_ble_eq_true rfl) c9 ?_
    refine z_istore_n hX dX8_stepsBy_37 rfl (by decide) [(3, .int r2), (2, .ref (X.1.2.1 24)), (0, .ref (X.1.2.1 8)), (1, .int x1)] rfl ?_
    refine z_iconst (v := 0) hX dX8_stepsBy_38 (by decide) ?_
    refine z_istore hX dX8_stepsBy_39 (by decide) [(4, .int (0 : Int32)), (3, .int r2), (2, .ref (X.1.2.1 24)), (0, .ref (X.1.2.1 8)), (1, .int x1)] rfl ?_
    exact z_sub [3, 4, 2, 1, 0] rfl h
  · replace h := h.2 c0
    refine z_aload_n hX dX8_stepsBy_8 rfl 0 rfl ?_
    refine gfX8_28 hX dX8_stepsBy_9 ?_
    refine z_aload_n hX dX8_stepsBy_12 rfl 0 rfl ?_
    refine gfX8_37 hX dX8_stepsBy_13 ?_
    obtain ⟨r4, c9, h⟩ := h
    refine mcX8_41 hX dX8_stepsBy_16 (by decide) (Nat.le_of_ble_eq_true rfl) c9 ?_
    refine z_icmp_eq hX 97 dX8_stepsBy_19 (by decide) (fun c0 => ?_) (fun c0 => ?_)
    · replace h := h.1 c0
      refine z_aload_n hX dX8_stepsBy_97 rfl 0 rfl ?_
      refine gfX8_9 hX dX8_stepsBy_98 ?_
      exact z_aret hX dX8_stepsBy_101 h
    · replace h := h.2 c0
      refine z_aload_n hX dX8_stepsBy_22 rfl 0 rfl ?_
      refine gfX8_37 hX dX8_stepsBy_23 ?_
      obtain ⟨q7, c9, h⟩ := h
      refine mcX8_47 hX dX8_stepsBy_26 (by decide) (Nat.le_of_ble_eq_true rfl) c9 (fun M5 hq => ?_)
      replace h := h M5 hq
      refine z_astore_n hX dX8_stepsBy_29 rfl (by decide) [(2, .ref (X.1.2.1 24)), (0, .ref (X.1.2.1 8)), (1, .int x1)] rfl ?_
      refine z_aload_n hX dX8_stepsBy_30 rfl 1 rfl ?_
      refine gfX8_37 hX dX8_stepsBy_31 ?_
      obtain ⟨r6, c9, h⟩ := h
      refine mcX8_51 hX dX8_stepsBy_34 (by decide) (Nat.le_of_ble_eq_true rfl) c9 ?_
      refine z_istore_n hX dX8_stepsBy_37 rfl (by decide) [(3, .int r6), (2, .ref (X.1.2.1 24)), (0, .ref (X.1.2.1 8)), (1, .int x1)] rfl ?_
      refine z_iconst (v := 0) hX dX8_stepsBy_38 (by decide) ?_
      refine z_istore hX dX8_stepsBy_39 (by decide) [(4, .int (0 : Int32)), (3, .int r6), (2, .ref (X.1.2.1 24)), (0, .ref (X.1.2.1 8)), (1, .int x1)] rfl ?_
      exact z_sub [3, 4, 2, 1, 0] rfl h
set_option maxRecDepth 100000 in
set_option maxHeartbeats 4000000 in
theorem BX8_stepsBy_41 {X : XT} {Q : Option Value → Mem → Prop} (hX : KX8_stepsBy X) {x1 x3 x4 : Int32} {M : Mem} (h : ((x3 ≤ x4 → (∀ M1 : Mem, M1 = z_st M 8 5 x1 → (∃ (r2 : Int32), CX7_version X.1 [.ref (X.1.2.1 7)] M1 (z_is (some (.int r2)) M1) ∧ (∀ M3 : Mem, M3 = z_st M1 8 6 r2 → Q (some (.ref (X.1.2.1 25))) M3)))) ∧ (¬ x3 ≤ x4 → ((¬ x1 = 0 → (∃ (r4 : Int32), CX8_oneByOne X.1 [.ref (X.1.2.1 8), .ref (X.1.2.1 24), .int x4] M (z_is (some (.int r4)) M) ∧ (vp_in x4 1024 ∧ (∀ M5 : Mem, M5 = z_st M 25 x4.toNatClampNeg r4 → LX8_stepsBy_41 X Q x1 x3 (x4 + (1 : Int32)) M5)))) ∧ (x1 = 0 → (vp_in x4 1024 ∧ (vp_in x4 1024 ∧ (∀ M6 : Mem, M6 = z_st M 25 x4.toNatClampNeg (x4 ^^^ (M.1 24 x4.toNatClampNeg)) → LX8_stepsBy_41 X Q x1 x3 (x4 + (1 : Int32)) M6)))))))) : LX8_stepsBy_41 X Q x1 x3 x4 M := by
  show Z SX X 3 5 Q 41 [(0, .ref (X.1.2.1 8)), (1, .int x1), (2, .ref (X.1.2.1 24)), (3, .int x3), (4, .int x4)] [] M
  refine z_iload hX dX8_stepsBy_41 4 rfl ?_
  refine z_iload_n hX dX8_stepsBy_43 rfl 3 rfl ?_
  refine z_icmp_ge hX 81 dX8_stepsBy_44 (by decide) (fun c0 => ?_) (fun c0 => ?_)
  · replace h := h.1 c0
    refine z_aload_n hX dX8_stepsBy_81 rfl 0 rfl ?_
    refine z_iload_n hX dX8_stepsBy_82 rfl 1 rfl ?_
    refine pfX8_24 hX dX8_stepsBy_83 (fun M1 eM1 => ?_)
    replace h := h M1 eM1
    refine z_aload_n hX dX8_stepsBy_86 rfl 0 rfl ?_
    refine z_aload_n hX dX8_stepsBy_87 rfl 0 rfl ?_
    refine gfX8_37 hX dX8_stepsBy_88 ?_
    obtain ⟨r2, c9, h⟩ := h
    refine mcX8_41 hX dX8_stepsBy_91 (by decide) (Nat.le_of_ble_eq_true rfl) c9 ?_
    refine pfX8_28 hX dX8_stepsBy_94 (fun M3 eM3 => ?_)
    replace h := h M3 eM3
    refine z_aload_n hX dX8_stepsBy_97 rfl 0 rfl ?_
    refine gfX8_9 hX dX8_stepsBy_98 ?_
    exact z_aret hX dX8_stepsBy_101 h
  · replace h := h.2 c0
    refine z_aload_n hX dX8_stepsBy_47 rfl 0 rfl ?_
    refine gfX8_9 hX dX8_stepsBy_48 ?_
    refine z_iload hX dX8_stepsBy_51 4 rfl ?_
    refine z_iload_n hX dX8_stepsBy_53 rfl 1 rfl ?_
    refine z_if_ne hX 67 dX8_stepsBy_54 (by decide) (fun c0 => ?_) (fun c0 => ?_)
    · replace h := h.1 c0
      refine z_aload_n hX dX8_stepsBy_67 rfl 0 rfl ?_
      refine z_aload_n hX dX8_stepsBy_68 rfl 2 rfl ?_
      refine z_iload hX dX8_stepsBy_69 4 rfl ?_
      obtain ⟨r4, c9, h⟩ := h
      refine mcX8_54 hX dX8_stepsBy_71 (by decide) (Nat.le_of_ble_eq_true rfl) c9 ?_
      refine z_iastM hX 25 rfl h.1 dX8_stepsBy_74 (fun M5 eM5 => ?_)
      replace h := h.2 M5 eM5
      refine z_iinc (v := x4 + (1 : Int32)) hX dX8_stepsBy_75 4 rfl rfl (by decide) [(4, .int (x4 + (1 : Int32))), (0, .ref (X.1.2.1 8)), (1, .int x1), (2, .ref (X.1.2.1 24)), (3, .int x3)] rfl ?_
      refine z_goto hX 41 dX8_stepsBy_78 (by decide) ?_
      exact z_sub [1, 2, 3, 4, 0] rfl h
    · replace h := h.2 c0
      refine z_iload hX dX8_stepsBy_57 4 rfl ?_
      refine z_aload_n hX dX8_stepsBy_59 rfl 2 rfl ?_
      refine z_iload hX dX8_stepsBy_60 4 rfl ?_
      refine z_iald hX 24 rfl h.1 dX8_stepsBy_62 ?_
      replace h := h.2
      refine z_ixor hX dX8_stepsBy_63 ?_
      refine z_goto hX 74 dX8_stepsBy_64 (by decide) ?_
      refine z_iastM hX 25 rfl h.1 dX8_stepsBy_74 (fun M6 eM6 => ?_)
      replace h := h.2 M6 eM6
      refine z_iinc (v := x4 + (1 : Int32)) hX dX8_stepsBy_75 4 rfl rfl (by decide) [(4, .int (x4 + (1 : Int32))), (0, .ref (X.1.2.1 8)), (1, .int x1), (2, .ref (X.1.2.1 24)), (3, .int x3)] rfl ?_
      refine z_goto hX 41 dX8_stepsBy_78 (by decide) ?_
      exact z_sub [1, 2, 3, 4, 0] rfl h
abbrev LX8_oneByOne_14 (X : XT) (Q : Option Value → Mem → Prop) (x3 : Int32) (x4 : Int32) (x5 : Int32) (M : Mem) : Prop := Z SX X 1 6 Q 14 [(1, .ref (X.1.2.1 24)), (3, .int x3), (4, .int x4), (5, .int x5)] [] M
set_option maxRecDepth 100000 in
set_option maxHeartbeats 4000000 in
theorem EX8_oneByOne {E : ET} {Q : Option Value → Mem → Prop} {x2 : Int32} {M : Mem} (h : ∀ X : XT, X.1 = E → KX8_oneByOne X → (∃ (r1 : Int32), CX7_size X.1 [.ref (X.1.2.1 7)] M (z_is (some (.int r1)) M) ∧ LX8_oneByOne_14 X Q r1 x2 (0 : Int32) M)) : CX8_oneByOne E [.ref (E.2.1 8), .ref (E.2.1 24), .int x2] M Q := by
  refine z_entry (by decide +kernel) (Nat.le_of_ble_eq_true rfl) (fun X hE hX => ?_)
  subst hE
  replace h := h X rfl hX
  show Z SX X 1 6 Q 0 [(0, .ref (X.1.2.1 8)), (1, .ref (X.1.2.1 24)), (2, .int x2)] [] M
  refine z_aload_n hX dX8_oneByOne_0 rfl 0 rfl ?_
  refine gfX8_37 hX dX8_oneByOne_1 ?_
  obtain ⟨r1, c9, h⟩ := h
  refine mcX8_58 hX dX8_oneByOne_4 (by decide) (Nat.le_of_ble_eq_true rfl) c9 ?_
  refine z_istore_n hX dX8_oneByOne_7 rfl (by decide) [(3, .int r1), (0, .ref (X.1.2.1 8)), (1, .ref (X.1.2.1 24)), (2, .int x2)] rfl ?_
  refine z_iload_n hX dX8_oneByOne_8 rfl 3 rfl ?_
  refine z_istore hX dX8_oneByOne_9 (by decide) [(4, .int x2), (3, .int r1), (0, .ref (X.1.2.1 8)), (1, .ref (X.1.2.1 24)), (2, .int x2)] rfl ?_
  refine z_iconst (v := 0) hX dX8_oneByOne_11 (by decide) ?_
  refine z_istore hX dX8_oneByOne_12 (by decide) [(5, .int (0 : Int32)), (4, .int x2), (3, .int r1), (0, .ref (X.1.2.1 8)), (1, .ref (X.1.2.1 24)), (2, .int x2)] rfl ?_
  exact z_sub [4, 2, 1, 0] rfl h
set_option maxRecDepth 100000 in
set_option maxHeartbeats 4000000 in
theorem BX8_oneByOne_14 {X : XT} {Q : Option Value → Mem → Prop} (hX : KX8_oneByOne X) {x3 x4 x5 : Int32} {M : Mem} (h : ((x3 ≤ x5 → Q (some (.int x4)) M) ∧ (¬ x3 ≤ x5 → (vp_in x4 1024 ∧ LX8_oneByOne_14 X Q x3 (x4 ^^^ ((M.1 24 x4.toNatClampNeg) &&& ((1 : Int32) <<< (x5 &&& 31)))) (x5 + (1 : Int32)) M)))) : LX8_oneByOne_14 X Q x3 x4 x5 M := by
  show Z SX X 1 6 Q 14 [(1, .ref (X.1.2.1 24)), (3, .int x3), (4, .int x4), (5, .int x5)] [] M
  refine z_iload hX dX8_oneByOne_14 3 rfl ?_
  refine z_iload_n hX dX8_oneByOne_16 rfl 1 rfl ?_
  refine z_icmp_ge hX 40 dX8_oneByOne_17 (by decide) (fun c0 => ?_) (fun c0 => ?_)
  · replace h := h.1 c0
    refine z_iload hX dX8_oneByOne_40 2 rfl ?_
    exact z_iret hX dX8_oneByOne_42 h
  · replace h := h.2 c0
    refine z_iload hX dX8_oneByOne_20 2 rfl ?_
    refine z_aload_n hX dX8_oneByOne_22 rfl 0 rfl ?_
    refine z_iload hX dX8_oneByOne_23 2 rfl ?_
    refine z_iald hX 24 rfl h.1 dX8_oneByOne_25 ?_
    replace h := h.2
    refine z_iconst (v := 1) hX dX8_oneByOne_26 (by decide) ?_
    refine z_iload hX dX8_oneByOne_27 3 rfl ?_
    refine z_ishl hX dX8_oneByOne_29 ?_
    refine z_iand hX dX8_oneByOne_30 ?_
    refine z_ixor hX dX8_oneByOne_31 ?_
    refine z_istore hX dX8_oneByOne_32 (by decide) [(4, .int (x4 ^^^ ((M.1 24 x4.toNatClampNeg) &&& ((1 : Int32) <<< (x5 &&& 31))))), (1, .ref (X.1.2.1 24)), (3, .int x3), (5, .int x5)] rfl ?_
    refine z_iinc (v := x5 + (1 : Int32)) hX dX8_oneByOne_34 3 rfl rfl (by decide) [(5, .int (x5 + (1 : Int32))), (4, .int (x4 ^^^ ((M.1 24 x4.toNatClampNeg) &&& ((1 : Int32) <<< (x5 &&& 31))))), (1, .ref (X.1.2.1 24)), (3, .int x3)] rfl ?_
    refine z_goto hX 14 dX8_oneByOne_37 (by decide) ?_
    exact z_sub [2, 3, 1, 0] rfl h
abbrev LX8_behind_12 (X : XT) (Q : Option Value → Mem → Prop) (x3 : Int32) (x4 : Int32) (x5 : Int32) (M : Mem) : Prop := Z SX X 4 6 Q 12 [(0, .ref (X.1.2.1 8)), (3, .int x3), (4, .int x4), (5, .int x5)] [] M
set_option maxRecDepth 100000 in
set_option maxHeartbeats 4000000 in
theorem EX8_behind {E : ET} {Q : Option Value → Mem → Prop} {x1 x2 x3 : Int32} {M : Mem} (h : ∀ X : XT, X.1 = E → KX8_behind X → (∃ q2 : Mem → Prop, CX8_stepsBy X.1 [.ref (X.1.2.1 8), .int x2] M (z_pR (X.1.2.1 25) q2) ∧ ∀ (M1 : Mem), q2 M1 → LX8_behind_12 X Q x3 x1 (0 : Int32) M1)) : CX8_behind E [.ref (E.2.1 8), .int x1, .int x2, .int x3] M Q := by
  refine z_entry (by decide +kernel) (Nat.le_of_ble_eq_true rfl) (fun X hE hX => ?_)
  subst hE
  replace h := h X rfl hX
  show Z SX X 4 6 Q 0 [(0, .ref (X.1.2.1 8)), (1, .int x1), (2, .int x2), (3, .int x3)] [] M
  refine z_aload_n hX dX8_behind_0 rfl 0 rfl ?_
  refine z_iload_n hX dX8_behind_1 rfl 2 rfl ?_
  obtain ⟨q2, c9, h⟩ := h
  refine mcX8_61 hX dX8_behind_2 (by decide) (Nat.le_of_ble_eq_true rfl) c9 (fun M1 hq => ?_)
  replace h := h M1 hq
  refine z_pop hX dX8_behind_5 rfl ?_
  refine z_iload_n hX dX8_behind_6 rfl 1 rfl ?_
  refine z_istore hX dX8_behind_7 (by decide) [(4, .int x1), (0, .ref (X.1.2.1 8)), (1, .int x1), (2, .int x2), (3, .int x3)] rfl ?_
  refine z_iconst (v := 0) hX dX8_behind_9 (by decide) ?_
  refine z_istore hX dX8_behind_10 (by decide) [(5, .int (0 : Int32)), (4, .int x1), (0, .ref (X.1.2.1 8)), (1, .int x1), (2, .int x2), (3, .int x3)] rfl ?_
  exact z_sub [2, 5, 1, 0] rfl h
set_option maxRecDepth 100000 in
set_option maxHeartbeats 4000000 in
theorem BX8_behind_12 {X : XT} {Q : Option Value → Mem → Prop} (hX : KX8_behind X) {x3 x4 x5 : Int32} {M : Mem} (h : ((x3 ≤ x5 → Q (some (.int x4)) M) ∧ (¬ x3 ≤ x5 → (vp_in x4 1024 ∧ LX8_behind_12 X Q x3 (M.1 25 x4.toNatClampNeg) (x5 + (1 : Int32)) M)))) : LX8_behind_12 X Q x3 x4 x5 M := by
  show Z SX X 4 6 Q 12 [(0, .ref (X.1.2.1 8)), (3, .int x3), (4, .int x4), (5, .int x5)] [] M
  refine z_iload hX dX8_behind_12 3 rfl ?_
  refine z_iload_n hX dX8_behind_14 rfl 1 rfl ?_
  refine z_icmp_ge hX 33 dX8_behind_15 (by decide) (fun c0 => ?_) (fun c0 => ?_)
  · replace h := h.1 c0
    refine z_iload hX dX8_behind_33 2 rfl ?_
    exact z_iret hX dX8_behind_35 h
  · replace h := h.2 c0
    refine z_aload_n hX dX8_behind_18 rfl 0 rfl ?_
    refine gfX8_9 hX dX8_behind_19 ?_
    refine z_iload hX dX8_behind_22 2 rfl ?_
    refine z_iald hX 25 rfl h.1 dX8_behind_24 ?_
    replace h := h.2
    refine z_istore hX dX8_behind_25 (by decide) [(4, .int (M.1 25 x4.toNatClampNeg)), (0, .ref (X.1.2.1 8)), (3, .int x3), (5, .int x5)] rfl ?_
    refine z_iinc (v := x5 + (1 : Int32)) hX dX8_behind_27 3 rfl rfl (by decide) [(5, .int (x5 + (1 : Int32))), (4, .int (M.1 25 x4.toNatClampNeg)), (0, .ref (X.1.2.1 8)), (3, .int x3)] rfl ?_
    refine z_goto hX 12 dX8_behind_30 (by decide) ?_
    exact z_sub [2, 3, 1, 0] rfl h
set_option maxRecDepth 100000 in
set_option maxHeartbeats 4000000 in
theorem EX8_stepsToRing {E : ET} {Q : Option Value → Mem → Prop} {x1 x2 : Int32} {M : Mem} (h : ∃ q2 : Mem → Prop, CX8_findRings E [.ref (E.2.1 8), .int x2] M (z_pV q2) ∧ ∀ (M1 : Mem), q2 M1 → (vp_in x1 1024 ∧ Q (some (.int (M1.1 27 x1.toNatClampNeg))) M1)) : CX8_stepsToRing E [.ref (E.2.1 8), .int x1, .int x2] M Q := by
  refine z_entry (by decide +kernel) (Nat.le_of_ble_eq_true rfl) (fun X hE hX => ?_)
  subst hE
  show Z SX X 5 3 Q 0 [(0, .ref (X.1.2.1 8)), (1, .int x1), (2, .int x2)] [] M
  refine z_aload_n hX dX8_stepsToRing_0 rfl 0 rfl ?_
  refine z_iload_n hX dX8_stepsToRing_1 rfl 2 rfl ?_
  obtain ⟨q2, c9, h⟩ := h
  refine mcX8_65 hX dX8_stepsToRing_2 (by decide) (Nat.le_of_ble_eq_true rfl) c9 (fun M1 hq => ?_)
  replace h := h M1 hq
  refine z_aload_n hX dX8_stepsToRing_5 rfl 0 rfl ?_
  refine gfX8_18 hX dX8_stepsToRing_6 ?_
  refine z_iload_n hX dX8_stepsToRing_9 rfl 1 rfl ?_
  refine z_iald hX 27 rfl h.1 dX8_stepsToRing_10 ?_
  replace h := h.2
  exact z_iret hX dX8_stepsToRing_11 h
abbrev LX8_entered_10 (X : XT) (Q : Option Value → Mem → Prop) (x1 : Int32) (x3 : Int32) (x4 : Int32) (M : Mem) : Prop := Z SX X 5 5 Q 10 [(0, .ref (X.1.2.1 8)), (1, .int x1), (3, .int x3), (4, .int x4)] [] M
set_option maxRecDepth 100000 in
set_option maxHeartbeats 4000000 in
theorem EX8_entered {E : ET} {Q : Option Value → Mem → Prop} {x1 x2 : Int32} {M : Mem} (h : ∀ X : XT, X.1 = E → KX8_entered X → (∃ q2 : Mem → Prop, CX8_findRings X.1 [.ref (X.1.2.1 8), .int x2] M (z_pV q2) ∧ ∀ (M1 : Mem), q2 M1 → LX8_entered_10 X Q x1 x1 (0 : Int32) M1)) : CX8_entered E [.ref (E.2.1 8), .int x1, .int x2] M Q := by
  refine z_entry (by decide +kernel) (Nat.le_of_ble_eq_true rfl) (fun X hE hX => ?_)
  subst hE
  replace h := h X rfl hX
  show Z SX X 5 5 Q 0 [(0, .ref (X.1.2.1 8)), (1, .int x1), (2, .int x2)] [] M
  refine z_aload_n hX dX8_entered_0 rfl 0 rfl ?_
  refine z_iload_n hX dX8_entered_1 rfl 2 rfl ?_
  obtain ⟨q2, c9, h⟩ := h
  refine mcX8_65 hX dX8_entered_2 (by decide) (Nat.le_of_ble_eq_true rfl) c9 (fun M1 hq => ?_)
  replace h := h M1 hq
  refine z_iload_n hX dX8_entered_5 rfl 1 rfl ?_
  refine z_istore_n hX dX8_entered_6 rfl (by decide) [(3, .int x1), (0, .ref (X.1.2.1 8)), (1, .int x1), (2, .int x2)] rfl ?_
  refine z_iconst (v := 0) hX dX8_entered_7 (by decide) ?_
  refine z_istore hX dX8_entered_8 (by decide) [(4, .int (0 : Int32)), (3, .int x1), (0, .ref (X.1.2.1 8)), (1, .int x1), (2, .int x2)] rfl ?_
  exact z_sub [2, 3, 1, 0] rfl h
set_option maxRecDepth 100000 in
set_option maxHeartbeats 4000000 in
theorem BX8_entered_10 {X : XT} {Q : Option Value → Mem → Prop} (hX : KX8_entered X) {x1 x3 x4 : Int32} {M : Mem} (h : vp_in x1 1024 ∧ (((M.1 27 x1.toNatClampNeg) ≤ x4 → Q (some (.int x3)) M) ∧ (¬ (M.1 27 x1.toNatClampNeg) ≤ x4 → (vp_in x3 1024 ∧ LX8_entered_10 X Q x1 (M.1 25 x3.toNatClampNeg) (x4 + (1 : Int32)) M)))) : LX8_entered_10 X Q x1 x3 x4 M := by
  show Z SX X 5 5 Q 10 [(0, .ref (X.1.2.1 8)), (1, .int x1), (3, .int x3), (4, .int x4)] [] M
  refine z_iload hX dX8_entered_10 3 rfl ?_
  refine z_aload_n hX dX8_entered_12 rfl 0 rfl ?_
  refine gfX8_18 hX dX8_entered_13 ?_
  refine z_iload_n hX dX8_entered_16 rfl 1 rfl ?_
  refine z_iald hX 27 rfl h.1 dX8_entered_17 ?_
  replace h := h.2
  refine z_icmp_ge hX 34 dX8_entered_18 (by decide) (fun c0 => ?_) (fun c0 => ?_)
  · replace h := h.1 c0
    refine z_iload_n hX dX8_entered_34 rfl 2 rfl ?_
    exact z_iret hX dX8_entered_35 h
  · replace h := h.2 c0
    refine z_aload_n hX dX8_entered_21 rfl 0 rfl ?_
    refine gfX8_9 hX dX8_entered_22 ?_
    refine z_iload_n hX dX8_entered_25 rfl 2 rfl ?_
    refine z_iald hX 25 rfl h.1 dX8_entered_26 ?_
    replace h := h.2
    refine z_istore_n hX dX8_entered_27 rfl (by decide) [(3, .int (M.1 25 x3.toNatClampNeg)), (0, .ref (X.1.2.1 8)), (1, .int x1), (4, .int x4)] rfl ?_
    refine z_iinc (v := x4 + (1 : Int32)) hX dX8_entered_28 3 rfl rfl (by decide) [(4, .int (x4 + (1 : Int32))), (3, .int (M.1 25 x3.toNatClampNeg)), (0, .ref (X.1.2.1 8)), (1, .int x1)] rfl ?_
    refine z_goto hX 10 dX8_entered_31 (by decide) ?_
    exact z_sub [2, 3, 1, 0] rfl h
abbrev LX8_ringCount_18 (X : XT) (Q : Option Value → Mem → Prop) (x2 : Int32) (x3 : Int32) (x4 : Int32) (M : Mem) : Prop := Z SX X 5 5 Q 18 [(0, .ref (X.1.2.1 8)), (2, .int x2), (3, .int x3), (4, .int x4)] [] M
set_option maxRecDepth 100000 in
set_option maxHeartbeats 4000000 in
theorem EX8_ringCount {E : ET} {Q : Option Value → Mem → Prop} {x1 : Int32} {M : Mem} (h : ∀ X : XT, X.1 = E → KX8_ringCount X → (∃ q3 : Mem → Prop, CX8_findRings X.1 [.ref (X.1.2.1 8), .int x1] M (z_pV q3) ∧ ∀ (M1 : Mem), q3 M1 → (∃ (r2 : Int32), CX7_dresses X.1 [.ref (X.1.2.1 7)] M1 (z_is (some (.int r2)) M1) ∧ LX8_ringCount_18 X Q r2 (0 : Int32) (0 : Int32) M1))) : CX8_ringCount E [.ref (E.2.1 8), .int x1] M Q := by
  refine z_entry (by decide +kernel) (Nat.le_of_ble_eq_true rfl) (fun X hE hX => ?_)
  subst hE
  replace h := h X rfl hX
  show Z SX X 5 5 Q 0 [(0, .ref (X.1.2.1 8)), (1, .int x1)] [] M
  refine z_aload_n hX dX8_ringCount_0 rfl 0 rfl ?_
  refine z_iload_n hX dX8_ringCount_1 rfl 1 rfl ?_
  obtain ⟨q3, c9, h⟩ := h
  refine mcX8_65 hX dX8_ringCount_2 (by decide) (Nat.le_of_ble_eq_true rfl) c9 (fun M1 hq => ?_)
  replace h := h M1 hq
  refine z_aload_n hX dX8_ringCount_5 rfl 0 rfl ?_
  refine gfX8_37 hX dX8_ringCount_6 ?_
  obtain ⟨r2, c9, h⟩ := h
  refine mcX8_51 hX dX8_ringCount_9 (by decide) (Nat.le_of_ble_eq_true rfl) c9 ?_
  refine z_istore_n hX dX8_ringCount_12 rfl (by decide) [(2, .int r2), (0, .ref (X.1.2.1 8)), (1, .int x1)] rfl ?_
  refine z_iconst (v := 0) hX dX8_ringCount_13 (by decide) ?_
  refine z_istore_n hX dX8_ringCount_14 rfl (by decide) [(3, .int (0 : Int32)), (2, .int r2), (0, .ref (X.1.2.1 8)), (1, .int x1)] rfl ?_
  refine z_iconst (v := 0) hX dX8_ringCount_15 (by decide) ?_
  refine z_istore hX dX8_ringCount_16 (by decide) [(4, .int (0 : Int32)), (3, .int (0 : Int32)), (2, .int r2), (0, .ref (X.1.2.1 8)), (1, .int x1)] rfl ?_
  exact z_sub [3, 2, 1, 0] rfl h
set_option maxRecDepth 100000 in
set_option maxHeartbeats 4000000 in
theorem BX8_ringCount_18 {X : XT} {Q : Option Value → Mem → Prop} (hX : KX8_ringCount X) {x2 x3 x4 : Int32} {M : Mem} (h : ((x2 ≤ x4 → Q (some (.int x3)) M) ∧ (¬ x2 ≤ x4 → (vp_in x4 1024 ∧ ((¬ (M.1 26 x4.toNatClampNeg) = x4 → LX8_ringCount_18 X Q x2 x3 (x4 + (1 : Int32)) M) ∧ ((M.1 26 x4.toNatClampNeg) = x4 → LX8_ringCount_18 X Q x2 (x3 + (1 : Int32)) (x4 + (1 : Int32)) M)))))) : LX8_ringCount_18 X Q x2 x3 x4 M := by
  show Z SX X 5 5 Q 18 [(0, .ref (X.1.2.1 8)), (2, .int x2), (3, .int x3), (4, .int x4)] [] M
  refine z_iload hX dX8_ringCount_18 3 rfl ?_
  refine z_iload_n hX dX8_ringCount_20 rfl 1 rfl ?_
  refine z_icmp_ge hX 45 dX8_ringCount_21 (by decide) (fun c0 => ?_) (fun c0 => ?_)
  · replace h := h.1 c0
    refine z_iload_n hX dX8_ringCount_45 rfl 2 rfl ?_
    exact z_iret hX dX8_ringCount_46 h
  · replace h := h.2 c0
    refine z_aload_n hX dX8_ringCount_24 rfl 0 rfl ?_
    refine gfX8_15 hX dX8_ringCount_25 ?_
    refine z_iload hX dX8_ringCount_28 3 rfl ?_
    refine z_iald hX 26 rfl h.1 dX8_ringCount_30 ?_
    replace h := h.2
    refine z_iload hX dX8_ringCount_31 3 rfl ?_
    refine z_icmp_ne hX 39 dX8_ringCount_33 (by decide) (fun c0 => ?_) (fun c0 => ?_)
    · replace h := h.1 c0
      refine z_iinc (v := x4 + (1 : Int32)) hX dX8_ringCount_39 3 rfl rfl (by decide) [(4, .int (x4 + (1 : Int32))), (0, .ref (X.1.2.1 8)), (2, .int x2), (3, .int x3)] rfl ?_
      refine z_goto hX 18 dX8_ringCount_42 (by decide) ?_
      exact z_sub [1, 2, 3, 0] rfl h
    · replace h := h.2 c0
      refine z_iinc (v := x3 + (1 : Int32)) hX dX8_ringCount_36 2 rfl rfl (by decide) [(3, .int (x3 + (1 : Int32))), (0, .ref (X.1.2.1 8)), (2, .int x2), (4, .int x4)] rfl ?_
      refine z_iinc (v := x4 + (1 : Int32)) hX dX8_ringCount_39 3 rfl rfl (by decide) [(4, .int (x4 + (1 : Int32))), (3, .int (x3 + (1 : Int32))), (0, .ref (X.1.2.1 8)), (2, .int x2)] rfl ?_
      refine z_goto hX 18 dX8_ringCount_42 (by decide) ?_
      exact z_sub [2, 3, 1, 0] rfl h
abbrev LX8_leastOfRing_19 (X : XT) (Q : Option Value → Mem → Prop) (x3 : Int32) (x4 : Int32) (x5 : Int32) (M : Mem) : Prop := Z SX X 5 6 Q 19 [(0, .ref (X.1.2.1 8)), (3, .int x3), (4, .int x4), (5, .int x5)] [] M
set_option maxRecDepth 100000 in
set_option maxHeartbeats 4000000 in
theorem EX8_leastOfRing {E : ET} {Q : Option Value → Mem → Prop} {x1 x2 : Int32} {M : Mem} (h : ∀ X : XT, X.1 = E → KX8_leastOfRing X → (∃ q3 : Mem → Prop, CX8_findRings X.1 [.ref (X.1.2.1 8), .int x1] M (z_pV q3) ∧ ∀ (M1 : Mem), q3 M1 → (∃ (r2 : Int32), CX7_dresses X.1 [.ref (X.1.2.1 7)] M1 (z_is (some (.int r2)) M1) ∧ LX8_leastOfRing_19 X Q r2 x2 (0 : Int32) M1))) : CX8_leastOfRing E [.ref (E.2.1 8), .int x1, .int x2] M Q := by
  refine z_entry (by decide +kernel) (Nat.le_of_ble_eq_true rfl) (fun X hE hX => ?_)
  subst hE
  replace h := h X rfl hX
  show Z SX X 5 6 Q 0 [(0, .ref (X.1.2.1 8)), (1, .int x1), (2, .int x2)] [] M
  refine z_aload_n hX dX8_leastOfRing_0 rfl 0 rfl ?_
  refine z_iload_n hX dX8_leastOfRing_1 rfl 1 rfl ?_
  obtain ⟨q3, c9, h⟩ := h
  refine mcX8_65 hX dX8_leastOfRing_2 (by decide) (Nat.le_of_ble_eq_true rfl) c9 (fun M1 hq => ?_)
  replace h := h M1 hq
  refine z_aload_n hX dX8_leastOfRing_5 rfl 0 rfl ?_
  refine gfX8_37 hX dX8_leastOfRing_6 ?_
  obtain ⟨r2, c9, h⟩ := h
  refine mcX8_51 hX dX8_leastOfRing_9 (by decide) (Nat.le_of_ble_eq_true rfl) c9 ?_
  refine z_istore_n hX dX8_leastOfRing_12 rfl (by decide) [(3, .int r2), (0, .ref (X.1.2.1 8)), (1, .int x1), (2, .int x2)] rfl ?_
  refine z_iload_n hX dX8_leastOfRing_13 rfl 3 rfl ?_
  refine z_istore hX dX8_leastOfRing_14 (by decide) [(4, .int x2), (3, .int r2), (0, .ref (X.1.2.1 8)), (1, .int x1), (2, .int x2)] rfl ?_
  refine z_iconst (v := 0) hX dX8_leastOfRing_16 (by decide) ?_
  refine z_istore hX dX8_leastOfRing_17 (by decide) [(5, .int (0 : Int32)), (4, .int x2), (3, .int r2), (0, .ref (X.1.2.1 8)), (1, .int x1), (2, .int x2)] rfl ?_
  exact z_sub [3, 2, 1, 0] rfl h
set_option maxRecDepth 100000 in
set_option maxHeartbeats 4000000 in
theorem BX8_leastOfRing_19 {X : XT} {Q : Option Value → Mem → Prop} (hX : KX8_leastOfRing X) {x3 x4 x5 : Int32} {M : Mem} (h : ((x3 ≤ x5 → Q (some (.int (-1 : Int32))) M) ∧ (¬ x3 ≤ x5 → ((x4 < 0 → Q (some (.int (-1 : Int32))) M) ∧ (¬ x4 < 0 → (vp_in x5 1024 ∧ ((¬ (M.1 26 x5.toNatClampNeg) = x5 → LX8_leastOfRing_19 X Q x3 x4 (x5 + (1 : Int32)) M) ∧ ((M.1 26 x5.toNatClampNeg) = x5 → ((¬ x4 = 0 → LX8_leastOfRing_19 X Q x3 (x4 + (-1 : Int32)) (x5 + (1 : Int32)) M) ∧ (x4 = 0 → Q (some (.int x5)) M)))))))))) : LX8_leastOfRing_19 X Q x3 x4 x5 M := by
  show Z SX X 5 6 Q 19 [(0, .ref (X.1.2.1 8)), (3, .int x3), (4, .int x4), (5, .int x5)] [] M
  refine z_iload hX dX8_leastOfRing_19 3 rfl ?_
  refine z_iload_n hX dX8_leastOfRing_21 rfl 1 rfl ?_
  refine z_icmp_ge hX 59 dX8_leastOfRing_22 (by decide) (fun c0 => ?_) (fun c0 => ?_)
  · replace h := h.1 c0
    refine z_iconst (v := -1) hX dX8_leastOfRing_59 (by decide) ?_
    exact z_iret hX dX8_leastOfRing_60 h
  · replace h := h.2 c0
    refine z_iload hX dX8_leastOfRing_25 2 rfl ?_
    refine z_if_lt hX 59 dX8_leastOfRing_27 (by decide) (fun c0 => ?_) (fun c0 => ?_)
    · replace h := h.1 c0
      refine z_iconst (v := -1) hX dX8_leastOfRing_59 (by decide) ?_
      exact z_iret hX dX8_leastOfRing_60 h
    · replace h := h.2 c0
      refine z_aload_n hX dX8_leastOfRing_30 rfl 0 rfl ?_
      refine gfX8_15 hX dX8_leastOfRing_31 ?_
      refine z_iload hX dX8_leastOfRing_34 3 rfl ?_
      refine z_iald hX 26 rfl h.1 dX8_leastOfRing_36 ?_
      replace h := h.2
      refine z_iload hX dX8_leastOfRing_37 3 rfl ?_
      refine z_icmp_ne hX 53 dX8_leastOfRing_39 (by decide) (fun c0 => ?_) (fun c0 => ?_)
      · replace h := h.1 c0
        refine z_iinc (v := x5 + (1 : Int32)) hX dX8_leastOfRing_53 3 rfl rfl (by decide) [(5, .int (x5 + (1 : Int32))), (0, .ref (X.1.2.1 8)), (3, .int x3), (4, .int x4)] rfl ?_
        refine z_goto hX 19 dX8_leastOfRing_56 (by decide) ?_
        exact z_sub [1, 2, 3, 0] rfl h
      · replace h := h.2 c0
        refine z_iload hX dX8_leastOfRing_42 2 rfl ?_
        refine z_if_ne hX 50 dX8_leastOfRing_44 (by decide) (fun c0 => ?_) (fun c0 => ?_)
        · replace h := h.1 c0
          refine z_iinc (v := x4 + (-1 : Int32)) hX dX8_leastOfRing_50 2 rfl rfl (by decide) [(4, .int (x4 + (-1 : Int32))), (0, .ref (X.1.2.1 8)), (3, .int x3), (5, .int x5)] rfl ?_
          refine z_iinc (v := x5 + (1 : Int32)) hX dX8_leastOfRing_53 3 rfl rfl (by decide) [(5, .int (x5 + (1 : Int32))), (4, .int (x4 + (-1 : Int32))), (0, .ref (X.1.2.1 8)), (3, .int x3)] rfl ?_
          refine z_goto hX 19 dX8_leastOfRing_56 (by decide) ?_
          exact z_sub [2, 3, 1, 0] rfl h
        · replace h := h.2 c0
          refine z_iload hX dX8_leastOfRing_47 3 rfl ?_
          exact z_iret hX dX8_leastOfRing_49 h
abbrev LX8_lengthOf_16 (X : XT) (Q : Option Value → Mem → Prop) (x2 : Int32) (x3 : Int32) (x4 : Int32) (M : Mem) : Prop := Z SX X 4 5 Q 16 [(0, .ref (X.1.2.1 8)), (2, .int x2), (3, .int x3), (4, .int x4)] [] M
set_option maxRecDepth 100000 in
set_option maxHeartbeats 4000000 in
theorem EX8_lengthOf {E : ET} {Q : Option Value → Mem → Prop} {x1 x2 : Int32} {M : Mem} (h : ∀ X : XT, X.1 = E → KX8_lengthOf X → (∃ q2 : Mem → Prop, CX8_stepsBy X.1 [.ref (X.1.2.1 8), .int x1] M (z_pR (X.1.2.1 25) q2) ∧ ∀ (M1 : Mem), q2 M1 → (vp_in x2 1024 ∧ LX8_lengthOf_16 X Q x2 (1 : Int32) (M1.1 25 x2.toNatClampNeg) M1))) : CX8_lengthOf E [.ref (E.2.1 8), .int x1, .int x2] M Q := by
  refine z_entry (by decide +kernel) (Nat.le_of_ble_eq_true rfl) (fun X hE hX => ?_)
  subst hE
  replace h := h X rfl hX
  show Z SX X 4 5 Q 0 [(0, .ref (X.1.2.1 8)), (1, .int x1), (2, .int x2)] [] M
  refine z_aload_n hX dX8_lengthOf_0 rfl 0 rfl ?_
  refine z_iload_n hX dX8_lengthOf_1 rfl 1 rfl ?_
  obtain ⟨q2, c9, h⟩ := h
  refine mcX8_61 hX dX8_lengthOf_2 (by decide) (Nat.le_of_ble_eq_true rfl) c9 (fun M1 hq => ?_)
  replace h := h M1 hq
  refine z_pop hX dX8_lengthOf_5 rfl ?_
  refine z_iconst (v := 1) hX dX8_lengthOf_6 (by decide) ?_
  refine z_istore_n hX dX8_lengthOf_7 rfl (by decide) [(3, .int (1 : Int32)), (0, .ref (X.1.2.1 8)), (1, .int x1), (2, .int x2)] rfl ?_
  refine z_aload_n hX dX8_lengthOf_8 rfl 1 rfl ?_
  refine gfX8_9 hX dX8_lengthOf_9 ?_
  refine z_iload_n hX dX8_lengthOf_12 rfl 3 rfl ?_
  refine z_iald hX 25 rfl h.1 dX8_lengthOf_13 ?_
  replace h := h.2
  refine z_istore hX dX8_lengthOf_14 (by decide) [(4, .int (M1.1 25 x2.toNatClampNeg)), (3, .int (1 : Int32)), (0, .ref (X.1.2.1 8)), (1, .int x1), (2, .int x2)] rfl ?_
  exact z_sub [2, 4, 1, 0] rfl h
set_option maxRecDepth 100000 in
set_option maxHeartbeats 4000000 in
theorem BX8_lengthOf_16 {X : XT} {Q : Option Value → Mem → Prop} (hX : KX8_lengthOf X) {x2 x3 x4 : Int32} {M : Mem} (h : ((x4 = x2 → Q (some (.int x3)) M) ∧ (¬ x4 = x2 → (((1024 : Int32) ≤ x3 → Q (some (.int x3)) M) ∧ (¬ (1024 : Int32) ≤ x3 → (vp_in x4 1024 ∧ LX8_lengthOf_16 X Q x2 (x3 + (1 : Int32)) (M.1 25 x4.toNatClampNeg) M)))))) : LX8_lengthOf_16 X Q x2 x3 x4 M := by
  show Z SX X 4 5 Q 16 [(0, .ref (X.1.2.1 8)), (2, .int x2), (3, .int x3), (4, .int x4)] [] M
  refine z_iload hX dX8_lengthOf_16 3 rfl ?_
  refine z_iload_n hX dX8_lengthOf_18 rfl 1 rfl ?_
  refine z_icmp_eq hX 44 dX8_lengthOf_19 (by decide) (fun c0 => ?_) (fun c0 => ?_)
  · replace h := h.1 c0
    refine z_iload_n hX dX8_lengthOf_44 rfl 2 rfl ?_
    exact z_iret hX dX8_lengthOf_45 h
  · replace h := h.2 c0
    refine z_iload_n hX dX8_lengthOf_22 rfl 2 rfl ?_
    refine z_sipush (v := 1024) hX dX8_lengthOf_23 (by decide) ?_
    refine z_icmp_ge hX 44 dX8_lengthOf_26 (by decide) (fun c0 => ?_) (fun c0 => ?_)
    · replace h := h.1 c0
      refine z_iload_n hX dX8_lengthOf_44 rfl 2 rfl ?_
      exact z_iret hX dX8_lengthOf_45 h
    · replace h := h.2 c0
      refine z_aload_n hX dX8_lengthOf_29 rfl 0 rfl ?_
      refine gfX8_9 hX dX8_lengthOf_30 ?_
      refine z_iload hX dX8_lengthOf_33 3 rfl ?_
      refine z_iald hX 25 rfl h.1 dX8_lengthOf_35 ?_
      replace h := h.2
      refine z_istore hX dX8_lengthOf_36 (by decide) [(4, .int (M.1 25 x4.toNatClampNeg)), (0, .ref (X.1.2.1 8)), (2, .int x2), (3, .int x3)] rfl ?_
      refine z_iinc (v := x3 + (1 : Int32)) hX dX8_lengthOf_38 3 rfl rfl (by decide) [(3, .int (x3 + (1 : Int32))), (4, .int (M.1 25 x4.toNatClampNeg)), (0, .ref (X.1.2.1 8)), (2, .int x2)] rfl ?_
      refine z_goto hX 16 dX8_lengthOf_41 (by decide) ?_
      exact z_sub [2, 3, 0, 1] rfl h
abbrev LX8_drawnTo_19 (X : XT) (Q : Option Value → Mem → Prop) (x2 : Int32) (x3 : Int32) (x4 : Int32) (x5 : Int32) (M : Mem) : Prop := Z SX X 5 6 Q 19 [(0, .ref (X.1.2.1 8)), (2, .int x2), (3, .int x3), (4, .int x4), (5, .int x5)] [] M
set_option maxRecDepth 100000 in
set_option maxHeartbeats 4000000 in
theorem EX8_drawnTo {E : ET} {Q : Option Value → Mem → Prop} {x1 x2 : Int32} {M : Mem} (h : ∀ X : XT, X.1 = E → KX8_drawnTo X → (∃ q3 : Mem → Prop, CX8_findRings X.1 [.ref (X.1.2.1 8), .int x1] M (z_pV q3) ∧ ∀ (M1 : Mem), q3 M1 → (∃ (r2 : Int32), CX7_dresses X.1 [.ref (X.1.2.1 7)] M1 (z_is (some (.int r2)) M1) ∧ LX8_drawnTo_19 X Q x2 r2 (0 : Int32) (0 : Int32) M1))) : CX8_drawnTo E [.ref (E.2.1 8), .int x1, .int x2] M Q := by
  refine z_entry (by decide +kernel) (Nat.le_of_ble_eq_true rfl) (fun X hE hX => ?_)
  subst hE
  replace h := h X rfl hX
  show Z SX X 5 6 Q 0 [(0, .ref (X.1.2.1 8)), (1, .int x1), (2, .int x2)] [] M
  refine z_aload_n hX dX8_drawnTo_0 rfl 0 rfl ?_
  refine z_iload_n hX dX8_drawnTo_1 rfl 1 rfl ?_
  obtain ⟨q3, c9, h⟩ := h
  refine mcX8_65 hX dX8_drawnTo_2 (by decide) (Nat.le_of_ble_eq_true rfl) c9 (fun M1 hq => ?_)
  replace h := h M1 hq
  refine z_aload_n hX dX8_drawnTo_5 rfl 0 rfl ?_
  refine gfX8_37 hX dX8_drawnTo_6 ?_
  obtain ⟨r2, c9, h⟩ := h
  refine mcX8_51 hX dX8_drawnTo_9 (by decide) (Nat.le_of_ble_eq_true rfl) c9 ?_
  refine z_istore_n hX dX8_drawnTo_12 rfl (by decide) [(3, .int r2), (0, .ref (X.1.2.1 8)), (1, .int x1), (2, .int x2)] rfl ?_
  refine z_iconst (v := 0) hX dX8_drawnTo_13 (by decide) ?_
  refine z_istore hX dX8_drawnTo_14 (by decide) [(4, .int (0 : Int32)), (3, .int r2), (0, .ref (X.1.2.1 8)), (1, .int x1), (2, .int x2)] rfl ?_
  refine z_iconst (v := 0) hX dX8_drawnTo_16 (by decide) ?_
  refine z_istore hX dX8_drawnTo_17 (by decide) [(5, .int (0 : Int32)), (4, .int (0 : Int32)), (3, .int r2), (0, .ref (X.1.2.1 8)), (1, .int x1), (2, .int x2)] rfl ?_
  exact z_sub [3, 5, 2, 1, 0] rfl h
set_option maxRecDepth 100000 in
set_option maxHeartbeats 4000000 in
theorem BX8_drawnTo_19 {X : XT} {Q : Option Value → Mem → Prop} (hX : KX8_drawnTo X) {x2 x3 x4 x5 : Int32} {M : Mem} (h : ((x3 ≤ x5 → Q (some (.int x4)) M) ∧ (¬ x3 ≤ x5 → (vp_in x5 1024 ∧ ((¬ (M.1 26 x5.toNatClampNeg) = x2 → LX8_drawnTo_19 X Q x2 x3 x4 (x5 + (1 : Int32)) M) ∧ ((M.1 26 x5.toNatClampNeg) = x2 → LX8_drawnTo_19 X Q x2 x3 (x4 + (1 : Int32)) (x5 + (1 : Int32)) M)))))) : LX8_drawnTo_19 X Q x2 x3 x4 x5 M := by
  show Z SX X 5 6 Q 19 [(0, .ref (X.1.2.1 8)), (2, .int x2), (3, .int x3), (4, .int x4), (5, .int x5)] [] M
  refine z_iload hX dX8_drawnTo_19 4 rfl ?_
  refine z_iload_n hX dX8_drawnTo_21 rfl 2 rfl ?_
  refine z_icmp_ge hX 45 dX8_drawnTo_22 (by decide) (fun c0 => ?_) (fun c0 => ?_)
  · replace h := h.1 c0
    refine z_iload hX dX8_drawnTo_45 3 rfl ?_
    exact z_iret hX dX8_drawnTo_47 h
  · replace h := h.2 c0
    refine z_aload_n hX dX8_drawnTo_25 rfl 0 rfl ?_
    refine gfX8_15 hX dX8_drawnTo_26 ?_
    refine z_iload hX dX8_drawnTo_29 4 rfl ?_
    refine z_iald hX 26 rfl h.1 dX8_drawnTo_31 ?_
    replace h := h.2
    refine z_iload_n hX dX8_drawnTo_32 rfl 1 rfl ?_
    refine z_icmp_ne hX 39 dX8_drawnTo_33 (by decide) (fun c0 => ?_) (fun c0 => ?_)
    · replace h := h.1 c0
      refine z_iinc (v := x5 + (1 : Int32)) hX dX8_drawnTo_39 4 rfl rfl (by decide) [(5, .int (x5 + (1 : Int32))), (0, .ref (X.1.2.1 8)), (2, .int x2), (3, .int x3), (4, .int x4)] rfl ?_
      refine z_goto hX 19 dX8_drawnTo_42 (by decide) ?_
      exact z_sub [1, 2, 3, 4, 0] rfl h
    · replace h := h.2 c0
      refine z_iinc (v := x4 + (1 : Int32)) hX dX8_drawnTo_36 3 rfl rfl (by decide) [(4, .int (x4 + (1 : Int32))), (0, .ref (X.1.2.1 8)), (2, .int x2), (3, .int x3), (5, .int x5)] rfl ?_
      refine z_iinc (v := x5 + (1 : Int32)) hX dX8_drawnTo_39 4 rfl rfl (by decide) [(5, .int (x5 + (1 : Int32))), (4, .int (x4 + (1 : Int32))), (0, .ref (X.1.2.1 8)), (2, .int x2), (3, .int x3)] rfl ?_
      refine z_goto hX 19 dX8_drawnTo_42 (by decide) ?_
      exact z_sub [2, 3, 4, 1, 0] rfl h
abbrev LX8_farthestFrom_19 (X : XT) (Q : Option Value → Mem → Prop) (x2 : Int32) (x3 : Int32) (x4 : Int32) (x5 : Int32) (M : Mem) : Prop := Z SX X 5 6 Q 19 [(0, .ref (X.1.2.1 8)), (2, .int x2), (3, .int x3), (4, .int x4), (5, .int x5)] [] M
set_option maxRecDepth 100000 in
set_option maxHeartbeats 4000000 in
theorem EX8_farthestFrom {E : ET} {Q : Option Value → Mem → Prop} {x1 x2 : Int32} {M : Mem} (h : ∀ X : XT, X.1 = E → KX8_farthestFrom X → (∃ q3 : Mem → Prop, CX8_findRings X.1 [.ref (X.1.2.1 8), .int x1] M (z_pV q3) ∧ ∀ (M1 : Mem), q3 M1 → (∃ (r2 : Int32), CX7_dresses X.1 [.ref (X.1.2.1 7)] M1 (z_is (some (.int r2)) M1) ∧ LX8_farthestFrom_19 X Q x2 r2 (0 : Int32) (0 : Int32) M1))) : CX8_farthestFrom E [.ref (E.2.1 8), .int x1, .int x2] M Q := by
  refine z_entry (by decide +kernel) (Nat.le_of_ble_eq_true rfl) (fun X hE hX => ?_)
  subst hE
  replace h := h X rfl hX
  show Z SX X 5 6 Q 0 [(0, .ref (X.1.2.1 8)), (1, .int x1), (2, .int x2)] [] M
  refine z_aload_n hX dX8_farthestFrom_0 rfl 0 rfl ?_
  refine z_iload_n hX dX8_farthestFrom_1 rfl 1 rfl ?_
  obtain ⟨q3, c9, h⟩ := h
  refine mcX8_65 hX dX8_farthestFrom_2 (by decide) (Nat.le_of_ble_eq_true rfl) c9 (fun M1 hq => ?_)
  replace h := h M1 hq
  refine z_aload_n hX dX8_farthestFrom_5 rfl 0 rfl ?_
  refine gfX8_37 hX dX8_farthestFrom_6 ?_
  obtain ⟨r2, c9, h⟩ := h
  refine mcX8_51 hX dX8_farthestFrom_9 (by decide) (Nat.le_of_ble_eq_true rfl) c9 ?_
  refine z_istore_n hX dX8_farthestFrom_12 rfl (by decide) [(3, .int r2), (0, .ref (X.1.2.1 8)), (1, .int x1), (2, .int x2)] rfl ?_
  refine z_iconst (v := 0) hX dX8_farthestFrom_13 (by decide) ?_
  refine z_istore hX dX8_farthestFrom_14 (by decide) [(4, .int (0 : Int32)), (3, .int r2), (0, .ref (X.1.2.1 8)), (1, .int x1), (2, .int x2)] rfl ?_
  refine z_iconst (v := 0) hX dX8_farthestFrom_16 (by decide) ?_
  refine z_istore hX dX8_farthestFrom_17 (by decide) [(5, .int (0 : Int32)), (4, .int (0 : Int32)), (3, .int r2), (0, .ref (X.1.2.1 8)), (1, .int x1), (2, .int x2)] rfl ?_
  exact z_sub [3, 5, 2, 1, 0] rfl h
set_option maxRecDepth 100000 in
set_option maxHeartbeats 4000000 in
theorem BX8_farthestFrom_19 {X : XT} {Q : Option Value → Mem → Prop} (hX : KX8_farthestFrom X) {x2 x3 x4 x5 : Int32} {M : Mem} (h : ((x3 ≤ x5 → Q (some (.int x4)) M) ∧ (¬ x3 ≤ x5 → (vp_in x5 1024 ∧ ((¬ (M.1 26 x5.toNatClampNeg) = x2 → LX8_farthestFrom_19 X Q x2 x3 x4 (x5 + (1 : Int32)) M) ∧ ((M.1 26 x5.toNatClampNeg) = x2 → (vp_in x5 1024 ∧ (∀ v1 : Int32, v1 = (if x4 < (M.1 27 x5.toNatClampNeg) then (M.1 27 x5.toNatClampNeg) else x4) → (LX8_farthestFrom_19 X Q x2 x3 v1 (x5 + (1 : Int32)) M))))))))) : LX8_farthestFrom_19 X Q x2 x3 x4 x5 M := by
  show Z SX X 5 6 Q 19 [(0, .ref (X.1.2.1 8)), (2, .int x2), (3, .int x3), (4, .int x4), (5, .int x5)] [] M
  refine z_iload hX dX8_farthestFrom_19 4 rfl ?_
  refine z_iload_n hX dX8_farthestFrom_21 rfl 2 rfl ?_
  refine z_icmp_ge hX 56 dX8_farthestFrom_22 (by decide) (fun c0 => ?_) (fun c0 => ?_)
  · replace h := h.1 c0
    refine z_iload hX dX8_farthestFrom_56 3 rfl ?_
    exact z_iret hX dX8_farthestFrom_58 h
  · replace h := h.2 c0
    refine z_aload_n hX dX8_farthestFrom_25 rfl 0 rfl ?_
    refine gfX8_15 hX dX8_farthestFrom_26 ?_
    refine z_iload hX dX8_farthestFrom_29 4 rfl ?_
    refine z_iald hX 26 rfl h.1 dX8_farthestFrom_31 ?_
    replace h := h.2
    refine z_iload_n hX dX8_farthestFrom_32 rfl 1 rfl ?_
    refine z_icmp_ne hX 50 dX8_farthestFrom_33 (by decide) (fun c0 => ?_) (fun c0 => ?_)
    · replace h := h.1 c0
      refine z_iinc (v := x5 + (1 : Int32)) hX dX8_farthestFrom_50 4 rfl rfl (by decide) [(5, .int (x5 + (1 : Int32))), (0, .ref (X.1.2.1 8)), (2, .int x2), (3, .int x3), (4, .int x4)] rfl ?_
      refine z_goto hX 19 dX8_farthestFrom_53 (by decide) ?_
      exact z_sub [1, 2, 3, 4, 0] rfl h
    · replace h := h.2 c0
      refine z_iload hX dX8_farthestFrom_36 3 rfl ?_
      refine z_aload_n hX dX8_farthestFrom_38 rfl 0 rfl ?_
      refine gfX8_18 hX dX8_farthestFrom_39 ?_
      refine z_iload hX dX8_farthestFrom_42 4 rfl ?_
      refine z_iald hX 27 rfl h.1 dX8_farthestFrom_44 ?_
      replace h := h.2
      refine mcX8_69 hX dX8_farthestFrom_45 (by decide) (Nat.le_of_ble_eq_true rfl) ?_
      refine z_topi (fun v1 ev1 => ?_)
      replace h := h v1 ev1
      refine z_istore hX dX8_farthestFrom_48 (by decide) [(4, .int v1), (0, .ref (X.1.2.1 8)), (2, .int x2), (3, .int x3), (5, .int x5)] rfl ?_
      refine z_iinc (v := x5 + (1 : Int32)) hX dX8_farthestFrom_50 4 rfl rfl (by decide) [(5, .int (x5 + (1 : Int32))), (4, .int v1), (0, .ref (X.1.2.1 8)), (2, .int x2), (3, .int x3)] rfl ?_
      refine z_goto hX 19 dX8_farthestFrom_53 (by decide) ?_
      exact z_sub [2, 3, 4, 1, 0] rfl h
abbrev LX8_greatestLength_18 (X : XT) (Q : Option Value → Mem → Prop) (x1 : Int32) (x2 : Int32) (x3 : Int32) (x4 : Int32) (M : Mem) : Prop := Z SX X 5 5 Q 18 [(0, .ref (X.1.2.1 8)), (1, .int x1), (2, .int x2), (3, .int x3), (4, .int x4)] [] M
set_option maxRecDepth 100000 in
set_option maxHeartbeats 4000000 in
theorem EX8_greatestLength {E : ET} {Q : Option Value → Mem → Prop} {x1 : Int32} {M : Mem} (h : ∀ X : XT, X.1 = E → KX8_greatestLength X → (∃ q3 : Mem → Prop, CX8_findRings X.1 [.ref (X.1.2.1 8), .int x1] M (z_pV q3) ∧ ∀ (M1 : Mem), q3 M1 → (∃ (r2 : Int32), CX7_dresses X.1 [.ref (X.1.2.1 7)] M1 (z_is (some (.int r2)) M1) ∧ LX8_greatestLength_18 X Q x1 r2 (0 : Int32) (0 : Int32) M1))) : CX8_greatestLength E [.ref (E.2.1 8), .int x1] M Q := by
  refine z_entry (by decide +kernel) (Nat.le_of_ble_eq_true rfl) (fun X hE hX => ?_)
  subst hE
  replace h := h X rfl hX
  show Z SX X 5 5 Q 0 [(0, .ref (X.1.2.1 8)), (1, .int x1)] [] M
  refine z_aload_n hX dX8_greatestLength_0 rfl 0 rfl ?_
  refine z_iload_n hX dX8_greatestLength_1 rfl 1 rfl ?_
  obtain ⟨q3, c9, h⟩ := h
  refine mcX8_65 hX dX8_greatestLength_2 (by decide) (Nat.le_of_ble_eq_true rfl) c9 (fun M1 hq => ?_)
  replace h := h M1 hq
  refine z_aload_n hX dX8_greatestLength_5 rfl 0 rfl ?_
  refine gfX8_37 hX dX8_greatestLength_6 ?_
  obtain ⟨r2, c9, h⟩ := h
  refine mcX8_51 hX dX8_greatestLength_9 (by decide) (Nat.le_of_ble_eq_true rfl) c9 ?_
  refine z_istore_n hX dX8_greatestLength_12 rfl (by decide) [(2, .int r2), (0, .ref (X.1.2.1 8)), (1, .int x1)] rfl ?_
  refine z_iconst (v := 0) hX dX8_greatestLength_13 (by decide) ?_
  refine z_istore_n hX dX8_greatestLength_14 rfl (by decide) [(3, .int (0 : Int32)), (2, .int r2), (0, .ref (X.1.2.1 8)), (1, .int x1)] rfl ?_
  refine z_iconst (v := 0) hX dX8_greatestLength_15 (by decide) ?_
  refine z_istore hX dX8_greatestLength_16 (by decide) [(4, .int (0 : Int32)), (3, .int (0 : Int32)), (2, .int r2), (0, .ref (X.1.2.1 8)), (1, .int x1)] rfl ?_
  exact z_sub [3, 4, 2, 1, 0] rfl h
set_option maxRecDepth 100000 in
set_option maxHeartbeats 4000000 in
theorem BX8_greatestLength_18 {X : XT} {Q : Option Value → Mem → Prop} (hX : KX8_greatestLength X) {x1 x2 x3 x4 : Int32} {M : Mem} (h : ((x2 ≤ x4 → Q (some (.int x3)) M) ∧ (¬ x2 ≤ x4 → (vp_in x4 1024 ∧ ((¬ (M.1 26 x4.toNatClampNeg) = x4 → LX8_greatestLength_18 X Q x1 x2 x3 (x4 + (1 : Int32)) M) ∧ ((M.1 26 x4.toNatClampNeg) = x4 → (∃ q3 : Int32 → Mem → Prop, CX8_lengthOf X.1 [.ref (X.1.2.1 8), .int x1, .int x4] M (z_pI q3) ∧ ∀ (r2 : Int32) (M1 : Mem), q3 r2 M1 → LX8_greatestLength_18 X Q x1 x2 (if x3 < r2 then r2 else x3) (x4 + (1 : Int32)) M1))))))) : LX8_greatestLength_18 X Q x1 x2 x3 x4 M := by
  show Z SX X 5 5 Q 18 [(0, .ref (X.1.2.1 8)), (1, .int x1), (2, .int x2), (3, .int x3), (4, .int x4)] [] M
  refine z_iload hX dX8_greatestLength_18 4 rfl ?_
  refine z_iload_n hX dX8_greatestLength_20 rfl 2 rfl ?_
  refine z_icmp_ge hX 54 dX8_greatestLength_21 (by decide) (fun c0 => ?_) (fun c0 => ?_)
  · replace h := h.1 c0
    refine z_iload_n hX dX8_greatestLength_54 rfl 3 rfl ?_
    exact z_iret hX dX8_greatestLength_55 h
  · replace h := h.2 c0
    refine z_aload_n hX dX8_greatestLength_24 rfl 0 rfl ?_
    refine gfX8_15 hX dX8_greatestLength_25 ?_
    refine z_iload hX dX8_greatestLength_28 4 rfl ?_
    refine z_iald hX 26 rfl h.1 dX8_greatestLength_30 ?_
    replace h := h.2
    refine z_iload hX dX8_greatestLength_31 4 rfl ?_
    refine z_icmp_ne hX 48 dX8_greatestLength_33 (by decide) (fun c0 => ?_) (fun c0 => ?_)
    · replace h := h.1 c0
      refine z_iinc (v := x4 + (1 : Int32)) hX dX8_greatestLength_48 4 rfl rfl (by decide) [(4, .int (x4 + (1 : Int32))), (0, .ref (X.1.2.1 8)), (1, .int x1), (2, .int x2), (3, .int x3)] rfl ?_
      refine z_goto hX 18 dX8_greatestLength_51 (by decide) ?_
      exact z_sub [1, 2, 3, 4, 0] rfl h
    · replace h := h.2 c0
      refine z_iload_n hX dX8_greatestLength_36 rfl 3 rfl ?_
      refine z_aload_n hX dX8_greatestLength_37 rfl 0 rfl ?_
      refine z_iload_n hX dX8_greatestLength_38 rfl 1 rfl ?_
      refine z_iload hX dX8_greatestLength_39 4 rfl ?_
      obtain ⟨q3, c9, h⟩ := h
      refine mcX8_75 hX dX8_greatestLength_41 (by decide) (Nat.le_of_ble_eq_true rfl) c9 (fun r2 M1 hq => ?_)
      replace h := h r2 M1 hq
      refine mcX8_69 hX dX8_greatestLength_44 (by decide) (Nat.le_of_ble_eq_true rfl) ?_
      refine z_istore_n hX dX8_greatestLength_47 rfl (by decide) [(3, .int (if x3 < r2 then r2 else x3)), (0, .ref (X.1.2.1 8)), (1, .int x1), (2, .int x2), (4, .int x4)] rfl ?_
      refine z_iinc (v := x4 + (1 : Int32)) hX dX8_greatestLength_48 4 rfl rfl (by decide) [(4, .int (x4 + (1 : Int32))), (3, .int (if x3 < r2 then r2 else x3)), (0, .ref (X.1.2.1 8)), (1, .int x1), (2, .int x2)] rfl ?_
      refine z_goto hX 18 dX8_greatestLength_51 (by decide) ?_
      exact z_sub [2, 3, 4, 1, 0] rfl h
abbrev LX8_findRings_46 (X : XT) (Q : Option Value → Mem → Prop) (x1 : Int32) (x2 : Int32) (x3 : Int32) (x4 : Int32) (M : Mem) : Prop := Z SX X 4 6 Q 46 [(0, .ref (X.1.2.1 8)), (1, .int x1), (2, .int x2), (3, .int x3), (4, .int x4)] [] M
abbrev LX8_findRings_80 (X : XT) (Q : Option Value → Mem → Prop) (x1 : Int32) (x4 : Int32) (M : Mem) : Prop := Z SX X 4 6 Q 80 [(0, .ref (X.1.2.1 8)), (1, .int x1), (4, .int x4)] [] M
set_option maxRecDepth 100000 in
set_option maxHeartbeats 4000000 in
theorem EX8_findRings {E : ET} {Q : Option Value → Mem → Prop} {x1 : Int32} {M : Mem} (h : ∀ X : XT, X.1 = E → KX8_findRings X → (∃ q11 : Mem → Prop, CX8_stepsBy X.1 [.ref (X.1.2.1 8), .int x1] M (z_pR (X.1.2.1 25) q11) ∧ ∀ (M1 : Mem), q11 M1 → ((¬ (M1.1 8 7) = x1 → (∃ (r2 : Int32), CX7_dresses X.1 [.ref (X.1.2.1 7)] M1 (z_is (some (.int r2)) M1) ∧ (∃ q5 : Int32 → Mem → Prop, CX8_takeOff X.1 [.ref (X.1.2.1 8), .int r2] M1 (z_pI q5) ∧ ∀ (r4 : Int32) (M3 : Mem), q5 r4 M3 → LX8_findRings_46 X Q x1 r2 r4 (0 : Int32) M3))) ∧ ((M1.1 8 7) = x1 → (∃ (r6 : Int32), CX7_version X.1 [.ref (X.1.2.1 7)] M1 (z_is (some (.int r6)) M1) ∧ ((¬ (M1.1 8 8) = r6 → (∃ (r7 : Int32), CX7_dresses X.1 [.ref (X.1.2.1 7)] M1 (z_is (some (.int r7)) M1) ∧ (∃ q10 : Int32 → Mem → Prop, CX8_takeOff X.1 [.ref (X.1.2.1 8), .int r7] M1 (z_pI q10) ∧ ∀ (r9 : Int32) (M8 : Mem), q10 r9 M8 → LX8_findRings_46 X Q x1 r7 r9 (0 : Int32) M8))) ∧ ((M1.1 8 8) = r6 → Q none M1))))))) : CX8_findRings E [.ref (E.2.1 8), .int x1] M Q := by
  refine z_entry (by decide +kernel) (Nat.le_of_ble_eq_true rfl) (fun X hE hX => ?_)
  subst hE
  replace h := h X rfl hX
  show Z SX X 4 6 Q 0 [(0, .ref (X.1.2.1 8)), (1, .int x1)] [] M
  refine z_aload_n hX dX8_findRings_0 rfl 0 rfl ?_
  refine z_iload_n hX dX8_findRings_1 rfl 1 rfl ?_
  obtain ⟨q11, c9, h⟩ := h
  refine mcX8_61 hX dX8_findRings_2 (by decide) (Nat.le_of_ble_eq_true rfl) c9 (fun M1 hq => ?_)
  replace h := h M1 hq
  refine z_pop hX dX8_findRings_5 rfl ?_
  refine z_aload_n hX dX8_findRings_6 rfl 0 rfl ?_
  refine gfX8_31 hX dX8_findRings_7 ?_
  refine z_iload_n hX dX8_findRings_10 rfl 1 rfl ?_
  refine z_icmp_ne hX 29 dX8_findRings_11 (by decide) (fun c0 => ?_) (fun c0 => ?_)
  · replace h := h.1 c0
    refine z_aload_n hX dX8_findRings_29 rfl 0 rfl ?_
    refine gfX8_37 hX dX8_findRings_30 ?_
    obtain ⟨r2, c9, h⟩ := h
    refine mcX8_51 hX dX8_findRings_33 (by decide) (Nat.le_of_ble_eq_true rfl) c9 ?_
    refine z_istore_n hX dX8_findRings_36 rfl (by decide) [(2, .int r2), (0, .ref (X.1.2.1 8)), (1, .int x1)] rfl ?_
    refine z_aload_n hX dX8_findRings_37 rfl 1 rfl ?_
    refine z_iload_n hX dX8_findRings_38 rfl 0 rfl ?_
    obtain ⟨q5, c9, h⟩ := h
    refine mcX8_78 hX dX8_findRings_39 (by decide) (Nat.le_of_ble_eq_true rfl) c9 (fun r4 M3 hq => ?_)
    replace h := h r4 M3 hq
    refine z_istore_n hX dX8_findRings_42 rfl (by decide) [(3, .int r4), (2, .int r2), (0, .ref (X.1.2.1 8)), (1, .int x1)] rfl ?_
    refine z_iconst (v := 0) hX dX8_findRings_43 (by decide) ?_
    refine z_istore hX dX8_findRings_44 (by decide) [(4, .int (0 : Int32)), (3, .int r4), (2, .int r2), (0, .ref (X.1.2.1 8)), (1, .int x1)] rfl ?_
    exact z_sub [3, 4, 2, 1, 0] rfl h
  · replace h := h.2 c0
    refine z_aload_n hX dX8_findRings_14 rfl 0 rfl ?_
    refine gfX8_34 hX dX8_findRings_15 ?_
    refine z_aload_n hX dX8_findRings_18 rfl 0 rfl ?_
    refine gfX8_37 hX dX8_findRings_19 ?_
    obtain ⟨r6, c9, h⟩ := h
    refine mcX8_41 hX dX8_findRings_22 (by decide) (Nat.le_of_ble_eq_true rfl) c9 ?_
    refine z_icmp_ne hX 29 dX8_findRings_25 (by decide) (fun c0 => ?_) (fun c0 => ?_)
    · replace h := h.1 c0
      refine z_aload_n hX dX8_findRings_29 rfl 0 rfl ?_
      refine gfX8_37 hX dX8_findRings_30 ?_
      obtain ⟨r7, c9, h⟩ := h
      refine mcX8_51 hX dX8_findRings_33 (by decide) (Nat.le_of_ble_eq_true rfl) c9 ?_
      refine z_istore_n hX dX8_findRings_36 rfl (by decide) [(2, .int r7), (0, .ref (X.1.2.1 8)), (1, .int x1)] rfl ?_
      refine z_aload_n hX dX8_findRings_37 rfl 1 rfl ?_
      refine z_iload_n hX dX8_findRings_38 rfl 0 rfl ?_
      obtain ⟨q10, c9, h⟩ := h
      refine mcX8_78 hX dX8_findRings_39 (by decide) (Nat.le_of_ble_eq_true rfl) c9 (fun r9 M8 hq => ?_)
      replace h := h r9 M8 hq
      refine z_istore_n hX dX8_findRings_42 rfl (by decide) [(3, .int r9), (2, .int r7), (0, .ref (X.1.2.1 8)), (1, .int x1)] rfl ?_
      refine z_iconst (v := 0) hX dX8_findRings_43 (by decide) ?_
      refine z_istore hX dX8_findRings_44 (by decide) [(4, .int (0 : Int32)), (3, .int r9), (2, .int r7), (0, .ref (X.1.2.1 8)), (1, .int x1)] rfl ?_
      exact z_sub [3, 4, 2, 1, 0] rfl h
    · replace h := h.2 c0
      exact z_vret hX dX8_findRings_28 h
set_option maxRecDepth 100000 in
set_option maxHeartbeats 4000000 in
theorem BX8_findRings_46 {X : XT} {Q : Option Value → Mem → Prop} (hX : KX8_findRings X) {x1 x2 x3 x4 : Int32} {M : Mem} (h : ((x2 ≤ x4 → LX8_findRings_80 X Q x1 (x3 - (1 : Int32)) M) ∧ (¬ x2 ≤ x4 → (vp_in x4 1024 ∧ (((M.1 27 x4.toNatClampNeg) ≤ 0 → LX8_findRings_46 X Q x1 x2 x3 (x4 + (1 : Int32)) M) ∧ (¬ (M.1 27 x4.toNatClampNeg) ≤ 0 → (∃ q2 : Mem → Prop, CX8_goRound X.1 [.ref (X.1.2.1 8), .int x4, .int x2] M (z_pV q2) ∧ ∀ (M1 : Mem), q2 M1 → LX8_findRings_46 X Q x1 x2 x3 (x4 + (1 : Int32)) M1))))))) : LX8_findRings_46 X Q x1 x2 x3 x4 M := by
  show Z SX X 4 6 Q 46 [(0, .ref (X.1.2.1 8)), (1, .int x1), (2, .int x2), (3, .int x3), (4, .int x4)] [] M
  refine z_iload hX dX8_findRings_46 4 rfl ?_
  refine z_iload_n hX dX8_findRings_48 rfl 2 rfl ?_
  refine z_icmp_ge hX 75 dX8_findRings_49 (by decide) (fun c0 => ?_) (fun c0 => ?_)
  · replace h := h.1 c0
    refine z_iload_n hX dX8_findRings_75 rfl 3 rfl ?_
    refine z_iconst (v := 1) hX dX8_findRings_76 (by decide) ?_
    refine z_isub hX dX8_findRings_77 ?_
    refine z_istore hX dX8_findRings_78 (by decide) [(4, .int (x3 - (1 : Int32))), (0, .ref (X.1.2.1 8)), (1, .int x1), (2, .int x2), (3, .int x3)] rfl ?_
    exact z_sub [1, 2, 0] rfl h
  · replace h := h.2 c0
    refine z_aload_n hX dX8_findRings_52 rfl 0 rfl ?_
    refine gfX8_18 hX dX8_findRings_53 ?_
    refine z_iload hX dX8_findRings_56 4 rfl ?_
    refine z_iald hX 27 rfl h.1 dX8_findRings_58 ?_
    replace h := h.2
    refine z_if_le hX 69 dX8_findRings_59 (by decide) (fun c0 => ?_) (fun c0 => ?_)
    · replace h := h.1 c0
      refine z_iinc (v := x4 + (1 : Int32)) hX dX8_findRings_69 4 rfl rfl (by decide) [(4, .int (x4 + (1 : Int32))), (0, .ref (X.1.2.1 8)), (1, .int x1), (2, .int x2), (3, .int x3)] rfl ?_
      refine z_goto hX 46 dX8_findRings_72 (by decide) ?_
      exact z_sub [1, 2, 3, 4, 0] rfl h
    · replace h := h.2 c0
      refine z_aload_n hX dX8_findRings_62 rfl 0 rfl ?_
      refine z_iload hX dX8_findRings_63 4 rfl ?_
      refine z_iload_n hX dX8_findRings_65 rfl 2 rfl ?_
      obtain ⟨q2, c9, h⟩ := h
      refine mcX8_82 hX dX8_findRings_66 (by decide) (Nat.le_of_ble_eq_true rfl) c9 (fun M1 hq => ?_)
      replace h := h M1 hq
      refine z_iinc (v := x4 + (1 : Int32)) hX dX8_findRings_69 4 rfl rfl (by decide) [(4, .int (x4 + (1 : Int32))), (0, .ref (X.1.2.1 8)), (1, .int x1), (2, .int x2), (3, .int x3)] rfl ?_
      refine z_goto hX 46 dX8_findRings_72 (by decide) ?_
      exact z_sub [1, 2, 3, 4, 0] rfl h
set_option maxRecDepth 100000 in
set_option maxHeartbeats 4000000 in
theorem BX8_findRings_80 {X : XT} {Q : Option Value → Mem → Prop} (hX : KX8_findRings X) {x1 x4 : Int32} {M : Mem} (h : ((x4 < 0 → (∀ M1 : Mem, M1 = z_st M 8 7 x1 → (∃ (r2 : Int32), CX7_version X.1 [.ref (X.1.2.1 7)] M1 (z_is (some (.int r2)) M1) ∧ (∀ M3 : Mem, M3 = z_st M1 8 8 r2 → Q none M3)))) ∧ (¬ x4 < 0 → (vp_in x4 1024 ∧ (vp_in (M.1 28 x4.toNatClampNeg) 1024 ∧ (vp_in (M.1 25 (M.1 28 x4.toNatClampNeg).toNatClampNeg) 1024 ∧ (vp_in (M.1 28 x4.toNatClampNeg) 1024 ∧ (∀ M4 : Mem, M4 = z_st M 26 (M.1 28 x4.toNatClampNeg).toNatClampNeg (M.1 26 (M.1 25 (M.1 28 x4.toNatClampNeg).toNatClampNeg).toNatClampNeg) → (vp_in (M.1 28 x4.toNatClampNeg) 1024 ∧ (vp_in (M4.1 25 (M.1 28 x4.toNatClampNeg).toNatClampNeg) 1024 ∧ (vp_in (M.1 28 x4.toNatClampNeg) 1024 ∧ (∀ M5 : Mem, M5 = z_st M4 27 (M.1 28 x4.toNatClampNeg).toNatClampNeg ((M4.1 27 (M4.1 25 (M.1 28 x4.toNatClampNeg).toNatClampNeg).toNatClampNeg) + (1 : Int32)) → LX8_findRings_80 X Q x1 (x4 + (-1 : Int32)) M5)))))))))))) : LX8_findRings_80 X Q x1 x4 M := by
  show Z SX X 4 6 Q 80 [(0, .ref (X.1.2.1 8)), (1, .int x1), (4, .int x4)] [] M
  refine z_iload hX dX8_findRings_80 2 rfl ?_
  refine z_if_lt hX 140 dX8_findRings_82 (by decide) (fun c0 => ?_) (fun c0 => ?_)
  · replace h := h.1 c0
    refine z_aload_n hX dX8_findRings_140 rfl 0 rfl ?_
    refine z_iload_n hX dX8_findRings_141 rfl 1 rfl ?_
    refine pfX8_31 hX dX8_findRings_142 (fun M1 eM1 => ?_)
    replace h := h M1 eM1
    refine z_aload_n hX dX8_findRings_145 rfl 0 rfl ?_
    refine z_aload_n hX dX8_findRings_146 rfl 0 rfl ?_
    refine gfX8_37 hX dX8_findRings_147 ?_
    obtain ⟨r2, c9, h⟩ := h
    refine mcX8_41 hX dX8_findRings_150 (by decide) (Nat.le_of_ble_eq_true rfl) c9 ?_
    refine pfX8_34 hX dX8_findRings_153 (fun M3 eM3 => ?_)
    replace h := h M3 eM3
    exact z_vret hX dX8_findRings_156 h
  · replace h := h.2 c0
    refine z_aload_n hX dX8_findRings_85 rfl 0 rfl ?_
    refine gfX8_21 hX dX8_findRings_86 ?_
    refine z_iload hX dX8_findRings_89 2 rfl ?_
    refine z_iald hX 28 rfl h.1 dX8_findRings_91 ?_
    replace h := h.2
    refine z_istore hX dX8_findRings_92 (by decide) [(5, .int (M.1 28 x4.toNatClampNeg)), (0, .ref (X.1.2.1 8)), (1, .int x1), (4, .int x4)] rfl ?_
    refine z_aload_n hX dX8_findRings_94 rfl 1 rfl ?_
    refine gfX8_15 hX dX8_findRings_95 ?_
    refine z_iload hX dX8_findRings_98 0 rfl ?_
    refine z_aload_n hX dX8_findRings_100 rfl 1 rfl ?_
    refine gfX8_15 hX dX8_findRings_101 ?_
    refine z_aload_n hX dX8_findRings_104 rfl 1 rfl ?_
    refine gfX8_9 hX dX8_findRings_105 ?_
    refine z_iload hX dX8_findRings_108 0 rfl ?_
    refine z_iald hX 25 rfl h.1 dX8_findRings_110 ?_
    replace h := h.2
    refine z_iald hX 26 rfl h.1 dX8_findRings_111 ?_
    replace h := h.2
    refine z_iastM hX 26 rfl h.1 dX8_findRings_112 (fun M4 eM4 => ?_)
    replace h := h.2 M4 eM4
    refine z_aload_n hX dX8_findRings_113 rfl 1 rfl ?_
    refine gfX8_18 hX dX8_findRings_114 ?_
    refine z_iload hX dX8_findRings_117 0 rfl ?_
    refine z_aload_n hX dX8_findRings_119 rfl 1 rfl ?_
    refine gfX8_18 hX dX8_findRings_120 ?_
    refine z_aload_n hX dX8_findRings_123 rfl 1 rfl ?_
    refine gfX8_9 hX dX8_findRings_124 ?_
    refine z_iload hX dX8_findRings_127 0 rfl ?_
    refine z_iald hX 25 rfl h.1 dX8_findRings_129 ?_
    replace h := h.2
    refine z_iald hX 27 rfl h.1 dX8_findRings_130 ?_
    replace h := h.2
    refine z_iconst (v := 1) hX dX8_findRings_131 (by decide) ?_
    refine z_iadd hX dX8_findRings_132 ?_
    refine z_iastM hX 27 rfl h.1 dX8_findRings_133 (fun M5 eM5 => ?_)
    replace h := h.2 M5 eM5
    refine z_iinc (v := x4 + (-1 : Int32)) hX dX8_findRings_134 3 rfl rfl (by decide) [(4, .int (x4 + (-1 : Int32))), (5, .int (M.1 28 x4.toNatClampNeg)), (0, .ref (X.1.2.1 8)), (1, .int x1)] rfl ?_
    refine z_goto hX 80 dX8_findRings_137 (by decide) ?_
    exact z_sub [2, 3, 0] rfl h
abbrev LX8_takeOff_2 (X : XT) (Q : Option Value → Mem → Prop) (x1 : Int32) (x2 : Int32) (M : Mem) : Prop := Z SX X 0 5 Q 2 [(0, .ref (X.1.2.1 8)), (1, .int x1), (2, .int x2)] [] M
abbrev LX8_takeOff_22 (X : XT) (Q : Option Value → Mem → Prop) (x1 : Int32) (x2 : Int32) (M : Mem) : Prop := Z SX X 0 5 Q 22 [(0, .ref (X.1.2.1 8)), (1, .int x1), (2, .int x2)] [] M
abbrev LX8_takeOff_52 (X : XT) (Q : Option Value → Mem → Prop) (x1 : Int32) (x2 : Int32) (x3 : Int32) (M : Mem) : Prop := Z SX X 0 5 Q 52 [(0, .ref (X.1.2.1 8)), (1, .int x1), (2, .int x2), (3, .int x3)] [] M
abbrev LX8_takeOff_84 (X : XT) (Q : Option Value → Mem → Prop) (x1 : Int32) (x2 : Int32) (x3 : Int32) (M : Mem) : Prop := Z SX X 0 5 Q 84 [(0, .ref (X.1.2.1 8)), (1, .int x1), (2, .int x2), (3, .int x3)] [] M
set_option maxRecDepth 100000 in
set_option maxHeartbeats 4000000 in
theorem EX8_takeOff {E : ET} {Q : Option Value → Mem → Prop} {x1 : Int32} {M : Mem} (h : ∀ X : XT, X.1 = E → KX8_takeOff X → LX8_takeOff_2 X Q x1 (0 : Int32) M) : CX8_takeOff E [.ref (E.2.1 8), .int x1] M Q := by
  refine z_entry (by decide +kernel) (Nat.le_of_ble_eq_true rfl) (fun X hE hX => ?_)
  subst hE
  replace h := h X rfl hX
  show Z SX X 0 5 Q 0 [(0, .ref (X.1.2.1 8)), (1, .int x1)] [] M
  refine z_iconst (v := 0) hX dX8_takeOff_0 (by decide) ?_
  refine z_istore_n hX dX8_takeOff_1 rfl (by decide) [(2, .int (0 : Int32)), (0, .ref (X.1.2.1 8)), (1, .int x1)] rfl ?_
  exact z_sub [1, 2, 0] rfl h
set_option maxRecDepth 100000 in
set_option maxHeartbeats 4000000 in
theorem BX8_takeOff_2 {X : XT} {Q : Option Value → Mem → Prop} (hX : KX8_takeOff X) {x1 x2 : Int32} {M : Mem} (h : ((x1 ≤ x2 → LX8_takeOff_22 X Q x1 (0 : Int32) M) ∧ (¬ x1 ≤ x2 → (vp_in x2 1024 ∧ (∀ M1 : Mem, M1 = z_st M 27 x2.toNatClampNeg (0 : Int32) → LX8_takeOff_2 X Q x1 (x2 + (1 : Int32)) M1))))) : LX8_takeOff_2 X Q x1 x2 M := by
  show Z SX X 0 5 Q 2 [(0, .ref (X.1.2.1 8)), (1, .int x1), (2, .int x2)] [] M
  refine z_iload_n hX dX8_takeOff_2 rfl 2 rfl ?_
  refine z_iload_n hX dX8_takeOff_3 rfl 1 rfl ?_
  refine z_icmp_ge hX 20 dX8_takeOff_4 (by decide) (fun c0 => ?_) (fun c0 => ?_)
  · replace h := h.1 c0
    refine z_iconst (v := 0) hX dX8_takeOff_20 (by decide) ?_
    refine z_istore_n hX dX8_takeOff_21 rfl (by decide) [(2, .int (0 : Int32)), (0, .ref (X.1.2.1 8)), (1, .int x1)] rfl ?_
    exact z_sub [1, 2, 0] rfl h
  · replace h := h.2 c0
    refine z_aload_n hX dX8_takeOff_7 rfl 0 rfl ?_
    refine gfX8_18 hX dX8_takeOff_8 ?_
    refine z_iload_n hX dX8_takeOff_11 rfl 2 rfl ?_
    refine z_iconst (v := 0) hX dX8_takeOff_12 (by decide) ?_
    refine z_iastM hX 27 rfl h.1 dX8_takeOff_13 (fun M1 eM1 => ?_)
    replace h := h.2 M1 eM1
    refine z_iinc (v := x2 + (1 : Int32)) hX dX8_takeOff_14 2 rfl rfl (by decide) [(2, .int (x2 + (1 : Int32))), (0, .ref (X.1.2.1 8)), (1, .int x1)] rfl ?_
    refine z_goto hX 2 dX8_takeOff_17 (by decide) ?_
    exact z_sub [1, 2, 0] rfl h
set_option maxRecDepth 100000 in
set_option maxHeartbeats 4000000 in
theorem BX8_takeOff_22 {X : XT} {Q : Option Value → Mem → Prop} (hX : KX8_takeOff X) {x1 x2 : Int32} {M : Mem} (h : ((x1 ≤ x2 → LX8_takeOff_52 X Q x1 (0 : Int32) (0 : Int32) M) ∧ (¬ x1 ≤ x2 → (vp_in x2 1024 ∧ (vp_in (M.1 25 x2.toNatClampNeg) 1024 ∧ (vp_in (M.1 25 x2.toNatClampNeg) 1024 ∧ (∀ M1 : Mem, M1 = z_st M 27 (M.1 25 x2.toNatClampNeg).toNatClampNeg ((M.1 27 (M.1 25 x2.toNatClampNeg).toNatClampNeg) + (1 : Int32)) → LX8_takeOff_22 X Q x1 (x2 + (1 : Int32)) M1))))))) : LX8_takeOff_22 X Q x1 x2 M := by
  show Z SX X 0 5 Q 22 [(0, .ref (X.1.2.1 8)), (1, .int x1), (2, .int x2)] [] M
  refine z_iload_n hX dX8_takeOff_22 rfl 2 rfl ?_
  refine z_iload_n hX dX8_takeOff_23 rfl 1 rfl ?_
  refine z_icmp_ge hX 48 dX8_takeOff_24 (by decide) (fun c0 => ?_) (fun c0 => ?_)
  · replace h := h.1 c0
    refine z_iconst (v := 0) hX dX8_takeOff_48 (by decide) ?_
    refine z_istore_n hX dX8_takeOff_49 rfl (by decide) [(2, .int (0 : Int32)), (0, .ref (X.1.2.1 8)), (1, .int x1)] rfl ?_
    refine z_iconst (v := 0) hX dX8_takeOff_50 (by decide) ?_
    refine z_istore_n hX dX8_takeOff_51 rfl (by decide) [(3, .int (0 : Int32)), (2, .int (0 : Int32)), (0, .ref (X.1.2.1 8)), (1, .int x1)] rfl ?_
    exact z_sub [2, 3, 1, 0] rfl h
  · replace h := h.2 c0
    refine z_aload_n hX dX8_takeOff_27 rfl 0 rfl ?_
    refine gfX8_18 hX dX8_takeOff_28 ?_
    refine z_aload_n hX dX8_takeOff_31 rfl 0 rfl ?_
    refine gfX8_9 hX dX8_takeOff_32 ?_
    refine z_iload_n hX dX8_takeOff_35 rfl 2 rfl ?_
    refine z_iald hX 25 rfl h.1 dX8_takeOff_36 ?_
    replace h := h.2
    refine z_dup2 hX dX8_takeOff_37 rfl rfl ?_
    refine z_iald hX 27 rfl h.1 dX8_takeOff_38 ?_
    replace h := h.2
    refine z_iconst (v := 1) hX dX8_takeOff_39 (by decide) ?_
    refine z_iadd hX dX8_takeOff_40 ?_
    refine z_iastM hX 27 rfl h.1 dX8_takeOff_41 (fun M1 eM1 => ?_)
    replace h := h.2 M1 eM1
    refine z_iinc (v := x2 + (1 : Int32)) hX dX8_takeOff_42 2 rfl rfl (by decide) [(2, .int (x2 + (1 : Int32))), (0, .ref (X.1.2.1 8)), (1, .int x1)] rfl ?_
    refine z_goto hX 22 dX8_takeOff_45 (by decide) ?_
    exact z_sub [1, 2, 0] rfl h
set_option maxRecDepth 100000 in
set_option maxHeartbeats 4000000 in
theorem BX8_takeOff_52 {X : XT} {Q : Option Value → Mem → Prop} (hX : KX8_takeOff X) {x1 x2 x3 : Int32} {M : Mem} (h : ((x1 ≤ x3 → LX8_takeOff_84 X Q x1 x2 (0 : Int32) M) ∧ (¬ x1 ≤ x3 → (vp_in x3 1024 ∧ ((¬ (M.1 27 x3.toNatClampNeg) = 0 → LX8_takeOff_52 X Q x1 x2 (x3 + (1 : Int32)) M) ∧ ((M.1 27 x3.toNatClampNeg) = 0 → (vp_in x2 1024 ∧ (∀ M1 : Mem, M1 = z_st M 28 x2.toNatClampNeg x3 → LX8_takeOff_52 X Q x1 (x2 + (1 : Int32)) (x3 + (1 : Int32)) M1)))))))) : LX8_takeOff_52 X Q x1 x2 x3 M := by
  show Z SX X 0 5 Q 52 [(0, .ref (X.1.2.1 8)), (1, .int x1), (2, .int x2), (3, .int x3)] [] M
  refine z_iload_n hX dX8_takeOff_52 rfl 3 rfl ?_
  refine z_iload_n hX dX8_takeOff_53 rfl 1 rfl ?_
  refine z_icmp_ge hX 82 dX8_takeOff_54 (by decide) (fun c0 => ?_) (fun c0 => ?_)
  · replace h := h.1 c0
    refine z_iconst (v := 0) hX dX8_takeOff_82 (by decide) ?_
    refine z_istore_n hX dX8_takeOff_83 rfl (by decide) [(3, .int (0 : Int32)), (0, .ref (X.1.2.1 8)), (1, .int x1), (2, .int x2)] rfl ?_
    exact z_sub [1, 2, 3, 0] rfl h
  · replace h := h.2 c0
    refine z_aload_n hX dX8_takeOff_57 rfl 0 rfl ?_
    refine gfX8_18 hX dX8_takeOff_58 ?_
    refine z_iload_n hX dX8_takeOff_61 rfl 3 rfl ?_
    refine z_iald hX 27 rfl h.1 dX8_takeOff_62 ?_
    replace h := h.2
    refine z_if_ne hX 76 dX8_takeOff_63 (by decide) (fun c0 => ?_) (fun c0 => ?_)
    · replace h := h.1 c0
      refine z_iinc (v := x3 + (1 : Int32)) hX dX8_takeOff_76 3 rfl rfl (by decide) [(3, .int (x3 + (1 : Int32))), (0, .ref (X.1.2.1 8)), (1, .int x1), (2, .int x2)] rfl ?_
      refine z_goto hX 52 dX8_takeOff_79 (by decide) ?_
      exact z_sub [1, 2, 3, 0] rfl h
    · replace h := h.2 c0
      refine z_aload_n hX dX8_takeOff_66 rfl 0 rfl ?_
      refine gfX8_21 hX dX8_takeOff_67 ?_
      refine z_iload_n hX dX8_takeOff_70 rfl 2 rfl ?_
      refine z_iinc (v := x2 + (1 : Int32)) hX dX8_takeOff_71 2 rfl rfl (by decide) [(2, .int (x2 + (1 : Int32))), (0, .ref (X.1.2.1 8)), (1, .int x1), (3, .int x3)] rfl ?_
      refine z_iload_n hX dX8_takeOff_74 rfl 3 rfl ?_
      refine z_iastM hX 28 rfl h.1 dX8_takeOff_75 (fun M1 eM1 => ?_)
      replace h := h.2 M1 eM1
      refine z_iinc (v := x3 + (1 : Int32)) hX dX8_takeOff_76 3 rfl rfl (by decide) [(3, .int (x3 + (1 : Int32))), (2, .int (x2 + (1 : Int32))), (0, .ref (X.1.2.1 8)), (1, .int x1)] rfl ?_
      refine z_goto hX 52 dX8_takeOff_79 (by decide) ?_
      exact z_sub [2, 3, 1, 0] rfl h
set_option maxRecDepth 100000 in
set_option maxHeartbeats 4000000 in
theorem BX8_takeOff_84 {X : XT} {Q : Option Value → Mem → Prop} (hX : KX8_takeOff X) {x1 x2 x3 : Int32} {M : Mem} (h : ((x2 ≤ x3 → Q (some (.int x2)) M) ∧ (¬ x2 ≤ x3 → ((x1 ≤ x3 → Q (some (.int x2)) M) ∧ (¬ x1 ≤ x3 → (vp_in x3 1024 ∧ (vp_in (M.1 28 x3.toNatClampNeg) 1024 ∧ (vp_in (M.1 25 (M.1 28 x3.toNatClampNeg).toNatClampNeg) 1024 ∧ (vp_in (M.1 25 (M.1 28 x3.toNatClampNeg).toNatClampNeg) 1024 ∧ (∀ M1 : Mem, M1 = z_st M 27 (M.1 25 (M.1 28 x3.toNatClampNeg).toNatClampNeg).toNatClampNeg ((M.1 27 (M.1 25 (M.1 28 x3.toNatClampNeg).toNatClampNeg).toNatClampNeg) - (1 : Int32)) → (vp_in (M.1 25 (M.1 28 x3.toNatClampNeg).toNatClampNeg) 1024 ∧ ((¬ (M1.1 27 (M.1 25 (M.1 28 x3.toNatClampNeg).toNatClampNeg).toNatClampNeg) = 0 → LX8_takeOff_84 X Q x1 x2 (x3 + (1 : Int32)) M1) ∧ ((M1.1 27 (M.1 25 (M.1 28 x3.toNatClampNeg).toNatClampNeg).toNatClampNeg) = 0 → (vp_in x2 1024 ∧ (∀ M2 : Mem, M2 = z_st M1 28 x2.toNatClampNeg (M.1 25 (M.1 28 x3.toNatClampNeg).toNatClampNeg) → LX8_takeOff_84 X Q x1 (x2 + (1 : Int32)) (x3 + (1 : Int32)) M2))))))))))))))) : LX8_takeOff_84 X Q x1 x2 x3 M := by
  show Z SX X 0 5 Q 84 [(0, .ref (X.1.2.1 8)), (1, .int x1), (2, .int x2), (3, .int x3)] [] M
  refine z_iload_n hX dX8_takeOff_84 rfl 3 rfl ?_
  refine z_iload_n hX dX8_takeOff_85 rfl 2 rfl ?_
  refine z_icmp_ge hX 145 dX8_takeOff_86 (by decide) (fun c0 => ?_) (fun c0 => ?_)
  · replace h := h.1 c0
    refine z_iload_n hX dX8_takeOff_145 rfl 2 rfl ?_
    exact z_iret hX dX8_takeOff_146 h
  · replace h := h.2 c0
    refine z_iload_n hX dX8_takeOff_89 rfl 3 rfl ?_
    refine z_iload_n hX dX8_takeOff_90 rfl 1 rfl ?_
    refine z_icmp_ge hX 145 dX8_takeOff_91 (by decide) (fun c0 => ?_) (fun c0 => ?_)
    · replace h := h.1 c0
      refine z_iload_n hX dX8_takeOff_145 rfl 2 rfl ?_
      exact z_iret hX dX8_takeOff_146 h
    · replace h := h.2 c0
      refine z_aload_n hX dX8_takeOff_94 rfl 0 rfl ?_
      refine gfX8_9 hX dX8_takeOff_95 ?_
      refine z_aload_n hX dX8_takeOff_98 rfl 0 rfl ?_
      refine gfX8_21 hX dX8_takeOff_99 ?_
      refine z_iload_n hX dX8_takeOff_102 rfl 3 rfl ?_
      refine z_iald hX 28 rfl h.1 dX8_takeOff_103 ?_
      replace h := h.2
      refine z_iald hX 25 rfl h.1 dX8_takeOff_104 ?_
      replace h := h.2
      refine z_istore hX dX8_takeOff_105 (by decide) [(4, .int (M.1 25 (M.1 28 x3.toNatClampNeg).toNatClampNeg)), (0, .ref (X.1.2.1 8)), (1, .int x1), (2, .int x2), (3, .int x3)] rfl ?_
      refine z_aload_n hX dX8_takeOff_107 rfl 1 rfl ?_
      refine gfX8_18 hX dX8_takeOff_108 ?_
      refine z_iload hX dX8_takeOff_111 0 rfl ?_
      refine z_dup2 hX dX8_takeOff_113 rfl rfl ?_
      refine z_iald hX 27 rfl h.1 dX8_takeOff_114 ?_
      replace h := h.2
      refine z_iconst (v := 1) hX dX8_takeOff_115 (by decide) ?_
      refine z_isub hX dX8_takeOff_116 ?_
      refine z_iastM hX 27 rfl h.1 dX8_takeOff_117 (fun M1 eM1 => ?_)
      replace h := h.2 M1 eM1
      refine z_aload_n hX dX8_takeOff_118 rfl 1 rfl ?_
      refine gfX8_18 hX dX8_takeOff_119 ?_
      refine z_iload hX dX8_takeOff_122 0 rfl ?_
      refine z_iald hX 27 rfl h.1 dX8_takeOff_124 ?_
      replace h := h.2
      refine z_if_ne hX 139 dX8_takeOff_125 (by decide) (fun c0 => ?_) (fun c0 => ?_)
      · replace h := h.1 c0
        refine z_iinc (v := x3 + (1 : Int32)) hX dX8_takeOff_139 4 rfl rfl (by decide) [(3, .int (x3 + (1 : Int32))), (4, .int (M.1 25 (M.1 28 x3.toNatClampNeg).toNatClampNeg)), (0, .ref (X.1.2.1 8)), (1, .int x1), (2, .int x2)] rfl ?_
        refine z_goto hX 84 dX8_takeOff_142 (by decide) ?_
        exact z_sub [2, 3, 4, 0] rfl h
      · replace h := h.2 c0
        refine z_aload_n hX dX8_takeOff_128 rfl 1 rfl ?_
        refine gfX8_21 hX dX8_takeOff_129 ?_
        refine z_iload_n hX dX8_takeOff_132 rfl 3 rfl ?_
        refine z_iinc (v := x2 + (1 : Int32)) hX dX8_takeOff_133 3 rfl rfl (by decide) [(2, .int (x2 + (1 : Int32))), (4, .int (M.1 25 (M.1 28 x3.toNatClampNeg).toNatClampNeg)), (0, .ref (X.1.2.1 8)), (1, .int x1), (3, .int x3)] rfl ?_
        refine z_iload hX dX8_takeOff_136 1 rfl ?_
        refine z_iastM hX 28 rfl h.1 dX8_takeOff_138 (fun M2 eM2 => ?_)
        replace h := h.2 M2 eM2
        refine z_iinc (v := x3 + (1 : Int32)) hX dX8_takeOff_139 4 rfl rfl (by decide) [(3, .int (x3 + (1 : Int32))), (2, .int (x2 + (1 : Int32))), (4, .int (M.1 25 (M.1 28 x3.toNatClampNeg).toNatClampNeg)), (0, .ref (X.1.2.1 8)), (1, .int x1)] rfl ?_
        refine z_goto hX 84 dX8_takeOff_142 (by decide) ?_
        exact z_sub [3, 4, 1, 0] rfl h
abbrev LX8_goRound_5 (X : XT) (Q : Option Value → Mem → Prop) (x1 : Int32) (x2 : Int32) (x3 : Int32) (x4 : Int32) (M : Mem) : Prop := Z SX X 0 5 Q 5 [(0, .ref (X.1.2.1 8)), (1, .int x1), (2, .int x2), (3, .int x3), (4, .int x4)] [] M
set_option maxRecDepth 100000 in
set_option maxHeartbeats 4000000 in
theorem EX8_goRound {E : ET} {Q : Option Value → Mem → Prop} {x1 x2 : Int32} {M : Mem} (h : ∀ X : XT, X.1 = E → KX8_goRound X → LX8_goRound_5 X Q x1 x2 x1 (0 : Int32) M) : CX8_goRound E [.ref (E.2.1 8), .int x1, .int x2] M Q := by
  refine z_entry (by decide +kernel) (Nat.le_of_ble_eq_true rfl) (fun X hE hX => ?_)
  subst hE
  replace h := h X rfl hX
  show Z SX X 0 5 Q 0 [(0, .ref (X.1.2.1 8)), (1, .int x1), (2, .int x2)] [] M
  refine z_iload_n hX dX8_goRound_0 rfl 1 rfl ?_
  refine z_istore_n hX dX8_goRound_1 rfl (by decide) [(3, .int x1), (0, .ref (X.1.2.1 8)), (1, .int x1), (2, .int x2)] rfl ?_
  refine z_iconst (v := 0) hX dX8_goRound_2 (by decide) ?_
  refine z_istore hX dX8_goRound_3 (by decide) [(4, .int (0 : Int32)), (3, .int x1), (0, .ref (X.1.2.1 8)), (1, .int x1), (2, .int x2)] rfl ?_
  exact z_sub [2, 3, 4, 1, 0] rfl h
set_option maxRecDepth 100000 in
set_option maxHeartbeats 4000000 in
theorem BX8_goRound_5 {X : XT} {Q : Option Value → Mem → Prop} (hX : KX8_goRound X) {x1 x2 x3 x4 : Int32} {M : Mem} (h : ((x2 ≤ x4 → Q none M) ∧ (¬ x2 ≤ x4 → (vp_in x3 1024 ∧ (((M.1 27 x3.toNatClampNeg) ≤ 0 → Q none M) ∧ (¬ (M.1 27 x3.toNatClampNeg) ≤ 0 → (vp_in x3 1024 ∧ (∀ M1 : Mem, M1 = z_st M 26 x3.toNatClampNeg x1 → (vp_in x3 1024 ∧ (∀ M2 : Mem, M2 = z_st M1 27 x3.toNatClampNeg (0 : Int32) → (vp_in x3 1024 ∧ LX8_goRound_5 X Q x1 x2 (M2.1 25 x3.toNatClampNeg) (x4 + (1 : Int32)) M2))))))))))) : LX8_goRound_5 X Q x1 x2 x3 x4 M := by
  show Z SX X 0 5 Q 5 [(0, .ref (X.1.2.1 8)), (1, .int x1), (2, .int x2), (3, .int x3), (4, .int x4)] [] M
  refine z_iload hX dX8_goRound_5 4 rfl ?_
  refine z_iload_n hX dX8_goRound_7 rfl 2 rfl ?_
  refine z_icmp_ge hX 47 dX8_goRound_8 (by decide) (fun c0 => ?_) (fun c0 => ?_)
  · replace h := h.1 c0
    exact z_vret hX dX8_goRound_47 h
  · replace h := h.2 c0
    refine z_aload_n hX dX8_goRound_11 rfl 0 rfl ?_
    refine gfX8_18 hX dX8_goRound_12 ?_
    refine z_iload_n hX dX8_goRound_15 rfl 3 rfl ?_
    refine z_iald hX 27 rfl h.1 dX8_goRound_16 ?_
    replace h := h.2
    refine z_if_le hX 47 dX8_goRound_17 (by decide) (fun c0 => ?_) (fun c0 => ?_)
    · replace h := h.1 c0
      exact z_vret hX dX8_goRound_47 h
    · replace h := h.2 c0
      refine z_aload_n hX dX8_goRound_20 rfl 0 rfl ?_
      refine gfX8_15 hX dX8_goRound_21 ?_
      refine z_iload_n hX dX8_goRound_24 rfl 3 rfl ?_
      refine z_iload_n hX dX8_goRound_25 rfl 1 rfl ?_
      refine z_iastM hX 26 rfl h.1 dX8_goRound_26 (fun M1 eM1 => ?_)
      replace h := h.2 M1 eM1
      refine z_aload_n hX dX8_goRound_27 rfl 0 rfl ?_
      refine gfX8_18 hX dX8_goRound_28 ?_
      refine z_iload_n hX dX8_goRound_31 rfl 3 rfl ?_
      refine z_iconst (v := 0) hX dX8_goRound_32 (by decide) ?_
      refine z_iastM hX 27 rfl h.1 dX8_goRound_33 (fun M2 eM2 => ?_)
      replace h := h.2 M2 eM2
      refine z_aload_n hX dX8_goRound_34 rfl 0 rfl ?_
      refine gfX8_9 hX dX8_goRound_35 ?_
      refine z_iload_n hX dX8_goRound_38 rfl 3 rfl ?_
      refine z_iald hX 25 rfl h.1 dX8_goRound_39 ?_
      replace h := h.2
      refine z_istore_n hX dX8_goRound_40 rfl (by decide) [(3, .int (M2.1 25 x3.toNatClampNeg)), (0, .ref (X.1.2.1 8)), (1, .int x1), (2, .int x2), (4, .int x4)] rfl ?_
      refine z_iinc (v := x4 + (1 : Int32)) hX dX8_goRound_41 4 rfl rfl (by decide) [(4, .int (x4 + (1 : Int32))), (3, .int (M2.1 25 x3.toNatClampNeg)), (0, .ref (X.1.2.1 8)), (1, .int x1), (2, .int x2)] rfl ?_
      refine z_goto hX 5 dX8_goRound_44 (by decide) ?_
      exact z_sub [2, 3, 4, 1, 0] rfl h
abbrev LX5_askedFrom_19 (X : XT) (Q : Option Value → Mem → Prop) (x3 : Int32) (x5 : Int32) (x6 : Int32) (x7 : Int32) (M : Mem) : Prop := Z SX X 4 8 Q 19 [(3, .int x3), (4, .ref (X.1.2.1 25)), (5, .int x5), (6, .int x6), (7, .int x7)] [] M
set_option maxRecDepth 100000 in
set_option maxHeartbeats 4000000 in
theorem EX5_askedFrom {E : ET} {Q : Option Value → Mem → Prop} {x1 x2 x3 : Int32} {M : Mem} (h : ∀ X : XT, X.1 = E → KX5_askedFrom X → (∃ q2 : Mem → Prop, CX8_stepsBy X.1 [.ref (X.1.2.1 8), .int x2] M (z_pR (X.1.2.1 25) q2) ∧ ∀ (M1 : Mem), q2 M1 → LX5_askedFrom_19 X Q x3 x1 (0 : Int32) (0 : Int32) M1)) : CX5_askedFrom E [.ref (E.2.1 5), .int x1, .int x2, .int x3] M Q := by
  refine z_entry (by decide +kernel) (Nat.le_of_ble_eq_true rfl) (fun X hE hX => ?_)
  subst hE
  replace h := h X rfl hX
  show Z SX X 4 8 Q 0 [(0, .ref (X.1.2.1 5)), (1, .int x1), (2, .int x2), (3, .int x3)] [] M
  refine z_aload_n hX dX5_askedFrom_0 rfl 0 rfl ?_
  refine gfX5_15 hX dX5_askedFrom_1 ?_
  refine z_iload_n hX dX5_askedFrom_4 rfl 2 rfl ?_
  obtain ⟨q2, c9, h⟩ := h
  refine mcX5_34 hX dX5_askedFrom_5 (by decide) (Nat.le_of_ble_eq_true rfl) c9 (fun M1 hq => ?_)
  replace h := h M1 hq
  refine z_astore hX dX5_askedFrom_8 (by decide) [(4, .ref (X.1.2.1 25)), (0, .ref (X.1.2.1 5)), (1, .int x1), (2, .int x2), (3, .int x3)] rfl ?_
  refine z_iload_n hX dX5_askedFrom_10 rfl 2 rfl ?_
  refine z_istore hX dX5_askedFrom_11 (by decide) [(5, .int x1), (4, .ref (X.1.2.1 25)), (0, .ref (X.1.2.1 5)), (1, .int x1), (2, .int x2), (3, .int x3)] rfl ?_
  refine z_iconst (v := 0) hX dX5_askedFrom_13 (by decide) ?_
  refine z_istore hX dX5_askedFrom_14 (by decide) [(6, .int (0 : Int32)), (5, .int x1), (4, .ref (X.1.2.1 25)), (0, .ref (X.1.2.1 5)), (1, .int x1), (2, .int x2), (3, .int x3)] rfl ?_
  refine z_iconst (v := 0) hX dX5_askedFrom_16 (by decide) ?_
  refine z_istore hX dX5_askedFrom_17 (by decide) [(7, .int (0 : Int32)), (6, .int (0 : Int32)), (5, .int x1), (4, .ref (X.1.2.1 25)), (0, .ref (X.1.2.1 5)), (1, .int x1), (2, .int x2), (3, .int x3)] rfl ?_
  exact z_sub [7, 3, 2, 1, 0] rfl h
set_option maxRecDepth 100000 in
set_option maxHeartbeats 4000000 in
theorem BX5_askedFrom_19 {X : XT} {Q : Option Value → Mem → Prop} (hX : KX5_askedFrom X) {x3 x5 x6 x7 : Int32} {M : Mem} (h : ((x3 ≤ x7 → Q (some (.int x6)) M) ∧ (¬ x3 ≤ x7 → (vp_in x5 1024 ∧ (∃ (r1 : Int32), CJ6_bitCount SX X.1 [.int ((M.1 25 x5.toNatClampNeg) &&& (x5 ^^^ (-1 : Int32)))] M (z_is (some (.int r1)) M) ∧ (vp_in x5 1024 ∧ LX5_askedFrom_19 X Q x3 (M.1 25 x5.toNatClampNeg) (x6 + r1) (x7 + (1 : Int32)) M)))))) : LX5_askedFrom_19 X Q x3 x5 x6 x7 M := by
  show Z SX X 4 8 Q 19 [(3, .int x3), (4, .ref (X.1.2.1 25)), (5, .int x5), (6, .int x6), (7, .int x7)] [] M
  refine z_iload hX dX5_askedFrom_19 4 rfl ?_
  refine z_iload_n hX dX5_askedFrom_21 rfl 0 rfl ?_
  refine z_icmp_ge hX 56 dX5_askedFrom_22 (by decide) (fun c0 => ?_) (fun c0 => ?_)
  · replace h := h.1 c0
    refine z_iload hX dX5_askedFrom_56 3 rfl ?_
    exact z_iret hX dX5_askedFrom_58 h
  · replace h := h.2 c0
    refine z_iload hX dX5_askedFrom_25 3 rfl ?_
    refine z_aload hX dX5_askedFrom_27 1 rfl ?_
    refine z_iload hX dX5_askedFrom_29 2 rfl ?_
    refine z_iald hX 25 rfl h.1 dX5_askedFrom_31 ?_
    replace h := h.2
    refine z_iload hX dX5_askedFrom_32 2 rfl ?_
    refine z_iconst (v := -1) hX dX5_askedFrom_34 (by decide) ?_
    refine z_ixor hX dX5_askedFrom_35 ?_
    refine z_iand hX dX5_askedFrom_36 ?_
    obtain ⟨r1, c9, h⟩ := h
    refine mcX5_40 hX dX5_askedFrom_37 (by decide) (Nat.le_of_ble_eq_true rfl) c9 ?_
    refine z_iadd hX dX5_askedFrom_40 ?_
    refine z_istore hX dX5_askedFrom_41 (by decide) [(6, .int (x6 + r1)), (3, .int x3), (4, .ref (X.1.2.1 25)), (5, .int x5), (7, .int x7)] rfl ?_
    refine z_aload hX dX5_askedFrom_43 2 rfl ?_
    refine z_iload hX dX5_askedFrom_45 3 rfl ?_
    refine z_iald hX 25 rfl h.1 dX5_askedFrom_47 ?_
    replace h := h.2
    refine z_istore hX dX5_askedFrom_48 (by decide) [(5, .int (M.1 25 x5.toNatClampNeg)), (6, .int (x6 + r1)), (3, .int x3), (4, .ref (X.1.2.1 25)), (7, .int x7)] rfl ?_
    refine z_iinc (v := x7 + (1 : Int32)) hX dX5_askedFrom_50 4 rfl rfl (by decide) [(7, .int (x7 + (1 : Int32))), (5, .int (M.1 25 x5.toNatClampNeg)), (6, .int (x6 + r1)), (3, .int x3), (4, .ref (X.1.2.1 25))] rfl ?_
    refine z_goto hX 19 dX5_askedFrom_53 (by decide) ?_
    exact z_sub [3, 4, 1, 2, 0] rfl h
abbrev LX5_gainBy_12 (X : XT) (Q : Option Value → Mem → Prop) (x3 : Int32) (x4 : Int32) (x5 : Int32) (x6 : Int32) (x7 : Int32) (M : Mem) : Prop := Z SX X 5 8 Q 12 [(0, .ref (X.1.2.1 5)), (3, .int x3), (4, .int x4), (5, .int x5), (6, .int x6), (7, .int x7)] [] M
set_option maxRecDepth 100000 in
set_option maxHeartbeats 4000000 in
theorem EX5_gainBy {E : ET} {Q : Option Value → Mem → Prop} {x1 x2 x3 x4 x5 : Int32} {M : Mem} (h : ∀ X : XT, X.1 = E → KX5_gainBy X → (∃ q2 : Mem → Prop, CX5_tally X.1 [.ref (X.1.2.1 5), .int x1, .int x2] M (z_pV q2) ∧ ∀ (M1 : Mem), q2 M1 → LX5_gainBy_12 X Q x3 x4 x5 (0 : Int32) (0 : Int32) M1)) : CX5_gainBy E [.ref (E.2.1 5), .int x1, .int x2, .int x3, .int x4, .int x5] M Q := by
  refine z_entry (by decide +kernel) (Nat.le_of_ble_eq_true rfl) (fun X hE hX => ?_)
  subst hE
  replace h := h X rfl hX
  show Z SX X 5 8 Q 0 [(0, .ref (X.1.2.1 5)), (1, .int x1), (2, .int x2), (3, .int x3), (4, .int x4), (5, .int x5)] [] M
  refine z_aload_n hX dX5_gainBy_0 rfl 0 rfl ?_
  refine z_iload_n hX dX5_gainBy_1 rfl 1 rfl ?_
  refine z_iload_n hX dX5_gainBy_2 rfl 2 rfl ?_
  obtain ⟨q2, c9, h⟩ := h
  refine mcX5_46 hX dX5_gainBy_3 (by decide) (Nat.le_of_ble_eq_true rfl) c9 (fun M1 hq => ?_)
  replace h := h M1 hq
  refine z_iconst (v := 0) hX dX5_gainBy_6 (by decide) ?_
  refine z_istore hX dX5_gainBy_7 (by decide) [(6, .int (0 : Int32)), (0, .ref (X.1.2.1 5)), (1, .int x1), (2, .int x2), (3, .int x3), (4, .int x4), (5, .int x5)] rfl ?_
  refine z_iconst (v := 0) hX dX5_gainBy_9 (by decide) ?_
  refine z_istore hX dX5_gainBy_10 (by decide) [(7, .int (0 : Int32)), (6, .int (0 : Int32)), (0, .ref (X.1.2.1 5)), (1, .int x1), (2, .int x2), (3, .int x3), (4, .int x4), (5, .int x5)] rfl ?_
  exact z_sub [2, 5, 6, 7, 1, 0] rfl h
set_option maxRecDepth 100000 in
set_option maxHeartbeats 4000000 in
theorem BX5_gainBy_12 {X : XT} {Q : Option Value → Mem → Prop} (hX : KX5_gainBy X) {x3 x4 x5 x6 x7 : Int32} {M : Mem} (h : (((500 : Int32) < x7 → (∃ (r1 : Int32), CX7_dresses X.1 [.ref (X.1.2.1 7)] M (z_is (some (.int r1)) M) ∧ Q (some (.int ((x6 * x5) - ((r1 * x3) * x4)))) M)) ∧ (¬ (500 : Int32) < x7 → (vp_in x7 1024 ∧ LX5_gainBy_12 X Q x3 x4 x5 (x6 + ((M.1 30 x7.toNatClampNeg) * (if x3 < x7 then x3 else x7))) (x7 + (1 : Int32)) M)))) : LX5_gainBy_12 X Q x3 x4 x5 x6 x7 M := by
  show Z SX X 5 8 Q 12 [(0, .ref (X.1.2.1 5)), (3, .int x3), (4, .int x4), (5, .int x5), (6, .int x6), (7, .int x7)] [] M
  refine z_iload hX dX5_gainBy_12 5 rfl ?_
  refine z_sipush (v := 500) hX dX5_gainBy_14 (by decide) ?_
  refine z_icmp_gt hX 45 dX5_gainBy_17 (by decide) (fun c0 => ?_) (fun c0 => ?_)
  · replace h := h.1 c0
    refine z_iload hX dX5_gainBy_45 4 rfl ?_
    refine z_iload hX dX5_gainBy_47 3 rfl ?_
    refine z_imul hX dX5_gainBy_49 ?_
    refine z_aload_n hX dX5_gainBy_50 rfl 0 rfl ?_
    refine gfX5_9 hX dX5_gainBy_51 ?_
    obtain ⟨r1, c9, h⟩ := h
    refine mcX5_56 hX dX5_gainBy_54 (by decide) (Nat.le_of_ble_eq_true rfl) c9 ?_
    refine z_iload_n hX dX5_gainBy_57 rfl 1 rfl ?_
    refine z_imul hX dX5_gainBy_58 ?_
    refine z_iload hX dX5_gainBy_59 2 rfl ?_
    refine z_imul hX dX5_gainBy_61 ?_
    refine z_isub hX dX5_gainBy_62 ?_
    exact z_iret hX dX5_gainBy_63 h
  · replace h := h.2 c0
    refine z_iload hX dX5_gainBy_20 4 rfl ?_
    refine z_aload_n hX dX5_gainBy_22 rfl 0 rfl ?_
    refine gfX5_31 hX dX5_gainBy_23 ?_
    refine z_iload hX dX5_gainBy_26 5 rfl ?_
    refine z_iald hX 30 rfl h.1 dX5_gainBy_28 ?_
    replace h := h.2
    refine z_iload hX dX5_gainBy_29 5 rfl ?_
    refine z_iload_n hX dX5_gainBy_31 rfl 1 rfl ?_
    refine mcX5_50 hX dX5_gainBy_32 (by decide) (Nat.le_of_ble_eq_true rfl) ?_
    refine z_imul hX dX5_gainBy_35 ?_
    refine z_iadd hX dX5_gainBy_36 ?_
    refine z_istore hX dX5_gainBy_37 (by decide) [(6, .int (x6 + ((M.1 30 x7.toNatClampNeg) * (if x3 < x7 then x3 else x7)))), (0, .ref (X.1.2.1 5)), (3, .int x3), (4, .int x4), (5, .int x5), (7, .int x7)] rfl ?_
    refine z_iinc (v := x7 + (1 : Int32)) hX dX5_gainBy_39 5 rfl rfl (by decide) [(7, .int (x7 + (1 : Int32))), (6, .int (x6 + ((M.1 30 x7.toNatClampNeg) * (if x3 < x7 then x3 else x7)))), (0, .ref (X.1.2.1 5)), (3, .int x3), (4, .int x4), (5, .int x5)] rfl ?_
    refine z_goto hX 12 dX5_gainBy_42 (by decide) ?_
    exact z_sub [2, 3, 4, 5, 1, 0] rfl h
abbrev LX5_bestStock_38 (X : XT) (Q : Option Value → Mem → Prop) (x3 : Int32) (x4 : Int32) (x5 : Int32) (x6 : Int32) (x7 : Int32) (x8 : Int32) (x9 : Int32) (x10 : Int32) (M : Mem) : Prop := Z SX X 5 11 Q 38 [(0, .ref (X.1.2.1 5)), (3, .int x3), (4, .int x4), (5, .int x5), (6, .int x6), (7, .int x7), (8, .int x8), (9, .int x9), (10, .int x10)] [] M
set_option maxRecDepth 100000 in
set_option maxHeartbeats 4000000 in
theorem EX5_bestStock {E : ET} {Q : Option Value → Mem → Prop} {x1 x2 x3 x4 : Int32} {M : Mem} (h : ∀ X : XT, X.1 = E → KX5_bestStock X → (∃ q3 : Mem → Prop, CX5_tally X.1 [.ref (X.1.2.1 5), .int x1, .int x2] M (z_pV q3) ∧ ∀ (M1 : Mem), q3 M1 → (∃ (r2 : Int32), CX7_dresses X.1 [.ref (X.1.2.1 7)] M1 (z_is (some (.int r2)) M1) ∧ (vp_in (0 : Int32) 1024 ∧ LX5_bestStock_38 X Q x3 x4 r2 (0 : Int32) (0 : Int32) (0 : Int32) (r2 - (M1.1 30 (0 : Int32).toNatClampNeg)) (1 : Int32) M1)))) : CX5_bestStock E [.ref (E.2.1 5), .int x1, .int x2, .int x3, .int x4] M Q := by
  refine z_entry (by decide +kernel) (Nat.le_of_ble_eq_true rfl) (fun X hE hX => ?_)
  subst hE
  replace h := h X rfl hX
  show Z SX X 5 11 Q 0 [(0, .ref (X.1.2.1 5)), (1, .int x1), (2, .int x2), (3, .int x3), (4, .int x4)] [] M
  refine z_aload_n hX dX5_bestStock_0 rfl 0 rfl ?_
  refine z_iload_n hX dX5_bestStock_1 rfl 1 rfl ?_
  refine z_iload_n hX dX5_bestStock_2 rfl 2 rfl ?_
  obtain ⟨q3, c9, h⟩ := h
  refine mcX5_46 hX dX5_bestStock_3 (by decide) (Nat.le_of_ble_eq_true rfl) c9 (fun M1 hq => ?_)
  replace h := h M1 hq
  refine z_aload_n hX dX5_bestStock_6 rfl 0 rfl ?_
  refine gfX5_9 hX dX5_bestStock_7 ?_
  obtain ⟨r2, c9, h⟩ := h
  refine mcX5_56 hX dX5_bestStock_10 (by decide) (Nat.le_of_ble_eq_true rfl) c9 ?_
  refine z_istore hX dX5_bestStock_13 (by decide) [(5, .int r2), (0, .ref (X.1.2.1 5)), (1, .int x1), (2, .int x2), (3, .int x3), (4, .int x4)] rfl ?_
  refine z_iconst (v := 0) hX dX5_bestStock_15 (by decide) ?_
  refine z_istore hX dX5_bestStock_16 (by decide) [(6, .int (0 : Int32)), (5, .int r2), (0, .ref (X.1.2.1 5)), (1, .int x1), (2, .int x2), (3, .int x3), (4, .int x4)] rfl ?_
  refine z_iconst (v := 0) hX dX5_bestStock_18 (by decide) ?_
  refine z_istore hX dX5_bestStock_19 (by decide) [(7, .int (0 : Int32)), (6, .int (0 : Int32)), (5, .int r2), (0, .ref (X.1.2.1 5)), (1, .int x1), (2, .int x2), (3, .int x3), (4, .int x4)] rfl ?_
  refine z_iconst (v := 0) hX dX5_bestStock_21 (by decide) ?_
  refine z_istore hX dX5_bestStock_22 (by decide) [(8, .int (0 : Int32)), (7, .int (0 : Int32)), (6, .int (0 : Int32)), (5, .int r2), (0, .ref (X.1.2.1 5)), (1, .int x1), (2, .int x2), (3, .int x3), (4, .int x4)] rfl ?_
  refine z_iload hX dX5_bestStock_24 3 rfl ?_
  refine z_aload_n hX dX5_bestStock_26 rfl 4 rfl ?_
  refine gfX5_31 hX dX5_bestStock_27 ?_
  refine z_iconst (v := 0) hX dX5_bestStock_30 (by decide) ?_
  refine z_iald hX 30 rfl h.1 dX5_bestStock_31 ?_
  replace h := h.2
  refine z_isub hX dX5_bestStock_32 ?_
  refine z_istore hX dX5_bestStock_33 (by decide) [(9, .int (r2 - (M1.1 30 (0 : Int32).toNatClampNeg))), (8, .int (0 : Int32)), (7, .int (0 : Int32)), (6, .int (0 : Int32)), (5, .int r2), (0, .ref (X.1.2.1 5)), (1, .int x1), (2, .int x2), (3, .int x3), (4, .int x4)] rfl ?_
  refine z_iconst (v := 1) hX dX5_bestStock_35 (by decide) ?_
  refine z_istore hX dX5_bestStock_36 (by decide) [(10, .int (1 : Int32)), (9, .int (r2 - (M1.1 30 (0 : Int32).toNatClampNeg))), (8, .int (0 : Int32)), (7, .int (0 : Int32)), (6, .int (0 : Int32)), (5, .int r2), (0, .ref (X.1.2.1 5)), (1, .int x1), (2, .int x2), (3, .int x3), (4, .int x4)] rfl ?_
  exact z_sub [6, 9, 10, 5, 4, 3, 2, 1, 0] rfl h
set_option maxRecDepth 100000 in
set_option maxHeartbeats 4000000 in
theorem BX5_bestStock_38 {X : XT} {Q : Option Value → Mem → Prop} (hX : KX5_bestStock X) {x3 x4 x5 x6 x7 x8 x9 x10 : Int32} {M : Mem} (h : (((500 : Int32) < x10 → Q (some (.int x6)) M) ∧ (¬ (500 : Int32) < x10 → (((x8 + ((x9 * x4) - (x5 * x3))) ≤ x7 → (vp_in x10 1024 ∧ LX5_bestStock_38 X Q x3 x4 x5 x6 x7 (x8 + ((x9 * x4) - (x5 * x3))) (x9 - (M.1 30 x10.toNatClampNeg)) (x10 + (1 : Int32)) M)) ∧ (¬ (x8 + ((x9 * x4) - (x5 * x3))) ≤ x7 → (vp_in x10 1024 ∧ LX5_bestStock_38 X Q x3 x4 x5 x10 (x8 + ((x9 * x4) - (x5 * x3))) (x8 + ((x9 * x4) - (x5 * x3))) (x9 - (M.1 30 x10.toNatClampNeg)) (x10 + (1 : Int32)) M)))))) : LX5_bestStock_38 X Q x3 x4 x5 x6 x7 x8 x9 x10 M := by
  show Z SX X 5 11 Q 38 [(0, .ref (X.1.2.1 5)), (3, .int x3), (4, .int x4), (5, .int x5), (6, .int x6), (7, .int x7), (8, .int x8), (9, .int x9), (10, .int x10)] [] M
  refine z_iload hX dX5_bestStock_38 8 rfl ?_
  refine z_sipush (v := 500) hX dX5_bestStock_40 (by decide) ?_
  refine z_icmp_gt hX 94 dX5_bestStock_43 (by decide) (fun c0 => ?_) (fun c0 => ?_)
  · replace h := h.1 c0
    refine z_iload hX dX5_bestStock_94 4 rfl ?_
    exact z_iret hX dX5_bestStock_96 h
  · replace h := h.2 c0
    refine z_iload hX dX5_bestStock_46 6 rfl ?_
    refine z_iload hX dX5_bestStock_48 7 rfl ?_
    refine z_iload hX dX5_bestStock_50 2 rfl ?_
    refine z_imul hX dX5_bestStock_52 ?_
    refine z_iload hX dX5_bestStock_53 3 rfl ?_
    refine z_iload_n hX dX5_bestStock_55 rfl 1 rfl ?_
    refine z_imul hX dX5_bestStock_56 ?_
    refine z_isub hX dX5_bestStock_57 ?_
    refine z_iadd hX dX5_bestStock_58 ?_
    refine z_istore hX dX5_bestStock_59 (by decide) [(8, .int (x8 + ((x9 * x4) - (x5 * x3)))), (0, .ref (X.1.2.1 5)), (3, .int x3), (4, .int x4), (5, .int x5), (6, .int x6), (7, .int x7), (9, .int x9), (10, .int x10)] rfl ?_
    refine z_iload hX dX5_bestStock_61 0 rfl ?_
    refine z_iload hX dX5_bestStock_63 6 rfl ?_
    refine z_icmp_le hX 76 dX5_bestStock_65 (by decide) (fun c0 => ?_) (fun c0 => ?_)
    · replace h := h.1 c0
      refine z_iload hX dX5_bestStock_76 7 rfl ?_
      refine z_aload_n hX dX5_bestStock_78 rfl 1 rfl ?_
      refine gfX5_31 hX dX5_bestStock_79 ?_
      refine z_iload hX dX5_bestStock_82 8 rfl ?_
      refine z_iald hX 30 rfl h.1 dX5_bestStock_84 ?_
      replace h := h.2
      refine z_isub hX dX5_bestStock_85 ?_
      refine z_istore hX dX5_bestStock_86 (by decide) [(9, .int (x9 - (M.1 30 x10.toNatClampNeg))), (8, .int (x8 + ((x9 * x4) - (x5 * x3)))), (0, .ref (X.1.2.1 5)), (3, .int x3), (4, .int x4), (5, .int x5), (6, .int x6), (7, .int x7), (10, .int x10)] rfl ?_
      refine z_iinc (v := x10 + (1 : Int32)) hX dX5_bestStock_88 8 rfl rfl (by decide) [(10, .int (x10 + (1 : Int32))), (9, .int (x9 - (M.1 30 x10.toNatClampNeg))), (8, .int (x8 + ((x9 * x4) - (x5 * x3)))), (0, .ref (X.1.2.1 5)), (3, .int x3), (4, .int x4), (5, .int x5), (6, .int x6), (7, .int x7)] rfl ?_
      refine z_goto hX 38 dX5_bestStock_91 (by decide) ?_
      exact z_sub [3, 4, 5, 6, 7, 8, 2, 1, 0] rfl h
    · replace h := h.2 c0
      refine z_iload hX dX5_bestStock_68 8 rfl ?_
      refine z_istore hX dX5_bestStock_70 (by decide) [(6, .int x10), (8, .int (x8 + ((x9 * x4) - (x5 * x3)))), (0, .ref (X.1.2.1 5)), (3, .int x3), (4, .int x4), (5, .int x5), (7, .int x7), (9, .int x9), (10, .int x10)] rfl ?_
      refine z_iload hX dX5_bestStock_72 1 rfl ?_
      refine z_istore hX dX5_bestStock_74 (by decide) [(7, .int (x8 + ((x9 * x4) - (x5 * x3)))), (6, .int x10), (8, .int (x8 + ((x9 * x4) - (x5 * x3)))), (0, .ref (X.1.2.1 5)), (3, .int x3), (4, .int x4), (5, .int x5), (9, .int x9), (10, .int x10)] rfl ?_
      refine z_iload hX dX5_bestStock_76 7 rfl ?_
      refine z_aload_n hX dX5_bestStock_78 rfl 3 rfl ?_
      refine gfX5_31 hX dX5_bestStock_79 ?_
      refine z_iload hX dX5_bestStock_82 8 rfl ?_
      refine z_iald hX 30 rfl h.1 dX5_bestStock_84 ?_
      replace h := h.2
      refine z_isub hX dX5_bestStock_85 ?_
      refine z_istore hX dX5_bestStock_86 (by decide) [(9, .int (x9 - (M.1 30 x10.toNatClampNeg))), (7, .int (x8 + ((x9 * x4) - (x5 * x3)))), (6, .int x10), (8, .int (x8 + ((x9 * x4) - (x5 * x3)))), (0, .ref (X.1.2.1 5)), (3, .int x3), (4, .int x4), (5, .int x5), (10, .int x10)] rfl ?_
      refine z_iinc (v := x10 + (1 : Int32)) hX dX5_bestStock_88 8 rfl rfl (by decide) [(10, .int (x10 + (1 : Int32))), (9, .int (x9 - (M.1 30 x10.toNatClampNeg))), (7, .int (x8 + ((x9 * x4) - (x5 * x3)))), (6, .int x10), (8, .int (x8 + ((x9 * x4) - (x5 * x3)))), (0, .ref (X.1.2.1 5)), (3, .int x3), (4, .int x4), (5, .int x5)] rfl ?_
      refine z_goto hX 38 dX5_bestStock_91 (by decide) ?_
      exact z_sub [5, 6, 7, 8, 3, 2, 4, 1, 0] rfl h
abbrev LX5_tally_21 (X : XT) (Q : Option Value → Mem → Prop) (x2 : Int32) (x4 : Int32) (x5 : Int32) (M : Mem) : Prop := Z SX X 4 9 Q 21 [(0, .ref (X.1.2.1 5)), (2, .int x2), (3, .ref (X.1.2.1 25)), (4, .int x4), (5, .int x5)] [] M
abbrev LX5_tally_46 (X : XT) (Q : Option Value → Mem → Prop) (x2 : Int32) (x4 : Int32) (x5 : Int32) (M : Mem) : Prop := Z SX X 4 9 Q 46 [(0, .ref (X.1.2.1 5)), (2, .int x2), (3, .ref (X.1.2.1 25)), (4, .int x4), (5, .int x5)] [] M
abbrev LX5_tally_81 (X : XT) (Q : Option Value → Mem → Prop) (x2 : Int32) (x4 : Int32) (x5 : Int32) (M : Mem) : Prop := Z SX X 4 9 Q 81 [(0, .ref (X.1.2.1 5)), (2, .int x2), (3, .ref (X.1.2.1 25)), (4, .int x4), (5, .int x5)] [] M
abbrev LX5_tally_98 (X : XT) (Q : Option Value → Mem → Prop) (x2 : Int32) (x4 : Int32) (x5 : Int32) (x6 : Int32) (x7 : Int32) (x8 : Int32) (M : Mem) : Prop := Z SX X 4 9 Q 98 [(0, .ref (X.1.2.1 5)), (2, .int x2), (3, .ref (X.1.2.1 25)), (4, .int x4), (5, .int x5), (6, .int x6), (7, .int x7), (8, .int x8)] [] M
set_option maxRecDepth 100000 in
set_option maxHeartbeats 4000000 in
theorem EX5_tally {E : ET} {Q : Option Value → Mem → Prop} {x1 x2 : Int32} {M : Mem} (h : ∀ X : XT, X.1 = E → KX5_tally X → (∃ q3 : Mem → Prop, CX8_stepsBy X.1 [.ref (X.1.2.1 8), .int x1] M (z_pR (X.1.2.1 25) q3) ∧ ∀ (M1 : Mem), q3 M1 → (∃ (r2 : Int32), CX7_dresses X.1 [.ref (X.1.2.1 7)] M1 (z_is (some (.int r2)) M1) ∧ LX5_tally_21 X Q x2 r2 (0 : Int32) M1))) : CX5_tally E [.ref (E.2.1 5), .int x1, .int x2] M Q := by
  refine z_entry (by decide +kernel) (Nat.le_of_ble_eq_true rfl) (fun X hE hX => ?_)
  subst hE
  replace h := h X rfl hX
  show Z SX X 4 9 Q 0 [(0, .ref (X.1.2.1 5)), (1, .int x1), (2, .int x2)] [] M
  refine z_aload_n hX dX5_tally_0 rfl 0 rfl ?_
  refine gfX5_15 hX dX5_tally_1 ?_
  refine z_iload_n hX dX5_tally_4 rfl 1 rfl ?_
  obtain ⟨q3, c9, h⟩ := h
  refine mcX5_34 hX dX5_tally_5 (by decide) (Nat.le_of_ble_eq_true rfl) c9 (fun M1 hq => ?_)
  replace h := h M1 hq
  refine z_astore_n hX dX5_tally_8 rfl (by decide) [(3, .ref (X.1.2.1 25)), (0, .ref (X.1.2.1 5)), (1, .int x1), (2, .int x2)] rfl ?_
  refine z_aload_n hX dX5_tally_9 rfl 1 rfl ?_
  refine gfX5_9 hX dX5_tally_10 ?_
  obtain ⟨r2, c9, h⟩ := h
  refine mcX5_56 hX dX5_tally_13 (by decide) (Nat.le_of_ble_eq_true rfl) c9 ?_
  refine z_istore hX dX5_tally_16 (by decide) [(4, .int r2), (3, .ref (X.1.2.1 25)), (0, .ref (X.1.2.1 5)), (1, .int x1), (2, .int x2)] rfl ?_
  refine z_iconst (v := 0) hX dX5_tally_18 (by decide) ?_
  refine z_istore hX dX5_tally_19 (by decide) [(5, .int (0 : Int32)), (4, .int r2), (3, .ref (X.1.2.1 25)), (0, .ref (X.1.2.1 5)), (1, .int x1), (2, .int x2)] rfl ?_
  exact z_sub [3, 5, 2, 1, 0] rfl h
set_option maxRecDepth 100000 in
set_option maxHeartbeats 4000000 in
theorem BX5_tally_21 {X : XT} {Q : Option Value → Mem → Prop} (hX : KX5_tally X) {x2 x4 x5 : Int32} {M : Mem} (h : (((500 : Int32) < x5 → LX5_tally_46 X Q x2 x4 (0 : Int32) M) ∧ (¬ (500 : Int32) < x5 → (vp_in x5 1024 ∧ (∀ M1 : Mem, M1 = z_st M 30 x5.toNatClampNeg (0 : Int32) → LX5_tally_21 X Q x2 x4 (x5 + (1 : Int32)) M1))))) : LX5_tally_21 X Q x2 x4 x5 M := by
  show Z SX X 4 9 Q 21 [(0, .ref (X.1.2.1 5)), (2, .int x2), (3, .ref (X.1.2.1 25)), (4, .int x4), (5, .int x5)] [] M
  refine z_iload hX dX5_tally_21 4 rfl ?_
  refine z_sipush (v := 500) hX dX5_tally_23 (by decide) ?_
  refine z_icmp_gt hX 43 dX5_tally_26 (by decide) (fun c0 => ?_) (fun c0 => ?_)
  · replace h := h.1 c0
    refine z_iconst (v := 0) hX dX5_tally_43 (by decide) ?_
    refine z_istore hX dX5_tally_44 (by decide) [(5, .int (0 : Int32)), (0, .ref (X.1.2.1 5)), (2, .int x2), (3, .ref (X.1.2.1 25)), (4, .int x4)] rfl ?_
    exact z_sub [1, 2, 3, 4, 0] rfl h
  · replace h := h.2 c0
    refine z_aload_n hX dX5_tally_29 rfl 0 rfl ?_
    refine gfX5_31 hX dX5_tally_30 ?_
    refine z_iload hX dX5_tally_33 4 rfl ?_
    refine z_iconst (v := 0) hX dX5_tally_35 (by decide) ?_
    refine z_iastM hX 30 rfl h.1 dX5_tally_36 (fun M1 eM1 => ?_)
    replace h := h.2 M1 eM1
    refine z_iinc (v := x5 + (1 : Int32)) hX dX5_tally_37 4 rfl rfl (by decide) [(5, .int (x5 + (1 : Int32))), (0, .ref (X.1.2.1 5)), (2, .int x2), (3, .ref (X.1.2.1 25)), (4, .int x4)] rfl ?_
    refine z_goto hX 21 dX5_tally_40 (by decide) ?_
    exact z_sub [1, 2, 3, 4, 0] rfl h
set_option maxRecDepth 100000 in
set_option maxHeartbeats 4000000 in
theorem BX5_tally_46 {X : XT} {Q : Option Value → Mem → Prop} (hX : KX5_tally X) {x2 x4 x5 : Int32} {M : Mem} (h : ((x4 ≤ x5 → LX5_tally_81 X Q x2 x4 (0 : Int32) M) ∧ (¬ x4 ≤ x5 → (vp_in x5 1024 ∧ (∃ (r1 : Int32), CJ6_bitCount SX X.1 [.int ((M.1 25 x5.toNatClampNeg) &&& (x5 ^^^ (-1 : Int32)))] M (z_is (some (.int r1)) M) ∧ (vp_in x5 1024 ∧ (∀ M2 : Mem, M2 = z_st M 29 x5.toNatClampNeg r1 → LX5_tally_46 X Q x2 x4 (x5 + (1 : Int32)) M2))))))) : LX5_tally_46 X Q x2 x4 x5 M := by
  show Z SX X 4 9 Q 46 [(0, .ref (X.1.2.1 5)), (2, .int x2), (3, .ref (X.1.2.1 25)), (4, .int x4), (5, .int x5)] [] M
  refine z_iload hX dX5_tally_46 4 rfl ?_
  refine z_iload hX dX5_tally_48 3 rfl ?_
  refine z_icmp_ge hX 78 dX5_tally_50 (by decide) (fun c0 => ?_) (fun c0 => ?_)
  · replace h := h.1 c0
    refine z_iconst (v := 0) hX dX5_tally_78 (by decide) ?_
    refine z_istore hX dX5_tally_79 (by decide) [(5, .int (0 : Int32)), (0, .ref (X.1.2.1 5)), (2, .int x2), (3, .ref (X.1.2.1 25)), (4, .int x4)] rfl ?_
    exact z_sub [1, 2, 3, 4, 0] rfl h
  · replace h := h.2 c0
    refine z_aload_n hX dX5_tally_53 rfl 0 rfl ?_
    refine gfX5_25 hX dX5_tally_54 ?_
    refine z_iload hX dX5_tally_57 4 rfl ?_
    refine z_aload_n hX dX5_tally_59 rfl 2 rfl ?_
    refine z_iload hX dX5_tally_60 4 rfl ?_
    refine z_iald hX 25 rfl h.1 dX5_tally_62 ?_
    replace h := h.2
    refine z_iload hX dX5_tally_63 4 rfl ?_
    refine z_iconst (v := -1) hX dX5_tally_65 (by decide) ?_
    refine z_ixor hX dX5_tally_66 ?_
    refine z_iand hX dX5_tally_67 ?_
    obtain ⟨r1, c9, h⟩ := h
    refine mcX5_40 hX dX5_tally_68 (by decide) (Nat.le_of_ble_eq_true rfl) c9 ?_
    refine z_iastM hX 29 rfl h.1 dX5_tally_71 (fun M2 eM2 => ?_)
    replace h := h.2 M2 eM2
    refine z_iinc (v := x5 + (1 : Int32)) hX dX5_tally_72 4 rfl rfl (by decide) [(5, .int (x5 + (1 : Int32))), (0, .ref (X.1.2.1 5)), (2, .int x2), (3, .ref (X.1.2.1 25)), (4, .int x4)] rfl ?_
    refine z_goto hX 46 dX5_tally_75 (by decide) ?_
    exact z_sub [1, 2, 3, 4, 0] rfl h
set_option maxRecDepth 100000 in
set_option maxHeartbeats 4000000 in
theorem BX5_tally_81 {X : XT} {Q : Option Value → Mem → Prop} (hX : KX5_tally X) {x2 x4 x5 : Int32} {M : Mem} (h : ((x4 ≤ x5 → Q none M) ∧ (¬ x4 ≤ x5 → LX5_tally_98 X Q x2 x4 x5 x5 (0 : Int32) (0 : Int32) M))) : LX5_tally_81 X Q x2 x4 x5 M := by
  show Z SX X 4 9 Q 81 [(0, .ref (X.1.2.1 5)), (2, .int x2), (3, .ref (X.1.2.1 25)), (4, .int x4), (5, .int x5)] [] M
  refine z_iload hX dX5_tally_81 4 rfl ?_
  refine z_iload hX dX5_tally_83 3 rfl ?_
  refine z_icmp_ge hX 145 dX5_tally_85 (by decide) (fun c0 => ?_) (fun c0 => ?_)
  · replace h := h.1 c0
    exact z_vret hX dX5_tally_145 h
  · replace h := h.2 c0
    refine z_iload hX dX5_tally_88 4 rfl ?_
    refine z_istore hX dX5_tally_90 (by decide) [(6, .int x5), (0, .ref (X.1.2.1 5)), (2, .int x2), (3, .ref (X.1.2.1 25)), (4, .int x4), (5, .int x5)] rfl ?_
    refine z_iconst (v := 0) hX dX5_tally_92 (by decide) ?_
    refine z_istore hX dX5_tally_93 (by decide) [(7, .int (0 : Int32)), (6, .int x5), (0, .ref (X.1.2.1 5)), (2, .int x2), (3, .ref (X.1.2.1 25)), (4, .int x4), (5, .int x5)] rfl ?_
    refine z_iconst (v := 0) hX dX5_tally_95 (by decide) ?_
    refine z_istore hX dX5_tally_96 (by decide) [(8, .int (0 : Int32)), (7, .int (0 : Int32)), (6, .int x5), (0, .ref (X.1.2.1 5)), (2, .int x2), (3, .ref (X.1.2.1 25)), (4, .int x4), (5, .int x5)] rfl ?_
    exact z_sub [3, 4, 5, 6, 7, 2, 1, 0] rfl h
set_option maxRecDepth 100000 in
set_option maxHeartbeats 4000000 in
theorem BX5_tally_98 {X : XT} {Q : Option Value → Mem → Prop} (hX : KX5_tally X) {x2 x4 x5 x6 x7 x8 : Int32} {M : Mem} (h : ((x2 ≤ x8 → (vp_in x7 1024 ∧ (vp_in x7 1024 ∧ (∀ M1 : Mem, M1 = z_st M 30 x7.toNatClampNeg ((M.1 30 x7.toNatClampNeg) + (1 : Int32)) → LX5_tally_81 X Q x2 x4 (x5 + (1 : Int32)) M1)))) ∧ (¬ x2 ≤ x8 → (vp_in x6 1024 ∧ (vp_in x6 1024 ∧ LX5_tally_98 X Q x2 x4 x5 (M.1 25 x6.toNatClampNeg) (x7 + (M.1 29 x6.toNatClampNeg)) (x8 + (1 : Int32)) M))))) : LX5_tally_98 X Q x2 x4 x5 x6 x7 x8 M := by
  show Z SX X 4 9 Q 98 [(0, .ref (X.1.2.1 5)), (2, .int x2), (3, .ref (X.1.2.1 25)), (4, .int x4), (5, .int x5), (6, .int x6), (7, .int x7), (8, .int x8)] [] M
  refine z_iload hX dX5_tally_98 7 rfl ?_
  refine z_iload_n hX dX5_tally_100 rfl 1 rfl ?_
  refine z_icmp_ge hX 128 dX5_tally_101 (by decide) (fun c0 => ?_) (fun c0 => ?_)
  · replace h := h.1 c0
    refine z_aload_n hX dX5_tally_128 rfl 0 rfl ?_
    refine gfX5_31 hX dX5_tally_129 ?_
    refine z_iload hX dX5_tally_132 6 rfl ?_
    refine z_dup2 hX dX5_tally_134 rfl rfl ?_
    refine z_iald hX 30 rfl h.1 dX5_tally_135 ?_
    replace h := h.2
    refine z_iconst (v := 1) hX dX5_tally_136 (by decide) ?_
    refine z_iadd hX dX5_tally_137 ?_
    refine z_iastM hX 30 rfl h.1 dX5_tally_138 (fun M1 eM1 => ?_)
    replace h := h.2 M1 eM1
    refine z_iinc (v := x5 + (1 : Int32)) hX dX5_tally_139 4 rfl rfl (by decide) [(5, .int (x5 + (1 : Int32))), (0, .ref (X.1.2.1 5)), (2, .int x2), (3, .ref (X.1.2.1 25)), (4, .int x4), (6, .int x6), (7, .int x7), (8, .int x8)] rfl ?_
    refine z_goto hX 81 dX5_tally_142 (by decide) ?_
    exact z_sub [1, 2, 3, 4, 0] rfl h
  · replace h := h.2 c0
    refine z_iload hX dX5_tally_104 6 rfl ?_
    refine z_aload_n hX dX5_tally_106 rfl 0 rfl ?_
    refine gfX5_25 hX dX5_tally_107 ?_
    refine z_iload hX dX5_tally_110 5 rfl ?_
    refine z_iald hX 29 rfl h.1 dX5_tally_112 ?_
    replace h := h.2
    refine z_iadd hX dX5_tally_113 ?_
    refine z_istore hX dX5_tally_114 (by decide) [(7, .int (x7 + (M.1 29 x6.toNatClampNeg))), (0, .ref (X.1.2.1 5)), (2, .int x2), (3, .ref (X.1.2.1 25)), (4, .int x4), (5, .int x5), (6, .int x6), (8, .int x8)] rfl ?_
    refine z_aload_n hX dX5_tally_116 rfl 3 rfl ?_
    refine z_iload hX dX5_tally_117 6 rfl ?_
    refine z_iald hX 25 rfl h.1 dX5_tally_119 ?_
    replace h := h.2
    refine z_istore hX dX5_tally_120 (by decide) [(6, .int (M.1 25 x6.toNatClampNeg)), (7, .int (x7 + (M.1 29 x6.toNatClampNeg))), (0, .ref (X.1.2.1 5)), (2, .int x2), (3, .ref (X.1.2.1 25)), (4, .int x4), (5, .int x5), (8, .int x8)] rfl ?_
    refine z_iinc (v := x8 + (1 : Int32)) hX dX5_tally_122 7 rfl rfl (by decide) [(8, .int (x8 + (1 : Int32))), (6, .int (M.1 25 x6.toNatClampNeg)), (7, .int (x7 + (M.1 29 x6.toNatClampNeg))), (0, .ref (X.1.2.1 5)), (2, .int x2), (3, .ref (X.1.2.1 25)), (4, .int x4), (5, .int x5)] rfl ?_
    refine z_goto hX 98 dX5_tally_125 (by decide) ?_
    exact z_sub [3, 4, 5, 6, 7, 1, 2, 0] rfl h
