abbrev LX1_isDefined_15 (X : XT) (Q : Option Value → Mem → Prop) (x1 : Int32) (M : Mem) : Prop := Z SX X 2 3 Q 15 [(0, .ref (X.1.2.1 1)), (1, .int x1)] [] M
abbrev LX1_isDefined_28 (X : XT) (Q : Option Value → Mem → Prop) (x1 : Int32) (x2 : Int32) (M : Mem) : Prop := Z SX X 2 3 Q 28 [(0, .ref (X.1.2.1 1)), (1, .int x1), (2, .int x2)] [] M
set_option maxRecDepth 100000 in
set_option maxHeartbeats 4000000 in
theorem EX1_isDefined {E : ET} {Q : Option Value → Mem → Prop} {M : Mem} (h : ∀ X : XT, X.1 = E → KX1_isDefined X → (∃ (r1 : Int32), CX7_countKind X.1 [.ref (X.1.2.1 7), .int (3 : Int32)] M (z_is (some (.int r1)) M) ∧ ((r1 ≤ 0 → LX1_isDefined_15 X Q (0 : Int32) M) ∧ (¬ r1 ≤ 0 → Q (some (.int 0)) M)))) : CX1_isDefined E [.ref (E.2.1 1)] M Q := by
  refine z_entry (by decide +kernel) (Nat.le_of_ble_eq_true rfl) (fun X hE hX => ?_)
  subst hE
  replace h := h X rfl hX
  show Z SX X 2 3 Q 0 [(0, .ref (X.1.2.1 1))] [] M
  refine z_aload_n hX dX1_isDefined_0 rfl 0 rfl ?_
  refine gfX1_9 hX dX1_isDefined_1 ?_
  refine z_iconst (v := 3) hX dX1_isDefined_4 (by decide) ?_
  obtain ⟨r1, c9, h⟩ := h
  refine mcX1_15 hX dX1_isDefined_5 (by decide) (Nat.le_of_ble_eq_true rfl) c9 ?_
  refine z_if_le hX 13 dX1_isDefined_8 (by decide) (fun c0 => ?_) (fun c0 => ?_)
  · replace h := h.1 c0
    refine z_iconst (v := 0) hX dX1_isDefined_13 (by decide) ?_
    refine z_istore_n hX dX1_isDefined_14 rfl (by decide) [(1, .int (0 : Int32)), (0, .ref (X.1.2.1 1))] rfl ?_
    exact z_sub [1, 0] rfl h
  · replace h := h.2 c0
    refine z_iconst (v := 0) hX dX1_isDefined_11 (by decide) ?_
    exact z_zret hX dX1_isDefined_12 (Or.inl rfl) h
set_option maxRecDepth 100000 in
set_option maxHeartbeats 4000000 in
theorem BX1_isDefined_15 {X : XT} {Q : Option Value → Mem → Prop} (hX : KX1_isDefined X) {x1 : Int32} {M : Mem} (h : ∃ (r1 : Int32), CX7_size X.1 [.ref (X.1.2.1 7)] M (z_is (some (.int r1)) M) ∧ ((r1 ≤ x1 → Q (some (.int 1)) M) ∧ (¬ r1 ≤ x1 → LX1_isDefined_28 X Q x1 (0 : Int32) M))) : LX1_isDefined_15 X Q x1 M := by
  show Z SX X 2 3 Q 15 [(0, .ref (X.1.2.1 1)), (1, .int x1)] [] M
  refine z_iload_n hX dX1_isDefined_15 rfl 1 rfl ?_
  refine z_aload_n hX dX1_isDefined_16 rfl 0 rfl ?_
  refine gfX1_9 hX dX1_isDefined_17 ?_
  obtain ⟨r1, c9, h⟩ := h
  refine mcX1_21 hX dX1_isDefined_20 (by decide) (Nat.le_of_ble_eq_true rfl) c9 ?_
  refine z_icmp_ge hX 56 dX1_isDefined_23 (by decide) (fun c0 => ?_) (fun c0 => ?_)
  · replace h := h.1 c0
    refine z_iconst (v := 1) hX dX1_isDefined_56 (by decide) ?_
    exact z_zret hX dX1_isDefined_57 (Or.inr rfl) h
  · replace h := h.2 c0
    refine z_iconst (v := 0) hX dX1_isDefined_26 (by decide) ?_
    refine z_istore_n hX dX1_isDefined_27 rfl (by decide) [(2, .int (0 : Int32)), (0, .ref (X.1.2.1 1)), (1, .int x1)] rfl ?_
    exact z_sub [1, 2, 0] rfl h
set_option maxRecDepth 100000 in
set_option maxHeartbeats 4000000 in
theorem BX1_isDefined_28 {X : XT} {Q : Option Value → Mem → Prop} (hX : KX1_isDefined X) {x1 x2 : Int32} {M : Mem} (h : ((x1 ≤ x2 → LX1_isDefined_15 X Q (x1 + (1 : Int32)) M) ∧ (¬ x1 ≤ x2 → (∃ (r1 : Int32), CX1_isEvenPair X.1 [.ref (X.1.2.1 1), .int x1, .int x2] M (z_is (some (.int r1)) M) ∧ ((¬ r1 = 0 → LX1_isDefined_28 X Q x1 (x2 + (1 : Int32)) M) ∧ (r1 = 0 → Q (some (.int 0)) M)))))) : LX1_isDefined_28 X Q x1 x2 M := by
  show Z SX X 2 3 Q 28 [(0, .ref (X.1.2.1 1)), (1, .int x1), (2, .int x2)] [] M
  refine z_iload_n hX dX1_isDefined_28 rfl 2 rfl ?_
  refine z_iload_n hX dX1_isDefined_29 rfl 1 rfl ?_
  refine z_icmp_ge hX 50 dX1_isDefined_30 (by decide) (fun c0 => ?_) (fun c0 => ?_)
  · replace h := h.1 c0
    refine z_iinc (v := x1 + (1 : Int32)) hX dX1_isDefined_50 1 rfl rfl (by decide) [(1, .int (x1 + (1 : Int32))), (0, .ref (X.1.2.1 1)), (2, .int x2)] rfl ?_
    refine z_goto hX 15 dX1_isDefined_53 (by decide) ?_
    exact z_sub [1, 0] rfl h
  · replace h := h.2 c0
    refine z_aload_n hX dX1_isDefined_33 rfl 0 rfl ?_
    refine z_iload_n hX dX1_isDefined_34 rfl 1 rfl ?_
    refine z_iload_n hX dX1_isDefined_35 rfl 2 rfl ?_
    obtain ⟨r1, c9, h⟩ := h
    refine mcX1_25 hX dX1_isDefined_36 (by decide) (Nat.le_of_ble_eq_true rfl) c9 ?_
    refine z_if_ne hX 44 dX1_isDefined_39 (by decide) (fun c0 => ?_) (fun c0 => ?_)
    · replace h := h.1 c0
      refine z_iinc (v := x2 + (1 : Int32)) hX dX1_isDefined_44 2 rfl rfl (by decide) [(2, .int (x2 + (1 : Int32))), (0, .ref (X.1.2.1 1)), (1, .int x1)] rfl ?_
      refine z_goto hX 28 dX1_isDefined_47 (by decide) ?_
      exact z_sub [1, 2, 0] rfl h
    · replace h := h.2 c0
      refine z_iconst (v := 0) hX dX1_isDefined_42 (by decide) ?_
      exact z_zret hX dX1_isDefined_43 (Or.inl rfl) h
set_option maxRecDepth 100000 in
set_option maxHeartbeats 4000000 in
theorem EX1_isEvenPair {E : ET} {Q : Option Value → Mem → Prop} {x1 x2 : Int32} {M : Mem} (h : ∃ (r1 : Int32), CX7_weight E [.ref (E.2.1 7), .int x1, .int x2] M (z_is (some (.int r1)) M) ∧ (∃ (r2 : Int32), CX7_weight E [.ref (E.2.1 7), .int x2, .int x1] M (z_is (some (.int r2)) M) ∧ ((r1 = r2 → ((¬ r1 = 0 → (∃ (r3 : Int32), CX7_kind E [.ref (E.2.1 7), .int x1] M (z_is (some (.int r3)) M) ∧ (∃ (r4 : Int32), CX7_kind E [.ref (E.2.1 7), .int x2] M (z_is (some (.int r4)) M) ∧ ((¬ r3 = (1 : Int32) → ((¬ r3 = 0 → ((¬ (0 : Int32) = 0 → Q (some (.int 0)) M) ∧ ((0 : Int32) = 0 → Q (some (.int 1)) M))) ∧ (r3 = 0 → ((¬ r4 = (1 : Int32) → ((¬ (0 : Int32) = 0 → Q (some (.int 0)) M) ∧ ((0 : Int32) = 0 → Q (some (.int 1)) M))) ∧ (r4 = (1 : Int32) → ((¬ (1 : Int32) = 0 → Q (some (.int 0)) M) ∧ ((1 : Int32) = 0 → Q (some (.int 1)) M))))))) ∧ (r3 = (1 : Int32) → ((r4 = 0 → ((¬ (1 : Int32) = 0 → Q (some (.int 0)) M) ∧ ((1 : Int32) = 0 → Q (some (.int 1)) M))) ∧ (¬ r4 = 0 → ((¬ r3 = 0 → ((¬ (0 : Int32) = 0 → Q (some (.int 0)) M) ∧ ((0 : Int32) = 0 → Q (some (.int 1)) M))) ∧ (r3 = 0 → ((¬ r4 = (1 : Int32) → ((¬ (0 : Int32) = 0 → Q (some (.int 0)) M) ∧ ((0 : Int32) = 0 → Q (some (.int 1)) M))) ∧ (r4 = (1 : Int32) → ((¬ (1 : Int32) = 0 → Q (some (.int 0)) M) ∧ ((1 : Int32) = 0 → Q (some (.int 1)) M))))))))))))) ∧ (r1 = 0 → Q (some (.int 1)) M))) ∧ (¬ r1 = r2 → Q (some (.int 0)) M)))) : CX1_isEvenPair E [.ref (E.2.1 1), .int x1, .int x2] M Q := by
  refine z_entry (by decide +kernel) (Nat.le_of_ble_eq_true rfl) (fun X hE hX => ?_)
  subst hE
  show Z SX X 1 7 Q 0 [(0, .ref (X.1.2.1 1)), (1, .int x1), (2, .int x2)] [] M
  refine z_aload_n hX dX1_isEvenPair_0 rfl 0 rfl ?_
  refine gfX1_9 hX dX1_isEvenPair_1 ?_
  refine z_iload_n hX dX1_isEvenPair_4 rfl 1 rfl ?_
  refine z_iload_n hX dX1_isEvenPair_5 rfl 2 rfl ?_
  obtain ⟨r1, c9, h⟩ := h
  refine mcX1_29 hX dX1_isEvenPair_6 (by decide) (Nat.le_of_ble_eq_true rfl) c9 ?_
  refine z_istore_n hX dX1_isEvenPair_9 rfl (by decide) [(3, .int r1), (0, .ref (X.1.2.1 1)), (1, .int x1), (2, .int x2)] rfl ?_
  refine z_iload_n hX dX1_isEvenPair_10 rfl 0 rfl ?_
  refine z_aload_n hX dX1_isEvenPair_11 rfl 1 rfl ?_
  refine gfX1_9 hX dX1_isEvenPair_12 ?_
  refine z_iload_n hX dX1_isEvenPair_15 rfl 3 rfl ?_
  refine z_iload_n hX dX1_isEvenPair_16 rfl 2 rfl ?_
  obtain ⟨r2, c9, h⟩ := h
  refine mcX1_29 hX dX1_isEvenPair_17 (by decide) (Nat.le_of_ble_eq_true rfl) c9 ?_
  refine z_icmp_eq hX 25 dX1_isEvenPair_20 (by decide) (fun c0 => ?_) (fun c0 => ?_)
  · replace h := h.1 c0
    refine z_iload_n hX dX1_isEvenPair_25 rfl 0 rfl ?_
    refine z_if_ne hX 31 dX1_isEvenPair_26 (by decide) (fun c0 => ?_) (fun c0 => ?_)
    · replace h := h.1 c0
      refine z_aload_n hX dX1_isEvenPair_31 rfl 1 rfl ?_
      refine gfX1_9 hX dX1_isEvenPair_32 ?_
      refine z_iload_n hX dX1_isEvenPair_35 rfl 2 rfl ?_
      obtain ⟨r3, c9, h⟩ := h
      refine mcX1_33 hX dX1_isEvenPair_36 (by decide) (Nat.le_of_ble_eq_true rfl) c9 ?_
      refine z_istore hX dX1_isEvenPair_39 (by decide) [(4, .int r3), (3, .int r1), (0, .ref (X.1.2.1 1)), (1, .int x1), (2, .int x2)] rfl ?_
      refine z_aload_n hX dX1_isEvenPair_41 rfl 2 rfl ?_
      refine gfX1_9 hX dX1_isEvenPair_42 ?_
      refine z_iload_n hX dX1_isEvenPair_45 rfl 4 rfl ?_
      obtain ⟨r4, c9, h⟩ := h
      refine mcX1_33 hX dX1_isEvenPair_46 (by decide) (Nat.le_of_ble_eq_true rfl) c9 ?_
      refine z_istore hX dX1_isEvenPair_49 (by decide) [(5, .int r4), (4, .int r3), (3, .int r1), (0, .ref (X.1.2.1 1)), (1, .int x1), (2, .int x2)] rfl ?_
      refine z_iload hX dX1_isEvenPair_51 1 rfl ?_
      refine z_iconst (v := 1) hX dX1_isEvenPair_53 (by decide) ?_
      refine z_icmp_ne hX 62 dX1_isEvenPair_54 (by decide) (fun c0 => ?_) (fun c0 => ?_)
      · replace h := h.1 c0
        refine z_iload hX dX1_isEvenPair_62 1 rfl ?_
        refine z_if_ne hX 77 dX1_isEvenPair_64 (by decide) (fun c0 => ?_) (fun c0 => ?_)
        · replace h := h.1 c0
          refine z_iconst (v := 0) hX dX1_isEvenPair_77 (by decide) ?_
          refine z_istore hX dX1_isEvenPair_78 (by decide) [(6, .int (0 : Int32)), (5, .int r4), (4, .int r3), (3, .int r1), (0, .ref (X.1.2.1 1)), (1, .int x1), (2, .int x2)] rfl ?_
          refine z_iload hX dX1_isEvenPair_80 0 rfl ?_
          refine z_if_ne hX 89 dX1_isEvenPair_82 (by decide) (fun c0 => ?_) (fun c0 => ?_)
          · replace h := h.1 c0
            refine z_iconst (v := 0) hX dX1_isEvenPair_89 (by decide) ?_
            exact z_zret hX dX1_isEvenPair_90 (Or.inl rfl) h
          · replace h := h.2 c0
            refine z_iconst (v := 1) hX dX1_isEvenPair_85 (by decide) ?_
            refine z_goto hX 90 dX1_isEvenPair_86 (by decide) ?_
            exact z_zret hX dX1_isEvenPair_90 (Or.inr rfl) h
        · replace h := h.2 c0
          refine z_iload hX dX1_isEvenPair_67 0 rfl ?_
          refine z_iconst (v := 1) hX dX1_isEvenPair_69 (by decide) ?_
          refine z_icmp_ne hX 77 dX1_isEvenPair_70 (by decide) (fun c0 => ?_) (fun c0 => ?_)
          · replace h := h.1 c0
            refine z_iconst (v := 0) hX dX1_isEvenPair_77 (by decide) ?_
            refine z_istore hX dX1_isEvenPair_78 (by decide) [(6, .int (0 : Int32)), (5, .int r4), (4, .int r3), (3, .int r1), (0, .ref (X.1.2.1 1)), (1, .int x1), (2, .int x2)] rfl ?_
            refine z_iload hX dX1_isEvenPair_80 0 rfl ?_
            refine z_if_ne hX 89 dX1_isEvenPair_82 (by decide) (fun c0 => ?_) (fun c0 => ?_)
            · replace h := h.1 c0
              refine z_iconst (v := 0) hX dX1_isEvenPair_89 (by decide) ?_
              exact z_zret hX dX1_isEvenPair_90 (Or.inl rfl) h
            · replace h := h.2 c0
              refine z_iconst (v := 1) hX dX1_isEvenPair_85 (by decide) ?_
              refine z_goto hX 90 dX1_isEvenPair_86 (by decide) ?_
              exact z_zret hX dX1_isEvenPair_90 (Or.inr rfl) h
          · replace h := h.2 c0
            refine z_iconst (v := 1) hX dX1_isEvenPair_73 (by decide) ?_
            refine z_goto hX 78 dX1_isEvenPair_74 (by decide) ?_
            refine z_istore hX dX1_isEvenPair_78 (by decide) [(6, .int (1 : Int32)), (5, .int r4), (4, .int r3), (3, .int r1), (0, .ref (X.1.2.1 1)), (1, .int x1), (2, .int x2)] rfl ?_
            refine z_iload hX dX1_isEvenPair_80 0 rfl ?_
            refine z_if_ne hX 89 dX1_isEvenPair_82 (by decide) (fun c0 => ?_) (fun c0 => ?_)
            · replace h := h.1 c0
              refine z_iconst (v := 0) hX dX1_isEvenPair_89 (by decide) ?_
              exact z_zret hX dX1_isEvenPair_90 (Or.inl rfl) h
            · replace h := h.2 c0
              refine z_iconst (v := 1) hX dX1_isEvenPair_85 (by decide) ?_
              refine z_goto hX 90 dX1_isEvenPair_86 (by decide) ?_
              exact z_zret hX dX1_isEvenPair_90 (Or.inr rfl) h
      · replace h := h.2 c0
        refine z_iload hX dX1_isEvenPair_57 0 rfl ?_
        refine z_if_eq hX 73 dX1_isEvenPair_59 (by decide) (fun c0 => ?_) (fun c0 => ?_)
        · replace h := h.1 c0
          refine z_iconst (v := 1) hX dX1_isEvenPair_73 (by decide) ?_
          refine z_goto hX 78 dX1_isEvenPair_74 (by decide) ?_
          refine z_istore hX dX1_isEvenPair_78 (by decide) [(6, .int (1 : Int32)), (5, .int r4), (4, .int r3), (3, .int r1), (0, .ref (X.1.2.1 1)), (1, .int x1), (2, .int x2)] rfl ?_
          refine z_iload hX dX1_isEvenPair_80 0 rfl ?_
          refine z_if_ne hX 89 dX1_isEvenPair_82 (by decide) (fun c0 => ?_) (fun c0 => ?_)
          · replace h := h.1 c0
            refine z_iconst (v := 0) hX dX1_isEvenPair_89 (by decide) ?_
            exact z_zret hX dX1_isEvenPair_90 (Or.inl rfl) h
          · replace h := h.2 c0
            refine z_iconst (v := 1) hX dX1_isEvenPair_85 (by decide) ?_
            refine z_goto hX 90 dX1_isEvenPair_86 (by decide) ?_
            exact z_zret hX dX1_isEvenPair_90 (Or.inr rfl) h
        · replace h := h.2 c0
          refine z_iload hX dX1_isEvenPair_62 1 rfl ?_
          refine z_if_ne hX 77 dX1_isEvenPair_64 (by decide) (fun c0 => ?_) (fun c0 => ?_)
          · replace h := h.1 c0
            refine z_iconst (v := 0) hX dX1_isEvenPair_77 (by decide) ?_
            refine z_istore hX dX1_isEvenPair_78 (by decide) [(6, .int (0 : Int32)), (5, .int r4), (4, .int r3), (3, .int r1), (0, .ref (X.1.2.1 1)), (1, .int x1), (2, .int x2)] rfl ?_
            refine z_iload hX dX1_isEvenPair_80 0 rfl ?_
            refine z_if_ne hX 89 dX1_isEvenPair_82 (by decide) (fun c0 => ?_) (fun c0 => ?_)
            · replace h := h.1 c0
              refine z_iconst (v := 0) hX dX1_isEvenPair_89 (by decide) ?_
              exact z_zret hX dX1_isEvenPair_90 (Or.inl rfl) h
            · replace h := h.2 c0
              refine z_iconst (v := 1) hX dX1_isEvenPair_85 (by decide) ?_
              refine z_goto hX 90 dX1_isEvenPair_86 (by decide) ?_
              exact z_zret hX dX1_isEvenPair_90 (Or.inr rfl) h
          · replace h := h.2 c0
            refine z_iload hX dX1_isEvenPair_67 0 rfl ?_
            refine z_iconst (v := 1) hX dX1_isEvenPair_69 (by decide) ?_
            refine z_icmp_ne hX 77 dX1_isEvenPair_70 (by decide) (fun c0 => ?_) (fun c0 => ?_)
            · replace h := h.1 c0
              refine z_iconst (v := 0) hX dX1_isEvenPair_77 (by decide) ?_
              refine z_istore hX dX1_isEvenPair_78 (by decide) [(6, .int (0 : Int32)), (5, .int r4), (4, .int r3), (3, .int r1), (0, .ref (X.1.2.1 1)), (1, .int x1), (2, .int x2)] rfl ?_
              refine z_iload hX dX1_isEvenPair_80 0 rfl ?_
              refine z_if_ne hX 89 dX1_isEvenPair_82 (by decide) (fun c0 => ?_) (fun c0 => ?_)
              · replace h := h.1 c0
                refine z_iconst (v := 0) hX dX1_isEvenPair_89 (by decide) ?_
                exact z_zret hX dX1_isEvenPair_90 (Or.inl rfl) h
              · replace h := h.2 c0
                refine z_iconst (v := 1) hX dX1_isEvenPair_85 (by decide) ?_
                refine z_goto hX 90 dX1_isEvenPair_86 (by decide) ?_
                exact z_zret hX dX1_isEvenPair_90 (Or.inr rfl) h
            · replace h := h.2 c0
              refine z_iconst (v := 1) hX dX1_isEvenPair_73 (by decide) ?_
              refine z_goto hX 78 dX1_isEvenPair_74 (by decide) ?_
              refine z_istore hX dX1_isEvenPair_78 (by decide) [(6, .int (1 : Int32)), (5, .int r4), (4, .int r3), (3, .int r1), (0, .ref (X.1.2.1 1)), (1, .int x1), (2, .int x2)] rfl ?_
              refine z_iload hX dX1_isEvenPair_80 0 rfl ?_
              refine z_if_ne hX 89 dX1_isEvenPair_82 (by decide) (fun c0 => ?_) (fun c0 => ?_)
              · replace h := h.1 c0
                refine z_iconst (v := 0) hX dX1_isEvenPair_89 (by decide) ?_
                exact z_zret hX dX1_isEvenPair_90 (Or.inl rfl) h
              · replace h := h.2 c0
                refine z_iconst (v := 1) hX dX1_isEvenPair_85 (by decide) ?_
                refine z_goto hX 90 dX1_isEvenPair_86 (by decide) ?_
                exact z_zret hX dX1_isEvenPair_90 (Or.inr rfl) h
    · replace h := h.2 c0
      refine z_iconst (v := 1) hX dX1_isEvenPair_29 (by decide) ?_
      exact z_zret hX dX1_isEvenPair_30 (Or.inr rfl) h
  · replace h := h.2 c0
    refine z_iconst (v := 0) hX dX1_isEvenPair_23 (by decide) ?_
    exact z_zret hX dX1_isEvenPair_24 (Or.inl rfl) h
abbrev LX1_of_4 (X : XT) (Q : Option Value → Mem → Prop) (x1 : Int32) (x2 : Int32) (x3 : Int32) (M : Mem) : Prop := Z SX X 2 5 Q 4 [(0, .ref (X.1.2.1 1)), (1, .int x1), (2, .int x2), (3, .int x3)] [] M
abbrev LX1_of_27 (X : XT) (Q : Option Value → Mem → Prop) (x1 : Int32) (x2 : Int32) (x3 : Int32) (x4 : Int32) (M : Mem) : Prop := Z SX X 2 5 Q 27 [(0, .ref (X.1.2.1 1)), (1, .int x1), (2, .int x2), (3, .int x3), (4, .int x4)] [] M
set_option maxRecDepth 100000 in
set_option maxHeartbeats 4000000 in
theorem EX1_of {E : ET} {Q : Option Value → Mem → Prop} {x1 : Int32} {M : Mem} (h : ∀ X : XT, X.1 = E → KX1_of X → LX1_of_4 X Q x1 (0 : Int32) (0 : Int32) M) : CX1_of E [.ref (E.2.1 1), .int x1] M Q := by
  refine z_entry (by decide +kernel) (Nat.le_of_ble_eq_true rfl) (fun X hE hX => ?_)
  subst hE
  replace h := h X rfl hX
  show Z SX X 2 5 Q 0 [(0, .ref (X.1.2.1 1)), (1, .int x1)] [] M
  refine z_iconst (v := 0) hX dX1_of_0 (by decide) ?_
  refine z_istore_n hX dX1_of_1 rfl (by decide) [(2, .int (0 : Int32)), (0, .ref (X.1.2.1 1)), (1, .int x1)] rfl ?_
  refine z_iconst (v := 0) hX dX1_of_2 (by decide) ?_
  refine z_istore_n hX dX1_of_3 rfl (by decide) [(3, .int (0 : Int32)), (2, .int (0 : Int32)), (0, .ref (X.1.2.1 1)), (1, .int x1)] rfl ?_
  exact z_sub [2, 3, 1, 0] rfl h
set_option maxRecDepth 100000 in
set_option maxHeartbeats 4000000 in
theorem BX1_of_4 {X : XT} {Q : Option Value → Mem → Prop} (hX : KX1_of X) {x1 x2 x3 : Int32} {M : Mem} (h : ∃ (r1 : Int32), CX7_size X.1 [.ref (X.1.2.1 7)] M (z_is (some (.int r1)) M) ∧ ((r1 ≤ x3 → Q (some (.int x2)) M) ∧ (¬ r1 ≤ x3 → (∃ (r2 : Int32), CX1_ofLean X.1 [.ref (X.1.2.1 1), .int x3, .int x1] M (z_is (some (.int r2)) M) ∧ LX1_of_27 X Q x1 (x2 + r2) x3 (0 : Int32) M)))) : LX1_of_4 X Q x1 x2 x3 M := by
  show Z SX X 2 5 Q 4 [(0, .ref (X.1.2.1 1)), (1, .int x1), (2, .int x2), (3, .int x3)] [] M
  refine z_iload_n hX dX1_of_4 rfl 3 rfl ?_
  refine z_aload_n hX dX1_of_5 rfl 0 rfl ?_
  refine gfX1_9 hX dX1_of_6 ?_
  obtain ⟨r1, c9, h⟩ := h
  refine mcX1_21 hX dX1_of_9 (by decide) (Nat.le_of_ble_eq_true rfl) c9 ?_
  refine z_icmp_ge hX 56 dX1_of_12 (by decide) (fun c0 => ?_) (fun c0 => ?_)
  · replace h := h.1 c0
    refine z_iload_n hX dX1_of_56 rfl 2 rfl ?_
    exact z_iret hX dX1_of_57 h
  · replace h := h.2 c0
    refine z_iload_n hX dX1_of_15 rfl 2 rfl ?_
    refine z_aload_n hX dX1_of_16 rfl 0 rfl ?_
    refine z_iload_n hX dX1_of_17 rfl 3 rfl ?_
    refine z_iload_n hX dX1_of_18 rfl 1 rfl ?_
    obtain ⟨r2, c9, h⟩ := h
    refine mcX1_36 hX dX1_of_19 (by decide) (Nat.le_of_ble_eq_true rfl) c9 ?_
    refine z_iadd hX dX1_of_22 ?_
    refine z_istore_n hX dX1_of_23 rfl (by decide) [(2, .int (x2 + r2)), (0, .ref (X.1.2.1 1)), (1, .int x1), (3, .int x3)] rfl ?_
    refine z_iconst (v := 0) hX dX1_of_24 (by decide) ?_
    refine z_istore hX dX1_of_25 (by decide) [(4, .int (0 : Int32)), (2, .int (x2 + r2)), (0, .ref (X.1.2.1 1)), (1, .int x1), (3, .int x3)] rfl ?_
    exact z_sub [2, 3, 1, 4, 0] rfl h
set_option maxRecDepth 100000 in
set_option maxHeartbeats 4000000 in
theorem BX1_of_27 {X : XT} {Q : Option Value → Mem → Prop} (hX : KX1_of X) {x1 x2 x3 x4 : Int32} {M : Mem} (h : ((x3 ≤ x4 → LX1_of_4 X Q x1 x2 (x3 + (1 : Int32)) M) ∧ (¬ x3 ≤ x4 → (∃ (r1 : Int32), CX1_ofPair X.1 [.ref (X.1.2.1 1), .int x3, .int x4, .int x1] M (z_is (some (.int r1)) M) ∧ LX1_of_27 X Q x1 (x2 + r1) x3 (x4 + (1 : Int32)) M)))) : LX1_of_27 X Q x1 x2 x3 x4 M := by
  show Z SX X 2 5 Q 27 [(0, .ref (X.1.2.1 1)), (1, .int x1), (2, .int x2), (3, .int x3), (4, .int x4)] [] M
  refine z_iload hX dX1_of_27 4 rfl ?_
  refine z_iload_n hX dX1_of_29 rfl 3 rfl ?_
  refine z_icmp_ge hX 50 dX1_of_30 (by decide) (fun c0 => ?_) (fun c0 => ?_)
  · replace h := h.1 c0
    refine z_iinc (v := x3 + (1 : Int32)) hX dX1_of_50 3 rfl rfl (by decide) [(3, .int (x3 + (1 : Int32))), (0, .ref (X.1.2.1 1)), (1, .int x1), (2, .int x2), (4, .int x4)] rfl ?_
    refine z_goto hX 4 dX1_of_53 (by decide) ?_
    exact z_sub [1, 2, 3, 0] rfl h
  · replace h := h.2 c0
    refine z_iload_n hX dX1_of_33 rfl 2 rfl ?_
    refine z_aload_n hX dX1_of_34 rfl 0 rfl ?_
    refine z_iload_n hX dX1_of_35 rfl 3 rfl ?_
    refine z_iload hX dX1_of_36 4 rfl ?_
    refine z_iload_n hX dX1_of_38 rfl 1 rfl ?_
    obtain ⟨r1, c9, h⟩ := h
    refine mcX1_39 hX dX1_of_39 (by decide) (Nat.le_of_ble_eq_true rfl) c9 ?_
    refine z_iadd hX dX1_of_42 ?_
    refine z_istore_n hX dX1_of_43 rfl (by decide) [(2, .int (x2 + r1)), (0, .ref (X.1.2.1 1)), (1, .int x1), (3, .int x3), (4, .int x4)] rfl ?_
    refine z_iinc (v := x4 + (1 : Int32)) hX dX1_of_44 4 rfl rfl (by decide) [(4, .int (x4 + (1 : Int32))), (2, .int (x2 + r1)), (0, .ref (X.1.2.1 1)), (1, .int x1), (3, .int x3)] rfl ?_
    refine z_goto hX 27 dX1_of_47 (by decide) ?_
    exact z_sub [2, 3, 1, 4, 0] rfl h
set_option maxRecDepth 100000 in
set_option maxHeartbeats 4000000 in
theorem EX1_ofPair {E : ET} {Q : Option Value → Mem → Prop} {x1 x2 x3 : Int32} {M : Mem} (h : ∃ (r1 : Int32), CX7_kind E [.ref (E.2.1 7), .int x1] M (z_is (some (.int r1)) M) ∧ (∃ (r2 : Int32), CX7_kind E [.ref (E.2.1 7), .int x2] M (z_is (some (.int r2)) M) ∧ ((¬ r1 = (2 : Int32) → (∃ (r3 : Int32), CX7_worn E [.int x3, .int x1] M (z_is (some (.int r3)) M) ∧ (∃ (r4 : Int32), CX7_worn E [.int x3, .int x2] M (z_is (some (.int r4)) M) ∧ ((¬ r3 = r4 → ((r1 = (1 : Int32) → (((0 : Int32) = (1 : Int32) → (∃ (r5 : Int32), CX7_weight E [.ref (E.2.1 7), .int x1, .int x2] M (z_is (some (.int r5)) M) ∧ Q (some (.int (-r5))) M)) ∧ (¬ (0 : Int32) = (1 : Int32) → (∃ (r6 : Int32), CX7_weight E [.ref (E.2.1 7), .int x1, .int x2] M (z_is (some (.int r6)) M) ∧ Q (some (.int r6)) M)))) ∧ (¬ r1 = (1 : Int32) → ((¬ r2 = (1 : Int32) → (((0 : Int32) = (0 : Int32) → (∃ (r7 : Int32), CX7_weight E [.ref (E.2.1 7), .int x1, .int x2] M (z_is (some (.int r7)) M) ∧ Q (some (.int (-r7))) M)) ∧ (¬ (0 : Int32) = (0 : Int32) → (∃ (r8 : Int32), CX7_weight E [.ref (E.2.1 7), .int x1, .int x2] M (z_is (some (.int r8)) M) ∧ Q (some (.int r8)) M)))) ∧ (r2 = (1 : Int32) → (((0 : Int32) = (1 : Int32) → (∃ (r9 : Int32), CX7_weight E [.ref (E.2.1 7), .int x1, .int x2] M (z_is (some (.int r9)) M) ∧ Q (some (.int (-r9))) M)) ∧ (¬ (0 : Int32) = (1 : Int32) → (∃ (r10 : Int32), CX7_weight E [.ref (E.2.1 7), .int x1, .int x2] M (z_is (some (.int r10)) M) ∧ Q (some (.int r10)) M)))))))) ∧ (r3 = r4 → ((r1 = (1 : Int32) → (((1 : Int32) = (1 : Int32) → (∃ (r11 : Int32), CX7_weight E [.ref (E.2.1 7), .int x1, .int x2] M (z_is (some (.int r11)) M) ∧ Q (some (.int (-r11))) M)) ∧ (¬ (1 : Int32) = (1 : Int32) → (∃ (r12 : Int32), CX7_weight E [.ref (E.2.1 7), .int x1, .int x2] M (z_is (some (.int r12)) M) ∧ Q (some (.int r12)) M)))) ∧ (¬ r1 = (1 : Int32) → ((¬ r2 = (1 : Int32) → (((1 : Int32) = (0 : Int32) → (∃ (r13 : Int32), CX7_weight E [.ref (E.2.1 7), .int x1, .int x2] M (z_is (some (.int r13)) M) ∧ Q (some (.int (-r13))) M)) ∧ (¬ (1 : Int32) = (0 : Int32) → (∃ (r14 : Int32), CX7_weight E [.ref (E.2.1 7), .int x1, .int x2] M (z_is (some (.int r14)) M) ∧ Q (some (.int r14)) M)))) ∧ (r2 = (1 : Int32) → (((1 : Int32) = (1 : Int32) → (∃ (r15 : Int32), CX7_weight E [.ref (E.2.1 7), .int x1, .int x2] M (z_is (some (.int r15)) M) ∧ Q (some (.int (-r15))) M)) ∧ (¬ (1 : Int32) = (1 : Int32) → (∃ (r16 : Int32), CX7_weight E [.ref (E.2.1 7), .int x1, .int x2] M (z_is (some (.int r16)) M) ∧ Q (some (.int r16)) M)))))))))))) ∧ (r1 = (2 : Int32) → ((¬ r2 = (2 : Int32) → (∃ (r17 : Int32), CX7_worn E [.int x3, .int x1] M (z_is (some (.int r17)) M) ∧ (∃ (r18 : Int32), CX7_worn E [.int x3, .int x2] M (z_is (some (.int r18)) M) ∧ ((¬ r17 = r18 → ((r1 = (1 : Int32) → (((0 : Int32) = (1 : Int32) → (∃ (r19 : Int32), CX7_weight E [.ref (E.2.1 7), .int x1, .int x2] M (z_is (some (.int r19)) M) ∧ Q (some (.int (-r19))) M)) ∧ (¬ (0 : Int32) = (1 : Int32) → (∃ (r20 : Int32), CX7_weight E [.ref (E.2.1 7), .int x1, .int x2] M (z_is (some (.int r20)) M) ∧ Q (some (.int r20)) M)))) ∧ (¬ r1 = (1 : Int32) → ((¬ r2 = (1 : Int32) → (((0 : Int32) = (0 : Int32) → (∃ (r21 : Int32), CX7_weight E [.ref (E.2.1 7), .int x1, .int x2] M (z_is (some (.int r21)) M) ∧ Q (some (.int (-r21))) M)) ∧ (¬ (0 : Int32) = (0 : Int32) → (∃ (r22 : Int32), CX7_weight E [.ref (E.2.1 7), .int x1, .int x2] M (z_is (some (.int r22)) M) ∧ Q (some (.int r22)) M)))) ∧ (r2 = (1 : Int32) → (((0 : Int32) = (1 : Int32) → (∃ (r23 : Int32), CX7_weight E [.ref (E.2.1 7), .int x1, .int x2] M (z_is (some (.int r23)) M) ∧ Q (some (.int (-r23))) M)) ∧ (¬ (0 : Int32) = (1 : Int32) → (∃ (r24 : Int32), CX7_weight E [.ref (E.2.1 7), .int x1, .int x2] M (z_is (some (.int r24)) M) ∧ Q (some (.int r24)) M)))))))) ∧ (r17 = r18 → ((r1 = (1 : Int32) → (((1 : Int32) = (1 : Int32) → (∃ (r25 : Int32), CX7_weight E [.ref (E.2.1 7), .int x1, .int x2] M (z_is (some (.int r25)) M) ∧ Q (some (.int (-r25))) M)) ∧ (¬ (1 : Int32) = (1 : Int32) → (∃ (r26 : Int32), CX7_weight E [.ref (E.2.1 7), .int x1, .int x2] M (z_is (some (.int r26)) M) ∧ Q (some (.int r26)) M)))) ∧ (¬ r1 = (1 : Int32) → ((¬ r2 = (1 : Int32) → (((1 : Int32) = (0 : Int32) → (∃ (r27 : Int32), CX7_weight E [.ref (E.2.1 7), .int x1, .int x2] M (z_is (some (.int r27)) M) ∧ Q (some (.int (-r27))) M)) ∧ (¬ (1 : Int32) = (0 : Int32) → (∃ (r28 : Int32), CX7_weight E [.ref (E.2.1 7), .int x1, .int x2] M (z_is (some (.int r28)) M) ∧ Q (some (.int r28)) M)))) ∧ (r2 = (1 : Int32) → (((1 : Int32) = (1 : Int32) → (∃ (r29 : Int32), CX7_weight E [.ref (E.2.1 7), .int x1, .int x2] M (z_is (some (.int r29)) M) ∧ Q (some (.int (-r29))) M)) ∧ (¬ (1 : Int32) = (1 : Int32) → (∃ (r30 : Int32), CX7_weight E [.ref (E.2.1 7), .int x1, .int x2] M (z_is (some (.int r30)) M) ∧ Q (some (.int r30)) M)))))))))))) ∧ (r2 = (2 : Int32) → Q (some (.int (0 : Int32))) M)))))) : CX1_ofPair E [.ref (E.2.1 1), .int x1, .int x2, .int x3] M Q := by
  refine z_entry (by decide +kernel) (Nat.le_of_ble_eq_true rfl) (fun X hE hX => ?_)
  subst hE
  show Z SX X 1 8 Q 0 [(0, .ref (X.1.2.1 1)), (1, .int x1), (2, .int x2), (3, .int x3)] [] M
  refine z_aload_n hX dX1_ofPair_0 rfl 0 rfl ?_
  refine gfX1_9 hX dX1_ofPair_1 ?_
  refine z_iload_n hX dX1_ofPair_4 rfl 1 rfl ?_
  obtain ⟨r1, c9, h⟩ := h
  refine mcX1_33 hX dX1_ofPair_5 (by decide) (Nat.le_of_ble_eq_true rfl) c9 ?_
  refine z_istore hX dX1_ofPair_8 (by decide) [(4, .int r1), (0, .ref (X.1.2.1 1)), (1, .int x1), (2, .int x2), (3, .int x3)] rfl ?_
  refine z_aload_n hX dX1_ofPair_10 rfl 1 rfl ?_
  refine gfX1_9 hX dX1_ofPair_11 ?_
  refine z_iload_n hX dX1_ofPair_14 rfl 3 rfl ?_
  obtain ⟨r2, c9, h⟩ := h
  refine mcX1_33 hX dX1_ofPair_15 (by decide) (Nat.le_of_ble_eq_true rfl) c9 ?_
  refine z_istore hX dX1_ofPair_18 (by decide) [(5, .int r2), (4, .int r1), (0, .ref (X.1.2.1 1)), (1, .int x1), (2, .int x2), (3, .int x3)] rfl ?_
  refine z_iload hX dX1_ofPair_20 1 rfl ?_
  refine z_iconst (v := 2) hX dX1_ofPair_22 (by decide) ?_
  refine z_icmp_ne hX 34 dX1_ofPair_23 (by decide) (fun c0 => ?_) (fun c0 => ?_)
  · replace h := h.1 c0
    refine z_iload_n hX dX1_ofPair_34 rfl 5 rfl ?_
    refine z_iload_n hX dX1_ofPair_35 rfl 3 rfl ?_
    obtain ⟨r3, c9, h⟩ := h
    refine mcX1_43 hX dX1_ofPair_36 (by decide) (Nat.le_of_ble_eq_true rfl) c9 ?_
    refine z_iload_n hX dX1_ofPair_39 rfl 5 rfl ?_
    refine z_iload_n hX dX1_ofPair_40 rfl 4 rfl ?_
    obtain ⟨r4, c9, h⟩ := h
    refine mcX1_43 hX dX1_ofPair_41 (by decide) (Nat.le_of_ble_eq_true rfl) c9 ?_
    refine z_icmp_ne hX 51 dX1_ofPair_44 (by decide) (fun c0 => ?_) (fun c0 => ?_)
    · replace h := h.1 c0
      refine z_iconst (v := 0) hX dX1_ofPair_51 (by decide) ?_
      refine z_istore hX dX1_ofPair_52 (by decide) [(6, .int (0 : Int32)), (5, .int r2), (4, .int r1), (0, .ref (X.1.2.1 1)), (1, .int x1), (2, .int x2), (3, .int x3)] rfl ?_
      refine z_iload hX dX1_ofPair_54 2 rfl ?_
      refine z_iconst (v := 1) hX dX1_ofPair_56 (by decide) ?_
      refine z_icmp_eq hX 66 dX1_ofPair_57 (by decide) (fun c0 => ?_) (fun c0 => ?_)
      · replace h := h.1 c0
        refine z_iconst (v := 1) hX dX1_ofPair_66 (by decide) ?_
        refine z_goto hX 71 dX1_ofPair_67 (by decide) ?_
        refine z_istore hX dX1_ofPair_71 (by decide) [(7, .int (1 : Int32)), (6, .int (0 : Int32)), (5, .int r2), (4, .int r1), (0, .ref (X.1.2.1 1)), (1, .int x1), (2, .int x2), (3, .int x3)] rfl ?_
        refine z_iload hX dX1_ofPair_73 1 rfl ?_
        refine z_iload hX dX1_ofPair_75 0 rfl ?_
        refine z_icmp_eq hX 92 dX1_ofPair_77 (by decide) (fun c0 => ?_) (fun c0 => ?_)
        · replace h := h.1 c0
          refine z_aload_n hX dX1_ofPair_92 rfl 4 rfl ?_
          refine gfX1_9 hX dX1_ofPair_93 ?_
          refine z_iload_n hX dX1_ofPair_96 rfl 5 rfl ?_
          refine z_iload_n hX dX1_ofPair_97 rfl 6 rfl ?_
          obtain ⟨r5, c9, h⟩ := h
          refine mcX1_29 hX dX1_ofPair_98 (by decide) (Nat.le_of_ble_eq_true rfl) c9 ?_
          refine z_ineg hX dX1_ofPair_101 ?_
          exact z_iret hX dX1_ofPair_102 h
        · replace h := h.2 c0
          refine z_aload_n hX dX1_ofPair_80 rfl 4 rfl ?_
          refine gfX1_9 hX dX1_ofPair_81 ?_
          refine z_iload_n hX dX1_ofPair_84 rfl 5 rfl ?_
          refine z_iload_n hX dX1_ofPair_85 rfl 6 rfl ?_
          obtain ⟨r6, c9, h⟩ := h
          refine mcX1_29 hX dX1_ofPair_86 (by decide) (Nat.le_of_ble_eq_true rfl) c9 ?_
          refine z_goto hX 102 dX1_ofPair_89 (by decide) ?_
          exact z_iret hX dX1_ofPair_102 h
      · replace h := h.2 c0
        refine z_iload hX dX1_ofPair_60 1 rfl ?_
        refine z_iconst (v := 1) hX dX1_ofPair_62 (by decide) ?_
        refine z_icmp_ne hX 70 dX1_ofPair_63 (by decide) (fun c0 => ?_) (fun c0 => ?_)
        · replace h := h.1 c0
          refine z_iconst (v := 0) hX dX1_ofPair_70 (by decide) ?_
          refine z_istore hX dX1_ofPair_71 (by decide) [(7, .int (0 : Int32)), (6, .int (0 : Int32)), (5, .int r2), (4, .int r1), (0, .ref (X.1.2.1 1)), (1, .int x1), (2, .int x2), (3, .int x3)] rfl ?_
          refine z_iload hX dX1_ofPair_73 1 rfl ?_
          refine z_iload hX dX1_ofPair_75 0 rfl ?_
          refine z_icmp_eq hX 92 dX1_ofPair_77 (by decide) (fun c0 => ?_) (fun c0 => ?_)
          · replace h := h.1 c0
            refine z_aload_n hX dX1_ofPair_92 rfl 4 rfl ?_
            refine gfX1_9 hX dX1_ofPair_93 ?_
            refine z_iload_n hX dX1_ofPair_96 rfl 5 rfl ?_
            refine z_iload_n hX dX1_ofPair_97 rfl 6 rfl ?_
            obtain ⟨r7, c9, h⟩ := h
            refine mcX1_29 hX dX1_ofPair_98 (by decide) (Nat.le_of_ble_eq_true rfl) c9 ?_
            refine z_ineg hX dX1_ofPair_101 ?_
            exact z_iret hX dX1_ofPair_102 h
          · replace h := h.2 c0
            refine z_aload_n hX dX1_ofPair_80 rfl 4 rfl ?_
            refine gfX1_9 hX dX1_ofPair_81 ?_
            refine z_iload_n hX dX1_ofPair_84 rfl 5 rfl ?_
            refine z_iload_n hX dX1_ofPair_85 rfl 6 rfl ?_
            obtain ⟨r8, c9, h⟩ := h
            refine mcX1_29 hX dX1_ofPair_86 (by decide) (Nat.le_of_ble_eq_true rfl) c9 ?_
            refine z_goto hX 102 dX1_ofPair_89 (by decide) ?_
            exact z_iret hX dX1_ofPair_102 h
        · replace h := h.2 c0
          refine z_iconst (v := 1) hX dX1_ofPair_66 (by decide) ?_
          refine z_goto hX 71 dX1_ofPair_67 (by decide) ?_
          refine z_istore hX dX1_ofPair_71 (by decide) [(7, .int (1 : Int32)), (6, .int (0 : Int32)), (5, .int r2), (4, .int r1), (0, .ref (X.1.2.1 1)), (1, .int x1), (2, .int x2), (3, .int x3)] rfl ?_
          refine z_iload hX dX1_ofPair_73 1 rfl ?_
          refine z_iload hX dX1_ofPair_75 0 rfl ?_
          refine z_icmp_eq hX 92 dX1_ofPair_77 (by decide) (fun c0 => ?_) (fun c0 => ?_)
          · replace h := h.1 c0
            refine z_aload_n hX dX1_ofPair_92 rfl 4 rfl ?_
            refine gfX1_9 hX dX1_ofPair_93 ?_
            refine z_iload_n hX dX1_ofPair_96 rfl 5 rfl ?_
            refine z_iload_n hX dX1_ofPair_97 rfl 6 rfl ?_
            obtain ⟨r9, c9, h⟩ := h
            refine mcX1_29 hX dX1_ofPair_98 (by decide) (Nat.le_of_ble_eq_true rfl) c9 ?_
            refine z_ineg hX dX1_ofPair_101 ?_
            exact z_iret hX dX1_ofPair_102 h
          · replace h := h.2 c0
            refine z_aload_n hX dX1_ofPair_80 rfl 4 rfl ?_
            refine gfX1_9 hX dX1_ofPair_81 ?_
            refine z_iload_n hX dX1_ofPair_84 rfl 5 rfl ?_
            refine z_iload_n hX dX1_ofPair_85 rfl 6 rfl ?_
            obtain ⟨r10, c9, h⟩ := h
            refine mcX1_29 hX dX1_ofPair_86 (by decide) (Nat.le_of_ble_eq_true rfl) c9 ?_
            refine z_goto hX 102 dX1_ofPair_89 (by decide) ?_
            exact z_iret hX dX1_ofPair_102 h
    · replace h := h.2 c0
      refine z_iconst (v := 1) hX dX1_ofPair_47 (by decide) ?_
      refine z_goto hX 52 dX1_ofPair_48 (by decide) ?_
      refine z_istore hX dX1_ofPair_52 (by decide) [(6, .int (1 : Int32)), (5, .int r2), (4, .int r1), (0, .ref (X.1.2.1 1)), (1, .int x1), (2, .int x2), (3, .int x3)] rfl ?_
      refine z_iload hX dX1_ofPair_54 2 rfl ?_
      refine z_iconst (v := 1) hX dX1_ofPair_56 (by decide) ?_
      refine z_icmp_eq hX 66 dX1_ofPair_57 (by decide) (fun c0 => ?_) (fun c0 => ?_)
      · replace h := h.1 c0
        refine z_iconst (v := 1) hX dX1_ofPair_66 (by decide) ?_
        refine z_goto hX 71 dX1_ofPair_67 (by decide) ?_
        refine z_istore hX dX1_ofPair_71 (by decide) [(7, .int (1 : Int32)), (6, .int (1 : Int32)), (5, .int r2), (4, .int r1), (0, .ref (X.1.2.1 1)), (1, .int x1), (2, .int x2), (3, .int x3)] rfl ?_
        refine z_iload hX dX1_ofPair_73 1 rfl ?_
        refine z_iload hX dX1_ofPair_75 0 rfl ?_
        refine z_icmp_eq hX 92 dX1_ofPair_77 (by decide) (fun c0 => ?_) (fun c0 => ?_)
        · replace h := h.1 c0
          refine z_aload_n hX dX1_ofPair_92 rfl 4 rfl ?_
          refine gfX1_9 hX dX1_ofPair_93 ?_
          refine z_iload_n hX dX1_ofPair_96 rfl 5 rfl ?_
          refine z_iload_n hX dX1_ofPair_97 rfl 6 rfl ?_
          obtain ⟨r11, c9, h⟩ := h
          refine mcX1_29 hX dX1_ofPair_98 (by decide) (Nat.le_of_ble_eq_true rfl) c9 ?_
          refine z_ineg hX dX1_ofPair_101 ?_
          exact z_iret hX dX1_ofPair_102 h
        · replace h := h.2 c0
          refine z_aload_n hX dX1_ofPair_80 rfl 4 rfl ?_
          refine gfX1_9 hX dX1_ofPair_81 ?_
          refine z_iload_n hX dX1_ofPair_84 rfl 5 rfl ?_
          refine z_iload_n hX dX1_ofPair_85 rfl 6 rfl ?_
          obtain ⟨r12, c9, h⟩ := h
          refine mcX1_29 hX dX1_ofPair_86 (by decide) (Nat.le_of_ble_eq_true rfl) c9 ?_
          refine z_goto hX 102 dX1_ofPair_89 (by decide) ?_
          exact z_iret hX dX1_ofPair_102 h
      · replace h := h.2 c0
        refine z_iload hX dX1_ofPair_60 1 rfl ?_
        refine z_iconst (v := 1) hX dX1_ofPair_62 (by decide) ?_
        refine z_icmp_ne hX 70 dX1_ofPair_63 (by decide) (fun c0 => ?_) (fun c0 => ?_)
        · replace h := h.1 c0
          refine z_iconst (v := 0) hX dX1_ofPair_70 (by decide) ?_
          refine z_istore hX dX1_ofPair_71 (by decide) [(7, .int (0 : Int32)), (6, .int (1 : Int32)), (5, .int r2), (4, .int r1), (0, .ref (X.1.2.1 1)), (1, .int x1), (2, .int x2), (3, .int x3)] rfl ?_
          refine z_iload hX dX1_ofPair_73 1 rfl ?_
          refine z_iload hX dX1_ofPair_75 0 rfl ?_
          refine z_icmp_eq hX 92 dX1_ofPair_77 (by decide) (fun c0 => ?_) (fun c0 => ?_)
          · replace h := h.1 c0
            refine z_aload_n hX dX1_ofPair_92 rfl 4 rfl ?_
            refine gfX1_9 hX dX1_ofPair_93 ?_
            refine z_iload_n hX dX1_ofPair_96 rfl 5 rfl ?_
            refine z_iload_n hX dX1_ofPair_97 rfl 6 rfl ?_
            obtain ⟨r13, c9, h⟩ := h
            refine mcX1_29 hX dX1_ofPair_98 (by decide) (Nat.le_of_ble_eq_true rfl) c9 ?_
            refine z_ineg hX dX1_ofPair_101 ?_
            exact z_iret hX dX1_ofPair_102 h
          · replace h := h.2 c0
            refine z_aload_n hX dX1_ofPair_80 rfl 4 rfl ?_
            refine gfX1_9 hX dX1_ofPair_81 ?_
            refine z_iload_n hX dX1_ofPair_84 rfl 5 rfl ?_
            refine z_iload_n hX dX1_ofPair_85 rfl 6 rfl ?_
            obtain ⟨r14, c9, h⟩ := h
            refine mcX1_29 hX dX1_ofPair_86 (by decide) (Nat.le_of_ble_eq_true rfl) c9 ?_
            refine z_goto hX 102 dX1_ofPair_89 (by decide) ?_
            exact z_iret hX dX1_ofPair_102 h
        · replace h := h.2 c0
          refine z_iconst (v := 1) hX dX1_ofPair_66 (by decide) ?_
          refine z_goto hX 71 dX1_ofPair_67 (by decide) ?_
          refine z_istore hX dX1_ofPair_71 (by decide) [(7, .int (1 : Int32)), (6, .int (1 : Int32)), (5, .int r2), (4, .int r1), (0, .ref (X.1.2.1 1)), (1, .int x1), (2, .int x2), (3, .int x3)] rfl ?_
          refine z_iload hX dX1_ofPair_73 1 rfl ?_
          refine z_iload hX dX1_ofPair_75 0 rfl ?_
          refine z_icmp_eq hX 92 dX1_ofPair_77 (by decide) (fun c0 => ?_) (fun c0 => ?_)
          · replace h := h.1 c0
            refine z_aload_n hX dX1_ofPair_92 rfl 4 rfl ?_
            refine gfX1_9 hX dX1_ofPair_93 ?_
            refine z_iload_n hX dX1_ofPair_96 rfl 5 rfl ?_
            refine z_iload_n hX dX1_ofPair_97 rfl 6 rfl ?_
            obtain ⟨r15, c9, h⟩ := h
            refine mcX1_29 hX dX1_ofPair_98 (by decide) (Nat.le_of_ble_eq_true rfl) c9 ?_
            refine z_ineg hX dX1_ofPair_101 ?_
            exact z_iret hX dX1_ofPair_102 h
          · replace h := h.2 c0
            refine z_aload_n hX dX1_ofPair_80 rfl 4 rfl ?_
            refine gfX1_9 hX dX1_ofPair_81 ?_
            refine z_iload_n hX dX1_ofPair_84 rfl 5 rfl ?_
            refine z_iload_n hX dX1_ofPair_85 rfl 6 rfl ?_
            obtain ⟨r16, c9, h⟩ := h
            refine mcX1_29 hX dX1_ofPair_86 (by decide) (Nat.le_of_ble_eq_true rfl) c9 ?_
            refine z_goto hX 102 dX1_ofPair_89 (by decide) ?_
            exact z_iret hX dX1_ofPair_102 h
  · replace h := h.2 c0
    refine z_iload hX dX1_ofPair_26 0 rfl ?_
    refine z_iconst (v := 2) hX dX1_ofPair_28 (by decide) ?_
    refine z_icmp_ne hX 34 dX1_ofPair_29 (by decide) (fun c0 => ?_) (fun c0 => ?_)
    · replace h := h.1 c0
      refine z_iload_n hX dX1_ofPair_34 rfl 5 rfl ?_
      refine z_iload_n hX dX1_ofPair_35 rfl 3 rfl ?_
      obtain ⟨r17, c9, h⟩ := h
      refine mcX1_43 hX dX1_ofPair_36 (by decide) (Nat.le_of_ble_eq_true rfl) c9 ?_
      refine z_iload_n hX dX1_ofPair_39 rfl 5 rfl ?_
      refine z_iload_n hX dX1_ofPair_40 rfl 4 rfl ?_
      obtain ⟨r18, c9, h⟩ := h
      refine mcX1_43 hX dX1_ofPair_41 (by decide) (Nat.le_of_ble_eq_true rfl) c9 ?_
      refine z_icmp_ne hX 51 dX1_ofPair_44 (by decide) (fun c0 => ?_) (fun c0 => ?_)
      · replace h := h.1 c0
        refine z_iconst (v := 0) hX dX1_ofPair_51 (by decide) ?_
        refine z_istore hX dX1_ofPair_52 (by decide) [(6, .int (0 : Int32)), (5, .int r2), (4, .int r1), (0, .ref (X.1.2.1 1)), (1, .int x1), (2, .int x2), (3, .int x3)] rfl ?_
        refine z_iload hX dX1_ofPair_54 2 rfl ?_
        refine z_iconst (v := 1) hX dX1_ofPair_56 (by decide) ?_
        refine z_icmp_eq hX 66 dX1_ofPair_57 (by decide) (fun c0 => ?_) (fun c0 => ?_)
        · replace h := h.1 c0
          refine z_iconst (v := 1) hX dX1_ofPair_66 (by decide) ?_
          refine z_goto hX 71 dX1_ofPair_67 (by decide) ?_
          refine z_istore hX dX1_ofPair_71 (by decide) [(7, .int (1 : Int32)), (6, .int (0 : Int32)), (5, .int r2), (4, .int r1), (0, .ref (X.1.2.1 1)), (1, .int x1), (2, .int x2), (3, .int x3)] rfl ?_
          refine z_iload hX dX1_ofPair_73 1 rfl ?_
          refine z_iload hX dX1_ofPair_75 0 rfl ?_
          refine z_icmp_eq hX 92 dX1_ofPair_77 (by decide) (fun c0 => ?_) (fun c0 => ?_)
          · replace h := h.1 c0
            refine z_aload_n hX dX1_ofPair_92 rfl 4 rfl ?_
            refine gfX1_9 hX dX1_ofPair_93 ?_
            refine z_iload_n hX dX1_ofPair_96 rfl 5 rfl ?_
            refine z_iload_n hX dX1_ofPair_97 rfl 6 rfl ?_
            obtain ⟨r19, c9, h⟩ := h
            refine mcX1_29 hX dX1_ofPair_98 (by decide) (Nat.le_of_ble_eq_true rfl) c9 ?_
            refine z_ineg hX dX1_ofPair_101 ?_
            exact z_iret hX dX1_ofPair_102 h
          · replace h := h.2 c0
            refine z_aload_n hX dX1_ofPair_80 rfl 4 rfl ?_
            refine gfX1_9 hX dX1_ofPair_81 ?_
            refine z_iload_n hX dX1_ofPair_84 rfl 5 rfl ?_
            refine z_iload_n hX dX1_ofPair_85 rfl 6 rfl ?_
            obtain ⟨r20, c9, h⟩ := h
            refine mcX1_29 hX dX1_ofPair_86 (by decide) (Nat.le_of_ble_eq_true rfl) c9 ?_
            refine z_goto hX 102 dX1_ofPair_89 (by decide) ?_
            exact z_iret hX dX1_ofPair_102 h
        · replace h := h.2 c0
          refine z_iload hX dX1_ofPair_60 1 rfl ?_
          refine z_iconst (v := 1) hX dX1_ofPair_62 (by decide) ?_
          refine z_icmp_ne hX 70 dX1_ofPair_63 (by decide) (fun c0 => ?_) (fun c0 => ?_)
          · replace h := h.1 c0
            refine z_iconst (v := 0) hX dX1_ofPair_70 (by decide) ?_
            refine z_istore hX dX1_ofPair_71 (by decide) [(7, .int (0 : Int32)), (6, .int (0 : Int32)), (5, .int r2), (4, .int r1), (0, .ref (X.1.2.1 1)), (1, .int x1), (2, .int x2), (3, .int x3)] rfl ?_
            refine z_iload hX dX1_ofPair_73 1 rfl ?_
            refine z_iload hX dX1_ofPair_75 0 rfl ?_
            refine z_icmp_eq hX 92 dX1_ofPair_77 (by decide) (fun c0 => ?_) (fun c0 => ?_)
            · replace h := h.1 c0
              refine z_aload_n hX dX1_ofPair_92 rfl 4 rfl ?_
              refine gfX1_9 hX dX1_ofPair_93 ?_
              refine z_iload_n hX dX1_ofPair_96 rfl 5 rfl ?_
              refine z_iload_n hX dX1_ofPair_97 rfl 6 rfl ?_
              obtain ⟨r21, c9, h⟩ := h
              refine mcX1_29 hX dX1_ofPair_98 (by decide) (Nat.le_of_ble_eq_true rfl) c9 ?_
              refine z_ineg hX dX1_ofPair_101 ?_
              exact z_iret hX dX1_ofPair_102 h
            · replace h := h.2 c0
              refine z_aload_n hX dX1_ofPair_80 rfl 4 rfl ?_
              refine gfX1_9 hX dX1_ofPair_81 ?_
              refine z_iload_n hX dX1_ofPair_84 rfl 5 rfl ?_
              refine z_iload_n hX dX1_ofPair_85 rfl 6 rfl ?_
              obtain ⟨r22, c9, h⟩ := h
              refine mcX1_29 hX dX1_ofPair_86 (by decide) (Nat.le_of_ble_eq_true rfl) c9 ?_
              refine z_goto hX 102 dX1_ofPair_89 (by decide) ?_
              exact z_iret hX dX1_ofPair_102 h
          · replace h := h.2 c0
            refine z_iconst (v := 1) hX dX1_ofPair_66 (by decide) ?_
            refine z_goto hX 71 dX1_ofPair_67 (by decide) ?_
            refine z_istore hX dX1_ofPair_71 (by decide) [(7, .int (1 : Int32)), (6, .int (0 : Int32)), (5, .int r2), (4, .int r1), (0, .ref (X.1.2.1 1)), (1, .int x1), (2, .int x2), (3, .int x3)] rfl ?_
            refine z_iload hX dX1_ofPair_73 1 rfl ?_
            refine z_iload hX dX1_ofPair_75 0 rfl ?_
            refine z_icmp_eq hX 92 dX1_ofPair_77 (by decide) (fun c0 => ?_) (fun c0 => ?_)
            · replace h := h.1 c0
              refine z_aload_n hX dX1_ofPair_92 rfl 4 rfl ?_
              refine gfX1_9 hX dX1_ofPair_93 ?_
              refine z_iload_n hX dX1_ofPair_96 rfl 5 rfl ?_
              refine z_iload_n hX dX1_ofPair_97 rfl 6 rfl ?_
              obtain ⟨r23, c9, h⟩ := h
              refine mcX1_29 hX dX1_ofPair_98 (by decide) (Nat.le_of_ble_eq_true rfl) c9 ?_
              refine z_ineg hX dX1_ofPair_101 ?_
              exact z_iret hX dX1_ofPair_102 h
            · replace h := h.2 c0
              refine z_aload_n hX dX1_ofPair_80 rfl 4 rfl ?_
              refine gfX1_9 hX dX1_ofPair_81 ?_
              refine z_iload_n hX dX1_ofPair_84 rfl 5 rfl ?_
              refine z_iload_n hX dX1_ofPair_85 rfl 6 rfl ?_
              obtain ⟨r24, c9, h⟩ := h
              refine mcX1_29 hX dX1_ofPair_86 (by decide) (Nat.le_of_ble_eq_true rfl) c9 ?_
              refine z_goto hX 102 dX1_ofPair_89 (by decide) ?_
              exact z_iret hX dX1_ofPair_102 h
      · replace h := h.2 c0
        refine z_iconst (v := 1) hX dX1_ofPair_47 (by decide) ?_
        refine z_goto hX 52 dX1_ofPair_48 (by decide) ?_
        refine z_istore hX dX1_ofPair_52 (by decide) [(6, .int (1 : Int32)), (5, .int r2), (4, .int r1), (0, .ref (X.1.2.1 1)), (1, .int x1), (2, .int x2), (3, .int x3)] rfl ?_
        refine z_iload hX dX1_ofPair_54 2 rfl ?_
        refine z_iconst (v := 1) hX dX1_ofPair_56 (by decide) ?_
        refine z_icmp_eq hX 66 dX1_ofPair_57 (by decide) (fun c0 => ?_) (fun c0 => ?_)
        · replace h := h.1 c0
          refine z_iconst (v := 1) hX dX1_ofPair_66 (by decide) ?_
          refine z_goto hX 71 dX1_ofPair_67 (by decide) ?_
          refine z_istore hX dX1_ofPair_71 (by decide) [(7, .int (1 : Int32)), (6, .int (1 : Int32)), (5, .int r2), (4, .int r1), (0, .ref (X.1.2.1 1)), (1, .int x1), (2, .int x2), (3, .int x3)] rfl ?_
          refine z_iload hX dX1_ofPair_73 1 rfl ?_
          refine z_iload hX dX1_ofPair_75 0 rfl ?_
          refine z_icmp_eq hX 92 dX1_ofPair_77 (by decide) (fun c0 => ?_) (fun c0 => ?_)
          · replace h := h.1 c0
            refine z_aload_n hX dX1_ofPair_92 rfl 4 rfl ?_
            refine gfX1_9 hX dX1_ofPair_93 ?_
            refine z_iload_n hX dX1_ofPair_96 rfl 5 rfl ?_
            refine z_iload_n hX dX1_ofPair_97 rfl 6 rfl ?_
            obtain ⟨r25, c9, h⟩ := h
            refine mcX1_29 hX dX1_ofPair_98 (by decide) (Nat.le_of_ble_eq_true rfl) c9 ?_
            refine z_ineg hX dX1_ofPair_101 ?_
            exact z_iret hX dX1_ofPair_102 h
          · replace h := h.2 c0
            refine z_aload_n hX dX1_ofPair_80 rfl 4 rfl ?_
            refine gfX1_9 hX dX1_ofPair_81 ?_
            refine z_iload_n hX dX1_ofPair_84 rfl 5 rfl ?_
            refine z_iload_n hX dX1_ofPair_85 rfl 6 rfl ?_
            obtain ⟨r26, c9, h⟩ := h
            refine mcX1_29 hX dX1_ofPair_86 (by decide) (Nat.le_of_ble_eq_true rfl) c9 ?_
            refine z_goto hX 102 dX1_ofPair_89 (by decide) ?_
            exact z_iret hX dX1_ofPair_102 h
        · replace h := h.2 c0
          refine z_iload hX dX1_ofPair_60 1 rfl ?_
          refine z_iconst (v := 1) hX dX1_ofPair_62 (by decide) ?_
          refine z_icmp_ne hX 70 dX1_ofPair_63 (by decide) (fun c0 => ?_) (fun c0 => ?_)
          · replace h := h.1 c0
            refine z_iconst (v := 0) hX dX1_ofPair_70 (by decide) ?_
            refine z_istore hX dX1_ofPair_71 (by decide) [(7, .int (0 : Int32)), (6, .int (1 : Int32)), (5, .int r2), (4, .int r1), (0, .ref (X.1.2.1 1)), (1, .int x1), (2, .int x2), (3, .int x3)] rfl ?_
            refine z_iload hX dX1_ofPair_73 1 rfl ?_
            refine z_iload hX dX1_ofPair_75 0 rfl ?_
            refine z_icmp_eq hX 92 dX1_ofPair_77 (by decide) (fun c0 => ?_) (fun c0 => ?_)
            · replace h := h.1 c0
              refine z_aload_n hX dX1_ofPair_92 rfl 4 rfl ?_
              refine gfX1_9 hX dX1_ofPair_93 ?_
              refine z_iload_n hX dX1_ofPair_96 rfl 5 rfl ?_
              refine z_iload_n hX dX1_ofPair_97 rfl 6 rfl ?_
              obtain ⟨r27, c9, h⟩ := h
              refine mcX1_29 hX dX1_ofPair_98 (by decide) (Nat.le_of_ble_eq_true rfl) c9 ?_
              refine z_ineg hX dX1_ofPair_101 ?_
              exact z_iret hX dX1_ofPair_102 h
            · replace h := h.2 c0
              refine z_aload_n hX dX1_ofPair_80 rfl 4 rfl ?_
              refine gfX1_9 hX dX1_ofPair_81 ?_
              refine z_iload_n hX dX1_ofPair_84 rfl 5 rfl ?_
              refine z_iload_n hX dX1_ofPair_85 rfl 6 rfl ?_
              obtain ⟨r28, c9, h⟩ := h
              refine mcX1_29 hX dX1_ofPair_86 (by decide) (Nat.le_of_ble_eq_true rfl) c9 ?_
              refine z_goto hX 102 dX1_ofPair_89 (by decide) ?_
              exact z_iret hX dX1_ofPair_102 h
          · replace h := h.2 c0
            refine z_iconst (v := 1) hX dX1_ofPair_66 (by decide) ?_
            refine z_goto hX 71 dX1_ofPair_67 (by decide) ?_
            refine z_istore hX dX1_ofPair_71 (by decide) [(7, .int (1 : Int32)), (6, .int (1 : Int32)), (5, .int r2), (4, .int r1), (0, .ref (X.1.2.1 1)), (1, .int x1), (2, .int x2), (3, .int x3)] rfl ?_
            refine z_iload hX dX1_ofPair_73 1 rfl ?_
            refine z_iload hX dX1_ofPair_75 0 rfl ?_
            refine z_icmp_eq hX 92 dX1_ofPair_77 (by decide) (fun c0 => ?_) (fun c0 => ?_)
            · replace h := h.1 c0
              refine z_aload_n hX dX1_ofPair_92 rfl 4 rfl ?_
              refine gfX1_9 hX dX1_ofPair_93 ?_
              refine z_iload_n hX dX1_ofPair_96 rfl 5 rfl ?_
              refine z_iload_n hX dX1_ofPair_97 rfl 6 rfl ?_
              obtain ⟨r29, c9, h⟩ := h
              refine mcX1_29 hX dX1_ofPair_98 (by decide) (Nat.le_of_ble_eq_true rfl) c9 ?_
              refine z_ineg hX dX1_ofPair_101 ?_
              exact z_iret hX dX1_ofPair_102 h
            · replace h := h.2 c0
              refine z_aload_n hX dX1_ofPair_80 rfl 4 rfl ?_
              refine gfX1_9 hX dX1_ofPair_81 ?_
              refine z_iload_n hX dX1_ofPair_84 rfl 5 rfl ?_
              refine z_iload_n hX dX1_ofPair_85 rfl 6 rfl ?_
              obtain ⟨r30, c9, h⟩ := h
              refine mcX1_29 hX dX1_ofPair_86 (by decide) (Nat.le_of_ble_eq_true rfl) c9 ?_
              refine z_goto hX 102 dX1_ofPair_89 (by decide) ?_
              exact z_iret hX dX1_ofPair_102 h
    · replace h := h.2 c0
      refine z_iconst (v := 0) hX dX1_ofPair_32 (by decide) ?_
      exact z_iret hX dX1_ofPair_33 h
set_option maxRecDepth 100000 in
set_option maxHeartbeats 4000000 in
theorem EX1_ofLean {E : ET} {Q : Option Value → Mem → Prop} {x1 x2 : Int32} {M : Mem} (h : ∃ (r1 : Int32), CX7_kind E [.ref (E.2.1 7), .int x1] M (z_is (some (.int r1)) M) ∧ ((r1 = 0 → (∃ (r2 : Int32), CX7_worn E [.int x2, .int x1] M (z_is (some (.int r2)) M) ∧ ((¬ r2 = (1 : Int32) → ((¬ r1 = 0 → ((¬ (0 : Int32) = (0 : Int32) → (∃ (r3 : Int32), CX7_lean E [.ref (E.2.1 7), .int x1] M (z_is (some (.int r3)) M) ∧ Q (some (.int (-r3))) M)) ∧ ((0 : Int32) = (0 : Int32) → (∃ (r4 : Int32), CX7_lean E [.ref (E.2.1 7), .int x1] M (z_is (some (.int r4)) M) ∧ Q (some (.int r4)) M)))) ∧ (r1 = 0 → ((¬ (0 : Int32) = (1 : Int32) → (∃ (r5 : Int32), CX7_lean E [.ref (E.2.1 7), .int x1] M (z_is (some (.int r5)) M) ∧ Q (some (.int (-r5))) M)) ∧ ((0 : Int32) = (1 : Int32) → (∃ (r6 : Int32), CX7_lean E [.ref (E.2.1 7), .int x1] M (z_is (some (.int r6)) M) ∧ Q (some (.int r6)) M)))))) ∧ (r2 = (1 : Int32) → ((¬ r1 = 0 → ((¬ (1 : Int32) = (0 : Int32) → (∃ (r7 : Int32), CX7_lean E [.ref (E.2.1 7), .int x1] M (z_is (some (.int r7)) M) ∧ Q (some (.int (-r7))) M)) ∧ ((1 : Int32) = (0 : Int32) → (∃ (r8 : Int32), CX7_lean E [.ref (E.2.1 7), .int x1] M (z_is (some (.int r8)) M) ∧ Q (some (.int r8)) M)))) ∧ (r1 = 0 → ((¬ (1 : Int32) = (1 : Int32) → (∃ (r9 : Int32), CX7_lean E [.ref (E.2.1 7), .int x1] M (z_is (some (.int r9)) M) ∧ Q (some (.int (-r9))) M)) ∧ ((1 : Int32) = (1 : Int32) → (∃ (r10 : Int32), CX7_lean E [.ref (E.2.1 7), .int x1] M (z_is (some (.int r10)) M) ∧ Q (some (.int r10)) M))))))))) ∧ (¬ r1 = 0 → ((r1 = (1 : Int32) → (∃ (r11 : Int32), CX7_worn E [.int x2, .int x1] M (z_is (some (.int r11)) M) ∧ ((¬ r11 = (1 : Int32) → ((¬ r1 = 0 → ((¬ (0 : Int32) = (0 : Int32) → (∃ (r12 : Int32), CX7_lean E [.ref (E.2.1 7), .int x1] M (z_is (some (.int r12)) M) ∧ Q (some (.int (-r12))) M)) ∧ ((0 : Int32) = (0 : Int32) → (∃ (r13 : Int32), CX7_lean E [.ref (E.2.1 7), .int x1] M (z_is (some (.int r13)) M) ∧ Q (some (.int r13)) M)))) ∧ (r1 = 0 → ((¬ (0 : Int32) = (1 : Int32) → (∃ (r14 : Int32), CX7_lean E [.ref (E.2.1 7), .int x1] M (z_is (some (.int r14)) M) ∧ Q (some (.int (-r14))) M)) ∧ ((0 : Int32) = (1 : Int32) → (∃ (r15 : Int32), CX7_lean E [.ref (E.2.1 7), .int x1] M (z_is (some (.int r15)) M) ∧ Q (some (.int r15)) M)))))) ∧ (r11 = (1 : Int32) → ((¬ r1 = 0 → ((¬ (1 : Int32) = (0 : Int32) → (∃ (r16 : Int32), CX7_lean E [.ref (E.2.1 7), .int x1] M (z_is (some (.int r16)) M) ∧ Q (some (.int (-r16))) M)) ∧ ((1 : Int32) = (0 : Int32) → (∃ (r17 : Int32), CX7_lean E [.ref (E.2.1 7), .int x1] M (z_is (some (.int r17)) M) ∧ Q (some (.int r17)) M)))) ∧ (r1 = 0 → ((¬ (1 : Int32) = (1 : Int32) → (∃ (r18 : Int32), CX7_lean E [.ref (E.2.1 7), .int x1] M (z_is (some (.int r18)) M) ∧ Q (some (.int (-r18))) M)) ∧ ((1 : Int32) = (1 : Int32) → (∃ (r19 : Int32), CX7_lean E [.ref (E.2.1 7), .int x1] M (z_is (some (.int r19)) M) ∧ Q (some (.int r19)) M))))))))) ∧ (¬ r1 = (1 : Int32) → Q (some (.int (0 : Int32))) M))))) : CX1_ofLean E [.ref (E.2.1 1), .int x1, .int x2] M Q := by
  refine z_entry (by decide +kernel) (Nat.le_of_ble_eq_true rfl) (fun X hE hX => ?_)
  subst hE
  show Z SX X 1 5 Q 0 [(0, .ref (X.1.2.1 1)), (1, .int x1), (2, .int x2)] [] M
  refine z_aload_n hX dX1_ofLean_0 rfl 0 rfl ?_
  refine gfX1_9 hX dX1_ofLean_1 ?_
  refine z_iload_n hX dX1_ofLean_4 rfl 1 rfl ?_
  obtain ⟨r1, c9, h⟩ := h
  refine mcX1_33 hX dX1_ofLean_5 (by decide) (Nat.le_of_ble_eq_true rfl) c9 ?_
  refine z_istore_n hX dX1_ofLean_8 rfl (by decide) [(3, .int r1), (0, .ref (X.1.2.1 1)), (1, .int x1), (2, .int x2)] rfl ?_
  refine z_iload_n hX dX1_ofLean_9 rfl 0 rfl ?_
  refine z_if_eq hX 20 dX1_ofLean_10 (by decide) (fun c0 => ?_) (fun c0 => ?_)
  · replace h := h.1 c0
    refine z_iload_n hX dX1_ofLean_20 rfl 3 rfl ?_
    refine z_iload_n hX dX1_ofLean_21 rfl 2 rfl ?_
    obtain ⟨r2, c9, h⟩ := h
    refine mcX1_43 hX dX1_ofLean_22 (by decide) (Nat.le_of_ble_eq_true rfl) c9 ?_
    refine z_iconst (v := 1) hX dX1_ofLean_25 (by decide) ?_
    refine z_icmp_ne hX 33 dX1_ofLean_26 (by decide) (fun c0 => ?_) (fun c0 => ?_)
    · replace h := h.1 c0
      refine z_iconst (v := 0) hX dX1_ofLean_33 (by decide) ?_
      refine z_istore hX dX1_ofLean_34 (by decide) [(4, .int (0 : Int32)), (3, .int r1), (0, .ref (X.1.2.1 1)), (1, .int x1), (2, .int x2)] rfl ?_
      refine z_iload hX dX1_ofLean_36 0 rfl ?_
      refine z_iload_n hX dX1_ofLean_38 rfl 1 rfl ?_
      refine z_if_ne hX 46 dX1_ofLean_39 (by decide) (fun c0 => ?_) (fun c0 => ?_)
      · replace h := h.1 c0
        refine z_iconst (v := 0) hX dX1_ofLean_46 (by decide) ?_
        refine z_icmp_ne hX 61 dX1_ofLean_47 (by decide) (fun c0 => ?_) (fun c0 => ?_)
        · replace h := h.1 c0
          refine z_aload_n hX dX1_ofLean_61 rfl 2 rfl ?_
          refine gfX1_9 hX dX1_ofLean_62 ?_
          refine z_iload_n hX dX1_ofLean_65 rfl 3 rfl ?_
          obtain ⟨r3, c9, h⟩ := h
          refine mcX1_46 hX dX1_ofLean_66 (by decide) (Nat.le_of_ble_eq_true rfl) c9 ?_
          refine z_ineg hX dX1_ofLean_69 ?_
          exact z_iret hX dX1_ofLean_70 h
        · replace h := h.2 c0
          refine z_aload_n hX dX1_ofLean_50 rfl 2 rfl ?_
          refine gfX1_9 hX dX1_ofLean_51 ?_
          refine z_iload_n hX dX1_ofLean_54 rfl 3 rfl ?_
          obtain ⟨r4, c9, h⟩ := h
          refine mcX1_46 hX dX1_ofLean_55 (by decide) (Nat.le_of_ble_eq_true rfl) c9 ?_
          refine z_goto hX 70 dX1_ofLean_58 (by decide) ?_
          exact z_iret hX dX1_ofLean_70 h
      · replace h := h.2 c0
        refine z_iconst (v := 1) hX dX1_ofLean_42 (by decide) ?_
        refine z_goto hX 47 dX1_ofLean_43 (by decide) ?_
        refine z_icmp_ne hX 61 dX1_ofLean_47 (by decide) (fun c0 => ?_) (fun c0 => ?_)
        · replace h := h.1 c0
          refine z_aload_n hX dX1_ofLean_61 rfl 2 rfl ?_
          refine gfX1_9 hX dX1_ofLean_62 ?_
          refine z_iload_n hX dX1_ofLean_65 rfl 3 rfl ?_
          obtain ⟨r5, c9, h⟩ := h
          refine mcX1_46 hX dX1_ofLean_66 (by decide) (Nat.le_of_ble_eq_true rfl) c9 ?_
          refine z_ineg hX dX1_ofLean_69 ?_
          exact z_iret hX dX1_ofLean_70 h
        · replace h := h.2 c0
          refine z_aload_n hX dX1_ofLean_50 rfl 2 rfl ?_
          refine gfX1_9 hX dX1_ofLean_51 ?_
          refine z_iload_n hX dX1_ofLean_54 rfl 3 rfl ?_
          obtain ⟨r6, c9, h⟩ := h
          refine mcX1_46 hX dX1_ofLean_55 (by decide) (Nat.le_of_ble_eq_true rfl) c9 ?_
          refine z_goto hX 70 dX1_ofLean_58 (by decide) ?_
          exact z_iret hX dX1_ofLean_70 h
    · replace h := h.2 c0
      refine z_iconst (v := 1) hX dX1_ofLean_29 (by decide) ?_
      refine z_goto hX 34 dX1_ofLean_30 (by decide) ?_
      refine z_istore hX dX1_ofLean_34 (by decide) [(4, .int (1 : Int32)), (3, .int r1), (0, .ref (X.1.2.1 1)), (1, .int x1), (2, .int x2)] rfl ?_
      refine z_iload hX dX1_ofLean_36 0 rfl ?_
      refine z_iload_n hX dX1_ofLean_38 rfl 1 rfl ?_
      refine z_if_ne hX 46 dX1_ofLean_39 (by decide) (fun c0 => ?_) (fun c0 => ?_)
      · replace h := h.1 c0
        refine z_iconst (v := 0) hX dX1_ofLean_46 (by decide) ?_
        refine z_icmp_ne hX 61 dX1_ofLean_47 (by decide) (fun c0 => ?_) (fun c0 => ?_)
        · replace h := h.1 c0
          refine z_aload_n hX dX1_ofLean_61 rfl 2 rfl ?_
          refine gfX1_9 hX dX1_ofLean_62 ?_
          refine z_iload_n hX dX1_ofLean_65 rfl 3 rfl ?_
          obtain ⟨r7, c9, h⟩ := h
          refine mcX1_46 hX dX1_ofLean_66 (by decide) (Nat.le_of_ble_eq_true rfl) c9 ?_
          refine z_ineg hX dX1_ofLean_69 ?_
          exact z_iret hX dX1_ofLean_70 h
        · replace h := h.2 c0
          refine z_aload_n hX dX1_ofLean_50 rfl 2 rfl ?_
          refine gfX1_9 hX dX1_ofLean_51 ?_
          refine z_iload_n hX dX1_ofLean_54 rfl 3 rfl ?_
          obtain ⟨r8, c9, h⟩ := h
          refine mcX1_46 hX dX1_ofLean_55 (by decide) (Nat.le_of_ble_eq_true rfl) c9 ?_
          refine z_goto hX 70 dX1_ofLean_58 (by decide) ?_
          exact z_iret hX dX1_ofLean_70 h
      · replace h := h.2 c0
        refine z_iconst (v := 1) hX dX1_ofLean_42 (by decide) ?_
        refine z_goto hX 47 dX1_ofLean_43 (by decide) ?_
        refine z_icmp_ne hX 61 dX1_ofLean_47 (by decide) (fun c0 => ?_) (fun c0 => ?_)
        · replace h := h.1 c0
          refine z_aload_n hX dX1_ofLean_61 rfl 2 rfl ?_
          refine gfX1_9 hX dX1_ofLean_62 ?_
          refine z_iload_n hX dX1_ofLean_65 rfl 3 rfl ?_
          obtain ⟨r9, c9, h⟩ := h
          refine mcX1_46 hX dX1_ofLean_66 (by decide) (Nat.le_of_ble_eq_true rfl) c9 ?_
          refine z_ineg hX dX1_ofLean_69 ?_
          exact z_iret hX dX1_ofLean_70 h
        · replace h := h.2 c0
          refine z_aload_n hX dX1_ofLean_50 rfl 2 rfl ?_
          refine gfX1_9 hX dX1_ofLean_51 ?_
          refine z_iload_n hX dX1_ofLean_54 rfl 3 rfl ?_
          obtain ⟨r10, c9, h⟩ := h
          refine mcX1_46 hX dX1_ofLean_55 (by decide) (Nat.le_of_ble_eq_true rfl) c9 ?_
          refine z_goto hX 70 dX1_ofLean_58 (by decide) ?_
          exact z_iret hX dX1_ofLean_70 h
  · replace h := h.2 c0
    refine z_iload_n hX dX1_ofLean_13 rfl 0 rfl ?_
    refine z_iconst (v := 1) hX dX1_ofLean_14 (by decide) ?_
    refine z_icmp_eq hX 20 dX1_ofLean_15 (by decide) (fun c0 => ?_) (fun c0 => ?_)
    · replace h := h.1 c0
      refine z_iload_n hX dX1_ofLean_20 rfl 3 rfl ?_
      refine z_iload_n hX dX1_ofLean_21 rfl 2 rfl ?_
      obtain ⟨r11, c9, h⟩ := h
      refine mcX1_43 hX dX1_ofLean_22 (by decide) (Nat.le_of_ble_eq_true rfl) c9 ?_
      refine z_iconst (v := 1) hX dX1_ofLean_25 (by decide) ?_
      refine z_icmp_ne hX 33 dX1_ofLean_26 (by decide) (fun c0 => ?_) (fun c0 => ?_)
      · replace h := h.1 c0
        refine z_iconst (v := 0) hX dX1_ofLean_33 (by decide) ?_
        refine z_istore hX dX1_ofLean_34 (by decide) [(4, .int (0 : Int32)), (3, .int r1), (0, .ref (X.1.2.1 1)), (1, .int x1), (2, .int x2)] rfl ?_
        refine z_iload hX dX1_ofLean_36 0 rfl ?_
        refine z_iload_n hX dX1_ofLean_38 rfl 1 rfl ?_
        refine z_if_ne hX 46 dX1_ofLean_39 (by decide) (fun c0 => ?_) (fun c0 => ?_)
        · replace h := h.1 c0
          refine z_iconst (v := 0) hX dX1_ofLean_46 (by decide) ?_
          refine z_icmp_ne hX 61 dX1_ofLean_47 (by decide) (fun c0 => ?_) (fun c0 => ?_)
          · replace h := h.1 c0
            refine z_aload_n hX dX1_ofLean_61 rfl 2 rfl ?_
            refine gfX1_9 hX dX1_ofLean_62 ?_
            refine z_iload_n hX dX1_ofLean_65 rfl 3 rfl ?_
            obtain ⟨r12, c9, h⟩ := h
            refine mcX1_46 hX dX1_ofLean_66 (by decide) (Nat.le_of_ble_eq_true rfl) c9 ?_
            refine z_ineg hX dX1_ofLean_69 ?_
            exact z_iret hX dX1_ofLean_70 h
          · replace h := h.2 c0
            refine z_aload_n hX dX1_ofLean_50 rfl 2 rfl ?_
            refine gfX1_9 hX dX1_ofLean_51 ?_
            refine z_iload_n hX dX1_ofLean_54 rfl 3 rfl ?_
            obtain ⟨r13, c9, h⟩ := h
            refine mcX1_46 hX dX1_ofLean_55 (by decide) (Nat.le_of_ble_eq_true rfl) c9 ?_
            refine z_goto hX 70 dX1_ofLean_58 (by decide) ?_
            exact z_iret hX dX1_ofLean_70 h
        · replace h := h.2 c0
          refine z_iconst (v := 1) hX dX1_ofLean_42 (by decide) ?_
          refine z_goto hX 47 dX1_ofLean_43 (by decide) ?_
          refine z_icmp_ne hX 61 dX1_ofLean_47 (by decide) (fun c0 => ?_) (fun c0 => ?_)
          · replace h := h.1 c0
            refine z_aload_n hX dX1_ofLean_61 rfl 2 rfl ?_
            refine gfX1_9 hX dX1_ofLean_62 ?_
            refine z_iload_n hX dX1_ofLean_65 rfl 3 rfl ?_
            obtain ⟨r14, c9, h⟩ := h
            refine mcX1_46 hX dX1_ofLean_66 (by decide) (Nat.le_of_ble_eq_true rfl) c9 ?_
            refine z_ineg hX dX1_ofLean_69 ?_
            exact z_iret hX dX1_ofLean_70 h
          · replace h := h.2 c0
            refine z_aload_n hX dX1_ofLean_50 rfl 2 rfl ?_
            refine gfX1_9 hX dX1_ofLean_51 ?_
            refine z_iload_n hX dX1_ofLean_54 rfl 3 rfl ?_
            obtain ⟨r15, c9, h⟩ := h
            refine mcX1_46 hX dX1_ofLean_55 (by decide) (Nat.le_of_ble_eq_true rfl) c9 ?_
            refine z_goto hX 70 dX1_ofLean_58 (by decide) ?_
            exact z_iret hX dX1_ofLean_70 h
      · replace h := h.2 c0
        refine z_iconst (v := 1) hX dX1_ofLean_29 (by decide) ?_
        refine z_goto hX 34 dX1_ofLean_30 (by decide) ?_
        refine z_istore hX dX1_ofLean_34 (by decide) [(4, .int (1 : Int32)), (3, .int r1), (0, .ref (X.1.2.1 1)), (1, .int x1), (2, .int x2)] rfl ?_
        refine z_iload hX dX1_ofLean_36 0 rfl ?_
        refine z_iload_n hX dX1_ofLean_38 rfl 1 rfl ?_
        refine z_if_ne hX 46 dX1_ofLean_39 (by decide) (fun c0 => ?_) (fun c0 => ?_)
        · replace h := h.1 c0
          refine z_iconst (v := 0) hX dX1_ofLean_46 (by decide) ?_
          refine z_icmp_ne hX 61 dX1_ofLean_47 (by decide) (fun c0 => ?_) (fun c0 => ?_)
          · replace h := h.1 c0
            refine z_aload_n hX dX1_ofLean_61 rfl 2 rfl ?_
            refine gfX1_9 hX dX1_ofLean_62 ?_
            refine z_iload_n hX dX1_ofLean_65 rfl 3 rfl ?_
            obtain ⟨r16, c9, h⟩ := h
            refine mcX1_46 hX dX1_ofLean_66 (by decide) (Nat.le_of_ble_eq_true rfl) c9 ?_
            refine z_ineg hX dX1_ofLean_69 ?_
            exact z_iret hX dX1_ofLean_70 h
          · replace h := h.2 c0
            refine z_aload_n hX dX1_ofLean_50 rfl 2 rfl ?_
            refine gfX1_9 hX dX1_ofLean_51 ?_
            refine z_iload_n hX dX1_ofLean_54 rfl 3 rfl ?_
            obtain ⟨r17, c9, h⟩ := h
            refine mcX1_46 hX dX1_ofLean_55 (by decide) (Nat.le_of_ble_eq_true rfl) c9 ?_
            refine z_goto hX 70 dX1_ofLean_58 (by decide) ?_
            exact z_iret hX dX1_ofLean_70 h
        · replace h := h.2 c0
          refine z_iconst (v := 1) hX dX1_ofLean_42 (by decide) ?_
          refine z_goto hX 47 dX1_ofLean_43 (by decide) ?_
          refine z_icmp_ne hX 61 dX1_ofLean_47 (by decide) (fun c0 => ?_) (fun c0 => ?_)
          · replace h := h.1 c0
            refine z_aload_n hX dX1_ofLean_61 rfl 2 rfl ?_
            refine gfX1_9 hX dX1_ofLean_62 ?_
            refine z_iload_n hX dX1_ofLean_65 rfl 3 rfl ?_
            obtain ⟨r18, c9, h⟩ := h
            refine mcX1_46 hX dX1_ofLean_66 (by decide) (Nat.le_of_ble_eq_true rfl) c9 ?_
            refine z_ineg hX dX1_ofLean_69 ?_
            exact z_iret hX dX1_ofLean_70 h
          · replace h := h.2 c0
            refine z_aload_n hX dX1_ofLean_50 rfl 2 rfl ?_
            refine gfX1_9 hX dX1_ofLean_51 ?_
            refine z_iload_n hX dX1_ofLean_54 rfl 3 rfl ?_
            obtain ⟨r19, c9, h⟩ := h
            refine mcX1_46 hX dX1_ofLean_55 (by decide) (Nat.le_of_ble_eq_true rfl) c9 ?_
            refine z_goto hX 70 dX1_ofLean_58 (by decide) ?_
            exact z_iret hX dX1_ofLean_70 h
    · replace h := h.2 c0
      refine z_iconst (v := 0) hX dX1_ofLean_18 (by decide) ?_
      exact z_iret hX dX1_ofLean_19 h
set_option maxRecDepth 100000 in
set_option maxHeartbeats 4000000 in
theorem EX2_size {E : ET} {Q : Option Value → Mem → Prop} {M : Mem} (h : Q (some (.int (M.1 2 2))) M) : CX2_size E [.ref (E.2.1 2)] M Q := by
  refine z_entry (by decide +kernel) (Nat.le_of_ble_eq_true rfl) (fun X hE hX => ?_)
  subst hE
  show Z SX X 0 1 Q 0 [(0, .ref (X.1.2.1 2))] [] M
  refine z_aload_n hX dX2_size_0 rfl 0 rfl ?_
  refine gfX2_15 hX dX2_size_1 ?_
  exact z_iret hX dX2_size_4 h
set_option maxRecDepth 100000 in
set_option maxHeartbeats 4000000 in
theorem EX2_isFull {E : ET} {Q : Option Value → Mem → Prop} {M : Mem} (h : (((M.1 2 2) < (8 : Int32) → Q (some (.int 0)) M) ∧ (¬ (M.1 2 2) < (8 : Int32) → Q (some (.int 1)) M))) : CX2_isFull E [.ref (E.2.1 2)] M Q := by
  refine z_entry (by decide +kernel) (Nat.le_of_ble_eq_true rfl) (fun X hE hX => ?_)
  subst hE
  show Z SX X 0 1 Q 0 [(0, .ref (X.1.2.1 2))] [] M
  refine z_aload_n hX dX2_isFull_0 rfl 0 rfl ?_
  refine gfX2_15 hX dX2_isFull_1 ?_
  refine z_bipush (v := 8) hX dX2_isFull_4 (by decide) ?_
  refine z_icmp_lt hX 13 dX2_isFull_6 (by decide) (fun c0 => ?_) (fun c0 => ?_)
  · replace h := h.1 c0
    refine z_iconst (v := 0) hX dX2_isFull_13 (by decide) ?_
    exact z_zret hX dX2_isFull_14 (Or.inl rfl) h
  · replace h := h.2 c0
    refine z_iconst (v := 1) hX dX2_isFull_9 (by decide) ?_
    refine z_goto hX 14 dX2_isFull_10 (by decide) ?_
    exact z_zret hX dX2_isFull_14 (Or.inr rfl) h
set_option maxRecDepth 100000 in
set_option maxHeartbeats 4000000 in
theorem EX2_add {E : ET} {Q : Option Value → Mem → Prop} {x1 : Int32} {M : Mem} (h : ∃ (r1 : Int32), CX2_isFull E [.ref (E.2.1 2)] M (z_is (some (.int r1)) M) ∧ ((r1 = 0 → (vp_in (M.1 2 2) 8 ∧ (∀ M2 : Mem, M2 = z_st M 36 (M.1 2 2).toNatClampNeg x1 → (∀ M3 : Mem, M3 = z_st M2 2 2 ((M2.1 2 2) + (1 : Int32)) → Q none M3)))) ∧ (¬ r1 = 0 → Q none M))) : CX2_add E [.ref (E.2.1 2), .int x1] M Q := by
  refine z_entry (by decide +kernel) (Nat.le_of_ble_eq_true rfl) (fun X hE hX => ?_)
  subst hE
  show Z SX X 1 2 Q 0 [(0, .ref (X.1.2.1 2)), (1, .int x1)] [] M
  refine z_aload_n hX dX2_add_0 rfl 0 rfl ?_
  obtain ⟨r1, c9, h⟩ := h
  refine mcX2_23 hX dX2_add_1 (by decide) (Nat.le_of_ble_eq_true rfl) c9 ?_
  refine z_if_eq hX 8 dX2_add_4 (by decide) (fun c0 => ?_) (fun c0 => ?_)
  · replace h := h.1 c0
    refine z_aload_n hX dX2_add_8 rfl 0 rfl ?_
    refine gfX2_9 hX dX2_add_9 ?_
    refine z_aload_n hX dX2_add_12 rfl 0 rfl ?_
    refine gfX2_15 hX dX2_add_13 ?_
    refine z_iload_n hX dX2_add_16 rfl 1 rfl ?_
    refine z_iastM hX 36 rfl h.1 dX2_add_17 (fun M2 eM2 => ?_)
    replace h := h.2 M2 eM2
    refine z_aload_n hX dX2_add_18 rfl 0 rfl ?_
    refine z_dup hX dX2_add_19 rfl ?_
    refine gfX2_15 hX dX2_add_20 ?_
    refine z_iconst (v := 1) hX dX2_add_23 (by decide) ?_
    refine z_iadd hX dX2_add_24 ?_
    refine pfX2_15 hX dX2_add_25 (fun M3 eM3 => ?_)
    replace h := h M3 eM3
    exact z_vret hX dX2_add_28 h
  · replace h := h.2 c0
    exact z_vret hX dX2_add_7 h
set_option maxRecDepth 100000 in
set_option maxHeartbeats 4000000 in
theorem EX2_clear {E : ET} {Q : Option Value → Mem → Prop} {M : Mem} (h : ∀ M1 : Mem, M1 = z_st M 2 2 (0 : Int32) → Q none M1) : CX2_clear E [.ref (E.2.1 2)] M Q := by
  refine z_entry (by decide +kernel) (Nat.le_of_ble_eq_true rfl) (fun X hE hX => ?_)
  subst hE
  show Z SX X 0 1 Q 0 [(0, .ref (X.1.2.1 2))] [] M
  refine z_aload_n hX dX2_clear_0 rfl 0 rfl ?_
  refine z_iconst (v := 0) hX dX2_clear_1 (by decide) ?_
  refine pfX2_15 hX dX2_clear_2 (fun M1 eM1 => ?_)
  replace h := h M1 eM1
  exact z_vret hX dX2_clear_5 h
abbrev LX2_kindsOf_5 (X : XT) (Q : Option Value → Mem → Prop) (x1 : Int32) (x2 : Int32) (x3 : Int32) (M : Mem) : Prop := Z SX X 2 8 Q 5 [(0, .ref (X.1.2.1 2)), (1, .int x1), (2, .int x2), (3, .int x3)] [] M
abbrev LX2_kindsOf_60 (X : XT) (Q : Option Value → Mem → Prop) (x1 : Int32) (x2 : Int32) (x3 : Int32) (x4 : Int32) (x5 : Int32) (x6 : Int32) (x7 : Int32) (M : Mem) : Prop := Z SX X 2 8 Q 60 [(0, .ref (X.1.2.1 2)), (1, .int x1), (2, .int x2), (3, .int x3), (4, .int x4), (5, .int x5), (6, .int x6), (7, .int x7)] [] M
set_option maxRecDepth 100000 in
set_option maxHeartbeats 4000000 in
theorem EX2_kindsOf {E : ET} {Q : Option Value → Mem → Prop} {x1 : Int32} {M : Mem} (h : ∀ X : XT, X.1 = E → KX2_kindsOf X → LX2_kindsOf_5 X Q x1 (15 : Int32) (0 : Int32) M) : CX2_kindsOf E [.ref (E.2.1 2), .int x1] M Q := by
  refine z_entry (by decide +kernel) (Nat.le_of_ble_eq_true rfl) (fun X hE hX => ?_)
  subst hE
  replace h := h X rfl hX
  show Z SX X 2 8 Q 0 [(0, .ref (X.1.2.1 2)), (1, .int x1)] [] M
  refine z_bipush (v := 15) hX dX2_kindsOf_0 (by decide) ?_
  refine z_istore_n hX dX2_kindsOf_2 rfl (by decide) [(2, .int (15 : Int32)), (0, .ref (X.1.2.1 2)), (1, .int x1)] rfl ?_
  refine z_iconst (v := 0) hX dX2_kindsOf_3 (by decide) ?_
  refine z_istore_n hX dX2_kindsOf_4 rfl (by decide) [(3, .int (0 : Int32)), (2, .int (15 : Int32)), (0, .ref (X.1.2.1 2)), (1, .int x1)] rfl ?_
  exact z_sub [2, 3, 1, 0] rfl h
set_option maxRecDepth 100000 in
set_option maxHeartbeats 4000000 in
theorem BX2_kindsOf_5 {X : XT} {Q : Option Value → Mem → Prop} (hX : KX2_kindsOf X) {x1 x2 x3 : Int32} {M : Mem} (h : (((M.1 2 2) ≤ (x3 + (1 : Int32)) → Q (some (.int x2)) M) ∧ (¬ (M.1 2 2) ≤ (x3 + (1 : Int32)) → (vp_in x3 8 ∧ (∃ (r1 : Int32), CX7_sumOf X.1 [.ref (X.1.2.1 7), .int x1, .int (M.1 36 x3.toNatClampNeg)] M (z_is (some (.int r1)) M) ∧ (vp_in x3 8 ∧ (∃ (r2 : Int32), CX7_worn X.1 [.int (M.1 36 x3.toNatClampNeg), .int x1] M (z_is (some (.int r2)) M) ∧ (vp_in (x3 + (1 : Int32)) 8 ∧ (∃ (r3 : Int32), CX7_worn X.1 [.int (M.1 36 (x3 + (1 : Int32)).toNatClampNeg), .int x1] M (z_is (some (.int r3)) M) ∧ LX2_kindsOf_60 X Q x1 x2 x3 r1 r2 r3 (0 : Int32) M))))))))) : LX2_kindsOf_5 X Q x1 x2 x3 M := by
  show Z SX X 2 8 Q 5 [(0, .ref (X.1.2.1 2)), (1, .int x1), (2, .int x2), (3, .int x3)] [] M
  refine z_iload_n hX dX2_kindsOf_5 rfl 3 rfl ?_
  refine z_iconst (v := 1) hX dX2_kindsOf_6 (by decide) ?_
  refine z_iadd hX dX2_kindsOf_7 ?_
  refine z_aload_n hX dX2_kindsOf_8 rfl 0 rfl ?_
  refine gfX2_15 hX dX2_kindsOf_9 ?_
  refine z_icmp_ge hX 101 dX2_kindsOf_12 (by decide) (fun c0 => ?_) (fun c0 => ?_)
  · replace h := h.1 c0
    refine z_iload_n hX dX2_kindsOf_101 rfl 2 rfl ?_
    exact z_iret hX dX2_kindsOf_102 h
  · replace h := h.2 c0
    refine z_aload_n hX dX2_kindsOf_15 rfl 0 rfl ?_
    refine gfX2_19 hX dX2_kindsOf_16 ?_
    refine z_iload_n hX dX2_kindsOf_19 rfl 1 rfl ?_
    refine z_aload_n hX dX2_kindsOf_20 rfl 0 rfl ?_
    refine gfX2_9 hX dX2_kindsOf_21 ?_
    refine z_iload_n hX dX2_kindsOf_24 rfl 3 rfl ?_
    refine z_iald hX 36 rfl h.1 dX2_kindsOf_25 ?_
    replace h := h.2
    obtain ⟨r1, c9, h⟩ := h
    refine mcX2_27 hX dX2_kindsOf_26 (by decide) (Nat.le_of_ble_eq_true rfl) c9 ?_
    refine z_istore hX dX2_kindsOf_29 (by decide) [(4, .int r1), (0, .ref (X.1.2.1 2)), (1, .int x1), (2, .int x2), (3, .int x3)] rfl ?_
    refine z_aload_n hX dX2_kindsOf_31 rfl 1 rfl ?_
    refine gfX2_9 hX dX2_kindsOf_32 ?_
    refine z_iload_n hX dX2_kindsOf_35 rfl 4 rfl ?_
    refine z_iald hX 36 rfl h.1 dX2_kindsOf_36 ?_
    replace h := h.2
    refine z_iload_n hX dX2_kindsOf_37 rfl 2 rfl ?_
    obtain ⟨r2, c9, h⟩ := h
    refine mcX2_33 hX dX2_kindsOf_38 (by decide) (Nat.le_of_ble_eq_true rfl) c9 ?_
    refine z_istore hX dX2_kindsOf_41 (by decide) [(5, .int r2), (4, .int r1), (0, .ref (X.1.2.1 2)), (1, .int x1), (2, .int x2), (3, .int x3)] rfl ?_
    refine z_aload_n hX dX2_kindsOf_43 rfl 2 rfl ?_
    refine gfX2_9 hX dX2_kindsOf_44 ?_
    refine z_iload_n hX dX2_kindsOf_47 rfl 5 rfl ?_
    refine z_iconst (v := 1) hX dX2_kindsOf_48 (by decide) ?_
    refine z_iadd hX dX2_kindsOf_49 ?_
    refine z_iald hX 36 rfl h.1 dX2_kindsOf_50 ?_
    replace h := h.2
    refine z_iload_n hX dX2_kindsOf_51 rfl 3 rfl ?_
    obtain ⟨r3, c9, h⟩ := h
    refine mcX2_33 hX dX2_kindsOf_52 (by decide) (Nat.le_of_ble_eq_true rfl) c9 ?_
    refine z_istore hX dX2_kindsOf_55 (by decide) [(6, .int r3), (5, .int r2), (4, .int r1), (0, .ref (X.1.2.1 2)), (1, .int x1), (2, .int x2), (3, .int x3)] rfl ?_
    refine z_iconst (v := 0) hX dX2_kindsOf_57 (by decide) ?_
    refine z_istore hX dX2_kindsOf_58 (by decide) [(7, .int (0 : Int32)), (6, .int r3), (5, .int r2), (4, .int r1), (0, .ref (X.1.2.1 2)), (1, .int x1), (2, .int x2), (3, .int x3)] rfl ?_
    exact z_sub [4, 5, 6, 7, 3, 2, 1, 0] rfl h
set_option maxRecDepth 100000 in
set_option maxHeartbeats 4000000 in
theorem BX2_kindsOf_60 {X : XT} {Q : Option Value → Mem → Prop} (hX : KX2_kindsOf X) {x1 x2 x3 x4 x5 x6 x7 : Int32} {M : Mem} (h : (((4 : Int32) ≤ x7 → LX2_kindsOf_5 X Q x1 x2 (x3 + (1 : Int32)) M) ∧ (¬ (4 : Int32) ≤ x7 → (∃ (r1 : Int32), CX7_nextOf X.1 [.int x7, .int x4, .int x5] M (z_is (some (.int r1)) M) ∧ ((r1 = x6 → LX2_kindsOf_60 X Q x1 x2 x3 x4 x5 x6 (x7 + (1 : Int32)) M) ∧ (¬ r1 = x6 → LX2_kindsOf_60 X Q x1 (x2 &&& (((1 : Int32) <<< (x7 &&& 31)) ^^^ (-1 : Int32))) x3 x4 x5 x6 (x7 + (1 : Int32)) M)))))) : LX2_kindsOf_60 X Q x1 x2 x3 x4 x5 x6 x7 M := by
  show Z SX X 2 8 Q 60 [(0, .ref (X.1.2.1 2)), (1, .int x1), (2, .int x2), (3, .int x3), (4, .int x4), (5, .int x5), (6, .int x6), (7, .int x7)] [] M
  refine z_iload hX dX2_kindsOf_60 7 rfl ?_
  refine z_iconst (v := 4) hX dX2_kindsOf_62 (by decide) ?_
  refine z_icmp_ge hX 95 dX2_kindsOf_63 (by decide) (fun c0 => ?_) (fun c0 => ?_)
  · replace h := h.1 c0
    refine z_iinc (v := x3 + (1 : Int32)) hX dX2_kindsOf_95 3 rfl rfl (by decide) [(3, .int (x3 + (1 : Int32))), (0, .ref (X.1.2.1 2)), (1, .int x1), (2, .int x2), (4, .int x4), (5, .int x5), (6, .int x6), (7, .int x7)] rfl ?_
    refine z_goto hX 5 dX2_kindsOf_98 (by decide) ?_
    exact z_sub [1, 2, 3, 0] rfl h
  · replace h := h.2 c0
    refine z_iload hX dX2_kindsOf_66 7 rfl ?_
    refine z_iload hX dX2_kindsOf_68 4 rfl ?_
    refine z_iload hX dX2_kindsOf_70 5 rfl ?_
    obtain ⟨r1, c9, h⟩ := h
    refine mcX2_36 hX dX2_kindsOf_72 (by decide) (Nat.le_of_ble_eq_true rfl) c9 ?_
    refine z_iload hX dX2_kindsOf_75 6 rfl ?_
    refine z_icmp_eq hX 89 dX2_kindsOf_77 (by decide) (fun c0 => ?_) (fun c0 => ?_)
    · replace h := h.1 c0
      refine z_iinc (v := x7 + (1 : Int32)) hX dX2_kindsOf_89 7 rfl rfl (by decide) [(7, .int (x7 + (1 : Int32))), (0, .ref (X.1.2.1 2)), (1, .int x1), (2, .int x2), (3, .int x3), (4, .int x4), (5, .int x5), (6, .int x6)] rfl ?_
      refine z_goto hX 60 dX2_kindsOf_92 (by decide) ?_
      exact z_sub [1, 2, 3, 4, 5, 6, 7, 0] rfl h
    · replace h := h.2 c0
      refine z_iload_n hX dX2_kindsOf_80 rfl 2 rfl ?_
      refine z_iconst (v := 1) hX dX2_kindsOf_81 (by decide) ?_
      refine z_iload hX dX2_kindsOf_82 7 rfl ?_
      refine z_ishl hX dX2_kindsOf_84 ?_
      refine z_iconst (v := -1) hX dX2_kindsOf_85 (by decide) ?_
      refine z_ixor hX dX2_kindsOf_86 ?_
      refine z_iand hX dX2_kindsOf_87 ?_
      refine z_istore_n hX dX2_kindsOf_88 rfl (by decide) [(2, .int (x2 &&& (((1 : Int32) <<< (x7 &&& 31)) ^^^ (-1 : Int32)))), (0, .ref (X.1.2.1 2)), (1, .int x1), (3, .int x3), (4, .int x4), (5, .int x5), (6, .int x6), (7, .int x7)] rfl ?_
      refine z_iinc (v := x7 + (1 : Int32)) hX dX2_kindsOf_89 7 rfl rfl (by decide) [(7, .int (x7 + (1 : Int32))), (2, .int (x2 &&& (((1 : Int32) <<< (x7 &&& 31)) ^^^ (-1 : Int32)))), (0, .ref (X.1.2.1 2)), (1, .int x1), (3, .int x3), (4, .int x4), (5, .int x5), (6, .int x6)] rfl ?_
      refine z_goto hX 60 dX2_kindsOf_92 (by decide) ?_
      exact z_sub [2, 3, 1, 4, 5, 6, 7, 0] rfl h
abbrev LX2_explanations_4 (X : XT) (Q : Option Value → Mem → Prop) (x1 : Int64) (x3 : Int32) (M : Mem) : Prop := Z SX X 3 4 Q 4 [(0, .ref (X.1.2.1 2)), (1, .long x1), (3, .int x3)] [] M
set_option maxRecDepth 100000 in
set_option maxHeartbeats 4000000 in
theorem EX2_explanations {E : ET} {Q : Option Value → Mem → Prop} {M : Mem} (h : ∀ X : XT, X.1 = E → KX2_explanations X → LX2_explanations_4 X Q (1 : Int64) (0 : Int32) M) : CX2_explanations E [.ref (E.2.1 2)] M Q := by
  refine z_entry (by decide +kernel) (Nat.le_of_ble_eq_true rfl) (fun X hE hX => ?_)
  subst hE
  replace h := h X rfl hX
  show Z SX X 3 4 Q 0 [(0, .ref (X.1.2.1 2))] [] M
  refine z_lconst (v := 1) hX dX2_explanations_0 (by decide) ?_
  refine z_lstore_n hX dX2_explanations_1 rfl (by decide) [(1, .long (1 : Int64)), (0, .ref (X.1.2.1 2))] rfl ?_
  refine z_iconst (v := 0) hX dX2_explanations_2 (by decide) ?_
  refine z_istore_n hX dX2_explanations_3 rfl (by decide) [(3, .int (0 : Int32)), (1, .long (1 : Int64)), (0, .ref (X.1.2.1 2))] rfl ?_
  exact z_sub [2, 1, 0] rfl h
set_option maxRecDepth 100000 in
set_option maxHeartbeats 4000000 in
theorem BX2_explanations_4 {X : XT} {Q : Option Value → Mem → Prop} (hX : KX2_explanations X) {x3 : Int32} {x1 : Int64} {M : Mem} (h : ∃ (r1 : Int32), CX7_size X.1 [.ref (X.1.2.1 7)] M (z_is (some (.int r1)) M) ∧ ((r1 ≤ x3 → Q (some (.long x1)) M) ∧ (¬ r1 ≤ x3 → (∃ (r2 : Int32), CX2_kindsOf X.1 [.ref (X.1.2.1 2), .int x3] M (z_is (some (.int r2)) M) ∧ (∃ (r3 : Int32), CJ6_bitCount SX X.1 [.int r2] M (z_is (some (.int r3)) M) ∧ LX2_explanations_4 X Q (x1 * r3.toInt64) (x3 + (1 : Int32)) M))))) : LX2_explanations_4 X Q x1 x3 M := by
  show Z SX X 3 4 Q 4 [(0, .ref (X.1.2.1 2)), (1, .long x1), (3, .int x3)] [] M
  refine z_iload_n hX dX2_explanations_4 rfl 2 rfl ?_
  refine z_aload_n hX dX2_explanations_5 rfl 0 rfl ?_
  refine gfX2_19 hX dX2_explanations_6 ?_
  obtain ⟨r1, c9, h⟩ := h
  refine mcX2_40 hX dX2_explanations_9 (by decide) (Nat.le_of_ble_eq_true rfl) c9 ?_
  refine z_icmp_ge hX 33 dX2_explanations_12 (by decide) (fun c0 => ?_) (fun c0 => ?_)
  · replace h := h.1 c0
    refine z_lload_n hX dX2_explanations_33 rfl 1 rfl ?_
    exact z_lret hX dX2_explanations_34 h
  · replace h := h.2 c0
    refine z_lload_n hX dX2_explanations_15 rfl 1 rfl ?_
    refine z_aload_n hX dX2_explanations_16 rfl 0 rfl ?_
    refine z_iload_n hX dX2_explanations_17 rfl 2 rfl ?_
    obtain ⟨r2, c9, h⟩ := h
    refine mcX2_43 hX dX2_explanations_18 (by decide) (Nat.le_of_ble_eq_true rfl) c9 ?_
    obtain ⟨r3, c9, h⟩ := h
    refine mcX2_47 hX dX2_explanations_21 (by decide) (Nat.le_of_ble_eq_true rfl) c9 ?_
    refine z_i2l hX dX2_explanations_24 ?_
    refine z_lmul hX dX2_explanations_25 ?_
    refine z_lstore_n hX dX2_explanations_26 rfl (by decide) [(1, .long (x1 * r3.toInt64)), (0, .ref (X.1.2.1 2)), (3, .int x3)] rfl ?_
    refine z_iinc (v := x3 + (1 : Int32)) hX dX2_explanations_27 2 rfl rfl (by decide) [(3, .int (x3 + (1 : Int32))), (1, .long (x1 * r3.toInt64)), (0, .ref (X.1.2.1 2))] rfl ?_
    refine z_goto hX 4 dX2_explanations_30 (by decide) ?_
    exact z_sub [2, 1, 0] rfl h
abbrev LX2_settleKinds_4 (X : XT) (Q : Option Value → Mem → Prop) (x1 : Int32) (x2 : Int32) (M : Mem) : Prop := Z SX X 3 4 Q 4 [(0, .ref (X.1.2.1 2)), (1, .int x1), (2, .int x2)] [] M
set_option maxRecDepth 100000 in
set_option maxHeartbeats 4000000 in
theorem EX2_settleKinds {E : ET} {Q : Option Value → Mem → Prop} {M : Mem} (h : ∀ X : XT, X.1 = E → KX2_settleKinds X → LX2_settleKinds_4 X Q (0 : Int32) (0 : Int32) M) : CX2_settleKinds E [.ref (E.2.1 2)] M Q := by
  refine z_entry (by decide +kernel) (Nat.le_of_ble_eq_true rfl) (fun X hE hX => ?_)
  subst hE
  replace h := h X rfl hX
  show Z SX X 3 4 Q 0 [(0, .ref (X.1.2.1 2))] [] M
  refine z_iconst (v := 0) hX dX2_settleKinds_0 (by decide) ?_
  refine z_istore_n hX dX2_settleKinds_1 rfl (by decide) [(1, .int (0 : Int32)), (0, .ref (X.1.2.1 2))] rfl ?_
  refine z_iconst (v := 0) hX dX2_settleKinds_2 (by decide) ?_
  refine z_istore_n hX dX2_settleKinds_3 rfl (by decide) [(2, .int (0 : Int32)), (1, .int (0 : Int32)), (0, .ref (X.1.2.1 2))] rfl ?_
  exact z_sub [2, 1, 0] rfl h
set_option maxRecDepth 100000 in
set_option maxHeartbeats 4000000 in
theorem BX2_settleKinds_4 {X : XT} {Q : Option Value → Mem → Prop} (hX : KX2_settleKinds X) {x1 x2 : Int32} {M : Mem} (h : ∃ (r1 : Int32), CX7_size X.1 [.ref (X.1.2.1 7)] M (z_is (some (.int r1)) M) ∧ ((r1 ≤ x2 → Q (some (.int x1)) M) ∧ (¬ r1 ≤ x2 → (∃ (r2 : Int32), CX2_kindsOf X.1 [.ref (X.1.2.1 2), .int x2] M (z_is (some (.int r2)) M) ∧ (∃ (r3 : Int32), CX2_leastKind X.1 [.int r2] M (z_is (some (.int r3)) M) ∧ (∃ (r4 : Int32), CX7_kind X.1 [.ref (X.1.2.1 7), .int x2] M (z_is (some (.int r4)) M) ∧ ((r3 = r4 → LX2_settleKinds_4 X Q x1 (x2 + (1 : Int32)) M) ∧ (¬ r3 = r4 → (∃ q6 : Mem → Prop, CX7_setKind X.1 [.ref (X.1.2.1 7), .int x2, .int r3] M (z_pV q6) ∧ ∀ (M5 : Mem), q6 M5 → LX2_settleKinds_4 X Q (x1 + (1 : Int32)) (x2 + (1 : Int32)) M5))))))))) : LX2_settleKinds_4 X Q x1 x2 M := by
  show Z SX X 3 4 Q 4 [(0, .ref (X.1.2.1 2)), (1, .int x1), (2, .int x2)] [] M
  refine z_iload_n hX dX2_settleKinds_4 rfl 2 rfl ?_
  refine z_aload_n hX dX2_settleKinds_5 rfl 0 rfl ?_
  refine gfX2_19 hX dX2_settleKinds_6 ?_
  obtain ⟨r1, c9, h⟩ := h
  refine mcX2_40 hX dX2_settleKinds_9 (by decide) (Nat.le_of_ble_eq_true rfl) c9 ?_
  refine z_icmp_ge hX 54 dX2_settleKinds_12 (by decide) (fun c0 => ?_) (fun c0 => ?_)
  · replace h := h.1 c0
    refine z_iload_n hX dX2_settleKinds_54 rfl 1 rfl ?_
    exact z_iret hX dX2_settleKinds_55 h
  · replace h := h.2 c0
    refine z_aload_n hX dX2_settleKinds_15 rfl 0 rfl ?_
    refine z_iload_n hX dX2_settleKinds_16 rfl 2 rfl ?_
    obtain ⟨r2, c9, h⟩ := h
    refine mcX2_43 hX dX2_settleKinds_17 (by decide) (Nat.le_of_ble_eq_true rfl) c9 ?_
    obtain ⟨r3, c9, h⟩ := h
    refine mcX2_52 hX dX2_settleKinds_20 (by decide) (Nat.le_of_ble_eq_true rfl) c9 ?_
    refine z_istore_n hX dX2_settleKinds_23 rfl (by decide) [(3, .int r3), (0, .ref (X.1.2.1 2)), (1, .int x1), (2, .int x2)] rfl ?_
    refine z_iload_n hX dX2_settleKinds_24 rfl 0 rfl ?_
    refine z_aload_n hX dX2_settleKinds_25 rfl 1 rfl ?_
    refine gfX2_19 hX dX2_settleKinds_26 ?_
    refine z_iload_n hX dX2_settleKinds_29 rfl 3 rfl ?_
    obtain ⟨r4, c9, h⟩ := h
    refine mcX2_55 hX dX2_settleKinds_30 (by decide) (Nat.le_of_ble_eq_true rfl) c9 ?_
    refine z_icmp_eq hX 48 dX2_settleKinds_33 (by decide) (fun c0 => ?_) (fun c0 => ?_)
    · replace h := h.1 c0
      refine z_iinc (v := x2 + (1 : Int32)) hX dX2_settleKinds_48 3 rfl rfl (by decide) [(2, .int (x2 + (1 : Int32))), (3, .int r3), (0, .ref (X.1.2.1 2)), (1, .int x1)] rfl ?_
      refine z_goto hX 4 dX2_settleKinds_51 (by decide) ?_
      exact z_sub [2, 3, 0] rfl h
    · replace h := h.2 c0
      refine z_aload_n hX dX2_settleKinds_36 rfl 1 rfl ?_
      refine gfX2_19 hX dX2_settleKinds_37 ?_
      refine z_iload_n hX dX2_settleKinds_40 rfl 3 rfl ?_
      refine z_iload_n hX dX2_settleKinds_41 rfl 0 rfl ?_
      obtain ⟨q6, c9, h⟩ := h
      refine mcX2_58 hX dX2_settleKinds_42 (by decide) (Nat.le_of_ble_eq_true rfl) c9 (fun M5 hq => ?_)
      replace h := h M5 hq
      refine z_iinc (v := x1 + (1 : Int32)) hX dX2_settleKinds_45 2 rfl rfl (by decide) [(1, .int (x1 + (1 : Int32))), (3, .int r3), (0, .ref (X.1.2.1 2)), (2, .int x2)] rfl ?_
      refine z_iinc (v := x2 + (1 : Int32)) hX dX2_settleKinds_48 3 rfl rfl (by decide) [(2, .int (x2 + (1 : Int32))), (1, .int (x1 + (1 : Int32))), (3, .int r3), (0, .ref (X.1.2.1 2))] rfl ?_
      refine z_goto hX 4 dX2_settleKinds_51 (by decide) ?_
      exact z_sub [3, 1, 0] rfl h
abbrev LX2_leastKind_2 (X : XT) (Q : Option Value → Mem → Prop) (x0 : Int32) (x1 : Int32) (M : Mem) : Prop := Z SX X 0 2 Q 2 [(0, .int x0), (1, .int x1)] [] M
set_option maxRecDepth 100000 in
set_option maxHeartbeats 4000000 in
theorem EX2_leastKind {E : ET} {Q : Option Value → Mem → Prop} {x0 : Int32} {M : Mem} (h : ∀ X : XT, X.1 = E → KX2_leastKind X → LX2_leastKind_2 X Q x0 (0 : Int32) M) : CX2_leastKind E [.int x0] M Q := by
  refine z_entry (by decide +kernel) (Nat.le_of_ble_eq_true rfl) (fun X hE hX => ?_)
  subst hE
  replace h := h X rfl hX
  show Z SX X 0 2 Q 0 [(0, .int x0)] [] M
  refine z_iconst (v := 0) hX dX2_leastKind_0 (by decide) ?_
  refine z_istore_n hX dX2_leastKind_1 rfl (by decide) [(1, .int (0 : Int32)), (0, .int x0)] rfl ?_
  exact z_sub [1, 0] rfl h
set_option maxRecDepth 100000 in
set_option maxHeartbeats 4000000 in
theorem BX2_leastKind_2 {X : XT} {Q : Option Value → Mem → Prop} (hX : KX2_leastKind X) {x0 x1 : Int32} {M : Mem} (h : (((3 : Int32) ≤ x1 → Q (some (.int x1)) M) ∧ (¬ (3 : Int32) ≤ x1 → ((¬ ((x0 >>> (x1 &&& 31)) &&& (1 : Int32)) = 0 → Q (some (.int x1)) M) ∧ (((x0 >>> (x1 &&& 31)) &&& (1 : Int32)) = 0 → LX2_leastKind_2 X Q x0 (x1 + (1 : Int32)) M))))) : LX2_leastKind_2 X Q x0 x1 M := by
  show Z SX X 0 2 Q 2 [(0, .int x0), (1, .int x1)] [] M
  refine z_iload_n hX dX2_leastKind_2 rfl 1 rfl ?_
  refine z_iconst (v := 3) hX dX2_leastKind_3 (by decide) ?_
  refine z_icmp_ge hX 21 dX2_leastKind_4 (by decide) (fun c0 => ?_) (fun c0 => ?_)
  · replace h := h.1 c0
    refine z_iload_n hX dX2_leastKind_21 rfl 1 rfl ?_
    exact z_iret hX dX2_leastKind_22 h
  · replace h := h.2 c0
    refine z_iload_n hX dX2_leastKind_7 rfl 0 rfl ?_
    refine z_iload_n hX dX2_leastKind_8 rfl 1 rfl ?_
    refine z_ishr hX dX2_leastKind_9 ?_
    refine z_iconst (v := 1) hX dX2_leastKind_10 (by decide) ?_
    refine z_iand hX dX2_leastKind_11 ?_
    refine z_if_ne hX 21 dX2_leastKind_12 (by decide) (fun c0 => ?_) (fun c0 => ?_)
    · replace h := h.1 c0
      refine z_iload_n hX dX2_leastKind_21 rfl 1 rfl ?_
      exact z_iret hX dX2_leastKind_22 h
    · replace h := h.2 c0
      refine z_iinc (v := x1 + (1 : Int32)) hX dX2_leastKind_15 1 rfl rfl (by decide) [(1, .int (x1 + (1 : Int32))), (0, .int x0)] rfl ?_
      refine z_goto hX 2 dX2_leastKind_18 (by decide) ?_
      exact z_sub [1, 0] rfl h
abbrev LX3_howMany_21 (X : XT) (Q : Option Value → Mem → Prop) (x2 : Int32) (x3 : Int32) (x4 : Int32) (M : Mem) : Prop := Z SX X 3 5 Q 21 [(1, .ref (X.1.2.1 24)), (2, .int x2), (3, .int x3), (4, .int x4)] [] M
set_option maxRecDepth 100000 in
set_option maxHeartbeats 4000000 in
theorem EX3_howMany {E : ET} {Q : Option Value → Mem → Prop} {M : Mem} (h : ∀ X : XT, X.1 = E → KX3_howMany X → (∃ q3 : Mem → Prop, CX7_restless X.1 [.ref (X.1.2.1 7)] M (z_pR (X.1.2.1 24) q3) ∧ ∀ (M1 : Mem), q3 M1 → (∃ (r2 : Int32), CX7_dresses X.1 [.ref (X.1.2.1 7)] M1 (z_is (some (.int r2)) M1) ∧ LX3_howMany_21 X Q r2 (0 : Int32) (0 : Int32) M1))) : CX3_howMany E [.ref (E.2.1 3)] M Q := by
  refine z_entry (by decide +kernel) (Nat.le_of_ble_eq_true rfl) (fun X hE hX => ?_)
  subst hE
  replace h := h X rfl hX
  show Z SX X 3 5 Q 0 [(0, .ref (X.1.2.1 3))] [] M
  refine z_aload_n hX dX3_howMany_0 rfl 0 rfl ?_
  refine gfX3_7 hX dX3_howMany_1 ?_
  obtain ⟨q3, c9, h⟩ := h
  refine mcX3_13 hX dX3_howMany_4 (by decide) (Nat.le_of_ble_eq_true rfl) c9 (fun M1 hq => ?_)
  replace h := h M1 hq
  refine z_astore_n hX dX3_howMany_7 rfl (by decide) [(1, .ref (X.1.2.1 24)), (0, .ref (X.1.2.1 3))] rfl ?_
  refine z_aload_n hX dX3_howMany_8 rfl 1 rfl ?_
  refine gfX3_7 hX dX3_howMany_9 ?_
  obtain ⟨r2, c9, h⟩ := h
  refine mcX3_19 hX dX3_howMany_12 (by decide) (Nat.le_of_ble_eq_true rfl) c9 ?_
  refine z_istore_n hX dX3_howMany_15 rfl (by decide) [(2, .int r2), (1, .ref (X.1.2.1 24)), (0, .ref (X.1.2.1 3))] rfl ?_
  refine z_iconst (v := 0) hX dX3_howMany_16 (by decide) ?_
  refine z_istore_n hX dX3_howMany_17 rfl (by decide) [(3, .int (0 : Int32)), (2, .int r2), (1, .ref (X.1.2.1 24)), (0, .ref (X.1.2.1 3))] rfl ?_
  refine z_iconst (v := 0) hX dX3_howMany_18 (by decide) ?_
  refine z_istore hX dX3_howMany_19 (by decide) [(4, .int (0 : Int32)), (3, .int (0 : Int32)), (2, .int r2), (1, .ref (X.1.2.1 24)), (0, .ref (X.1.2.1 3))] rfl ?_
  exact z_sub [3, 2, 1, 0] rfl h
set_option maxRecDepth 100000 in
set_option maxHeartbeats 4000000 in
theorem BX3_howMany_21 {X : XT} {Q : Option Value → Mem → Prop} (hX : KX3_howMany X) {x2 x3 x4 : Int32} {M : Mem} (h : ((x2 ≤ x4 → Q (some (.int x3)) M) ∧ (¬ x2 ≤ x4 → (vp_in x4 1024 ∧ ((¬ (M.1 24 x4.toNatClampNeg) = 0 → LX3_howMany_21 X Q x2 x3 (x4 + (1 : Int32)) M) ∧ ((M.1 24 x4.toNatClampNeg) = 0 → LX3_howMany_21 X Q x2 (x3 + (1 : Int32)) (x4 + (1 : Int32)) M)))))) : LX3_howMany_21 X Q x2 x3 x4 M := by
  show Z SX X 3 5 Q 21 [(1, .ref (X.1.2.1 24)), (2, .int x2), (3, .int x3), (4, .int x4)] [] M
  refine z_iload hX dX3_howMany_21 3 rfl ?_
  refine z_iload_n hX dX3_howMany_23 rfl 1 rfl ?_
  refine z_icmp_ge hX 43 dX3_howMany_24 (by decide) (fun c0 => ?_) (fun c0 => ?_)
  · replace h := h.1 c0
    refine z_iload_n hX dX3_howMany_43 rfl 2 rfl ?_
    exact z_iret hX dX3_howMany_44 h
  · replace h := h.2 c0
    refine z_aload_n hX dX3_howMany_27 rfl 0 rfl ?_
    refine z_iload hX dX3_howMany_28 3 rfl ?_
    refine z_iald hX 24 rfl h.1 dX3_howMany_30 ?_
    replace h := h.2
    refine z_if_ne hX 37 dX3_howMany_31 (by decide) (fun c0 => ?_) (fun c0 => ?_)
    · replace h := h.1 c0
      refine z_iinc (v := x4 + (1 : Int32)) hX dX3_howMany_37 3 rfl rfl (by decide) [(4, .int (x4 + (1 : Int32))), (1, .ref (X.1.2.1 24)), (2, .int x2), (3, .int x3)] rfl ?_
      refine z_goto hX 21 dX3_howMany_40 (by decide) ?_
      exact z_sub [1, 2, 3, 0] rfl h
    · replace h := h.2 c0
      refine z_iinc (v := x3 + (1 : Int32)) hX dX3_howMany_34 2 rfl rfl (by decide) [(3, .int (x3 + (1 : Int32))), (1, .ref (X.1.2.1 24)), (2, .int x2), (4, .int x4)] rfl ?_
      refine z_iinc (v := x4 + (1 : Int32)) hX dX3_howMany_37 3 rfl rfl (by decide) [(4, .int (x4 + (1 : Int32))), (3, .int (x3 + (1 : Int32))), (1, .ref (X.1.2.1 24)), (2, .int x2)] rfl ?_
      refine z_goto hX 21 dX3_howMany_40 (by decide) ?_
      exact z_sub [2, 3, 1, 0] rfl h
abbrev LX3_dressOf_22 (X : XT) (Q : Option Value → Mem → Prop) (x3 : Int32) (x4 : Int32) (x5 : Int32) (M : Mem) : Prop := Z SX X 3 6 Q 22 [(2, .ref (X.1.2.1 24)), (3, .int x3), (4, .int x4), (5, .int x5)] [] M
set_option maxRecDepth 100000 in
set_option maxHeartbeats 4000000 in
theorem EX3_dressOf {E : ET} {Q : Option Value → Mem → Prop} {x1 : Int32} {M : Mem} (h : ∀ X : XT, X.1 = E → KX3_dressOf X → (∃ q3 : Mem → Prop, CX7_restless X.1 [.ref (X.1.2.1 7)] M (z_pR (X.1.2.1 24) q3) ∧ ∀ (M1 : Mem), q3 M1 → (∃ (r2 : Int32), CX7_dresses X.1 [.ref (X.1.2.1 7)] M1 (z_is (some (.int r2)) M1) ∧ LX3_dressOf_22 X Q r2 x1 (0 : Int32) M1))) : CX3_dressOf E [.ref (E.2.1 3), .int x1] M Q := by
  refine z_entry (by decide +kernel) (Nat.le_of_ble_eq_true rfl) (fun X hE hX => ?_)
  subst hE
  replace h := h X rfl hX
  show Z SX X 3 6 Q 0 [(0, .ref (X.1.2.1 3)), (1, .int x1)] [] M
  refine z_aload_n hX dX3_dressOf_0 rfl 0 rfl ?_
  refine gfX3_7 hX dX3_dressOf_1 ?_
  obtain ⟨q3, c9, h⟩ := h
  refine mcX3_13 hX dX3_dressOf_4 (by decide) (Nat.le_of_ble_eq_true rfl) c9 (fun M1 hq => ?_)
  replace h := h M1 hq
  refine z_astore_n hX dX3_dressOf_7 rfl (by decide) [(2, .ref (X.1.2.1 24)), (0, .ref (X.1.2.1 3)), (1, .int x1)] rfl ?_
  refine z_aload_n hX dX3_dressOf_8 rfl 1 rfl ?_
  refine gfX3_7 hX dX3_dressOf_9 ?_
  obtain ⟨r2, c9, h⟩ := h
  refine mcX3_19 hX dX3_dressOf_12 (by decide) (Nat.le_of_ble_eq_true rfl) c9 ?_
  refine z_istore_n hX dX3_dressOf_15 rfl (by decide) [(3, .int r2), (2, .ref (X.1.2.1 24)), (0, .ref (X.1.2.1 3)), (1, .int x1)] rfl ?_
  refine z_iload_n hX dX3_dressOf_16 rfl 3 rfl ?_
  refine z_istore hX dX3_dressOf_17 (by decide) [(4, .int x1), (3, .int r2), (2, .ref (X.1.2.1 24)), (0, .ref (X.1.2.1 3)), (1, .int x1)] rfl ?_
  refine z_iconst (v := 0) hX dX3_dressOf_19 (by decide) ?_
  refine z_istore hX dX3_dressOf_20 (by decide) [(5, .int (0 : Int32)), (4, .int x1), (3, .int r2), (2, .ref (X.1.2.1 24)), (0, .ref (X.1.2.1 3)), (1, .int x1)] rfl ?_
  exact z_sub [3, 2, 1, 0] rfl h
set_option maxRecDepth 100000 in
set_option maxHeartbeats 4000000 in
theorem BX3_dressOf_22 {X : XT} {Q : Option Value → Mem → Prop} (hX : KX3_dressOf X) {x3 x4 x5 : Int32} {M : Mem} (h : ((x3 ≤ x5 → Q (some (.int (-1 : Int32))) M) ∧ (¬ x3 ≤ x5 → ((x4 < 0 → Q (some (.int (-1 : Int32))) M) ∧ (¬ x4 < 0 → (vp_in x5 1024 ∧ ((¬ (M.1 24 x5.toNatClampNeg) = 0 → LX3_dressOf_22 X Q x3 x4 (x5 + (1 : Int32)) M) ∧ ((M.1 24 x5.toNatClampNeg) = 0 → ((¬ x4 = 0 → LX3_dressOf_22 X Q x3 (x4 + (-1 : Int32)) (x5 + (1 : Int32)) M) ∧ (x4 = 0 → Q (some (.int x5)) M)))))))))) : LX3_dressOf_22 X Q x3 x4 x5 M := by
  show Z SX X 3 6 Q 22 [(2, .ref (X.1.2.1 24)), (3, .int x3), (4, .int x4), (5, .int x5)] [] M
  refine z_iload hX dX3_dressOf_22 3 rfl ?_
  refine z_iload_n hX dX3_dressOf_24 rfl 1 rfl ?_
  refine z_icmp_ge hX 57 dX3_dressOf_25 (by decide) (fun c0 => ?_) (fun c0 => ?_)
  · replace h := h.1 c0
    refine z_iconst (v := -1) hX dX3_dressOf_57 (by decide) ?_
    exact z_iret hX dX3_dressOf_58 h
  · replace h := h.2 c0
    refine z_iload hX dX3_dressOf_28 2 rfl ?_
    refine z_if_lt hX 57 dX3_dressOf_30 (by decide) (fun c0 => ?_) (fun c0 => ?_)
    · replace h := h.1 c0
      refine z_iconst (v := -1) hX dX3_dressOf_57 (by decide) ?_
      exact z_iret hX dX3_dressOf_58 h
    · replace h := h.2 c0
      refine z_aload_n hX dX3_dressOf_33 rfl 0 rfl ?_
      refine z_iload hX dX3_dressOf_34 3 rfl ?_
      refine z_iald hX 24 rfl h.1 dX3_dressOf_36 ?_
      replace h := h.2
      refine z_if_ne hX 51 dX3_dressOf_37 (by decide) (fun c0 => ?_) (fun c0 => ?_)
      · replace h := h.1 c0
        refine z_iinc (v := x5 + (1 : Int32)) hX dX3_dressOf_51 3 rfl rfl (by decide) [(5, .int (x5 + (1 : Int32))), (2, .ref (X.1.2.1 24)), (3, .int x3), (4, .int x4)] rfl ?_
        refine z_goto hX 22 dX3_dressOf_54 (by decide) ?_
        exact z_sub [1, 2, 3, 0] rfl h
      · replace h := h.2 c0
        refine z_iload hX dX3_dressOf_40 2 rfl ?_
        refine z_if_ne hX 48 dX3_dressOf_42 (by decide) (fun c0 => ?_) (fun c0 => ?_)
        · replace h := h.1 c0
          refine z_iinc (v := x4 + (-1 : Int32)) hX dX3_dressOf_48 2 rfl rfl (by decide) [(4, .int (x4 + (-1 : Int32))), (2, .ref (X.1.2.1 24)), (3, .int x3), (5, .int x5)] rfl ?_
          refine z_iinc (v := x5 + (1 : Int32)) hX dX3_dressOf_51 3 rfl rfl (by decide) [(5, .int (x5 + (1 : Int32))), (4, .int (x4 + (-1 : Int32))), (2, .ref (X.1.2.1 24)), (3, .int x3)] rfl ?_
          refine z_goto hX 22 dX3_dressOf_54 (by decide) ?_
          exact z_sub [2, 3, 1, 0] rfl h
        · replace h := h.2 c0
          refine z_iload hX dX3_dressOf_45 3 rfl ?_
          exact z_iret hX dX3_dressOf_47 h
abbrev LX3_fewestRestless_23 (X : XT) (Q : Option Value → Mem → Prop) (x2 : Int32) (x3 : Int32) (x4 : Int32) (M : Mem) : Prop := Z SX X 3 6 Q 23 [(1, .ref (X.1.2.1 24)), (2, .int x2), (3, .int x3), (4, .int x4)] [] M
set_option maxRecDepth 100000 in
set_option maxHeartbeats 4000000 in
theorem EX3_fewestRestless {E : ET} {Q : Option Value → Mem → Prop} {M : Mem} (h : ∀ X : XT, X.1 = E → KX3_fewestRestless X → (∃ q3 : Mem → Prop, CX7_restless X.1 [.ref (X.1.2.1 7)] M (z_pR (X.1.2.1 24) q3) ∧ ∀ (M1 : Mem), q3 M1 → (∃ (r2 : Int32), CX7_dresses X.1 [.ref (X.1.2.1 7)] M1 (z_is (some (.int r2)) M1) ∧ (vp_in (0 : Int32) 1024 ∧ LX3_fewestRestless_23 X Q r2 (M1.1 24 (0 : Int32).toNatClampNeg) (1 : Int32) M1)))) : CX3_fewestRestless E [.ref (E.2.1 3)] M Q := by
  refine z_entry (by decide +kernel) (Nat.le_of_ble_eq_true rfl) (fun X hE hX => ?_)
  subst hE
  replace h := h X rfl hX
  show Z SX X 3 6 Q 0 [(0, .ref (X.1.2.1 3))] [] M
  refine z_aload_n hX dX3_fewestRestless_0 rfl 0 rfl ?_
  refine gfX3_7 hX dX3_fewestRestless_1 ?_
  obtain ⟨q3, c9, h⟩ := h
  refine mcX3_13 hX dX3_fewestRestless_4 (by decide) (Nat.le_of_ble_eq_true rfl) c9 (fun M1 hq => ?_)
  replace h := h M1 hq
  refine z_astore_n hX dX3_fewestRestless_7 rfl (by decide) [(1, .ref (X.1.2.1 24)), (0, .ref (X.1.2.1 3))] rfl ?_
  refine z_aload_n hX dX3_fewestRestless_8 rfl 1 rfl ?_
  refine gfX3_7 hX dX3_fewestRestless_9 ?_
  obtain ⟨r2, c9, h⟩ := h
  refine mcX3_19 hX dX3_fewestRestless_12 (by decide) (Nat.le_of_ble_eq_true rfl) c9 ?_
  refine z_istore_n hX dX3_fewestRestless_15 rfl (by decide) [(2, .int r2), (1, .ref (X.1.2.1 24)), (0, .ref (X.1.2.1 3))] rfl ?_
  refine z_aload_n hX dX3_fewestRestless_16 rfl 1 rfl ?_
  refine z_iconst (v := 0) hX dX3_fewestRestless_17 (by decide) ?_
  refine z_iald hX 24 rfl h.1 dX3_fewestRestless_18 ?_
  replace h := h.2
  refine z_istore_n hX dX3_fewestRestless_19 rfl (by decide) [(3, .int (M1.1 24 (0 : Int32).toNatClampNeg)), (2, .int r2), (1, .ref (X.1.2.1 24)), (0, .ref (X.1.2.1 3))] rfl ?_
  refine z_iconst (v := 1) hX dX3_fewestRestless_20 (by decide) ?_
  refine z_istore hX dX3_fewestRestless_21 (by decide) [(4, .int (1 : Int32)), (3, .int (M1.1 24 (0 : Int32).toNatClampNeg)), (2, .int r2), (1, .ref (X.1.2.1 24)), (0, .ref (X.1.2.1 3))] rfl ?_
  exact z_sub [3, 2, 1, 0] rfl h
set_option maxRecDepth 100000 in
set_option maxHeartbeats 4000000 in
theorem BX3_fewestRestless_23 {X : XT} {Q : Option Value → Mem → Prop} (hX : KX3_fewestRestless X) {x2 x3 x4 : Int32} {M : Mem} (h : ((x2 ≤ x4 → Q (some (.int x3)) M) ∧ (¬ x2 ≤ x4 → (vp_in x4 1024 ∧ (∃ (r1 : Int32), CJ6_bitCount SX X.1 [.int (M.1 24 x4.toNatClampNeg)] M (z_is (some (.int r1)) M) ∧ (∃ (r2 : Int32), CJ6_bitCount SX X.1 [.int x3] M (z_is (some (.int r2)) M) ∧ (((r1 - r2) < 0 → (vp_in x4 1024 ∧ LX3_fewestRestless_23 X Q x2 (M.1 24 x4.toNatClampNeg) (x4 + (1 : Int32)) M)) ∧ (¬ (r1 - r2) < 0 → ((¬ (r1 - r2) = 0 → LX3_fewestRestless_23 X Q x2 x3 (x4 + (1 : Int32)) M) ∧ ((r1 - r2) = 0 → (vp_in x4 1024 ∧ ((x3 ≤ (M.1 24 x4.toNatClampNeg) → LX3_fewestRestless_23 X Q x2 x3 (x4 + (1 : Int32)) M) ∧ (¬ x3 ≤ (M.1 24 x4.toNatClampNeg) → (vp_in x4 1024 ∧ LX3_fewestRestless_23 X Q x2 (M.1 24 x4.toNatClampNeg) (x4 + (1 : Int32)) M)))))))))))))) : LX3_fewestRestless_23 X Q x2 x3 x4 M := by
  show Z SX X 3 6 Q 23 [(1, .ref (X.1.2.1 24)), (2, .int x2), (3, .int x3), (4, .int x4)] [] M
  refine z_iload hX dX3_fewestRestless_23 3 rfl ?_
  refine z_iload_n hX dX3_fewestRestless_25 rfl 1 rfl ?_
  refine z_icmp_ge hX 72 dX3_fewestRestless_26 (by decide) (fun c0 => ?_) (fun c0 => ?_)
  · replace h := h.1 c0
    refine z_iload_n hX dX3_fewestRestless_72 rfl 2 rfl ?_
    exact z_iret hX dX3_fewestRestless_73 h
  · replace h := h.2 c0
    refine z_aload_n hX dX3_fewestRestless_29 rfl 0 rfl ?_
    refine z_iload hX dX3_fewestRestless_30 3 rfl ?_
    refine z_iald hX 24 rfl h.1 dX3_fewestRestless_32 ?_
    replace h := h.2
    obtain ⟨r1, c9, h⟩ := h
    refine mcX3_23 hX dX3_fewestRestless_33 (by decide) (Nat.le_of_ble_eq_true rfl) c9 ?_
    refine z_iload_n hX dX3_fewestRestless_36 rfl 2 rfl ?_
    obtain ⟨r2, c9, h⟩ := h
    refine mcX3_23 hX dX3_fewestRestless_37 (by decide) (Nat.le_of_ble_eq_true rfl) c9 ?_
    refine z_isub hX dX3_fewestRestless_40 ?_
    refine z_istore hX dX3_fewestRestless_41 (by decide) [(5, .int (r1 - r2)), (1, .ref (X.1.2.1 24)), (2, .int x2), (3, .int x3), (4, .int x4)] rfl ?_
    refine z_iload hX dX3_fewestRestless_43 0 rfl ?_
    refine z_if_lt hX 61 dX3_fewestRestless_45 (by decide) (fun c0 => ?_) (fun c0 => ?_)
    · replace h := h.1 c0
      refine z_aload_n hX dX3_fewestRestless_61 rfl 1 rfl ?_
      refine z_iload hX dX3_fewestRestless_62 4 rfl ?_
      refine z_iald hX 24 rfl h.1 dX3_fewestRestless_64 ?_
      replace h := h.2
      refine z_istore_n hX dX3_fewestRestless_65 rfl (by decide) [(3, .int (M.1 24 x4.toNatClampNeg)), (5, .int (r1 - r2)), (1, .ref (X.1.2.1 24)), (2, .int x2), (4, .int x4)] rfl ?_
      refine z_iinc (v := x4 + (1 : Int32)) hX dX3_fewestRestless_66 4 rfl rfl (by decide) [(4, .int (x4 + (1 : Int32))), (3, .int (M.1 24 x4.toNatClampNeg)), (5, .int (r1 - r2)), (1, .ref (X.1.2.1 24)), (2, .int x2)] rfl ?_
      refine z_goto hX 23 dX3_fewestRestless_69 (by decide) ?_
      exact z_sub [3, 4, 1, 0] rfl h
    · replace h := h.2 c0
      refine z_iload hX dX3_fewestRestless_48 0 rfl ?_
      refine z_if_ne hX 66 dX3_fewestRestless_50 (by decide) (fun c0 => ?_) (fun c0 => ?_)
      · replace h := h.1 c0
        refine z_iinc (v := x4 + (1 : Int32)) hX dX3_fewestRestless_66 4 rfl rfl (by decide) [(4, .int (x4 + (1 : Int32))), (5, .int (r1 - r2)), (1, .ref (X.1.2.1 24)), (2, .int x2), (3, .int x3)] rfl ?_
        refine z_goto hX 23 dX3_fewestRestless_69 (by decide) ?_
        exact z_sub [2, 3, 4, 0] rfl h
      · replace h := h.2 c0
        refine z_aload_n hX dX3_fewestRestless_53 rfl 1 rfl ?_
        refine z_iload hX dX3_fewestRestless_54 4 rfl ?_
        refine z_iald hX 24 rfl h.1 dX3_fewestRestless_56 ?_
        replace h := h.2
        refine z_iload_n hX dX3_fewestRestless_57 rfl 3 rfl ?_
        refine z_icmp_ge hX 66 dX3_fewestRestless_58 (by decide) (fun c0 => ?_) (fun c0 => ?_)
        · replace h := h.1 c0
          refine z_iinc (v := x4 + (1 : Int32)) hX dX3_fewestRestless_66 4 rfl rfl (by decide) [(4, .int (x4 + (1 : Int32))), (5, .int (r1 - r2)), (1, .ref (X.1.2.1 24)), (2, .int x2), (3, .int x3)] rfl ?_
          refine z_goto hX 23 dX3_fewestRestless_69 (by decide) ?_
          exact z_sub [2, 3, 4, 0] rfl h
        · replace h := h.2 c0
          refine z_aload_n hX dX3_fewestRestless_61 rfl 1 rfl ?_
          refine z_iload hX dX3_fewestRestless_62 4 rfl ?_
          refine z_iald hX 24 rfl h.1 dX3_fewestRestless_64 ?_
          replace h := h.2
          refine z_istore_n hX dX3_fewestRestless_65 rfl (by decide) [(3, .int (M.1 24 x4.toNatClampNeg)), (5, .int (r1 - r2)), (1, .ref (X.1.2.1 24)), (2, .int x2), (4, .int x4)] rfl ?_
          refine z_iinc (v := x4 + (1 : Int32)) hX dX3_fewestRestless_66 4 rfl rfl (by decide) [(4, .int (x4 + (1 : Int32))), (3, .int (M.1 24 x4.toNatClampNeg)), (5, .int (r1 - r2)), (1, .ref (X.1.2.1 24)), (2, .int x2)] rfl ?_
          refine z_goto hX 23 dX3_fewestRestless_69 (by decide) ?_
          exact z_sub [3, 4, 1, 0] rfl h
abbrev LX3_leastOfFewestRestless_21 (X : XT) (Q : Option Value → Mem → Prop) (x2 : Int32) (x3 : Int32) (x4 : Int32) (M : Mem) : Prop := Z SX X 3 5 Q 21 [(1, .ref (X.1.2.1 24)), (2, .int x2), (3, .int x3), (4, .int x4)] [] M
set_option maxRecDepth 100000 in
set_option maxHeartbeats 4000000 in
theorem EX3_leastOfFewestRestless {E : ET} {Q : Option Value → Mem → Prop} {M : Mem} (h : ∀ X : XT, X.1 = E → KX3_leastOfFewestRestless X → (∃ q3 : Mem → Prop, CX7_restless X.1 [.ref (X.1.2.1 7)] M (z_pR (X.1.2.1 24) q3) ∧ ∀ (M1 : Mem), q3 M1 → (∃ (r2 : Int32), CX7_dresses X.1 [.ref (X.1.2.1 7)] M1 (z_is (some (.int r2)) M1) ∧ LX3_leastOfFewestRestless_21 X Q r2 (0 : Int32) (1 : Int32) M1))) : CX3_leastOfFewestRestless E [.ref (E.2.1 3)] M Q := by
  refine z_entry (by decide +kernel) (Nat.le_of_ble_eq_true rfl) (fun X hE hX => ?_)
  subst hE
  replace h := h X rfl hX
  show Z SX X 3 5 Q 0 [(0, .ref (X.1.2.1 3))] [] M
  refine z_aload_n hX dX3_leastOfFewestRestless_0 rfl 0 rfl ?_
  refine gfX3_7 hX dX3_leastOfFewestRestless_1 ?_
  obtain ⟨q3, c9, h⟩ := h
  refine mcX3_13 hX dX3_leastOfFewestRestless_4 (by decide) (Nat.le_of_ble_eq_true rfl) c9 (fun M1 hq => ?_)
  replace h := h M1 hq
  refine z_astore_n hX dX3_leastOfFewestRestless_7 rfl (by decide) [(1, .ref (X.1.2.1 24)), (0, .ref (X.1.2.1 3))] rfl ?_
  refine z_aload_n hX dX3_leastOfFewestRestless_8 rfl 1 rfl ?_
  refine gfX3_7 hX dX3_leastOfFewestRestless_9 ?_
  obtain ⟨r2, c9, h⟩ := h
  refine mcX3_19 hX dX3_leastOfFewestRestless_12 (by decide) (Nat.le_of_ble_eq_true rfl) c9 ?_
  refine z_istore_n hX dX3_leastOfFewestRestless_15 rfl (by decide) [(2, .int r2), (1, .ref (X.1.2.1 24)), (0, .ref (X.1.2.1 3))] rfl ?_
  refine z_iconst (v := 0) hX dX3_leastOfFewestRestless_16 (by decide) ?_
  refine z_istore_n hX dX3_leastOfFewestRestless_17 rfl (by decide) [(3, .int (0 : Int32)), (2, .int r2), (1, .ref (X.1.2.1 24)), (0, .ref (X.1.2.1 3))] rfl ?_
  refine z_iconst (v := 1) hX dX3_leastOfFewestRestless_18 (by decide) ?_
  refine z_istore hX dX3_leastOfFewestRestless_19 (by decide) [(4, .int (1 : Int32)), (3, .int (0 : Int32)), (2, .int r2), (1, .ref (X.1.2.1 24)), (0, .ref (X.1.2.1 3))] rfl ?_
  exact z_sub [3, 2, 1, 0] rfl h
set_option maxRecDepth 100000 in
set_option maxHeartbeats 4000000 in
theorem BX3_leastOfFewestRestless_21 {X : XT} {Q : Option Value → Mem → Prop} (hX : KX3_leastOfFewestRestless X) {x2 x3 x4 : Int32} {M : Mem} (h : ((x2 ≤ x4 → Q (some (.int x3)) M) ∧ (¬ x2 ≤ x4 → (vp_in x4 1024 ∧ (∃ (r1 : Int32), CJ6_bitCount SX X.1 [.int (M.1 24 x4.toNatClampNeg)] M (z_is (some (.int r1)) M) ∧ (vp_in x3 1024 ∧ (∃ (r2 : Int32), CJ6_bitCount SX X.1 [.int (M.1 24 x3.toNatClampNeg)] M (z_is (some (.int r2)) M) ∧ ((r2 ≤ r1 → LX3_leastOfFewestRestless_21 X Q x2 x3 (x4 + (1 : Int32)) M) ∧ (¬ r2 ≤ r1 → LX3_leastOfFewestRestless_21 X Q x2 x4 (x4 + (1 : Int32)) M))))))))) : LX3_leastOfFewestRestless_21 X Q x2 x3 x4 M := by
  show Z SX X 3 5 Q 21 [(1, .ref (X.1.2.1 24)), (2, .int x2), (3, .int x3), (4, .int x4)] [] M
  refine z_iload hX dX3_leastOfFewestRestless_21 3 rfl ?_
  refine z_iload_n hX dX3_leastOfFewestRestless_23 rfl 1 rfl ?_
  refine z_icmp_ge hX 52 dX3_leastOfFewestRestless_24 (by decide) (fun c0 => ?_) (fun c0 => ?_)
  · replace h := h.1 c0
    refine z_iload_n hX dX3_leastOfFewestRestless_52 rfl 2 rfl ?_
    exact z_iret hX dX3_leastOfFewestRestless_53 h
  · replace h := h.2 c0
    refine z_aload_n hX dX3_leastOfFewestRestless_27 rfl 0 rfl ?_
    refine z_iload hX dX3_leastOfFewestRestless_28 3 rfl ?_
    refine z_iald hX 24 rfl h.1 dX3_leastOfFewestRestless_30 ?_
    replace h := h.2
    obtain ⟨r1, c9, h⟩ := h
    refine mcX3_23 hX dX3_leastOfFewestRestless_31 (by decide) (Nat.le_of_ble_eq_true rfl) c9 ?_
    refine z_aload_n hX dX3_leastOfFewestRestless_34 rfl 0 rfl ?_
    refine z_iload_n hX dX3_leastOfFewestRestless_35 rfl 2 rfl ?_
    refine z_iald hX 24 rfl h.1 dX3_leastOfFewestRestless_36 ?_
    replace h := h.2
    obtain ⟨r2, c9, h⟩ := h
    refine mcX3_23 hX dX3_leastOfFewestRestless_37 (by decide) (Nat.le_of_ble_eq_true rfl) c9 ?_
    refine z_icmp_ge hX 46 dX3_leastOfFewestRestless_40 (by decide) (fun c0 => ?_) (fun c0 => ?_)
    · replace h := h.1 c0
      refine z_iinc (v := x4 + (1 : Int32)) hX dX3_leastOfFewestRestless_46 3 rfl rfl (by decide) [(4, .int (x4 + (1 : Int32))), (1, .ref (X.1.2.1 24)), (2, .int x2), (3, .int x3)] rfl ?_
      refine z_goto hX 21 dX3_leastOfFewestRestless_49 (by decide) ?_
      exact z_sub [1, 2, 3, 0] rfl h
    · replace h := h.2 c0
      refine z_iload hX dX3_leastOfFewestRestless_43 3 rfl ?_
      refine z_istore_n hX dX3_leastOfFewestRestless_45 rfl (by decide) [(3, .int x4), (1, .ref (X.1.2.1 24)), (2, .int x2), (4, .int x4)] rfl ?_
      refine z_iinc (v := x4 + (1 : Int32)) hX dX3_leastOfFewestRestless_46 3 rfl rfl (by decide) [(4, .int (x4 + (1 : Int32))), (3, .int x4), (1, .ref (X.1.2.1 24)), (2, .int x2)] rfl ?_
      refine z_goto hX 21 dX3_leastOfFewestRestless_49 (by decide) ?_
      exact z_sub [2, 3, 1, 0] rfl h
set_option maxRecDepth 100000 in
set_option maxHeartbeats 4000000 in
theorem EX9_people {E : ET} {Q : Option Value → Mem → Prop} {x1 : Int32} {M : Mem} (h : ∃ (r1 : Int32), CX9_within E [.int x1, .int (1 : Int32), .int (10 : Int32)] M (z_is (some (.int r1)) M) ∧ ((¬ r1 = 0 → (∃ (r2 : Int32), CX7_size E [.ref (E.2.1 7)] M (z_is (some (.int r2)) M) ∧ (∃ q6 : Mem → Prop, CX7_startAnew E [.ref (E.2.1 7), .int x1] M (z_pV q6) ∧ ∀ (M3 : Mem), q6 M3 → (∃ q5 : Mem → Prop, CX2_clear E [.ref (E.2.1 2)] M3 (z_pV q5) ∧ ∀ (M4 : Mem), q5 M4 → Q (some (.int r2)) M4)))) ∧ (r1 = 0 → Q (some (.int (-2 : Int32))) M))) : CX9_people E [.ref (E.2.1 9), .int x1] M Q := by
  refine z_entry (by decide +kernel) (Nat.le_of_ble_eq_true rfl) (fun X hE hX => ?_)
  subst hE
  show Z SX X 2 3 Q 0 [(0, .ref (X.1.2.1 9)), (1, .int x1)] [] M
  refine z_iload_n hX dX9_people_0 rfl 1 rfl ?_
  refine z_iconst (v := 1) hX dX9_people_1 (by decide) ?_
  refine z_bipush (v := 10) hX dX9_people_2 (by decide) ?_
  obtain ⟨r1, c9, h⟩ := h
  refine mcX9_74 hX dX9_people_4 (by decide) (Nat.le_of_ble_eq_true rfl) c9 ?_
  refine z_if_ne hX 13 dX9_people_7 (by decide) (fun c0 => ?_) (fun c0 => ?_)
  · replace h := h.1 c0
    refine z_aload_n hX dX9_people_13 rfl 0 rfl ?_
    refine gfX9_15 hX dX9_people_14 ?_
    obtain ⟨r2, c9, h⟩ := h
    refine mcX9_78 hX dX9_people_17 (by decide) (Nat.le_of_ble_eq_true rfl) c9 ?_
    refine z_istore_n hX dX9_people_20 rfl (by decide) [(2, .int r2), (0, .ref (X.1.2.1 9)), (1, .int x1)] rfl ?_
    refine z_aload_n hX dX9_people_21 rfl 1 rfl ?_
    refine gfX9_15 hX dX9_people_22 ?_
    refine z_iload_n hX dX9_people_25 rfl 2 rfl ?_
    obtain ⟨q6, c9, h⟩ := h
    refine mcX9_82 hX dX9_people_26 (by decide) (Nat.le_of_ble_eq_true rfl) c9 (fun M3 hq => ?_)
    replace h := h M3 hq
    refine z_aload_n hX dX9_people_29 rfl 1 rfl ?_
    refine gfX9_61 hX dX9_people_30 ?_
    obtain ⟨q5, c9, h⟩ := h
    refine mcX9_86 hX dX9_people_33 (by decide) (Nat.le_of_ble_eq_true rfl) c9 (fun M4 hq => ?_)
    replace h := h M4 hq
    refine z_iload_n hX dX9_people_36 rfl 0 rfl ?_
    exact z_iret hX dX9_people_37 h
  · replace h := h.2 c0
    refine z_bipush (v := -2) hX dX9_people_10 (by decide) ?_
    exact z_iret hX dX9_people_12 h
set_option maxRecDepth 100000 in
set_option maxHeartbeats 4000000 in
theorem EX9_tie {E : ET} {Q : Option Value → Mem → Prop} {x1 x2 x3 : Int32} {M : Mem} (h : ∃ (r1 : Int32), CX7_has E [.ref (E.2.1 7), .int x1] M (z_is (some (.int r1)) M) ∧ ((r1 = 0 → Q (some (.int (-1 : Int32))) M) ∧ (¬ r1 = 0 → (∃ (r2 : Int32), CX7_has E [.ref (E.2.1 7), .int x2] M (z_is (some (.int r2)) M) ∧ ((¬ r2 = 0 → (∃ (r3 : Int32), CX9_within E [.int x3, .int (0 : Int32), .int (9 : Int32)] M (z_is (some (.int r3)) M) ∧ ((¬ r3 = 0 → ((¬ x1 = x2 → (∃ (r4 : Int32), CX7_weight E [.ref (E.2.1 7), .int x1, .int x2] M (z_is (some (.int r4)) M) ∧ (∃ q6 : Mem → Prop, CX7_setWeight E [.ref (E.2.1 7), .int x1, .int x2, .int x3] M (z_pV q6) ∧ ∀ (M5 : Mem), q6 M5 → Q (some (.int r4)) M5))) ∧ (x1 = x2 → Q (some (.int (-3 : Int32))) M))) ∧ (r3 = 0 → Q (some (.int (-2 : Int32))) M)))) ∧ (r2 = 0 → Q (some (.int (-1 : Int32))) M)))))) : CX9_tie E [.ref (E.2.1 9), .int x1, .int x2, .int x3] M Q := by
  refine z_entry (by decide +kernel) (Nat.le_of_ble_eq_true rfl) (fun X hE hX => ?_)
  subst hE
  show Z SX X 2 5 Q 0 [(0, .ref (X.1.2.1 9)), (1, .int x1), (2, .int x2), (3, .int x3)] [] M
  refine z_aload_n hX dX9_tie_0 rfl 0 rfl ?_
  refine gfX9_15 hX dX9_tie_1 ?_
  refine z_iload_n hX dX9_tie_4 rfl 1 rfl ?_
  obtain ⟨r1, c9, h⟩ := h
  refine mcX9_89 hX dX9_tie_5 (by decide) (Nat.le_of_ble_eq_true rfl) c9 ?_
  refine z_if_eq hX 22 dX9_tie_8 (by decide) (fun c0 => ?_) (fun c0 => ?_)
  · replace h := h.1 c0
    refine z_iconst (v := -1) hX dX9_tie_22 (by decide) ?_
    exact z_iret hX dX9_tie_23 h
  · replace h := h.2 c0
    refine z_aload_n hX dX9_tie_11 rfl 0 rfl ?_
    refine gfX9_15 hX dX9_tie_12 ?_
    refine z_iload_n hX dX9_tie_15 rfl 2 rfl ?_
    obtain ⟨r2, c9, h⟩ := h
    refine mcX9_89 hX dX9_tie_16 (by decide) (Nat.le_of_ble_eq_true rfl) c9 ?_
    refine z_if_ne hX 24 dX9_tie_19 (by decide) (fun c0 => ?_) (fun c0 => ?_)
    · replace h := h.1 c0
      refine z_iload_n hX dX9_tie_24 rfl 3 rfl ?_
      refine z_iconst (v := 0) hX dX9_tie_25 (by decide) ?_
      refine z_bipush (v := 9) hX dX9_tie_26 (by decide) ?_
      obtain ⟨r3, c9, h⟩ := h
      refine mcX9_74 hX dX9_tie_28 (by decide) (Nat.le_of_ble_eq_true rfl) c9 ?_
      refine z_if_ne hX 37 dX9_tie_31 (by decide) (fun c0 => ?_) (fun c0 => ?_)
      · replace h := h.1 c0
        refine z_iload_n hX dX9_tie_37 rfl 1 rfl ?_
        refine z_iload_n hX dX9_tie_38 rfl 2 rfl ?_
        refine z_icmp_ne hX 45 dX9_tie_39 (by decide) (fun c0 => ?_) (fun c0 => ?_)
        · replace h := h.1 c0
          refine z_aload_n hX dX9_tie_45 rfl 0 rfl ?_
          refine gfX9_15 hX dX9_tie_46 ?_
          refine z_iload_n hX dX9_tie_49 rfl 1 rfl ?_
          refine z_iload_n hX dX9_tie_50 rfl 2 rfl ?_
          obtain ⟨r4, c9, h⟩ := h
          refine mcX9_93 hX dX9_tie_51 (by decide) (Nat.le_of_ble_eq_true rfl) c9 ?_
          refine z_istore hX dX9_tie_54 (by decide) [(4, .int r4), (0, .ref (X.1.2.1 9)), (1, .int x1), (2, .int x2), (3, .int x3)] rfl ?_
          refine z_aload_n hX dX9_tie_56 rfl 1 rfl ?_
          refine gfX9_15 hX dX9_tie_57 ?_
          refine z_iload_n hX dX9_tie_60 rfl 2 rfl ?_
          refine z_iload_n hX dX9_tie_61 rfl 3 rfl ?_
          refine z_iload_n hX dX9_tie_62 rfl 4 rfl ?_
          obtain ⟨q6, c9, h⟩ := h
          refine mcX9_97 hX dX9_tie_63 (by decide) (Nat.le_of_ble_eq_true rfl) c9 (fun M5 hq => ?_)
          replace h := h M5 hq
          refine z_iload hX dX9_tie_66 0 rfl ?_
          exact z_iret hX dX9_tie_68 h
        · replace h := h.2 c0
          refine z_bipush (v := -3) hX dX9_tie_42 (by decide) ?_
          exact z_iret hX dX9_tie_44 h
      · replace h := h.2 c0
        refine z_bipush (v := -2) hX dX9_tie_34 (by decide) ?_
        exact z_iret hX dX9_tie_36 h
    · replace h := h.2 c0
      refine z_iconst (v := -1) hX dX9_tie_22 (by decide) ?_
      exact z_iret hX dX9_tie_23 h
set_option maxRecDepth 100000 in
set_option maxHeartbeats 4000000 in
theorem EX9_set {E : ET} {Q : Option Value → Mem → Prop} {x1 x2 x3 : Int32} {M : Mem} (h : ∃ (r1 : Int32), CX7_has E [.ref (E.2.1 7), .int x1] M (z_is (some (.int r1)) M) ∧ ((¬ r1 = 0 → ((¬ x2 = 0 → ((¬ x2 = (1 : Int32) → Q (some (.int (-2 : Int32))) M) ∧ (x2 = (1 : Int32) → (∃ (r2 : Int32), CX9_within E [.int x3, .int (-9 : Int32), .int (9 : Int32)] M (z_is (some (.int r2)) M) ∧ ((r2 = 0 → Q (some (.int (-2 : Int32))) M) ∧ (¬ r2 = 0 → (∃ (r3 : Int32), CX7_lean E [.ref (E.2.1 7), .int x1] M (z_is (some (.int r3)) M) ∧ (∃ q5 : Mem → Prop, CX7_setLean E [.ref (E.2.1 7), .int x1, .int x3] M (z_pV q5) ∧ ∀ (M4 : Mem), q5 M4 → Q (some (.int r3)) M4)))))))) ∧ (x2 = 0 → (∃ (r6 : Int32), CX9_within E [.int x3, .int (0 : Int32), .int (3 : Int32)] M (z_is (some (.int r6)) M) ∧ ((r6 = 0 → ((¬ x2 = (1 : Int32) → Q (some (.int (-2 : Int32))) M) ∧ (x2 = (1 : Int32) → (∃ (r7 : Int32), CX9_within E [.int x3, .int (-9 : Int32), .int (9 : Int32)] M (z_is (some (.int r7)) M) ∧ ((r7 = 0 → Q (some (.int (-2 : Int32))) M) ∧ (¬ r7 = 0 → (∃ (r8 : Int32), CX7_lean E [.ref (E.2.1 7), .int x1] M (z_is (some (.int r8)) M) ∧ (∃ q10 : Mem → Prop, CX7_setLean E [.ref (E.2.1 7), .int x1, .int x3] M (z_pV q10) ∧ ∀ (M9 : Mem), q10 M9 → Q (some (.int r8)) M9)))))))) ∧ (¬ r6 = 0 → (∃ (r11 : Int32), CX7_kind E [.ref (E.2.1 7), .int x1] M (z_is (some (.int r11)) M) ∧ (∃ q13 : Mem → Prop, CX7_setKind E [.ref (E.2.1 7), .int x1, .int x3] M (z_pV q13) ∧ ∀ (M12 : Mem), q13 M12 → Q (some (.int r11)) M12)))))))) ∧ (r1 = 0 → Q (some (.int (-1 : Int32))) M))) : CX9_set E [.ref (E.2.1 9), .int x1, .int x2, .int x3] M Q := by
  refine z_entry (by decide +kernel) (Nat.le_of_ble_eq_true rfl) (fun X hE hX => ?_)
  subst hE
  show Z SX X 2 5 Q 0 [(0, .ref (X.1.2.1 9)), (1, .int x1), (2, .int x2), (3, .int x3)] [] M
  refine z_aload_n hX dX9_set_0 rfl 0 rfl ?_
  refine gfX9_15 hX dX9_set_1 ?_
  refine z_iload_n hX dX9_set_4 rfl 1 rfl ?_
  obtain ⟨r1, c9, h⟩ := h
  refine mcX9_89 hX dX9_set_5 (by decide) (Nat.le_of_ble_eq_true rfl) c9 ?_
  refine z_if_ne hX 13 dX9_set_8 (by decide) (fun c0 => ?_) (fun c0 => ?_)
  · replace h := h.1 c0
    refine z_iload_n hX dX9_set_13 rfl 2 rfl ?_
    refine z_if_ne hX 48 dX9_set_14 (by decide) (fun c0 => ?_) (fun c0 => ?_)
    · replace h := h.1 c0
      refine z_iload_n hX dX9_set_48 rfl 2 rfl ?_
      refine z_iconst (v := 1) hX dX9_set_49 (by decide) ?_
      refine z_icmp_ne hX 86 dX9_set_50 (by decide) (fun c0 => ?_) (fun c0 => ?_)
      · replace h := h.1 c0
        refine z_bipush (v := -2) hX dX9_set_86 (by decide) ?_
        exact z_iret hX dX9_set_88 h
      · replace h := h.2 c0
        refine z_iload_n hX dX9_set_53 rfl 3 rfl ?_
        refine z_bipush (v := -9) hX dX9_set_54 (by decide) ?_
        refine z_bipush (v := 9) hX dX9_set_56 (by decide) ?_
        obtain ⟨r2, c9, h⟩ := h
        refine mcX9_74 hX dX9_set_58 (by decide) (Nat.le_of_ble_eq_true rfl) c9 ?_
        refine z_if_eq hX 86 dX9_set_61 (by decide) (fun c0 => ?_) (fun c0 => ?_)
        · replace h := h.1 c0
          refine z_bipush (v := -2) hX dX9_set_86 (by decide) ?_
          exact z_iret hX dX9_set_88 h
        · replace h := h.2 c0
          refine z_aload_n hX dX9_set_64 rfl 0 rfl ?_
          refine gfX9_15 hX dX9_set_65 ?_
          refine z_iload_n hX dX9_set_68 rfl 1 rfl ?_
          obtain ⟨r3, c9, h⟩ := h
          refine mcX9_109 hX dX9_set_69 (by decide) (Nat.le_of_ble_eq_true rfl) c9 ?_
          refine z_istore hX dX9_set_72 (by decide) [(4, .int r3), (0, .ref (X.1.2.1 9)), (1, .int x1), (2, .int x2), (3, .int x3)] rfl ?_
          refine z_aload_n hX dX9_set_74 rfl 1 rfl ?_
          refine gfX9_15 hX dX9_set_75 ?_
          refine z_iload_n hX dX9_set_78 rfl 2 rfl ?_
          refine z_iload_n hX dX9_set_79 rfl 4 rfl ?_
          obtain ⟨q5, c9, h⟩ := h
          refine mcX9_112 hX dX9_set_80 (by decide) (Nat.le_of_ble_eq_true rfl) c9 (fun M4 hq => ?_)
          replace h := h M4 hq
          refine z_iload hX dX9_set_83 0 rfl ?_
          exact z_iret hX dX9_set_85 h
    · replace h := h.2 c0
      refine z_iload_n hX dX9_set_17 rfl 3 rfl ?_
      refine z_iconst (v := 0) hX dX9_set_18 (by decide) ?_
      refine z_iconst (v := 3) hX dX9_set_19 (by decide) ?_
      obtain ⟨r6, c9, h⟩ := h
      refine mcX9_74 hX dX9_set_20 (by decide) (Nat.le_of_ble_eq_true rfl) c9 ?_
      refine z_if_eq hX 48 dX9_set_23 (by decide) (fun c0 => ?_) (fun c0 => ?_)
      · replace h := h.1 c0
        refine z_iload_n hX dX9_set_48 rfl 2 rfl ?_
        refine z_iconst (v := 1) hX dX9_set_49 (by decide) ?_
        refine z_icmp_ne hX 86 dX9_set_50 (by decide) (fun c0 => ?_) (fun c0 => ?_)
        · replace h := h.1 c0
          refine z_bipush (v := -2) hX dX9_set_86 (by decide) ?_
          exact z_iret hX dX9_set_88 h
        · replace h := h.2 c0
          refine z_iload_n hX dX9_set_53 rfl 3 rfl ?_
          refine z_bipush (v := -9) hX dX9_set_54 (by decide) ?_
          refine z_bipush (v := 9) hX dX9_set_56 (by decide) ?_
          obtain ⟨r7, c9, h⟩ := h
          refine mcX9_74 hX dX9_set_58 (by decide) (Nat.le_of_ble_eq_true rfl) c9 ?_
          refine z_if_eq hX 86 dX9_set_61 (by decide) (fun c0 => ?_) (fun c0 => ?_)
          · replace h := h.1 c0
            refine z_bipush (v := -2) hX dX9_set_86 (by decide) ?_
            exact z_iret hX dX9_set_88 h
          · replace h := h.2 c0
            refine z_aload_n hX dX9_set_64 rfl 0 rfl ?_
            refine gfX9_15 hX dX9_set_65 ?_
            refine z_iload_n hX dX9_set_68 rfl 1 rfl ?_
            obtain ⟨r8, c9, h⟩ := h
            refine mcX9_109 hX dX9_set_69 (by decide) (Nat.le_of_ble_eq_true rfl) c9 ?_
            refine z_istore hX dX9_set_72 (by decide) [(4, .int r8), (0, .ref (X.1.2.1 9)), (1, .int x1), (2, .int x2), (3, .int x3)] rfl ?_
            refine z_aload_n hX dX9_set_74 rfl 1 rfl ?_
            refine gfX9_15 hX dX9_set_75 ?_
            refine z_iload_n hX dX9_set_78 rfl 2 rfl ?_
            refine z_iload_n hX dX9_set_79 rfl 4 rfl ?_
            obtain ⟨q10, c9, h⟩ := h
            refine mcX9_112 hX dX9_set_80 (by decide) (Nat.le_of_ble_eq_true rfl) c9 (fun M9 hq => ?_)
            replace h := h M9 hq
            refine z_iload hX dX9_set_83 0 rfl ?_
            exact z_iret hX dX9_set_85 h
      · replace h := h.2 c0
        refine z_aload_n hX dX9_set_26 rfl 0 rfl ?_
        refine gfX9_15 hX dX9_set_27 ?_
        refine z_iload_n hX dX9_set_30 rfl 1 rfl ?_
        obtain ⟨r11, c9, h⟩ := h
        refine mcX9_101 hX dX9_set_31 (by decide) (Nat.le_of_ble_eq_true rfl) c9 ?_
        refine z_istore hX dX9_set_34 (by decide) [(4, .int r11), (0, .ref (X.1.2.1 9)), (1, .int x1), (2, .int x2), (3, .int x3)] rfl ?_
        refine z_aload_n hX dX9_set_36 rfl 1 rfl ?_
        refine gfX9_15 hX dX9_set_37 ?_
        refine z_iload_n hX dX9_set_40 rfl 2 rfl ?_
        refine z_iload_n hX dX9_set_41 rfl 4 rfl ?_
        obtain ⟨q13, c9, h⟩ := h
        refine mcX9_105 hX dX9_set_42 (by decide) (Nat.le_of_ble_eq_true rfl) c9 (fun M12 hq => ?_)
        replace h := h M12 hq
        refine z_iload hX dX9_set_45 0 rfl ?_
        exact z_iret hX dX9_set_47 h
  · replace h := h.2 c0
    refine z_iconst (v := -1) hX dX9_set_11 (by decide) ?_
    exact z_iret hX dX9_set_12 h
set_option maxRecDepth 100000 in
set_option maxHeartbeats 4000000 in
theorem EX9_about {E : ET} {Q : Option Value → Mem → Prop} {x1 x2 : Int32} {M : Mem} (h : ∃ (r1 : Int32), CX7_has E [.ref (E.2.1 7), .int x1] M (z_is (some (.int r1)) M) ∧ ((¬ r1 = 0 → (((x2.toInt < 0 ∨ 3 < x2.toInt) → Q (some (.int (-2 : Int32))) M) ∧ (x2 = 0 → (∃ (r2 : Int32), CX7_kind E [.ref (E.2.1 7), .int x1] M (z_is (some (.int r2)) M) ∧ Q (some (.int r2)) M)) ∧ (x2 = 1 → (∃ (r3 : Int32), CX7_lean E [.ref (E.2.1 7), .int x1] M (z_is (some (.int r3)) M) ∧ Q (some (.int r3)) M)) ∧ (x2 = 2 → (∃ (r4 : Int32), CX7_seenBy E [.ref (E.2.1 7), .int x1] M (z_is (some (.int r4)) M) ∧ Q (some (.int r4)) M)) ∧ (x2 = 3 → (∃ (r5 : Int32), CX7_seeing E [.ref (E.2.1 7), .int x1] M (z_is (some (.int r5)) M) ∧ Q (some (.int r5)) M)))) ∧ (r1 = 0 → Q (some (.int (-1 : Int32))) M))) : CX9_about E [.ref (E.2.1 9), .int x1, .int x2] M Q := by
  refine z_entry (by decide +kernel) (Nat.le_of_ble_eq_true rfl) (fun X hE hX => ?_)
  subst hE
  show Z SX X 1 3 Q 0 [(0, .ref (X.1.2.1 9)), (1, .int x1), (2, .int x2)] [] M
  refine z_aload_n hX dX9_about_0 rfl 0 rfl ?_
  refine gfX9_15 hX dX9_about_1 ?_
  refine z_iload_n hX dX9_about_4 rfl 1 rfl ?_
  obtain ⟨r1, c9, h⟩ := h
  refine mcX9_89 hX dX9_about_5 (by decide) (Nat.le_of_ble_eq_true rfl) c9 ?_
  refine z_if_ne hX 13 dX9_about_8 (by decide) (fun c0 => ?_) (fun c0 => ?_)
  · replace h := h.1 c0
    refine z_iload_n hX dX9_about_13 rfl 2 rfl ?_
    by_cases c0 : x2.toInt < 0 ∨ 3 < x2.toInt
    · replace h := h.1 c0
      refine z_tableOut hX 80 dX9_about_14 c0 (by decide) ?_
      refine z_bipush (v := -2) hX dX9_about_80 (by decide) ?_
      exact z_iret hX dX9_about_82 h
    · have c1 := z_tab4 c0
      replace h := h.2
      rcases c1 with c2 | c2 | c2 | c2
      · replace h := h.1 c2
        refine z_tableIn hX 44 dX9_about_14 (by rw [c2]; decide) (by rw [c2]; decide) (by rw [c2]; rfl) (by decide) ?_
        refine z_aload_n hX dX9_about_44 rfl 0 rfl ?_
        refine gfX9_15 hX dX9_about_45 ?_
        refine z_iload_n hX dX9_about_48 rfl 1 rfl ?_
        obtain ⟨r2, c9, h⟩ := h
        refine mcX9_101 hX dX9_about_49 (by decide) (Nat.le_of_ble_eq_true rfl) c9 ?_
        exact z_iret hX dX9_about_52 h
      · replace h := h.2.1 c2
        refine z_tableIn hX 53 dX9_about_14 (by rw [c2]; decide) (by rw [c2]; decide) (by rw [c2]; rfl) (by decide) ?_
        refine z_aload_n hX dX9_about_53 rfl 0 rfl ?_
        refine gfX9_15 hX dX9_about_54 ?_
        refine z_iload_n hX dX9_about_57 rfl 1 rfl ?_
        obtain ⟨r3, c9, h⟩ := h
        refine mcX9_109 hX dX9_about_58 (by decide) (Nat.le_of_ble_eq_true rfl) c9 ?_
        exact z_iret hX dX9_about_61 h
      · replace h := h.2.2.1 c2
        refine z_tableIn hX 62 dX9_about_14 (by rw [c2]; decide) (by rw [c2]; decide) (by rw [c2]; rfl) (by decide) ?_
        refine z_aload_n hX dX9_about_62 rfl 0 rfl ?_
        refine gfX9_15 hX dX9_about_63 ?_
        refine z_iload_n hX dX9_about_66 rfl 1 rfl ?_
        obtain ⟨r4, c9, h⟩ := h
        refine mcX9_115 hX dX9_about_67 (by decide) (Nat.le_of_ble_eq_true rfl) c9 ?_
        exact z_iret hX dX9_about_70 h
      · replace h := h.2.2.2 c2
        refine z_tableIn hX 71 dX9_about_14 (by rw [c2]; decide) (by rw [c2]; decide) (by rw [c2]; rfl) (by decide) ?_
        refine z_aload_n hX dX9_about_71 rfl 0 rfl ?_
        refine gfX9_15 hX dX9_about_72 ?_
        refine z_iload_n hX dX9_about_75 rfl 1 rfl ?_
        obtain ⟨r5, c9, h⟩ := h
        refine mcX9_118 hX dX9_about_76 (by decide) (Nat.le_of_ble_eq_true rfl) c9 ?_
        exact z_iret hX dX9_about_79 h
  · replace h := h.2 c0
    refine z_iconst (v := -1) hX dX9_about_11 (by decide) ?_
    exact z_iret hX dX9_about_12 h
set_option maxRecDepth 100000 in
set_option maxHeartbeats 4000000 in
theorem EX9_sees {E : ET} {Q : Option Value → Mem → Prop} {x1 x2 : Int32} {M : Mem} (h : ∃ (r1 : Int32), CX7_has E [.ref (E.2.1 7), .int x1] M (z_is (some (.int r1)) M) ∧ ((r1 = 0 → Q (some (.int (-1 : Int32))) M) ∧ (¬ r1 = 0 → (∃ (r2 : Int32), CX7_has E [.ref (E.2.1 7), .int x2] M (z_is (some (.int r2)) M) ∧ ((¬ r2 = 0 → ((¬ x1 = x2 → (∃ (r3 : Int32), CX7_weight E [.ref (E.2.1 7), .int x1, .int x2] M (z_is (some (.int r3)) M) ∧ Q (some (.int r3)) M)) ∧ (x1 = x2 → Q (some (.int (-3 : Int32))) M))) ∧ (r2 = 0 → Q (some (.int (-1 : Int32))) M)))))) : CX9_sees E [.ref (E.2.1 9), .int x1, .int x2] M Q := by
  refine z_entry (by decide +kernel) (Nat.le_of_ble_eq_true rfl) (fun X hE hX => ?_)
  subst hE
  show Z SX X 1 3 Q 0 [(0, .ref (X.1.2.1 9)), (1, .int x1), (2, .int x2)] [] M
  refine z_aload_n hX dX9_sees_0 rfl 0 rfl ?_
  refine gfX9_15 hX dX9_sees_1 ?_
  refine z_iload_n hX dX9_sees_4 rfl 1 rfl ?_
  obtain ⟨r1, c9, h⟩ := h
  refine mcX9_89 hX dX9_sees_5 (by decide) (Nat.le_of_ble_eq_true rfl) c9 ?_
  refine z_if_eq hX 22 dX9_sees_8 (by decide) (fun c0 => ?_) (fun c0 => ?_)
  · replace h := h.1 c0
    refine z_iconst (v := -1) hX dX9_sees_22 (by decide) ?_
    exact z_iret hX dX9_sees_23 h
  · replace h := h.2 c0
    refine z_aload_n hX dX9_sees_11 rfl 0 rfl ?_
    refine gfX9_15 hX dX9_sees_12 ?_
    refine z_iload_n hX dX9_sees_15 rfl 2 rfl ?_
    obtain ⟨r2, c9, h⟩ := h
    refine mcX9_89 hX dX9_sees_16 (by decide) (Nat.le_of_ble_eq_true rfl) c9 ?_
    refine z_if_ne hX 24 dX9_sees_19 (by decide) (fun c0 => ?_) (fun c0 => ?_)
    · replace h := h.1 c0
      refine z_iload_n hX dX9_sees_24 rfl 1 rfl ?_
      refine z_iload_n hX dX9_sees_25 rfl 2 rfl ?_
      refine z_icmp_ne hX 32 dX9_sees_26 (by decide) (fun c0 => ?_) (fun c0 => ?_)
      · replace h := h.1 c0
        refine z_aload_n hX dX9_sees_32 rfl 0 rfl ?_
        refine gfX9_15 hX dX9_sees_33 ?_
        refine z_iload_n hX dX9_sees_36 rfl 1 rfl ?_
        refine z_iload_n hX dX9_sees_37 rfl 2 rfl ?_
        obtain ⟨r3, c9, h⟩ := h
        refine mcX9_93 hX dX9_sees_38 (by decide) (Nat.le_of_ble_eq_true rfl) c9 ?_
        exact z_iret hX dX9_sees_41 h
      · replace h := h.2 c0
        refine z_bipush (v := -3) hX dX9_sees_29 (by decide) ?_
        exact z_iret hX dX9_sees_31 h
    · replace h := h.2 c0
      refine z_iconst (v := -1) hX dX9_sees_22 (by decide) ?_
      exact z_iret hX dX9_sees_23 h
set_option maxRecDepth 100000 in
set_option maxHeartbeats 4000000 in
theorem EX9_sum {E : ET} {Q : Option Value → Mem → Prop} {x1 x2 : Int32} {M : Mem} (h : ∃ (r1 : Int32), CX7_has E [.ref (E.2.1 7), .int x1] M (z_is (some (.int r1)) M) ∧ ((¬ r1 = 0 → (∃ (r2 : Int32), CX7_isDress E [.ref (E.2.1 7), .int x2] M (z_is (some (.int r2)) M) ∧ ((¬ r2 = 0 → (∃ (r3 : Int32), CX7_sumOf E [.ref (E.2.1 7), .int x1, .int x2] M (z_is (some (.int r3)) M) ∧ Q (some (.int r3)) M)) ∧ (r2 = 0 → Q (some (.int (-2 : Int32))) M)))) ∧ (r1 = 0 → Q (some (.int (-1 : Int32))) M))) : CX9_sum E [.ref (E.2.1 9), .int x1, .int x2] M Q := by
  refine z_entry (by decide +kernel) (Nat.le_of_ble_eq_true rfl) (fun X hE hX => ?_)
  subst hE
  show Z SX X 2 3 Q 0 [(0, .ref (X.1.2.1 9)), (1, .int x1), (2, .int x2)] [] M
  refine z_aload_n hX dX9_sum_0 rfl 0 rfl ?_
  refine gfX9_15 hX dX9_sum_1 ?_
  refine z_iload_n hX dX9_sum_4 rfl 1 rfl ?_
  obtain ⟨r1, c9, h⟩ := h
  refine mcX9_89 hX dX9_sum_5 (by decide) (Nat.le_of_ble_eq_true rfl) c9 ?_
  refine z_if_ne hX 13 dX9_sum_8 (by decide) (fun c0 => ?_) (fun c0 => ?_)
  · replace h := h.1 c0
    refine z_aload_n hX dX9_sum_13 rfl 0 rfl ?_
    refine gfX9_15 hX dX9_sum_14 ?_
    refine z_iload_n hX dX9_sum_17 rfl 2 rfl ?_
    obtain ⟨r2, c9, h⟩ := h
    refine mcX9_121 hX dX9_sum_18 (by decide) (Nat.le_of_ble_eq_true rfl) c9 ?_
    refine z_if_ne hX 27 dX9_sum_21 (by decide) (fun c0 => ?_) (fun c0 => ?_)
    · replace h := h.1 c0
      refine z_aload_n hX dX9_sum_27 rfl 0 rfl ?_
      refine gfX9_15 hX dX9_sum_28 ?_
      refine z_iload_n hX dX9_sum_31 rfl 1 rfl ?_
      refine z_iload_n hX dX9_sum_32 rfl 2 rfl ?_
      obtain ⟨r3, c9, h⟩ := h
      refine mcX9_124 hX dX9_sum_33 (by decide) (Nat.le_of_ble_eq_true rfl) c9 ?_
      exact z_iret hX dX9_sum_36 h
    · replace h := h.2 c0
      refine z_bipush (v := -2) hX dX9_sum_24 (by decide) ?_
      exact z_iret hX dX9_sum_26 h
  · replace h := h.2 c0
    refine z_iconst (v := -1) hX dX9_sum_11 (by decide) ?_
    exact z_iret hX dX9_sum_12 h
set_option maxRecDepth 100000 in
set_option maxHeartbeats 4000000 in
theorem EX9_calm {E : ET} {Q : Option Value → Mem → Prop} {x1 : Int32} {M : Mem} (h : ∃ (r1 : Int32), CX7_isDress E [.ref (E.2.1 7), .int x1] M (z_is (some (.int r1)) M) ∧ ((¬ r1 = 0 → (∃ (r2 : Int32), CX7_dresses E [.ref (E.2.1 7)] M (z_is (some (.int r2)) M) ∧ (∃ (r3 : Int32), CX7_restlessIn E [.ref (E.2.1 7), .int x1] M (z_is (some (.int r3)) M) ∧ Q (some (.int ((r2 - (1 : Int32)) &&& (r3 ^^^ (-1 : Int32))))) M))) ∧ (r1 = 0 → Q (some (.int (-2 : Int32))) M))) : CX9_calm E [.ref (E.2.1 9), .int x1] M Q := by
  refine z_entry (by decide +kernel) (Nat.le_of_ble_eq_true rfl) (fun X hE hX => ?_)
  subst hE
  show Z SX X 4 2 Q 0 [(0, .ref (X.1.2.1 9)), (1, .int x1)] [] M
  refine z_aload_n hX dX9_calm_0 rfl 0 rfl ?_
  refine gfX9_15 hX dX9_calm_1 ?_
  refine z_iload_n hX dX9_calm_4 rfl 1 rfl ?_
  obtain ⟨r1, c9, h⟩ := h
  refine mcX9_121 hX dX9_calm_5 (by decide) (Nat.le_of_ble_eq_true rfl) c9 ?_
  refine z_if_ne hX 14 dX9_calm_8 (by decide) (fun c0 => ?_) (fun c0 => ?_)
  · replace h := h.1 c0
    refine z_aload_n hX dX9_calm_14 rfl 0 rfl ?_
    refine gfX9_15 hX dX9_calm_15 ?_
    obtain ⟨r2, c9, h⟩ := h
    refine mcX9_127 hX dX9_calm_18 (by decide) (Nat.le_of_ble_eq_true rfl) c9 ?_
    refine z_iconst (v := 1) hX dX9_calm_21 (by decide) ?_
    refine z_isub hX dX9_calm_22 ?_
    refine z_aload_n hX dX9_calm_23 rfl 0 rfl ?_
    refine gfX9_15 hX dX9_calm_24 ?_
    refine z_iload_n hX dX9_calm_27 rfl 1 rfl ?_
    obtain ⟨r3, c9, h⟩ := h
    refine mcX9_130 hX dX9_calm_28 (by decide) (Nat.le_of_ble_eq_true rfl) c9 ?_
    refine z_iconst (v := -1) hX dX9_calm_31 (by decide) ?_
    refine z_ixor hX dX9_calm_32 ?_
    refine z_iand hX dX9_calm_33 ?_
    exact z_iret hX dX9_calm_34 h
  · replace h := h.2 c0
    refine z_bipush (v := -2) hX dX9_calm_11 (by decide) ?_
    exact z_iret hX dX9_calm_13 h
set_option maxRecDepth 100000 in
set_option maxHeartbeats 4000000 in
theorem EX9_after {E : ET} {Q : Option Value → Mem → Prop} {x1 x2 x3 : Int32} {M : Mem} (h : ∃ (r1 : Int32), CX7_isDress E [.ref (E.2.1 7), .int x1] M (z_is (some (.int r1)) M) ∧ ((r1 = 0 → Q (some (.int (-2 : Int32))) M) ∧ (¬ r1 = 0 → (∃ (r2 : Int32), CX9_isWay E [.int x2] M (z_is (some (.int r2)) M) ∧ ((r2 = 0 → Q (some (.int (-2 : Int32))) M) ∧ (¬ r2 = 0 → (∃ (r3 : Int32), CX9_within E [.int x3, .int (0 : Int32), .int (10000 : Int32)] M (z_is (some (.int r3)) M) ∧ ((¬ r3 = 0 → (∃ q6 : Int32 → Mem → Prop, CX8_behind E [.ref (E.2.1 8), .int x1, .int x2, .int x3] M (z_pI q6) ∧ ∀ (r5 : Int32) (M4 : Mem), q6 r5 M4 → Q (some (.int r5)) M4)) ∧ (r3 = 0 → Q (some (.int (-2 : Int32))) M))))))))) : CX9_after E [.ref (E.2.1 9), .int x1, .int x2, .int x3] M Q := by
  refine z_entry (by decide +kernel) (Nat.le_of_ble_eq_true rfl) (fun X hE hX => ?_)
  subst hE
  show Z SX X 5 4 Q 0 [(0, .ref (X.1.2.1 9)), (1, .int x1), (2, .int x2), (3, .int x3)] [] M
  refine z_aload_n hX dX9_after_0 rfl 0 rfl ?_
  refine gfX9_15 hX dX9_after_1 ?_
  refine z_iload_n hX dX9_after_4 rfl 1 rfl ?_
  obtain ⟨r1, c9, h⟩ := h
  refine mcX9_121 hX dX9_after_5 (by decide) (Nat.le_of_ble_eq_true rfl) c9 ?_
  refine z_if_eq hX 29 dX9_after_8 (by decide) (fun c0 => ?_) (fun c0 => ?_)
  · replace h := h.1 c0
    refine z_bipush (v := -2) hX dX9_after_29 (by decide) ?_
    exact z_iret hX dX9_after_31 h
  · replace h := h.2 c0
    refine z_iload_n hX dX9_after_11 rfl 2 rfl ?_
    obtain ⟨r2, c9, h⟩ := h
    refine mcX9_133 hX dX9_after_12 (by decide) (Nat.le_of_ble_eq_true rfl) c9 ?_
    refine z_if_eq hX 29 dX9_after_15 (by decide) (fun c0 => ?_) (fun c0 => ?_)
    · replace h := h.1 c0
      refine z_bipush (v := -2) hX dX9_after_29 (by decide) ?_
      exact z_iret hX dX9_after_31 h
    · replace h := h.2 c0
      refine z_iload_n hX dX9_after_18 rfl 3 rfl ?_
      refine z_iconst (v := 0) hX dX9_after_19 (by decide) ?_
      refine z_sipush (v := 10000) hX dX9_after_20 (by decide) ?_
      obtain ⟨r3, c9, h⟩ := h
      refine mcX9_74 hX dX9_after_23 (by decide) (Nat.le_of_ble_eq_true rfl) c9 ?_
      refine z_if_ne hX 32 dX9_after_26 (by decide) (fun c0 => ?_) (fun c0 => ?_)
      · replace h := h.1 c0
        refine z_aload_n hX dX9_after_32 rfl 0 rfl ?_
        refine gfX9_38 hX dX9_after_33 ?_
        refine z_iload_n hX dX9_after_36 rfl 1 rfl ?_
        refine z_iload_n hX dX9_after_37 rfl 2 rfl ?_
        refine z_iload_n hX dX9_after_38 rfl 3 rfl ?_
        obtain ⟨q6, c9, h⟩ := h
        refine mcX9_136 hX dX9_after_39 (by decide) (Nat.le_of_ble_eq_true rfl) c9 (fun r5 M4 hq => ?_)
        replace h := h r5 M4 hq
        exact z_iret hX dX9_after_42 h
      · replace h := h.2 c0
        refine z_bipush (v := -2) hX dX9_after_29 (by decide) ?_
        exact z_iret hX dX9_after_31 h
set_option maxRecDepth 100000 in
set_option maxHeartbeats 4000000 in
theorem EX9_run {E : ET} {Q : Option Value → Mem → Prop} {x1 x2 x3 : Int32} {M : Mem} (h : ∃ (r1 : Int32), CX7_isDress E [.ref (E.2.1 7), .int x1] M (z_is (some (.int r1)) M) ∧ ((r1 = 0 → Q (some (.int (-2 : Int32))) M) ∧ (¬ r1 = 0 → (∃ (r2 : Int32), CX9_isWay E [.int x2] M (z_is (some (.int r2)) M) ∧ ((¬ r2 = 0 → (((x3.toInt < 0 ∨ 2 < x3.toInt) → Q (some (.int (-2 : Int32))) M) ∧ (x3 = 0 → (∃ q5 : Int32 → Mem → Prop, CX8_stepsToRing E [.ref (E.2.1 8), .int x1, .int x2] M (z_pI q5) ∧ ∀ (r4 : Int32) (M3 : Mem), q5 r4 M3 → Q (some (.int r4)) M3)) ∧ (x3 = 1 → (∃ q8 : Int32 → Mem → Prop, CX8_entered E [.ref (E.2.1 8), .int x1, .int x2] M (z_pI q8) ∧ ∀ (r7 : Int32) (M6 : Mem), q8 r7 M6 → Q (some (.int r7)) M6)) ∧ (x3 = 2 → (∃ q14 : Int32 → Mem → Prop, CX8_entered E [.ref (E.2.1 8), .int x1, .int x2] M (z_pI q14) ∧ ∀ (r10 : Int32) (M9 : Mem), q14 r10 M9 → (∃ q13 : Int32 → Mem → Prop, CX8_lengthOf E [.ref (E.2.1 8), .int x2, .int r10] M9 (z_pI q13) ∧ ∀ (r12 : Int32) (M11 : Mem), q13 r12 M11 → Q (some (.int r12)) M11))))) ∧ (r2 = 0 → Q (some (.int (-2 : Int32))) M)))))) : CX9_run E [.ref (E.2.1 9), .int x1, .int x2, .int x3] M Q := by
  refine z_entry (by decide +kernel) (Nat.le_of_ble_eq_true rfl) (fun X hE hX => ?_)
  subst hE
  show Z SX X 6 4 Q 0 [(0, .ref (X.1.2.1 9)), (1, .int x1), (2, .int x2), (3, .int x3)] [] M
  refine z_aload_n hX dX9_run_0 rfl 0 rfl ?_
  refine gfX9_15 hX dX9_run_1 ?_
  refine z_iload_n hX dX9_run_4 rfl 1 rfl ?_
  obtain ⟨r1, c9, h⟩ := h
  refine mcX9_121 hX dX9_run_5 (by decide) (Nat.le_of_ble_eq_true rfl) c9 ?_
  refine z_if_eq hX 18 dX9_run_8 (by decide) (fun c0 => ?_) (fun c0 => ?_)
  · replace h := h.1 c0
    refine z_bipush (v := -2) hX dX9_run_18 (by decide) ?_
    exact z_iret hX dX9_run_20 h
  · replace h := h.2 c0
    refine z_iload_n hX dX9_run_11 rfl 2 rfl ?_
    obtain ⟨r2, c9, h⟩ := h
    refine mcX9_133 hX dX9_run_12 (by decide) (Nat.le_of_ble_eq_true rfl) c9 ?_
    refine z_if_ne hX 21 dX9_run_15 (by decide) (fun c0 => ?_) (fun c0 => ?_)
    · replace h := h.1 c0
      refine z_iload_n hX dX9_run_21 rfl 3 rfl ?_
      by_cases c0 : x3.toInt < 0 ∨ 2 < x3.toInt
      · replace h := h.1 c0
        refine z_tableOut hX 86 dX9_run_22 c0 (by decide) ?_
        refine z_bipush (v := -2) hX dX9_run_86 (by decide) ?_
        exact z_iret hX dX9_run_88 h
      · have c1 := z_tab3 c0
        replace h := h.2
        rcases c1 with c2 | c2 | c2
        · replace h := h.1 c2
          refine z_tableIn hX 48 dX9_run_22 (by rw [c2]; decide) (by rw [c2]; decide) (by rw [c2]; rfl) (by decide) ?_
          refine z_aload_n hX dX9_run_48 rfl 0 rfl ?_
          refine gfX9_38 hX dX9_run_49 ?_
          refine z_iload_n hX dX9_run_52 rfl 1 rfl ?_
          refine z_iload_n hX dX9_run_53 rfl 2 rfl ?_
          obtain ⟨q5, c9, h⟩ := h
          refine mcX9_140 hX dX9_run_54 (by decide) (Nat.le_of_ble_eq_true rfl) c9 (fun r4 M3 hq => ?_)
          replace h := h r4 M3 hq
          exact z_iret hX dX9_run_57 h
        · replace h := h.2.1 c2
          refine z_tableIn hX 58 dX9_run_22 (by rw [c2]; decide) (by rw [c2]; decide) (by rw [c2]; rfl) (by decide) ?_
          refine z_aload_n hX dX9_run_58 rfl 0 rfl ?_
          refine gfX9_38 hX dX9_run_59 ?_
          refine z_iload_n hX dX9_run_62 rfl 1 rfl ?_
          refine z_iload_n hX dX9_run_63 rfl 2 rfl ?_
          obtain ⟨q8, c9, h⟩ := h
          refine mcX9_143 hX dX9_run_64 (by decide) (Nat.le_of_ble_eq_true rfl) c9 (fun r7 M6 hq => ?_)
          replace h := h r7 M6 hq
          exact z_iret hX dX9_run_67 h
        · replace h := h.2.2 c2
          refine z_tableIn hX 68 dX9_run_22 (by rw [c2]; decide) (by rw [c2]; decide) (by rw [c2]; rfl) (by decide) ?_
          refine z_aload_n hX dX9_run_68 rfl 0 rfl ?_
          refine gfX9_38 hX dX9_run_69 ?_
          refine z_iload_n hX dX9_run_72 rfl 2 rfl ?_
          refine z_aload_n hX dX9_run_73 rfl 0 rfl ?_
          refine gfX9_38 hX dX9_run_74 ?_
          refine z_iload_n hX dX9_run_77 rfl 1 rfl ?_
          refine z_iload_n hX dX9_run_78 rfl 2 rfl ?_
          obtain ⟨q14, c9, h⟩ := h
          refine mcX9_143 hX dX9_run_79 (by decide) (Nat.le_of_ble_eq_true rfl) c9 (fun r10 M9 hq => ?_)
          replace h := h r10 M9 hq
          obtain ⟨q13, c9, h⟩ := h
          refine mcX9_146 hX dX9_run_82 (by decide) (Nat.le_of_ble_eq_true rfl) c9 (fun r12 M11 hq => ?_)
          replace h := h r12 M11 hq
          exact z_iret hX dX9_run_85 h
    · replace h := h.2 c0
      refine z_bipush (v := -2) hX dX9_run_18 (by decide) ?_
      exact z_iret hX dX9_run_20 h
set_option maxRecDepth 100000 in
set_option maxHeartbeats 4000000 in
theorem EX9_rings {E : ET} {Q : Option Value → Mem → Prop} {x1 : Int32} {M : Mem} (h : ∃ (r1 : Int32), CX9_isWay E [.int x1] M (z_is (some (.int r1)) M) ∧ ((¬ r1 = 0 → (∃ q4 : Int32 → Mem → Prop, CX8_ringCount E [.ref (E.2.1 8), .int x1] M (z_pI q4) ∧ ∀ (r3 : Int32) (M2 : Mem), q4 r3 M2 → Q (some (.int r3)) M2)) ∧ (r1 = 0 → Q (some (.int (-2 : Int32))) M))) : CX9_rings E [.ref (E.2.1 9), .int x1] M Q := by
  refine z_entry (by decide +kernel) (Nat.le_of_ble_eq_true rfl) (fun X hE hX => ?_)
  subst hE
  show Z SX X 6 2 Q 0 [(0, .ref (X.1.2.1 9)), (1, .int x1)] [] M
  refine z_iload_n hX dX9_rings_0 rfl 1 rfl ?_
  obtain ⟨r1, c9, h⟩ := h
  refine mcX9_133 hX dX9_rings_1 (by decide) (Nat.le_of_ble_eq_true rfl) c9 ?_
  refine z_if_ne hX 10 dX9_rings_4 (by decide) (fun c0 => ?_) (fun c0 => ?_)
  · replace h := h.1 c0
    refine z_aload_n hX dX9_rings_10 rfl 0 rfl ?_
    refine gfX9_38 hX dX9_rings_11 ?_
    refine z_iload_n hX dX9_rings_14 rfl 1 rfl ?_
    obtain ⟨q4, c9, h⟩ := h
    refine mcX9_149 hX dX9_rings_15 (by decide) (Nat.le_of_ble_eq_true rfl) c9 (fun r3 M2 hq => ?_)
    replace h := h r3 M2 hq
    exact z_iret hX dX9_rings_18 h
  · replace h := h.2 c0
    refine z_bipush (v := -2) hX dX9_rings_7 (by decide) ?_
    exact z_iret hX dX9_rings_9 h
set_option maxRecDepth 100000 in
set_option maxHeartbeats 4000000 in
theorem EX9_ring {E : ET} {Q : Option Value → Mem → Prop} {x1 x2 x3 : Int32} {M : Mem} (h : ∃ (r1 : Int32), CX9_isWay E [.int x1] M (z_is (some (.int r1)) M) ∧ ((¬ r1 = 0 → (∃ q13 : Int32 → Mem → Prop, CX8_leastOfRing E [.ref (E.2.1 8), .int x1, .int x2] M (z_pI q13) ∧ ∀ (r3 : Int32) (M2 : Mem), q13 r3 M2 → ((0 ≤ r3 → (((x3.toInt < 0 ∨ 3 < x3.toInt) → Q (some (.int (-2 : Int32))) M2) ∧ (x3 = 0 → Q (some (.int r3)) M2) ∧ (x3 = 1 → (∃ q6 : Int32 → Mem → Prop, CX8_lengthOf E [.ref (E.2.1 8), .int x1, .int r3] M2 (z_pI q6) ∧ ∀ (r5 : Int32) (M4 : Mem), q6 r5 M4 → Q (some (.int r5)) M4)) ∧ (x3 = 2 → (∃ q9 : Int32 → Mem → Prop, CX8_drawnTo E [.ref (E.2.1 8), .int x1, .int r3] M2 (z_pI q9) ∧ ∀ (r8 : Int32) (M7 : Mem), q9 r8 M7 → Q (some (.int r8)) M7)) ∧ (x3 = 3 → (∃ q12 : Int32 → Mem → Prop, CX8_farthestFrom E [.ref (E.2.1 8), .int x1, .int r3] M2 (z_pI q12) ∧ ∀ (r11 : Int32) (M10 : Mem), q12 r11 M10 → Q (some (.int r11)) M10)))) ∧ (¬ 0 ≤ r3 → Q (some (.int (-1 : Int32))) M2)))) ∧ (r1 = 0 → Q (some (.int (-2 : Int32))) M))) : CX9_ring E [.ref (E.2.1 9), .int x1, .int x2, .int x3] M Q := by
  refine z_entry (by decide +kernel) (Nat.le_of_ble_eq_true rfl) (fun X hE hX => ?_)
  subst hE
  show Z SX X 6 5 Q 0 [(0, .ref (X.1.2.1 9)), (1, .int x1), (2, .int x2), (3, .int x3)] [] M
  refine z_iload_n hX dX9_ring_0 rfl 1 rfl ?_
  obtain ⟨r1, c9, h⟩ := h
  refine mcX9_133 hX dX9_ring_1 (by decide) (Nat.le_of_ble_eq_true rfl) c9 ?_
  refine z_if_ne hX 10 dX9_ring_4 (by decide) (fun c0 => ?_) (fun c0 => ?_)
  · replace h := h.1 c0
    refine z_aload_n hX dX9_ring_10 rfl 0 rfl ?_
    refine gfX9_38 hX dX9_ring_11 ?_
    refine z_iload_n hX dX9_ring_14 rfl 1 rfl ?_
    refine z_iload_n hX dX9_ring_15 rfl 2 rfl ?_
    obtain ⟨q13, c9, h⟩ := h
    refine mcX9_152 hX dX9_ring_16 (by decide) (Nat.le_of_ble_eq_true rfl) c9 (fun r3 M2 hq => ?_)
    replace h := h r3 M2 hq
    refine z_istore hX dX9_ring_19 (by decide) [(4, .int r3), (0, .ref (X.1.2.1 9)), (1, .int x1), (2, .int x2), (3, .int x3)] rfl ?_
    refine z_iload hX dX9_ring_21 0 rfl ?_
    refine z_if_ge hX 28 dX9_ring_23 (by decide) (fun c0 => ?_) (fun c0 => ?_)
    · replace h := h.1 c0
      refine z_iload_n hX dX9_ring_28 rfl 4 rfl ?_
      by_cases c0 : x3.toInt < 0 ∨ 3 < x3.toInt
      · replace h := h.1 c0
        refine z_tableOut hX 96 dX9_ring_29 c0 (by decide) ?_
        refine z_bipush (v := -2) hX dX9_ring_96 (by decide) ?_
        exact z_iret hX dX9_ring_98 h
      · have c1 := z_tab4 c0
        replace h := h.2
        rcases c1 with c2 | c2 | c2 | c2
        · replace h := h.1 c2
          refine z_tableIn hX 60 dX9_ring_29 (by rw [c2]; decide) (by rw [c2]; decide) (by rw [c2]; rfl) (by decide) ?_
          refine z_iload hX dX9_ring_60 0 rfl ?_
          exact z_iret hX dX9_ring_62 h
        · replace h := h.2.1 c2
          refine z_tableIn hX 63 dX9_ring_29 (by rw [c2]; decide) (by rw [c2]; decide) (by rw [c2]; rfl) (by decide) ?_
          refine z_aload_n hX dX9_ring_63 rfl 1 rfl ?_
          refine gfX9_38 hX dX9_ring_64 ?_
          refine z_iload_n hX dX9_ring_67 rfl 2 rfl ?_
          refine z_iload hX dX9_ring_68 0 rfl ?_
          obtain ⟨q6, c9, h⟩ := h
          refine mcX9_146 hX dX9_ring_70 (by decide) (Nat.le_of_ble_eq_true rfl) c9 (fun r5 M4 hq => ?_)
          replace h := h r5 M4 hq
          exact z_iret hX dX9_ring_73 h
        · replace h := h.2.2.1 c2
          refine z_tableIn hX 74 dX9_ring_29 (by rw [c2]; decide) (by rw [c2]; decide) (by rw [c2]; rfl) (by decide) ?_
          refine z_aload_n hX dX9_ring_74 rfl 1 rfl ?_
          refine gfX9_38 hX dX9_ring_75 ?_
          refine z_iload_n hX dX9_ring_78 rfl 2 rfl ?_
          refine z_iload hX dX9_ring_79 0 rfl ?_
          obtain ⟨q9, c9, h⟩ := h
          refine mcX9_155 hX dX9_ring_81 (by decide) (Nat.le_of_ble_eq_true rfl) c9 (fun r8 M7 hq => ?_)
          replace h := h r8 M7 hq
          exact z_iret hX dX9_ring_84 h
        · replace h := h.2.2.2 c2
          refine z_tableIn hX 85 dX9_ring_29 (by rw [c2]; decide) (by rw [c2]; decide) (by rw [c2]; rfl) (by decide) ?_
          refine z_aload_n hX dX9_ring_85 rfl 1 rfl ?_
          refine gfX9_38 hX dX9_ring_86 ?_
          refine z_iload_n hX dX9_ring_89 rfl 2 rfl ?_
          refine z_iload hX dX9_ring_90 0 rfl ?_
          obtain ⟨q12, c9, h⟩ := h
          refine mcX9_158 hX dX9_ring_92 (by decide) (Nat.le_of_ble_eq_true rfl) c9 (fun r11 M10 hq => ?_)
          replace h := h r11 M10 hq
          exact z_iret hX dX9_ring_95 h
    · replace h := h.2 c0
      refine z_iconst (v := -1) hX dX9_ring_26 (by decide) ?_
      exact z_iret hX dX9_ring_27 h
  · replace h := h.2 c0
    refine z_bipush (v := -2) hX dX9_ring_7 (by decide) ?_
    exact z_iret hX dX9_ring_9 h
set_option maxRecDepth 100000 in
set_option maxHeartbeats 4000000 in
theorem EX9_longest {E : ET} {Q : Option Value → Mem → Prop} {x1 : Int32} {M : Mem} (h : ∃ (r1 : Int32), CX9_isWay E [.int x1] M (z_is (some (.int r1)) M) ∧ ((¬ r1 = 0 → (∃ q4 : Int32 → Mem → Prop, CX8_greatestLength E [.ref (E.2.1 8), .int x1] M (z_pI q4) ∧ ∀ (r3 : Int32) (M2 : Mem), q4 r3 M2 → Q (some (.int r3)) M2)) ∧ (r1 = 0 → Q (some (.int (-2 : Int32))) M))) : CX9_longest E [.ref (E.2.1 9), .int x1] M Q := by
  refine z_entry (by decide +kernel) (Nat.le_of_ble_eq_true rfl) (fun X hE hX => ?_)
  subst hE
  show Z SX X 6 2 Q 0 [(0, .ref (X.1.2.1 9)), (1, .int x1)] [] M
  refine z_iload_n hX dX9_longest_0 rfl 1 rfl ?_
  obtain ⟨r1, c9, h⟩ := h
  refine mcX9_133 hX dX9_longest_1 (by decide) (Nat.le_of_ble_eq_true rfl) c9 ?_
  refine z_if_ne hX 10 dX9_longest_4 (by decide) (fun c0 => ?_) (fun c0 => ?_)
  · replace h := h.1 c0
    refine z_aload_n hX dX9_longest_10 rfl 0 rfl ?_
    refine gfX9_38 hX dX9_longest_11 ?_
    refine z_iload_n hX dX9_longest_14 rfl 1 rfl ?_
    obtain ⟨q4, c9, h⟩ := h
    refine mcX9_161 hX dX9_longest_15 (by decide) (Nat.le_of_ble_eq_true rfl) c9 (fun r3 M2 hq => ?_)
    replace h := h r3 M2 hq
    exact z_iret hX dX9_longest_18 h
  · replace h := h.2 c0
    refine z_bipush (v := -2) hX dX9_longest_7 (by decide) ?_
    exact z_iret hX dX9_longest_9 h
set_option maxRecDepth 100000 in
set_option maxHeartbeats 4000000 in
theorem EX9_rests {E : ET} {Q : Option Value → Mem → Prop} {M : Mem} (h : ∃ q3 : Int32 → Mem → Prop, CX3_howMany E [.ref (E.2.1 3)] M (z_pI q3) ∧ ∀ (r2 : Int32) (M1 : Mem), q3 r2 M1 → Q (some (.int r2)) M1) : CX9_rests E [.ref (E.2.1 9)] M Q := by
  refine z_entry (by decide +kernel) (Nat.le_of_ble_eq_true rfl) (fun X hE hX => ?_)
  subst hE
  show Z SX X 4 1 Q 0 [(0, .ref (X.1.2.1 9))] [] M
  refine z_aload_n hX dX9_rests_0 rfl 0 rfl ?_
  refine gfX9_31 hX dX9_rests_1 ?_
  obtain ⟨q3, c9, h⟩ := h
  refine mcX9_164 hX dX9_rests_4 (by decide) (Nat.le_of_ble_eq_true rfl) c9 (fun r2 M1 hq => ?_)
  replace h := h r2 M1 hq
  exact z_iret hX dX9_rests_7 h
set_option maxRecDepth 100000 in
set_option maxHeartbeats 4000000 in
theorem EX9_rest {E : ET} {Q : Option Value → Mem → Prop} {x1 : Int32} {M : Mem} (h : ∃ q3 : Int32 → Mem → Prop, CX3_dressOf E [.ref (E.2.1 3), .int x1] M (z_pI q3) ∧ ∀ (r2 : Int32) (M1 : Mem), q3 r2 M1 → ((0 ≤ r2 → Q (some (.int r2)) M1) ∧ (¬ 0 ≤ r2 → Q (some (.int (-1 : Int32))) M1))) : CX9_rest E [.ref (E.2.1 9), .int x1] M Q := by
  refine z_entry (by decide +kernel) (Nat.le_of_ble_eq_true rfl) (fun X hE hX => ?_)
  subst hE
  show Z SX X 4 3 Q 0 [(0, .ref (X.1.2.1 9)), (1, .int x1)] [] M
  refine z_aload_n hX dX9_rest_0 rfl 0 rfl ?_
  refine gfX9_31 hX dX9_rest_1 ?_
  refine z_iload_n hX dX9_rest_4 rfl 1 rfl ?_
  obtain ⟨q3, c9, h⟩ := h
  refine mcX9_167 hX dX9_rest_5 (by decide) (Nat.le_of_ble_eq_true rfl) c9 (fun r2 M1 hq => ?_)
  replace h := h r2 M1 hq
  refine z_istore_n hX dX9_rest_8 rfl (by decide) [(2, .int r2), (0, .ref (X.1.2.1 9)), (1, .int x1)] rfl ?_
  refine z_iload_n hX dX9_rest_9 rfl 0 rfl ?_
  refine z_if_ge hX 17 dX9_rest_10 (by decide) (fun c0 => ?_) (fun c0 => ?_)
  · replace h := h.1 c0
    refine z_iload_n hX dX9_rest_17 rfl 0 rfl ?_
    exact z_iret hX dX9_rest_18 h
  · replace h := h.2 c0
    refine z_iconst (v := -1) hX dX9_rest_13 (by decide) ?_
    refine z_goto hX 18 dX9_rest_14 (by decide) ?_
    exact z_iret hX dX9_rest_18 h
set_option maxRecDepth 100000 in
set_option maxHeartbeats 4000000 in
theorem EX9_even {E : ET} {Q : Option Value → Mem → Prop} {M : Mem} (h : ∃ (r1 : Int32), CX1_isDefined E [.ref (E.2.1 1)] M (z_is (some (.int r1)) M) ∧ ((r1 = 0 → Q (some (.int (0 : Int32))) M) ∧ (¬ r1 = 0 → Q (some (.int (1 : Int32))) M))) : CX9_even E [.ref (E.2.1 9)] M Q := by
  refine z_entry (by decide +kernel) (Nat.le_of_ble_eq_true rfl) (fun X hE hX => ?_)
  subst hE
  show Z SX X 3 1 Q 0 [(0, .ref (X.1.2.1 9))] [] M
  refine z_aload_n hX dX9_even_0 rfl 0 rfl ?_
  refine gfX9_24 hX dX9_even_1 ?_
  obtain ⟨r1, c9, h⟩ := h
  refine mcX9_170 hX dX9_even_4 (by decide) (Nat.le_of_ble_eq_true rfl) c9 ?_
  refine z_if_eq hX 14 dX9_even_7 (by decide) (fun c0 => ?_) (fun c0 => ?_)
  · replace h := h.1 c0
    refine z_iconst (v := 0) hX dX9_even_14 (by decide) ?_
    exact z_iret hX dX9_even_15 h
  · replace h := h.2 c0
    refine z_iconst (v := 1) hX dX9_even_10 (by decide) ?_
    refine z_goto hX 15 dX9_even_11 (by decide) ?_
    exact z_iret hX dX9_even_15 h
set_option maxRecDepth 100000 in
set_option maxHeartbeats 4000000 in
theorem EX9_heat {E : ET} {Q : Option Value → Mem → Prop} {x1 : Int32} {M : Mem} (h : ∃ (r1 : Int32), CX7_isDress E [.ref (E.2.1 7), .int x1] M (z_is (some (.int r1)) M) ∧ ((¬ r1 = 0 → (∃ (r2 : Int32), CX1_isDefined E [.ref (E.2.1 1)] M (z_is (some (.int r2)) M) ∧ ((¬ r2 = 0 → (∃ (r3 : Int32), CX1_of E [.ref (E.2.1 1), .int x1] M (z_is (some (.int r3)) M) ∧ Q (some (.int ((10000 : Int32) + r3))) M)) ∧ (r2 = 0 → Q (some (.int (-3 : Int32))) M)))) ∧ (r1 = 0 → Q (some (.int (-2 : Int32))) M))) : CX9_heat E [.ref (E.2.1 9), .int x1] M Q := by
  refine z_entry (by decide +kernel) (Nat.le_of_ble_eq_true rfl) (fun X hE hX => ?_)
  subst hE
  show Z SX X 3 2 Q 0 [(0, .ref (X.1.2.1 9)), (1, .int x1)] [] M
  refine z_aload_n hX dX9_heat_0 rfl 0 rfl ?_
  refine gfX9_15 hX dX9_heat_1 ?_
  refine z_iload_n hX dX9_heat_4 rfl 1 rfl ?_
  obtain ⟨r1, c9, h⟩ := h
  refine mcX9_121 hX dX9_heat_5 (by decide) (Nat.le_of_ble_eq_true rfl) c9 ?_
  refine z_if_ne hX 14 dX9_heat_8 (by decide) (fun c0 => ?_) (fun c0 => ?_)
  · replace h := h.1 c0
    refine z_aload_n hX dX9_heat_14 rfl 0 rfl ?_
    refine gfX9_24 hX dX9_heat_15 ?_
    obtain ⟨r2, c9, h⟩ := h
    refine mcX9_170 hX dX9_heat_18 (by decide) (Nat.le_of_ble_eq_true rfl) c9 ?_
    refine z_if_ne hX 27 dX9_heat_21 (by decide) (fun c0 => ?_) (fun c0 => ?_)
    · replace h := h.1 c0
      refine z_sipush (v := 10000) hX dX9_heat_27 (by decide) ?_
      refine z_aload_n hX dX9_heat_30 rfl 0 rfl ?_
      refine gfX9_24 hX dX9_heat_31 ?_
      refine z_iload_n hX dX9_heat_34 rfl 1 rfl ?_
      obtain ⟨r3, c9, h⟩ := h
      refine mcX9_174 hX dX9_heat_35 (by decide) (Nat.le_of_ble_eq_true rfl) c9 ?_
      refine z_iadd hX dX9_heat_38 ?_
      exact z_iret hX dX9_heat_39 h
    · replace h := h.2 c0
      refine z_bipush (v := -3) hX dX9_heat_24 (by decide) ?_
      exact z_iret hX dX9_heat_26 h
  · replace h := h.2 c0
    refine z_bipush (v := -2) hX dX9_heat_11 (by decide) ?_
    exact z_iret hX dX9_heat_13 h
set_option maxRecDepth 100000 in
set_option maxHeartbeats 4000000 in
theorem EX9_lone {E : ET} {Q : Option Value → Mem → Prop} {x1 x2 : Int32} {M : Mem} (h : ∃ (r1 : Int32), CX7_has E [.ref (E.2.1 7), .int x1] M (z_is (some (.int r1)) M) ∧ ((¬ r1 = 0 → (∃ (r2 : Int32), CX7_isDress E [.ref (E.2.1 7), .int x2] M (z_is (some (.int r2)) M) ∧ ((¬ r2 = 0 → (∃ (r3 : Int32), CX7_isCalm E [.ref (E.2.1 7), .int x1, .int x2] M (z_is (some (.int r3)) M) ∧ ((r3 = 0 → Q (some (.int (x2 ^^^ ((1 : Int32) <<< (x1 &&& 31))))) M) ∧ (¬ r3 = 0 → Q (some (.int (-3 : Int32))) M)))) ∧ (r2 = 0 → Q (some (.int (-2 : Int32))) M)))) ∧ (r1 = 0 → Q (some (.int (-1 : Int32))) M))) : CX9_lone E [.ref (E.2.1 9), .int x1, .int x2] M Q := by
  refine z_entry (by decide +kernel) (Nat.le_of_ble_eq_true rfl) (fun X hE hX => ?_)
  subst hE
  show Z SX X 3 3 Q 0 [(0, .ref (X.1.2.1 9)), (1, .int x1), (2, .int x2)] [] M
  refine z_aload_n hX dX9_lone_0 rfl 0 rfl ?_
  refine gfX9_15 hX dX9_lone_1 ?_
  refine z_iload_n hX dX9_lone_4 rfl 1 rfl ?_
  obtain ⟨r1, c9, h⟩ := h
  refine mcX9_89 hX dX9_lone_5 (by decide) (Nat.le_of_ble_eq_true rfl) c9 ?_
  refine z_if_ne hX 13 dX9_lone_8 (by decide) (fun c0 => ?_) (fun c0 => ?_)
  · replace h := h.1 c0
    refine z_aload_n hX dX9_lone_13 rfl 0 rfl ?_
    refine gfX9_15 hX dX9_lone_14 ?_
    refine z_iload_n hX dX9_lone_17 rfl 2 rfl ?_
    obtain ⟨r2, c9, h⟩ := h
    refine mcX9_121 hX dX9_lone_18 (by decide) (Nat.le_of_ble_eq_true rfl) c9 ?_
    refine z_if_ne hX 27 dX9_lone_21 (by decide) (fun c0 => ?_) (fun c0 => ?_)
    · replace h := h.1 c0
      refine z_aload_n hX dX9_lone_27 rfl 0 rfl ?_
      refine gfX9_15 hX dX9_lone_28 ?_
      refine z_iload_n hX dX9_lone_31 rfl 1 rfl ?_
      refine z_iload_n hX dX9_lone_32 rfl 2 rfl ?_
      obtain ⟨r3, c9, h⟩ := h
      refine mcX9_177 hX dX9_lone_33 (by decide) (Nat.le_of_ble_eq_true rfl) c9 ?_
      refine z_if_eq hX 42 dX9_lone_36 (by decide) (fun c0 => ?_) (fun c0 => ?_)
      · replace h := h.1 c0
        refine z_iload_n hX dX9_lone_42 rfl 2 rfl ?_
        refine z_iconst (v := 1) hX dX9_lone_43 (by decide) ?_
        refine z_iload_n hX dX9_lone_44 rfl 1 rfl ?_
        refine z_ishl hX dX9_lone_45 ?_
        refine z_ixor hX dX9_lone_46 ?_
        exact z_iret hX dX9_lone_47 h
      · replace h := h.2 c0
        refine z_bipush (v := -3) hX dX9_lone_39 (by decide) ?_
        exact z_iret hX dX9_lone_41 h
    · replace h := h.2 c0
      refine z_bipush (v := -2) hX dX9_lone_24 (by decide) ?_
      exact z_iret hX dX9_lone_26 h
  · replace h := h.2 c0
    refine z_iconst (v := -1) hX dX9_lone_11 (by decide) ?_
    exact z_iret hX dX9_lone_12 h
set_option maxRecDepth 100000 in
set_option maxHeartbeats 4000000 in
theorem EX9_settled {E : ET} {Q : Option Value → Mem → Prop} {M : Mem} (h : ∃ q3 : Int32 → Mem → Prop, CX4_leastDress E [.ref (E.2.1 4)] M (z_pI q3) ∧ ∀ (r2 : Int32) (M1 : Mem), q3 r2 M1 → ((0 ≤ r2 → Q (some (.int (0 : Int32))) M1) ∧ (¬ 0 ≤ r2 → Q (some (.int (1 : Int32))) M1))) : CX9_settled E [.ref (E.2.1 9)] M Q := by
  refine z_entry (by decide +kernel) (Nat.le_of_ble_eq_true rfl) (fun X hE hX => ?_)
  subst hE
  show Z SX X 5 1 Q 0 [(0, .ref (X.1.2.1 9))] [] M
  refine z_aload_n hX dX9_settled_0 rfl 0 rfl ?_
  refine gfX9_47 hX dX9_settled_1 ?_
  obtain ⟨q3, c9, h⟩ := h
  refine mcX9_181 hX dX9_settled_4 (by decide) (Nat.le_of_ble_eq_true rfl) c9 (fun r2 M1 hq => ?_)
  replace h := h r2 M1 hq
  refine z_if_ge hX 14 dX9_settled_7 (by decide) (fun c0 => ?_) (fun c0 => ?_)
  · replace h := h.1 c0
    refine z_iconst (v := 0) hX dX9_settled_14 (by decide) ?_
    exact z_iret hX dX9_settled_15 h
  · replace h := h.2 c0
    refine z_iconst (v := 1) hX dX9_settled_10 (by decide) ?_
    refine z_goto hX 15 dX9_settled_11 (by decide) ?_
    exact z_iret hX dX9_settled_15 h
set_option maxRecDepth 100000 in
set_option maxHeartbeats 4000000 in
theorem EX9_witness {E : ET} {Q : Option Value → Mem → Prop} {M : Mem} (h : ∃ q3 : Int32 → Mem → Prop, CX4_leastDress E [.ref (E.2.1 4)] M (z_pI q3) ∧ ∀ (r2 : Int32) (M1 : Mem), q3 r2 M1 → ((0 ≤ r2 → Q (some (.int r2)) M1) ∧ (¬ 0 ≤ r2 → Q (some (.int (-9 : Int32))) M1))) : CX9_witness E [.ref (E.2.1 9)] M Q := by
  refine z_entry (by decide +kernel) (Nat.le_of_ble_eq_true rfl) (fun X hE hX => ?_)
  subst hE
  show Z SX X 5 2 Q 0 [(0, .ref (X.1.2.1 9))] [] M
  refine z_aload_n hX dX9_witness_0 rfl 0 rfl ?_
  refine gfX9_47 hX dX9_witness_1 ?_
  obtain ⟨q3, c9, h⟩ := h
  refine mcX9_181 hX dX9_witness_4 (by decide) (Nat.le_of_ble_eq_true rfl) c9 (fun r2 M1 hq => ?_)
  replace h := h r2 M1 hq
  refine z_istore_n hX dX9_witness_7 rfl (by decide) [(1, .int r2), (0, .ref (X.1.2.1 9))] rfl ?_
  refine z_iload_n hX dX9_witness_8 rfl 0 rfl ?_
  refine z_if_ge hX 17 dX9_witness_9 (by decide) (fun c0 => ?_) (fun c0 => ?_)
  · replace h := h.1 c0
    refine z_iload_n hX dX9_witness_17 rfl 0 rfl ?_
    exact z_iret hX dX9_witness_18 h
  · replace h := h.2 c0
    refine z_bipush (v := -9) hX dX9_witness_12 (by decide) ?_
    refine z_goto hX 18 dX9_witness_14 (by decide) ?_
    exact z_iret hX dX9_witness_18 h
set_option maxRecDepth 100000 in
set_option maxHeartbeats 4000000 in
theorem EX9_turn {E : ET} {Q : Option Value → Mem → Prop} {M : Mem} (h : ∃ (r1 : Int32), CX7_countKind E [.ref (E.2.1 7), .int (3 : Int32)] M (z_is (some (.int r1)) M) ∧ ((r1 ≤ 0 → (∃ q5 : Int32 → Mem → Prop, CX3_fewestRestless E [.ref (E.2.1 3)] M (z_pI q5) ∧ ∀ (r3 : Int32) (M2 : Mem), q5 r3 M2 → (∃ (r4 : Int32), CJ6_bitCount SX E [.int r3] M2 (z_is (some (.int r4)) M2) ∧ Q (some (.int r4)) M2))) ∧ (¬ r1 ≤ 0 → Q (some (.int (-9 : Int32))) M))) : CX9_turn E [.ref (E.2.1 9)] M Q := by
  refine z_entry (by decide +kernel) (Nat.le_of_ble_eq_true rfl) (fun X hE hX => ?_)
  subst hE
  show Z SX X 4 1 Q 0 [(0, .ref (X.1.2.1 9))] [] M
  refine z_aload_n hX dX9_turn_0 rfl 0 rfl ?_
  refine gfX9_15 hX dX9_turn_1 ?_
  refine z_iconst (v := 3) hX dX9_turn_4 (by decide) ?_
  obtain ⟨r1, c9, h⟩ := h
  refine mcX9_184 hX dX9_turn_5 (by decide) (Nat.le_of_ble_eq_true rfl) c9 ?_
  refine z_if_le hX 14 dX9_turn_8 (by decide) (fun c0 => ?_) (fun c0 => ?_)
  · replace h := h.1 c0
    refine z_aload_n hX dX9_turn_14 rfl 0 rfl ?_
    refine gfX9_31 hX dX9_turn_15 ?_
    obtain ⟨q5, c9, h⟩ := h
    refine mcX9_187 hX dX9_turn_18 (by decide) (Nat.le_of_ble_eq_true rfl) c9 (fun r3 M2 hq => ?_)
    replace h := h r3 M2 hq
    obtain ⟨r4, c9, h⟩ := h
    refine mcX9_190 hX dX9_turn_21 (by decide) (Nat.le_of_ble_eq_true rfl) c9 ?_
    exact z_iret hX dX9_turn_24 h
  · replace h := h.2 c0
    refine z_bipush (v := -9) hX dX9_turn_11 (by decide) ?_
    exact z_iret hX dX9_turn_13 h
set_option maxRecDepth 100000 in
set_option maxHeartbeats 4000000 in
theorem EX9_turned {E : ET} {Q : Option Value → Mem → Prop} {M : Mem} (h : ∃ (r1 : Int32), CX7_countKind E [.ref (E.2.1 7), .int (3 : Int32)] M (z_is (some (.int r1)) M) ∧ ((r1 ≤ 0 → (∃ q4 : Int32 → Mem → Prop, CX3_fewestRestless E [.ref (E.2.1 3)] M (z_pI q4) ∧ ∀ (r3 : Int32) (M2 : Mem), q4 r3 M2 → Q (some (.int r3)) M2)) ∧ (¬ r1 ≤ 0 → Q (some (.int (-9 : Int32))) M))) : CX9_turned E [.ref (E.2.1 9)] M Q := by
  refine z_entry (by decide +kernel) (Nat.le_of_ble_eq_true rfl) (fun X hE hX => ?_)
  subst hE
  show Z SX X 4 1 Q 0 [(0, .ref (X.1.2.1 9))] [] M
  refine z_aload_n hX dX9_turned_0 rfl 0 rfl ?_
  refine gfX9_15 hX dX9_turned_1 ?_
  refine z_iconst (v := 3) hX dX9_turned_4 (by decide) ?_
  obtain ⟨r1, c9, h⟩ := h
  refine mcX9_184 hX dX9_turned_5 (by decide) (Nat.le_of_ble_eq_true rfl) c9 ?_
  refine z_if_le hX 14 dX9_turned_8 (by decide) (fun c0 => ?_) (fun c0 => ?_)
  · replace h := h.1 c0
    refine z_aload_n hX dX9_turned_14 rfl 0 rfl ?_
    refine gfX9_31 hX dX9_turned_15 ?_
    obtain ⟨q4, c9, h⟩ := h
    refine mcX9_187 hX dX9_turned_18 (by decide) (Nat.le_of_ble_eq_true rfl) c9 (fun r3 M2 hq => ?_)
    replace h := h r3 M2 hq
    exact z_iret hX dX9_turned_21 h
  · replace h := h.2 c0
    refine z_bipush (v := -9) hX dX9_turned_11 (by decide) ?_
    exact z_iret hX dX9_turned_13 h
set_option maxRecDepth 100000 in
set_option maxHeartbeats 4000000 in
theorem EX9_hold {E : ET} {Q : Option Value → Mem → Prop} {x1 : Int32} {M : Mem} (h : ∃ q5 : Int32 → Mem → Prop, CX3_leastOfFewestRestless E [.ref (E.2.1 3)] M (z_pI q5) ∧ ∀ (r2 : Int32) (M1 : Mem), q5 r2 M1 → ((x1 = 0 → (∃ (r3 : Int32), CX7_restlessIn E [.ref (E.2.1 7), .int r2] M1 (z_is (some (.int r3)) M1) ∧ (∃ (r4 : Int32), CJ6_bitCount SX E [.int r3] M1 (z_is (some (.int r4)) M1) ∧ Q (some (.int r4)) M1))) ∧ (¬ x1 = 0 → Q (some (.int r2)) M1))) : CX9_hold E [.ref (E.2.1 9), .int x1] M Q := by
  refine z_entry (by decide +kernel) (Nat.le_of_ble_eq_true rfl) (fun X hE hX => ?_)
  subst hE
  show Z SX X 4 3 Q 0 [(0, .ref (X.1.2.1 9)), (1, .int x1)] [] M
  refine z_aload_n hX dX9_hold_0 rfl 0 rfl ?_
  refine gfX9_31 hX dX9_hold_1 ?_
  obtain ⟨q5, c9, h⟩ := h
  refine mcX9_195 hX dX9_hold_4 (by decide) (Nat.le_of_ble_eq_true rfl) c9 (fun r2 M1 hq => ?_)
  replace h := h r2 M1 hq
  refine z_istore_n hX dX9_hold_7 rfl (by decide) [(2, .int r2), (0, .ref (X.1.2.1 9)), (1, .int x1)] rfl ?_
  refine z_iload_n hX dX9_hold_8 rfl 2 rfl ?_
  refine z_if_eq hX 16 dX9_hold_9 (by decide) (fun c0 => ?_) (fun c0 => ?_)
  · replace h := h.1 c0
    refine z_aload_n hX dX9_hold_16 rfl 1 rfl ?_
    refine gfX9_15 hX dX9_hold_17 ?_
    refine z_iload_n hX dX9_hold_20 rfl 0 rfl ?_
    obtain ⟨r3, c9, h⟩ := h
    refine mcX9_130 hX dX9_hold_21 (by decide) (Nat.le_of_ble_eq_true rfl) c9 ?_
    obtain ⟨r4, c9, h⟩ := h
    refine mcX9_190 hX dX9_hold_24 (by decide) (Nat.le_of_ble_eq_true rfl) c9 ?_
    exact z_iret hX dX9_hold_27 h
  · replace h := h.2 c0
    refine z_iload_n hX dX9_hold_12 rfl 0 rfl ?_
    refine z_goto hX 27 dX9_hold_13 (by decide) ?_
    exact z_iret hX dX9_hold_27 h
set_option maxRecDepth 100000 in
set_option maxHeartbeats 4000000 in
theorem EX9_may {E : ET} {Q : Option Value → Mem → Prop} {x1 x2 : Int32} {M : Mem} (h : ∃ (r1 : Int32), CX7_isDress E [.ref (E.2.1 7), .int x1] M (z_is (some (.int r1)) M) ∧ ((¬ r1 = 0 → (∃ q7 : Int32 → Mem → Prop, CX3_dressOf E [.ref (E.2.1 3), .int x2] M (z_pI q7) ∧ ∀ (r3 : Int32) (M2 : Mem), q7 r3 M2 → ((0 ≤ r3 → (∃ q6 : Int32 → Mem → Prop, CX0_canReach E [.ref (E.2.1 0), .int x1, .int r3] M2 (z_pI q6) ∧ ∀ (r5 : Int32) (M4 : Mem), q6 r5 M4 → ((r5 = 0 → Q (some (.int (0 : Int32))) M4) ∧ (¬ r5 = 0 → Q (some (.int (1 : Int32))) M4)))) ∧ (¬ 0 ≤ r3 → Q (some (.int (-1 : Int32))) M2)))) ∧ (r1 = 0 → Q (some (.int (-2 : Int32))) M))) : CX9_may E [.ref (E.2.1 9), .int x1, .int x2] M Q := by
  refine z_entry (by decide +kernel) (Nat.le_of_ble_eq_true rfl) (fun X hE hX => ?_)
  subst hE
  show Z SX X 4 4 Q 0 [(0, .ref (X.1.2.1 9)), (1, .int x1), (2, .int x2)] [] M
  refine z_aload_n hX dX9_may_0 rfl 0 rfl ?_
  refine gfX9_15 hX dX9_may_1 ?_
  refine z_iload_n hX dX9_may_4 rfl 1 rfl ?_
  obtain ⟨r1, c9, h⟩ := h
  refine mcX9_121 hX dX9_may_5 (by decide) (Nat.le_of_ble_eq_true rfl) c9 ?_
  refine z_if_ne hX 14 dX9_may_8 (by decide) (fun c0 => ?_) (fun c0 => ?_)
  · replace h := h.1 c0
    refine z_aload_n hX dX9_may_14 rfl 0 rfl ?_
    refine gfX9_31 hX dX9_may_15 ?_
    refine z_iload_n hX dX9_may_18 rfl 2 rfl ?_
    obtain ⟨q7, c9, h⟩ := h
    refine mcX9_167 hX dX9_may_19 (by decide) (Nat.le_of_ble_eq_true rfl) c9 (fun r3 M2 hq => ?_)
    replace h := h r3 M2 hq
    refine z_istore_n hX dX9_may_22 rfl (by decide) [(3, .int r3), (0, .ref (X.1.2.1 9)), (1, .int x1), (2, .int x2)] rfl ?_
    refine z_iload_n hX dX9_may_23 rfl 0 rfl ?_
    refine z_if_ge hX 29 dX9_may_24 (by decide) (fun c0 => ?_) (fun c0 => ?_)
    · replace h := h.1 c0
      refine z_aload_n hX dX9_may_29 rfl 1 rfl ?_
      refine gfX9_54 hX dX9_may_30 ?_
      refine z_iload_n hX dX9_may_33 rfl 2 rfl ?_
      refine z_iload_n hX dX9_may_34 rfl 0 rfl ?_
      obtain ⟨q6, c9, h⟩ := h
      refine mcX9_198 hX dX9_may_35 (by decide) (Nat.le_of_ble_eq_true rfl) c9 (fun r5 M4 hq => ?_)
      replace h := h r5 M4 hq
      refine z_if_eq hX 45 dX9_may_38 (by decide) (fun c0 => ?_) (fun c0 => ?_)
      · replace h := h.1 c0
        refine z_iconst (v := 0) hX dX9_may_45 (by decide) ?_
        exact z_iret hX dX9_may_46 h
      · replace h := h.2 c0
        refine z_iconst (v := 1) hX dX9_may_41 (by decide) ?_
        refine z_goto hX 46 dX9_may_42 (by decide) ?_
        exact z_iret hX dX9_may_46 h
    · replace h := h.2 c0
      refine z_iconst (v := -1) hX dX9_may_27 (by decide) ?_
      exact z_iret hX dX9_may_28 h
  · replace h := h.2 c0
    refine z_bipush (v := -2) hX dX9_may_11 (by decide) ?_
    exact z_iret hX dX9_may_13 h
set_option maxRecDepth 100000 in
set_option maxHeartbeats 4000000 in
theorem EX9_mays {E : ET} {Q : Option Value → Mem → Prop} {x1 : Int32} {M : Mem} (h : ∃ (r1 : Int32), CX7_isDress E [.ref (E.2.1 7), .int x1] M (z_is (some (.int r1)) M) ∧ ((¬ r1 = 0 → (∃ q4 : Int32 → Mem → Prop, CX0_restsFrom E [.ref (E.2.1 0), .int x1] M (z_pI q4) ∧ ∀ (r3 : Int32) (M2 : Mem), q4 r3 M2 → Q (some (.int r3)) M2)) ∧ (r1 = 0 → Q (some (.int (-2 : Int32))) M))) : CX9_mays E [.ref (E.2.1 9), .int x1] M Q := by
  refine z_entry (by decide +kernel) (Nat.le_of_ble_eq_true rfl) (fun X hE hX => ?_)
  subst hE
  show Z SX X 4 2 Q 0 [(0, .ref (X.1.2.1 9)), (1, .int x1)] [] M
  refine z_aload_n hX dX9_mays_0 rfl 0 rfl ?_
  refine gfX9_15 hX dX9_mays_1 ?_
  refine z_iload_n hX dX9_mays_4 rfl 1 rfl ?_
  obtain ⟨r1, c9, h⟩ := h
  refine mcX9_121 hX dX9_mays_5 (by decide) (Nat.le_of_ble_eq_true rfl) c9 ?_
  refine z_if_ne hX 14 dX9_mays_8 (by decide) (fun c0 => ?_) (fun c0 => ?_)
  · replace h := h.1 c0
    refine z_aload_n hX dX9_mays_14 rfl 0 rfl ?_
    refine gfX9_54 hX dX9_mays_15 ?_
    refine z_iload_n hX dX9_mays_18 rfl 1 rfl ?_
    obtain ⟨q4, c9, h⟩ := h
    refine mcX9_201 hX dX9_mays_19 (by decide) (Nat.le_of_ble_eq_true rfl) c9 (fun r3 M2 hq => ?_)
    replace h := h r3 M2 hq
    exact z_iret hX dX9_mays_22 h
  · replace h := h.2 c0
    refine z_bipush (v := -2) hX dX9_mays_11 (by decide) ?_
    exact z_iret hX dX9_mays_13 h
set_option maxRecDepth 100000 in
set_option maxHeartbeats 4000000 in
theorem EX9_soon {E : ET} {Q : Option Value → Mem → Prop} {x1 : Int32} {M : Mem} (h : ∃ (r1 : Int32), CX7_isDress E [.ref (E.2.1 7), .int x1] M (z_is (some (.int r1)) M) ∧ ((¬ r1 = 0 → (∃ q4 : Int32 → Mem → Prop, CX0_fewestDraws E [.ref (E.2.1 0), .int x1] M (z_pI q4) ∧ ∀ (r3 : Int32) (M2 : Mem), q4 r3 M2 → ((0 ≤ r3 → Q (some (.int r3)) M2) ∧ (¬ 0 ≤ r3 → Q (some (.int (-9 : Int32))) M2)))) ∧ (r1 = 0 → Q (some (.int (-2 : Int32))) M))) : CX9_soon E [.ref (E.2.1 9), .int x1] M Q := by
  refine z_entry (by decide +kernel) (Nat.le_of_ble_eq_true rfl) (fun X hE hX => ?_)
  subst hE
  show Z SX X 4 3 Q 0 [(0, .ref (X.1.2.1 9)), (1, .int x1)] [] M
  refine z_aload_n hX dX9_soon_0 rfl 0 rfl ?_
  refine gfX9_15 hX dX9_soon_1 ?_
  refine z_iload_n hX dX9_soon_4 rfl 1 rfl ?_
  obtain ⟨r1, c9, h⟩ := h
  refine mcX9_121 hX dX9_soon_5 (by decide) (Nat.le_of_ble_eq_true rfl) c9 ?_
  refine z_if_ne hX 14 dX9_soon_8 (by decide) (fun c0 => ?_) (fun c0 => ?_)
  · replace h := h.1 c0
    refine z_aload_n hX dX9_soon_14 rfl 0 rfl ?_
    refine gfX9_54 hX dX9_soon_15 ?_
    refine z_iload_n hX dX9_soon_18 rfl 1 rfl ?_
    obtain ⟨q4, c9, h⟩ := h
    refine mcX9_204 hX dX9_soon_19 (by decide) (Nat.le_of_ble_eq_true rfl) c9 (fun r3 M2 hq => ?_)
    replace h := h r3 M2 hq
    refine z_istore_n hX dX9_soon_22 rfl (by decide) [(2, .int r3), (0, .ref (X.1.2.1 9)), (1, .int x1)] rfl ?_
    refine z_iload_n hX dX9_soon_23 rfl 0 rfl ?_
    refine z_if_ge hX 32 dX9_soon_24 (by decide) (fun c0 => ?_) (fun c0 => ?_)
    · replace h := h.1 c0
      refine z_iload_n hX dX9_soon_32 rfl 0 rfl ?_
      exact z_iret hX dX9_soon_33 h
    · replace h := h.2 c0
      refine z_bipush (v := -9) hX dX9_soon_27 (by decide) ?_
      refine z_goto hX 33 dX9_soon_29 (by decide) ?_
      exact z_iret hX dX9_soon_33 h
  · replace h := h.2 c0
    refine z_bipush (v := -2) hX dX9_soon_11 (by decide) ?_
    exact z_iret hX dX9_soon_13 h
set_option maxRecDepth 100000 in
set_option maxHeartbeats 4000000 in
theorem EX9_likely {E : ET} {Q : Option Value → Mem → Prop} {x1 x2 x3 : Int32} {M : Mem} (h : ∃ (r1 : Int32), CX7_isDress E [.ref (E.2.1 7), .int x1] M (z_is (some (.int r1)) M) ∧ ((r1 = 0 → Q (some (.long (-2 : Int64))) M) ∧ (¬ r1 = 0 → (∃ (r2 : Int32), CX9_within E [.int x2, .int (0 : Int32), .int (4 : Int32)] M (z_is (some (.int r2)) M) ∧ ((¬ r2 = 0 → (∃ q5 : Int64 → Mem → Prop, CX0_fraction E [.ref (E.2.1 0), .int x1, .int x2, .int x3] M (z_pL q5) ∧ ∀ (r4 : Int64) (M3 : Mem), q5 r4 M3 → Q (some (.long r4)) M3)) ∧ (r2 = 0 → Q (some (.long (-2 : Int64))) M)))))) : CX9_likely E [.ref (E.2.1 9), .int x1, .int x2, .int x3] M Q := by
  refine z_entry (by decide +kernel) (Nat.le_of_ble_eq_true rfl) (fun X hE hX => ?_)
  subst hE
  show Z SX X 4 4 Q 0 [(0, .ref (X.1.2.1 9)), (1, .int x1), (2, .int x2), (3, .int x3)] [] M
  refine z_aload_n hX dX9_likely_0 rfl 0 rfl ?_
  refine gfX9_15 hX dX9_likely_1 ?_
  refine z_iload_n hX dX9_likely_4 rfl 1 rfl ?_
  obtain ⟨r1, c9, h⟩ := h
  refine mcX9_121 hX dX9_likely_5 (by decide) (Nat.le_of_ble_eq_true rfl) c9 ?_
  refine z_if_eq hX 20 dX9_likely_8 (by decide) (fun c0 => ?_) (fun c0 => ?_)
  · replace h := h.1 c0
    refine z_ldc2 (v := -2) hX dX9_likely_20 (z_w (List.mem_append_right _ (List.mem_of_getElem? (i := 630) (by decide +kernel))) rfl) ?_
    exact z_lret hX dX9_likely_23 h
  · replace h := h.2 c0
    refine z_iload_n hX dX9_likely_11 rfl 2 rfl ?_
    refine z_iconst (v := 0) hX dX9_likely_12 (by decide) ?_
    refine z_iconst (v := 4) hX dX9_likely_13 (by decide) ?_
    obtain ⟨r2, c9, h⟩ := h
    refine mcX9_74 hX dX9_likely_14 (by decide) (Nat.le_of_ble_eq_true rfl) c9 ?_
    refine z_if_ne hX 24 dX9_likely_17 (by decide) (fun c0 => ?_) (fun c0 => ?_)
    · replace h := h.1 c0
      refine z_aload_n hX dX9_likely_24 rfl 0 rfl ?_
      refine gfX9_54 hX dX9_likely_25 ?_
      refine z_iload_n hX dX9_likely_28 rfl 1 rfl ?_
      refine z_iload_n hX dX9_likely_29 rfl 2 rfl ?_
      refine z_iload_n hX dX9_likely_30 rfl 3 rfl ?_
      obtain ⟨q5, c9, h⟩ := h
      refine mcX9_209 hX dX9_likely_31 (by decide) (Nat.le_of_ble_eq_true rfl) c9 (fun r4 M3 hq => ?_)
      replace h := h r4 M3 hq
      exact z_lret hX dX9_likely_34 h
    · replace h := h.2 c0
      refine z_ldc2 (v := -2) hX dX9_likely_20 (z_w (List.mem_append_right _ (List.mem_of_getElem? (i := 630) (by decide +kernel))) rfl) ?_
      exact z_lret hX dX9_likely_23 h
set_option maxRecDepth 100000 in
set_option maxHeartbeats 4000000 in
theorem EX9_week {E : ET} {Q : Option Value → Mem → Prop} {x1 : Int32} {M : Mem} (h : ∃ (r1 : Int32), CX7_isDress E [.ref (E.2.1 7), .int x1] M (z_is (some (.int r1)) M) ∧ ((¬ r1 = 0 → (∃ (r2 : Int32), CX2_isFull E [.ref (E.2.1 2)] M (z_is (some (.int r2)) M) ∧ ((r2 = 0 → (∃ q5 : Mem → Prop, CX2_add E [.ref (E.2.1 2), .int x1] M (z_pV q5) ∧ ∀ (M3 : Mem), q5 M3 → (∃ (r4 : Int32), CX2_size E [.ref (E.2.1 2)] M3 (z_is (some (.int r4)) M3) ∧ Q (some (.int r4)) M3))) ∧ (¬ r2 = 0 → Q (some (.int (-4 : Int32))) M)))) ∧ (r1 = 0 → Q (some (.int (-2 : Int32))) M))) : CX9_week E [.ref (E.2.1 9), .int x1] M Q := by
  refine z_entry (by decide +kernel) (Nat.le_of_ble_eq_true rfl) (fun X hE hX => ?_)
  subst hE
  show Z SX X 2 2 Q 0 [(0, .ref (X.1.2.1 9)), (1, .int x1)] [] M
  refine z_aload_n hX dX9_week_0 rfl 0 rfl ?_
  refine gfX9_15 hX dX9_week_1 ?_
  refine z_iload_n hX dX9_week_4 rfl 1 rfl ?_
  obtain ⟨r1, c9, h⟩ := h
  refine mcX9_121 hX dX9_week_5 (by decide) (Nat.le_of_ble_eq_true rfl) c9 ?_
  refine z_if_ne hX 14 dX9_week_8 (by decide) (fun c0 => ?_) (fun c0 => ?_)
  · replace h := h.1 c0
    refine z_aload_n hX dX9_week_14 rfl 0 rfl ?_
    refine gfX9_61 hX dX9_week_15 ?_
    obtain ⟨r2, c9, h⟩ := h
    refine mcX9_213 hX dX9_week_18 (by decide) (Nat.le_of_ble_eq_true rfl) c9 ?_
    refine z_if_eq hX 27 dX9_week_21 (by decide) (fun c0 => ?_) (fun c0 => ?_)
    · replace h := h.1 c0
      refine z_aload_n hX dX9_week_27 rfl 0 rfl ?_
      refine gfX9_61 hX dX9_week_28 ?_
      refine z_iload_n hX dX9_week_31 rfl 1 rfl ?_
      obtain ⟨q5, c9, h⟩ := h
      refine mcX9_216 hX dX9_week_32 (by decide) (Nat.le_of_ble_eq_true rfl) c9 (fun M3 hq => ?_)
      replace h := h M3 hq
      refine z_aload_n hX dX9_week_35 rfl 0 rfl ?_
      refine gfX9_61 hX dX9_week_36 ?_
      obtain ⟨r4, c9, h⟩ := h
      refine mcX9_219 hX dX9_week_39 (by decide) (Nat.le_of_ble_eq_true rfl) c9 ?_
      exact z_iret hX dX9_week_42 h
    · replace h := h.2 c0
      refine z_bipush (v := -4) hX dX9_week_24 (by decide) ?_
      exact z_iret hX dX9_week_26 h
  · replace h := h.2 c0
    refine z_bipush (v := -2) hX dX9_week_11 (by decide) ?_
    exact z_iret hX dX9_week_13 h
set_option maxRecDepth 100000 in
set_option maxHeartbeats 4000000 in
theorem EX9_wipe {E : ET} {Q : Option Value → Mem → Prop} {M : Mem} (h : ∃ (r1 : Int32), CX2_size E [.ref (E.2.1 2)] M (z_is (some (.int r1)) M) ∧ (∃ q3 : Mem → Prop, CX2_clear E [.ref (E.2.1 2)] M (z_pV q3) ∧ ∀ (M2 : Mem), q3 M2 → Q (some (.int r1)) M2)) : CX9_wipe E [.ref (E.2.1 9)] M Q := by
  refine z_entry (by decide +kernel) (Nat.le_of_ble_eq_true rfl) (fun X hE hX => ?_)
  subst hE
  show Z SX X 1 2 Q 0 [(0, .ref (X.1.2.1 9))] [] M
  refine z_aload_n hX dX9_wipe_0 rfl 0 rfl ?_
  refine gfX9_61 hX dX9_wipe_1 ?_
  obtain ⟨r1, c9, h⟩ := h
  refine mcX9_219 hX dX9_wipe_4 (by decide) (Nat.le_of_ble_eq_true rfl) c9 ?_
  refine z_istore_n hX dX9_wipe_7 rfl (by decide) [(1, .int r1), (0, .ref (X.1.2.1 9))] rfl ?_
  refine z_aload_n hX dX9_wipe_8 rfl 1 rfl ?_
  refine gfX9_61 hX dX9_wipe_9 ?_
  obtain ⟨q3, c9, h⟩ := h
  refine mcX9_86 hX dX9_wipe_12 (by decide) (Nat.le_of_ble_eq_true rfl) c9 (fun M2 hq => ?_)
  replace h := h M2 hq
  refine z_iload_n hX dX9_wipe_15 rfl 0 rfl ?_
  exact z_iret hX dX9_wipe_16 h
set_option maxRecDepth 100000 in
set_option maxHeartbeats 4000000 in
theorem EX9_maybe {E : ET} {Q : Option Value → Mem → Prop} {x1 : Int32} {M : Mem} (h : ∃ (r1 : Int32), CX7_has E [.ref (E.2.1 7), .int x1] M (z_is (some (.int r1)) M) ∧ ((¬ r1 = 0 → (∃ (r2 : Int32), CX2_kindsOf E [.ref (E.2.1 2), .int x1] M (z_is (some (.int r2)) M) ∧ Q (some (.int r2)) M)) ∧ (r1 = 0 → Q (some (.int (-1 : Int32))) M))) : CX9_maybe E [.ref (E.2.1 9), .int x1] M Q := by
  refine z_entry (by decide +kernel) (Nat.le_of_ble_eq_true rfl) (fun X hE hX => ?_)
  subst hE
  show Z SX X 3 2 Q 0 [(0, .ref (X.1.2.1 9)), (1, .int x1)] [] M
  refine z_aload_n hX dX9_maybe_0 rfl 0 rfl ?_
  refine gfX9_15 hX dX9_maybe_1 ?_
  refine z_iload_n hX dX9_maybe_4 rfl 1 rfl ?_
  obtain ⟨r1, c9, h⟩ := h
  refine mcX9_89 hX dX9_maybe_5 (by decide) (Nat.le_of_ble_eq_true rfl) c9 ?_
  refine z_if_ne hX 13 dX9_maybe_8 (by decide) (fun c0 => ?_) (fun c0 => ?_)
  · replace h := h.1 c0
    refine z_aload_n hX dX9_maybe_13 rfl 0 rfl ?_
    refine gfX9_61 hX dX9_maybe_14 ?_
    refine z_iload_n hX dX9_maybe_17 rfl 1 rfl ?_
    obtain ⟨r2, c9, h⟩ := h
    refine mcX9_220 hX dX9_maybe_18 (by decide) (Nat.le_of_ble_eq_true rfl) c9 ?_
    exact z_iret hX dX9_maybe_21 h
  · replace h := h.2 c0
    refine z_iconst (v := -1) hX dX9_maybe_11 (by decide) ?_
    exact z_iret hX dX9_maybe_12 h
set_option maxRecDepth 100000 in
set_option maxHeartbeats 4000000 in
theorem EX9_ways {E : ET} {Q : Option Value → Mem → Prop} {M : Mem} (h : ∃ (r1 : Int64), CX2_explanations E [.ref (E.2.1 2)] M (z_is (some (.long r1)) M) ∧ Q (some (.long r1)) M) : CX9_ways E [.ref (E.2.1 9)] M Q := by
  refine z_entry (by decide +kernel) (Nat.le_of_ble_eq_true rfl) (fun X hE hX => ?_)
  subst hE
  show Z SX X 4 1 Q 0 [(0, .ref (X.1.2.1 9))] [] M
  refine z_aload_n hX dX9_ways_0 rfl 0 rfl ?_
  refine gfX9_61 hX dX9_ways_1 ?_
  obtain ⟨r1, c9, h⟩ := h
  refine mcX9_223 hX dX9_ways_4 (by decide) (Nat.le_of_ble_eq_true rfl) c9 ?_
  exact z_lret hX dX9_ways_7 h
set_option maxRecDepth 100000 in
set_option maxHeartbeats 4000000 in
theorem EX9_take {E : ET} {Q : Option Value → Mem → Prop} {M : Mem} (h : ∃ (r1 : Int64), CX2_explanations E [.ref (E.2.1 2)] M (z_is (some (.long r1)) M) ∧ ((¬ (lg_cmp r1 (0 : Int64)) = 0 → (∃ q4 : Int32 → Mem → Prop, CX2_settleKinds E [.ref (E.2.1 2)] M (z_pI q4) ∧ ∀ (r3 : Int32) (M2 : Mem), q4 r3 M2 → Q (some (.int r3)) M2)) ∧ ((lg_cmp r1 (0 : Int64)) = 0 → Q (some (.int (-3 : Int32))) M))) : CX9_take E [.ref (E.2.1 9)] M Q := by
  refine z_entry (by decide +kernel) (Nat.le_of_ble_eq_true rfl) (fun X hE hX => ?_)
  subst hE
  show Z SX X 4 1 Q 0 [(0, .ref (X.1.2.1 9))] [] M
  refine z_aload_n hX dX9_take_0 rfl 0 rfl ?_
  refine gfX9_61 hX dX9_take_1 ?_
  obtain ⟨r1, c9, h⟩ := h
  refine mcX9_223 hX dX9_take_4 (by decide) (Nat.le_of_ble_eq_true rfl) c9 ?_
  refine z_lconst (v := 0) hX dX9_take_7 (by decide) ?_
  refine z_lcmp hX dX9_take_8 ?_
  refine z_if_ne hX 15 dX9_take_9 (by decide) (fun c0 => ?_) (fun c0 => ?_)
  · replace h := h.1 c0
    refine z_aload_n hX dX9_take_15 rfl 0 rfl ?_
    refine gfX9_61 hX dX9_take_16 ?_
    obtain ⟨q4, c9, h⟩ := h
    refine mcX9_227 hX dX9_take_19 (by decide) (Nat.le_of_ble_eq_true rfl) c9 (fun r3 M2 hq => ?_)
    replace h := h r3 M2 hq
    exact z_iret hX dX9_take_22 h
  · replace h := h.2 c0
    refine z_bipush (v := -3) hX dX9_take_12 (by decide) ?_
    exact z_iret hX dX9_take_14 h
set_option maxRecDepth 100000 in
set_option maxHeartbeats 4000000 in
theorem EX9_asked {E : ET} {Q : Option Value → Mem → Prop} {x1 x2 x3 : Int32} {M : Mem} (h : ∃ (r1 : Int32), CX7_isDress E [.ref (E.2.1 7), .int x1] M (z_is (some (.int r1)) M) ∧ ((r1 = 0 → Q (some (.int (-2 : Int32))) M) ∧ (¬ r1 = 0 → (∃ (r2 : Int32), CX9_isWay E [.int x2] M (z_is (some (.int r2)) M) ∧ ((r2 = 0 → Q (some (.int (-2 : Int32))) M) ∧ (¬ r2 = 0 → (∃ (r3 : Int32), CX9_isShopRun E [.int x3] M (z_is (some (.int r3)) M) ∧ ((¬ r3 = 0 → (∃ q6 : Int32 → Mem → Prop, CX5_askedFrom E [.ref (E.2.1 5), .int x1, .int x2, .int x3] M (z_pI q6) ∧ ∀ (r5 : Int32) (M4 : Mem), q6 r5 M4 → Q (some (.int r5)) M4)) ∧ (r3 = 0 → Q (some (.int (-2 : Int32))) M))))))))) : CX9_asked E [.ref (E.2.1 9), .int x1, .int x2, .int x3] M Q := by
  refine z_entry (by decide +kernel) (Nat.le_of_ble_eq_true rfl) (fun X hE hX => ?_)
  subst hE
  show Z SX X 5 4 Q 0 [(0, .ref (X.1.2.1 9)), (1, .int x1), (2, .int x2), (3, .int x3)] [] M
  refine z_aload_n hX dX9_asked_0 rfl 0 rfl ?_
  refine gfX9_15 hX dX9_asked_1 ?_
  refine z_iload_n hX dX9_asked_4 rfl 1 rfl ?_
  obtain ⟨r1, c9, h⟩ := h
  refine mcX9_121 hX dX9_asked_5 (by decide) (Nat.le_of_ble_eq_true rfl) c9 ?_
  refine z_if_eq hX 25 dX9_asked_8 (by decide) (fun c0 => ?_) (fun c0 => ?_)
  · replace h := h.1 c0
    refine z_bipush (v := -2) hX dX9_asked_25 (by decide) ?_
    exact z_iret hX dX9_asked_27 h
  · replace h := h.2 c0
    refine z_iload_n hX dX9_asked_11 rfl 2 rfl ?_
    obtain ⟨r2, c9, h⟩ := h
    refine mcX9_133 hX dX9_asked_12 (by decide) (Nat.le_of_ble_eq_true rfl) c9 ?_
    refine z_if_eq hX 25 dX9_asked_15 (by decide) (fun c0 => ?_) (fun c0 => ?_)
    · replace h := h.1 c0
      refine z_bipush (v := -2) hX dX9_asked_25 (by decide) ?_
      exact z_iret hX dX9_asked_27 h
    · replace h := h.2 c0
      refine z_iload_n hX dX9_asked_18 rfl 3 rfl ?_
      obtain ⟨r3, c9, h⟩ := h
      refine mcX9_230 hX dX9_asked_19 (by decide) (Nat.le_of_ble_eq_true rfl) c9 ?_
      refine z_if_ne hX 28 dX9_asked_22 (by decide) (fun c0 => ?_) (fun c0 => ?_)
      · replace h := h.1 c0
        refine z_aload_n hX dX9_asked_28 rfl 0 rfl ?_
        refine gfX9_70 hX dX9_asked_29 ?_
        refine z_iload_n hX dX9_asked_32 rfl 1 rfl ?_
        refine z_iload_n hX dX9_asked_33 rfl 2 rfl ?_
        refine z_iload_n hX dX9_asked_34 rfl 3 rfl ?_
        obtain ⟨q6, c9, h⟩ := h
        refine mcX9_233 hX dX9_asked_35 (by decide) (Nat.le_of_ble_eq_true rfl) c9 (fun r5 M4 hq => ?_)
        replace h := h r5 M4 hq
        exact z_iret hX dX9_asked_38 h
      · replace h := h.2 c0
        refine z_bipush (v := -2) hX dX9_asked_25 (by decide) ?_
        exact z_iret hX dX9_asked_27 h
set_option maxRecDepth 100000 in
set_option maxHeartbeats 4000000 in
theorem EX9_gain {E : ET} {Q : Option Value → Mem → Prop} {x1 x2 x3 x4 x5 : Int32} {M : Mem} (h : ∃ (r1 : Int32), CX9_isWay E [.int x1] M (z_is (some (.int r1)) M) ∧ ((r1 = 0 → Q (some (.int (-2 : Int32))) M) ∧ (¬ r1 = 0 → (∃ (r2 : Int32), CX9_isShopRun E [.int x2] M (z_is (some (.int r2)) M) ∧ ((r2 = 0 → Q (some (.int (-2 : Int32))) M) ∧ (¬ r2 = 0 → (∃ (r3 : Int32), CX9_within E [.int x3, .int (0 : Int32), .int (500 : Int32)] M (z_is (some (.int r3)) M) ∧ ((¬ r3 = 0 → (∃ (r4 : Int32), CX9_isMoney E [.int x4] M (z_is (some (.int r4)) M) ∧ ((r4 = 0 → Q (some (.int (-2 : Int32))) M) ∧ (¬ r4 = 0 → (∃ (r5 : Int32), CX9_isMoney E [.int x5] M (z_is (some (.int r5)) M) ∧ ((¬ r5 = 0 → (∃ q8 : Int32 → Mem → Prop, CX5_gainBy E [.ref (E.2.1 5), .int x1, .int x2, .int x3, .int x4, .int x5] M (z_pI q8) ∧ ∀ (r7 : Int32) (M6 : Mem), q8 r7 M6 → Q (some (.int r7)) M6)) ∧ (r5 = 0 → Q (some (.int (-2 : Int32))) M))))))) ∧ (r3 = 0 → Q (some (.int (-2 : Int32))) M))))))))) : CX9_gain E [.ref (E.2.1 9), .int x1, .int x2, .int x3, .int x4, .int x5] M Q := by
  refine z_entry (by decide +kernel) (Nat.le_of_ble_eq_true rfl) (fun X hE hX => ?_)
  subst hE
  show Z SX X 6 6 Q 0 [(0, .ref (X.1.2.1 9)), (1, .int x1), (2, .int x2), (3, .int x3), (4, .int x4), (5, .int x5)] [] M
  refine z_iload_n hX dX9_gain_0 rfl 1 rfl ?_
  obtain ⟨r1, c9, h⟩ := h
  refine mcX9_133 hX dX9_gain_1 (by decide) (Nat.le_of_ble_eq_true rfl) c9 ?_
  refine z_if_eq hX 25 dX9_gain_4 (by decide) (fun c0 => ?_) (fun c0 => ?_)
  · replace h := h.1 c0
    refine z_bipush (v := -2) hX dX9_gain_25 (by decide) ?_
    exact z_iret hX dX9_gain_27 h
  · replace h := h.2 c0
    refine z_iload_n hX dX9_gain_7 rfl 2 rfl ?_
    obtain ⟨r2, c9, h⟩ := h
    refine mcX9_230 hX dX9_gain_8 (by decide) (Nat.le_of_ble_eq_true rfl) c9 ?_
    refine z_if_eq hX 25 dX9_gain_11 (by decide) (fun c0 => ?_) (fun c0 => ?_)
    · replace h := h.1 c0
      refine z_bipush (v := -2) hX dX9_gain_25 (by decide) ?_
      exact z_iret hX dX9_gain_27 h
    · replace h := h.2 c0
      refine z_iload_n hX dX9_gain_14 rfl 3 rfl ?_
      refine z_iconst (v := 0) hX dX9_gain_15 (by decide) ?_
      refine z_sipush (v := 500) hX dX9_gain_16 (by decide) ?_
      obtain ⟨r3, c9, h⟩ := h
      refine mcX9_74 hX dX9_gain_19 (by decide) (Nat.le_of_ble_eq_true rfl) c9 ?_
      refine z_if_ne hX 28 dX9_gain_22 (by decide) (fun c0 => ?_) (fun c0 => ?_)
      · replace h := h.1 c0
        refine z_iload hX dX9_gain_28 4 rfl ?_
        obtain ⟨r4, c9, h⟩ := h
        refine mcX9_236 hX dX9_gain_30 (by decide) (Nat.le_of_ble_eq_true rfl) c9 ?_
        refine z_if_eq hX 44 dX9_gain_33 (by decide) (fun c0 => ?_) (fun c0 => ?_)
        · replace h := h.1 c0
          refine z_bipush (v := -2) hX dX9_gain_44 (by decide) ?_
          exact z_iret hX dX9_gain_46 h
        · replace h := h.2 c0
          refine z_iload hX dX9_gain_36 5 rfl ?_
          obtain ⟨r5, c9, h⟩ := h
          refine mcX9_236 hX dX9_gain_38 (by decide) (Nat.le_of_ble_eq_true rfl) c9 ?_
          refine z_if_ne hX 47 dX9_gain_41 (by decide) (fun c0 => ?_) (fun c0 => ?_)
          · replace h := h.1 c0
            refine z_aload_n hX dX9_gain_47 rfl 0 rfl ?_
            refine gfX9_70 hX dX9_gain_48 ?_
            refine z_iload_n hX dX9_gain_51 rfl 1 rfl ?_
            refine z_iload_n hX dX9_gain_52 rfl 2 rfl ?_
            refine z_iload_n hX dX9_gain_53 rfl 3 rfl ?_
            refine z_iload hX dX9_gain_54 4 rfl ?_
            refine z_iload hX dX9_gain_56 5 rfl ?_
            obtain ⟨q8, c9, h⟩ := h
            refine mcX9_239 hX dX9_gain_58 (by decide) (Nat.le_of_ble_eq_true rfl) c9 (fun r7 M6 hq => ?_)
            replace h := h r7 M6 hq
            exact z_iret hX dX9_gain_61 h
          · replace h := h.2 c0
            refine z_bipush (v := -2) hX dX9_gain_44 (by decide) ?_
            exact z_iret hX dX9_gain_46 h
      · replace h := h.2 c0
        refine z_bipush (v := -2) hX dX9_gain_25 (by decide) ?_
        exact z_iret hX dX9_gain_27 h
set_option maxRecDepth 100000 in
set_option maxHeartbeats 4000000 in
theorem EX9_order {E : ET} {Q : Option Value → Mem → Prop} {x1 x2 x3 x4 : Int32} {M : Mem} (h : ∃ (r1 : Int32), CX9_isWay E [.int x1] M (z_is (some (.int r1)) M) ∧ ((r1 = 0 → Q (some (.int (-2 : Int32))) M) ∧ (¬ r1 = 0 → (∃ (r2 : Int32), CX9_isShopRun E [.int x2] M (z_is (some (.int r2)) M) ∧ ((¬ r2 = 0 → (∃ (r3 : Int32), CX9_isMoney E [.int x3] M (z_is (some (.int r3)) M) ∧ ((r3 = 0 → Q (some (.int (-2 : Int32))) M) ∧ (¬ r3 = 0 → (∃ (r4 : Int32), CX9_isMoney E [.int x4] M (z_is (some (.int r4)) M) ∧ ((¬ r4 = 0 → (∃ q7 : Int32 → Mem → Prop, CX5_bestStock E [.ref (E.2.1 5), .int x1, .int x2, .int x3, .int x4] M (z_pI q7) ∧ ∀ (r6 : Int32) (M5 : Mem), q7 r6 M5 → Q (some (.int r6)) M5)) ∧ (r4 = 0 → Q (some (.int (-2 : Int32))) M))))))) ∧ (r2 = 0 → Q (some (.int (-2 : Int32))) M)))))) : CX9_order E [.ref (E.2.1 9), .int x1, .int x2, .int x3, .int x4] M Q := by
  refine z_entry (by decide +kernel) (Nat.le_of_ble_eq_true rfl) (fun X hE hX => ?_)
  subst hE
  show Z SX X 6 5 Q 0 [(0, .ref (X.1.2.1 9)), (1, .int x1), (2, .int x2), (3, .int x3), (4, .int x4)] [] M
  refine z_iload_n hX dX9_order_0 rfl 1 rfl ?_
  obtain ⟨r1, c9, h⟩ := h
  refine mcX9_133 hX dX9_order_1 (by decide) (Nat.le_of_ble_eq_true rfl) c9 ?_
  refine z_if_eq hX 14 dX9_order_4 (by decide) (fun c0 => ?_) (fun c0 => ?_)
  · replace h := h.1 c0
    refine z_bipush (v := -2) hX dX9_order_14 (by decide) ?_
    exact z_iret hX dX9_order_16 h
  · replace h := h.2 c0
    refine z_iload_n hX dX9_order_7 rfl 2 rfl ?_
    obtain ⟨r2, c9, h⟩ := h
    refine mcX9_230 hX dX9_order_8 (by decide) (Nat.le_of_ble_eq_true rfl) c9 ?_
    refine z_if_ne hX 17 dX9_order_11 (by decide) (fun c0 => ?_) (fun c0 => ?_)
    · replace h := h.1 c0
      refine z_iload_n hX dX9_order_17 rfl 3 rfl ?_
      obtain ⟨r3, c9, h⟩ := h
      refine mcX9_236 hX dX9_order_18 (by decide) (Nat.le_of_ble_eq_true rfl) c9 ?_
      refine z_if_eq hX 32 dX9_order_21 (by decide) (fun c0 => ?_) (fun c0 => ?_)
      · replace h := h.1 c0
        refine z_bipush (v := -2) hX dX9_order_32 (by decide) ?_
        exact z_iret hX dX9_order_34 h
      · replace h := h.2 c0
        refine z_iload hX dX9_order_24 4 rfl ?_
        obtain ⟨r4, c9, h⟩ := h
        refine mcX9_236 hX dX9_order_26 (by decide) (Nat.le_of_ble_eq_true rfl) c9 ?_
        refine z_if_ne hX 35 dX9_order_29 (by decide) (fun c0 => ?_) (fun c0 => ?_)
        · replace h := h.1 c0
          refine z_aload_n hX dX9_order_35 rfl 0 rfl ?_
          refine gfX9_70 hX dX9_order_36 ?_
          refine z_iload_n hX dX9_order_39 rfl 1 rfl ?_
          refine z_iload_n hX dX9_order_40 rfl 2 rfl ?_
          refine z_iload_n hX dX9_order_41 rfl 3 rfl ?_
          refine z_iload hX dX9_order_42 4 rfl ?_
          obtain ⟨q7, c9, h⟩ := h
          refine mcX9_243 hX dX9_order_44 (by decide) (Nat.le_of_ble_eq_true rfl) c9 (fun r6 M5 hq => ?_)
          replace h := h r6 M5 hq
          exact z_iret hX dX9_order_47 h
        · replace h := h.2 c0
          refine z_bipush (v := -2) hX dX9_order_32 (by decide) ?_
          exact z_iret hX dX9_order_34 h
    · replace h := h.2 c0
      refine z_bipush (v := -2) hX dX9_order_14 (by decide) ?_
      exact z_iret hX dX9_order_16 h
set_option maxRecDepth 100000 in
set_option maxHeartbeats 4000000 in
theorem EX9_count {E : ET} {Q : Option Value → Mem → Prop} {x1 : Int32} {M : Mem} (h : (((x1.toInt < 0 ∨ 4 < x1.toInt) → Q (some (.int (-2 : Int32))) M) ∧ (x1 = 0 → (∃ (r1 : Int32), CX7_size E [.ref (E.2.1 7)] M (z_is (some (.int r1)) M) ∧ Q (some (.int r1)) M)) ∧ (x1 = 1 → (∃ (r2 : Int32), CX7_ties E [.ref (E.2.1 7)] M (z_is (some (.int r2)) M) ∧ Q (some (.int r2)) M)) ∧ (x1 = 2 → (∃ (r3 : Int32), CX2_size E [.ref (E.2.1 2)] M (z_is (some (.int r3)) M) ∧ Q (some (.int r3)) M)) ∧ (x1 = 3 → (∃ (r4 : Int32), CX7_countKind E [.ref (E.2.1 7), .int (0 : Int32)] M (z_is (some (.int r4)) M) ∧ Q (some (.int r4)) M)) ∧ (x1 = 4 → (∃ (r5 : Int32), CX7_countKind E [.ref (E.2.1 7), .int (1 : Int32)] M (z_is (some (.int r5)) M) ∧ Q (some (.int r5)) M)))) : CX9_count E [.ref (E.2.1 9), .int x1] M Q := by
  refine z_entry (by decide +kernel) (Nat.le_of_ble_eq_true rfl) (fun X hE hX => ?_)
  subst hE
  show Z SX X 2 2 Q 0 [(0, .ref (X.1.2.1 9)), (1, .int x1)] [] M
  refine z_iload_n hX dX9_count_0 rfl 1 rfl ?_
  by_cases c0 : x1.toInt < 0 ∨ 4 < x1.toInt
  · replace h := h.1 c0
    refine z_tableOut hX 78 dX9_count_1 c0 (by decide) ?_
    refine z_bipush (v := -2) hX dX9_count_78 (by decide) ?_
    exact z_iret hX dX9_count_80 h
  · have c1 := z_tab5 c0
    replace h := h.2
    rcases c1 with c2 | c2 | c2 | c2 | c2
    · replace h := h.1 c2
      refine z_tableIn hX 36 dX9_count_1 (by rw [c2]; decide) (by rw [c2]; decide) (by rw [c2]; rfl) (by decide) ?_
      refine z_aload_n hX dX9_count_36 rfl 0 rfl ?_
      refine gfX9_15 hX dX9_count_37 ?_
      obtain ⟨r1, c9, h⟩ := h
      refine mcX9_78 hX dX9_count_40 (by decide) (Nat.le_of_ble_eq_true rfl) c9 ?_
      exact z_iret hX dX9_count_43 h
    · replace h := h.2.1 c2
      refine z_tableIn hX 44 dX9_count_1 (by rw [c2]; decide) (by rw [c2]; decide) (by rw [c2]; rfl) (by decide) ?_
      refine z_aload_n hX dX9_count_44 rfl 0 rfl ?_
      refine gfX9_15 hX dX9_count_45 ?_
      obtain ⟨r2, c9, h⟩ := h
      refine mcX9_247 hX dX9_count_48 (by decide) (Nat.le_of_ble_eq_true rfl) c9 ?_
      exact z_iret hX dX9_count_51 h
    · replace h := h.2.2.1 c2
      refine z_tableIn hX 52 dX9_count_1 (by rw [c2]; decide) (by rw [c2]; decide) (by rw [c2]; rfl) (by decide) ?_
      refine z_aload_n hX dX9_count_52 rfl 0 rfl ?_
      refine gfX9_61 hX dX9_count_53 ?_
      obtain ⟨r3, c9, h⟩ := h
      refine mcX9_219 hX dX9_count_56 (by decide) (Nat.le_of_ble_eq_true rfl) c9 ?_
      exact z_iret hX dX9_count_59 h
    · replace h := h.2.2.2.1 c2
      refine z_tableIn hX 60 dX9_count_1 (by rw [c2]; decide) (by rw [c2]; decide) (by rw [c2]; rfl) (by decide) ?_
      refine z_aload_n hX dX9_count_60 rfl 0 rfl ?_
      refine gfX9_15 hX dX9_count_61 ?_
      refine z_iconst (v := 0) hX dX9_count_64 (by decide) ?_
      obtain ⟨r4, c9, h⟩ := h
      refine mcX9_184 hX dX9_count_65 (by decide) (Nat.le_of_ble_eq_true rfl) c9 ?_
      exact z_iret hX dX9_count_68 h
    · replace h := h.2.2.2.2 c2
      refine z_tableIn hX 69 dX9_count_1 (by rw [c2]; decide) (by rw [c2]; decide) (by rw [c2]; rfl) (by decide) ?_
      refine z_aload_n hX dX9_count_69 rfl 0 rfl ?_
      refine gfX9_15 hX dX9_count_70 ?_
      refine z_iconst (v := 1) hX dX9_count_73 (by decide) ?_
      obtain ⟨r5, c9, h⟩ := h
      refine mcX9_184 hX dX9_count_74 (by decide) (Nat.le_of_ble_eq_true rfl) c9 ?_
      exact z_iret hX dX9_count_77 h
set_option maxRecDepth 100000 in
set_option maxHeartbeats 4000000 in
theorem EX9_within {E : ET} {Q : Option Value → Mem → Prop} {x0 x1 x2 : Int32} {M : Mem} (h : ((x0 < x1 → Q (some (.int 0)) M) ∧ (¬ x0 < x1 → ((x2 < x0 → Q (some (.int 0)) M) ∧ (¬ x2 < x0 → Q (some (.int 1)) M))))) : CX9_within E [.int x0, .int x1, .int x2] M Q := by
  refine z_entry (by decide +kernel) (Nat.le_of_ble_eq_true rfl) (fun X hE hX => ?_)
  subst hE
  show Z SX X 0 3 Q 0 [(0, .int x0), (1, .int x1), (2, .int x2)] [] M
  refine z_iload_n hX dX9_within_0 rfl 0 rfl ?_
  refine z_iload_n hX dX9_within_1 rfl 1 rfl ?_
  refine z_icmp_lt hX 14 dX9_within_2 (by decide) (fun c0 => ?_) (fun c0 => ?_)
  · replace h := h.1 c0
    refine z_iconst (v := 0) hX dX9_within_14 (by decide) ?_
    exact z_zret hX dX9_within_15 (Or.inl rfl) h
  · replace h := h.2 c0
    refine z_iload_n hX dX9_within_5 rfl 0 rfl ?_
    refine z_iload_n hX dX9_within_6 rfl 2 rfl ?_
    refine z_icmp_gt hX 14 dX9_within_7 (by decide) (fun c0 => ?_) (fun c0 => ?_)
    · replace h := h.1 c0
      refine z_iconst (v := 0) hX dX9_within_14 (by decide) ?_
      exact z_zret hX dX9_within_15 (Or.inl rfl) h
    · replace h := h.2 c0
      refine z_iconst (v := 1) hX dX9_within_10 (by decide) ?_
      refine z_goto hX 15 dX9_within_11 (by decide) ?_
      exact z_zret hX dX9_within_15 (Or.inr rfl) h
set_option maxRecDepth 100000 in
set_option maxHeartbeats 4000000 in
theorem EX9_isWay {E : ET} {Q : Option Value → Mem → Prop} {x0 : Int32} {M : Mem} (h : ((x0 = 0 → Q (some (.int 1)) M) ∧ (¬ x0 = 0 → ((¬ x0 = (1 : Int32) → Q (some (.int 0)) M) ∧ (x0 = (1 : Int32) → Q (some (.int 1)) M))))) : CX9_isWay E [.int x0] M Q := by
  refine z_entry (by decide +kernel) (Nat.le_of_ble_eq_true rfl) (fun X hE hX => ?_)
  subst hE
  show Z SX X 0 1 Q 0 [(0, .int x0)] [] M
  refine z_iload_n hX dX9_isWay_0 rfl 0 rfl ?_
  refine z_if_eq hX 9 dX9_isWay_1 (by decide) (fun c0 => ?_) (fun c0 => ?_)
  · replace h := h.1 c0
    refine z_iconst (v := 1) hX dX9_isWay_9 (by decide) ?_
    refine z_goto hX 14 dX9_isWay_10 (by decide) ?_
    exact z_zret hX dX9_isWay_14 (Or.inr rfl) h
  · replace h := h.2 c0
    refine z_iload_n hX dX9_isWay_4 rfl 0 rfl ?_
    refine z_iconst (v := 1) hX dX9_isWay_5 (by decide) ?_
    refine z_icmp_ne hX 13 dX9_isWay_6 (by decide) (fun c0 => ?_) (fun c0 => ?_)
    · replace h := h.1 c0
      refine z_iconst (v := 0) hX dX9_isWay_13 (by decide) ?_
      exact z_zret hX dX9_isWay_14 (Or.inl rfl) h
    · replace h := h.2 c0
      refine z_iconst (v := 1) hX dX9_isWay_9 (by decide) ?_
      refine z_goto hX 14 dX9_isWay_10 (by decide) ?_
      exact z_zret hX dX9_isWay_14 (Or.inr rfl) h
set_option maxRecDepth 100000 in
set_option maxHeartbeats 4000000 in
theorem EX9_isShopRun {E : ET} {Q : Option Value → Mem → Prop} {x0 : Int32} {M : Mem} (h : ∃ (r1 : Int32), CX9_within E [.int x0, .int (1 : Int32), .int (50 : Int32)] M (z_is (some (.int r1)) M) ∧ ((r1 = 0 ∨ r1 = 1) ∧ Q (some (.int r1)) M)) : CX9_isShopRun E [.int x0] M Q := by
  refine z_entry (by decide +kernel) (Nat.le_of_ble_eq_true rfl) (fun X hE hX => ?_)
  subst hE
  show Z SX X 1 1 Q 0 [(0, .int x0)] [] M
  refine z_iload_n hX dX9_isShopRun_0 rfl 0 rfl ?_
  refine z_iconst (v := 1) hX dX9_isShopRun_1 (by decide) ?_
  refine z_bipush (v := 50) hX dX9_isShopRun_2 (by decide) ?_
  obtain ⟨r1, c9, h⟩ := h
  refine mcX9_74 hX dX9_isShopRun_4 (by decide) (Nat.le_of_ble_eq_true rfl) c9 ?_
  exact z_zret hX dX9_isShopRun_7 h.1 h.2
set_option maxRecDepth 100000 in
set_option maxHeartbeats 4000000 in
theorem EX9_isMoney {E : ET} {Q : Option Value → Mem → Prop} {x0 : Int32} {M : Mem} (h : ∃ (r1 : Int32), CX9_within E [.int x0, .int (1 : Int32), .int (99 : Int32)] M (z_is (some (.int r1)) M) ∧ ((r1 = 0 ∨ r1 = 1) ∧ Q (some (.int r1)) M)) : CX9_isMoney E [.int x0] M Q := by
  refine z_entry (by decide +kernel) (Nat.le_of_ble_eq_true rfl) (fun X hE hX => ?_)
  subst hE
  show Z SX X 1 1 Q 0 [(0, .int x0)] [] M
  refine z_iload_n hX dX9_isMoney_0 rfl 0 rfl ?_
  refine z_iconst (v := 1) hX dX9_isMoney_1 (by decide) ?_
  refine z_bipush (v := 99) hX dX9_isMoney_2 (by decide) ?_
  obtain ⟨r1, c9, h⟩ := h
  refine mcX9_74 hX dX9_isMoney_4 (by decide) (Nat.le_of_ble_eq_true rfl) c9 ?_
  exact z_zret hX dX9_isMoney_7 h.1 h.2
