theorem kq_room {L i : Nat} (hL : L ≤ 3072) (hi : i ≤ 4000) (c : ¬ nI L - 6 < nI i) : i + 6 ≤ L := by
  by_cases h : 6 ≤ L
  · rw [show (6 : Int32) = nI 6 from rfl, pk_sub h] at c
    exact Classical.byContradiction (fun c2 => c (nI_lt (by omega) (by omega)))
  · exfalso
    apply c
    have hn : nI L - 6 < 0 := by
      rcases (show L = 0 ∨ L = 1 ∨ L = 2 ∨ L = 3 ∨ L = 4 ∨ L = 5 by omega) with rfl | rfl | rfl | rfl | rfl | rfl <;> decide
    exact Int32.lt_of_lt_of_le hn (nI_pos' (by omega))
section LawLoop
variable {X : XT} {ad : Nat → Nat} {b L : Nat} {xs : Nat → Int32} {Qf : State → Prop}
set_option maxHeartbeats 4000000 in
theorem v_loop (h : Vc X ad b L xs) (hL : L ≤ 3072) (hret : ∀ i MX MM, V X ad Qf 1203 (lvL X ad b i) [] MX MM) : ∀ (n i v : Nat) (T : TW) (P : PW) (MX MM : Mem), L + 1 ≤ i + n → v ≤ 10 * i → i ≤ 4000 → InvX MX T P v → InvM MM T P → V X ad Qf 18 (lvL X ad b i) [] MX MM := by
  intro n
  induction n with
  | zero =>
    intro i v T P MX MM hn hv hi hX hM
    refine v_iload_n h dL_law_18 rfl 3 rfl ?_
    refine v_aload_n h dL_law_19 rfl 0 rfl ?_
    refine v_slen h dL_law_20 ?_
    refine v_bipush (v := 6) h dL_law_21 (by decide) ?_
    refine v_isub h dL_law_23 ?_
    refine v_icmp_gt h 1203 dL_law_24 (by decide) (fun _ => hret i MX MM) (fun c => ?_)
    have := kq_room hL hi c
    omega
  | succ n ih =>
    intro i v T P MX MM hn hv hi hX hM
    refine v_iload_n h dL_law_18 rfl 3 rfl ?_
    refine v_aload_n h dL_law_19 rfl 0 rfl ?_
    refine v_slen h dL_law_20 ?_
    refine v_bipush (v := 6) h dL_law_21 (by decide) ?_
    refine v_isub h dL_law_23 ?_
    refine v_icmp_gt h 1203 dL_law_24 (by decide) (fun _ => hret i MX MM) (fun c => ?_)
    have hi6 := kq_room hL hi c
    refine v_aload_n h dL_law_27 rfl 0 rfl ?_
    refine v_iload_n h dL_law_28 rfl 3 rfl ?_
    refine v_sld h (by omega) hL dL_law_29 ?_
    refine v_bipush (v := 63) h dL_law_30 (by decide) ?_
    refine v_iand h dL_law_32 ?_
    have next : ∀ MX1 MM1 T1 P1, InvX MX1 T1 P1 (v + 10) → InvM MM1 T1 P1 → V X ad Qf 1197 (lvL X ad b i) [] MX1 MM1 := by
      intro MX1 MM1 T1 P1 hX1 hM1
      refine v_iinc (v := nI (i + 6)) h dL_law_1197 3 rfl (by rw [show Int32.ofInt 6 = nI 6 from rfl, nI_add]) (by decide) [(3, .int (nI (i + 6))), (0, .ref b), (1, .ref (X.1.2.1 9)), (2, .ref (ad 0))] rfl ?_
      refine v_goto h 18 dL_law_1200 (by decide) ?_
      exact v_sub [1, 2, 3, 0] rfl (ih (i + 6) (v + 10) T1 P1 MX1 MM1 (by omega) (by omega) (by omega) hX1 hM1)
    have hv9 : v < 900000 := by omega
    generalize xs i &&& 63 = y
    by_cases out : y.toInt < 0 ∨ 34 < y.toInt
    · exact v_tableOut h 1197 dL_law_33 out (by decide) (next _ _ _ _ (hX.up (by omega)) hM)
    · rcases (show y.toInt = 0 ∨ y.toInt = 1 ∨ y.toInt = 2 ∨ y.toInt = 3 ∨ y.toInt = 4 ∨ y.toInt = 5 ∨ y.toInt = 6 ∨ y.toInt = 7 ∨ y.toInt = 8 ∨ y.toInt = 9 ∨ y.toInt = 10 ∨ y.toInt = 11 ∨ y.toInt = 12 ∨ y.toInt = 13 ∨ y.toInt = 14 ∨ y.toInt = 15 ∨ y.toInt = 16 ∨ y.toInt = 17 ∨ y.toInt = 18 ∨ y.toInt = 19 ∨ y.toInt = 20 ∨ y.toInt = 21 ∨ y.toInt = 22 ∨ y.toInt = 23 ∨ y.toInt = 24 ∨ y.toInt = 25 ∨ y.toInt = 26 ∨ y.toInt = 27 ∨ y.toInt = 28 ∨ y.toInt = 29 ∨ y.toInt = 30 ∨ y.toInt = 31 ∨ y.toInt = 32 ∨ y.toInt = 33 ∨ y.toInt = 34 by omega) with e | e | e | e | e | e | e | e | e | e | e | e | e | e | e | e | e | e | e | e | e | e | e | e | e | e | e | e | e | e | e | e | e | e | e
      · exact v_tableIn h 188 dL_law_33 (by omega) (by omega) (by rw [e]; rfl) (by decide) (v_k0 h hL hX hM hv9 hi6 next)
      · exact v_tableIn h 211 dL_law_33 (by omega) (by omega) (by rw [e]; rfl) (by decide) (v_k1 h hL hX hM hv9 hi6 next)
      · exact v_tableIn h 254 dL_law_33 (by omega) (by omega) (by rw [e]; rfl) (by decide) (v_k2 h hL hX hM hv9 hi6 next)
      · exact v_tableIn h 297 dL_law_33 (by omega) (by omega) (by rw [e]; rfl) (by decide) (v_k3 h hL hX hM hv9 hi6 next)
      · exact v_tableIn h 330 dL_law_33 (by omega) (by omega) (by rw [e]; rfl) (by decide) (v_k4 h hL hX hM hv9 hi6 next)
      · exact v_tableIn h 363 dL_law_33 (by omega) (by omega) (by rw [e]; rfl) (by decide) (v_k5 h hL hX hM hv9 hi6 next)
      · exact v_tableIn h 396 dL_law_33 (by omega) (by omega) (by rw [e]; rfl) (by decide) (v_k6 h hL hX hM hv9 hi6 next)
      · exact v_tableIn h 419 dL_law_33 (by omega) (by omega) (by rw [e]; rfl) (by decide) (v_k7 h hL hX hM hv9 hi6 next)
      · exact v_tableIn h 462 dL_law_33 (by omega) (by omega) (by rw [e]; rfl) (by decide) (v_k8 h hL hX hM hv9 hi6 next)
      · exact v_tableIn h 505 dL_law_33 (by omega) (by omega) (by rw [e]; rfl) (by decide) (v_k9 h hL hX hM hv9 hi6 next)
      · exact v_tableIn h 528 dL_law_33 (by omega) (by omega) (by rw [e]; rfl) (by decide) (v_k10 h hL hX hM hv9 hi6 next)
      · exact v_tableIn h 571 dL_law_33 (by omega) (by omega) (by rw [e]; rfl) (by decide) (v_k11 h hL hX hM hv9 hi6 next)
      · exact v_tableIn h 594 dL_law_33 (by omega) (by omega) (by rw [e]; rfl) (by decide) (v_k12 h hL hX hM hv9 hi6 next)
      · exact v_tableIn h 607 dL_law_33 (by omega) (by omega) (by rw [e]; rfl) (by decide) (v_k13 h hL hX hM hv9 hi6 next)
      · exact v_tableIn h 630 dL_law_33 (by omega) (by omega) (by rw [e]; rfl) (by decide) (v_k14 h hL hX hM hv9 hi6 next)
      · exact v_tableIn h 643 dL_law_33 (by omega) (by omega) (by rw [e]; rfl) (by decide) (v_k15 h hL hX hM hv9 hi6 next)
      · exact v_tableIn h 666 dL_law_33 (by omega) (by omega) (by rw [e]; rfl) (by decide) (v_k16 h hL hX hM hv9 hi6 next)
      · exact v_tableIn h 699 dL_law_33 (by omega) (by omega) (by rw [e]; rfl) (by decide) (v_k17 h hL hX hM hv9 hi6 next)
      · exact v_tableIn h 712 dL_law_33 (by omega) (by omega) (by rw [e]; rfl) (by decide) (v_k18 h hL hX hM hv9 hi6 next)
      · exact v_tableIn h 725 dL_law_33 (by omega) (by omega) (by rw [e]; rfl) (by decide) (v_k19 h hL hX hM hv9 hi6 next)
      · exact v_tableIn h 738 dL_law_33 (by omega) (by omega) (by rw [e]; rfl) (by decide) (v_k20 h hL hX hM hv9 hi6 next)
      · exact v_tableIn h 751 dL_law_33 (by omega) (by omega) (by rw [e]; rfl) (by decide) (v_k21 h hL hX hM hv9 hi6 next)
      · exact v_tableIn h 790 dL_law_33 (by omega) (by omega) (by rw [e]; rfl) (by decide) (v_k22 h hL hX hM hv9 hi6 next)
      · exact v_tableIn h 823 dL_law_33 (by omega) (by omega) (by rw [e]; rfl) (by decide) (v_k23 h hL hX hM hv9 hi6 next)
      · exact v_tableIn h 846 dL_law_33 (by omega) (by omega) (by rw [e]; rfl) (by decide) (v_k24 h hL hX hM hv9 hi6 next)
      · exact v_tableIn h 869 dL_law_33 (by omega) (by omega) (by rw [e]; rfl) (by decide) (v_k25 h hL hX hM hv9 hi6 next)
      · exact v_tableIn h 929 dL_law_33 (by omega) (by omega) (by rw [e]; rfl) (by decide) (v_k26 h hL hX hM hv9 hi6 next)
      · exact v_tableIn h 952 dL_law_33 (by omega) (by omega) (by rw [e]; rfl) (by decide) (v_k27 h hL hX hM hv9 hi6 next)
      · exact v_tableIn h 965 dL_law_33 (by omega) (by omega) (by rw [e]; rfl) (by decide) (v_k28 h hL hX hM hv9 hi6 next)
      · exact v_tableIn h 988 dL_law_33 (by omega) (by omega) (by rw [e]; rfl) (by decide) (v_k29 h hL hX hM hv9 hi6 next)
      · exact v_tableIn h 1002 dL_law_33 (by omega) (by omega) (by rw [e]; rfl) (by decide) (v_k30 h hL hX hM hv9 hi6 next)
      · exact v_tableIn h 1015 dL_law_33 (by omega) (by omega) (by rw [e]; rfl) (by decide) (v_k31 h hL hX hM hv9 hi6 next)
      · exact v_tableIn h 1058 dL_law_33 (by omega) (by omega) (by rw [e]; rfl) (by decide) (v_k32 h hL hX hM hv9 hi6 next)
      · exact v_tableIn h 1121 dL_law_33 (by omega) (by omega) (by rw [e]; rfl) (by decide) (v_k33 h hL hX hM hv9 hi6 next)
      · exact v_tableIn h 1174 dL_law_33 (by omega) (by omega) (by rw [e]; rfl) (by decide) (v_k34 h hL hX hM hv9 hi6 next)
end LawLoop
