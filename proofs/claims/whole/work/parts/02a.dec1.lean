theorem dX0_canReach_0 : decode cX0_canReach 0 = .ok (.aload_n 0, 1) := by decide +kernel
theorem dX0_canReach_1 : decode cX0_canReach 1 = .ok (.iload_n 1, 1) := by decide +kernel
theorem dX0_canReach_2 : decode cX0_canReach 2 = .ok (.aload_n 0, 1) := by decide +kernel
theorem dX0_canReach_3 : decode cX0_canReach 3 = .ok (.getfield 18, 3) := by decide +kernel
theorem dX0_canReach_6 : decode cX0_canReach 6 = .ok (.invokevirtual 37, 3) := by decide +kernel
theorem dX0_canReach_9 : decode cX0_canReach 9 = .ok (.invokevirtual 43, 3) := by decide +kernel
theorem dX0_canReach_12 : decode cX0_canReach 12 = .ok (.pop, 1) := by decide +kernel
theorem dX0_canReach_13 : decode cX0_canReach 13 = .ok (.aload_n 0, 1) := by decide +kernel
theorem dX0_canReach_14 : decode cX0_canReach 14 = .ok (.getfield 28, 3) := by decide +kernel
theorem dX0_canReach_17 : decode cX0_canReach 17 = .ok (.iload_n 2, 1) := by decide +kernel
theorem dX0_canReach_18 : decode cX0_canReach 18 = .ok (.iaload, 1) := by decide +kernel
theorem dX0_canReach_19 : decode cX0_canReach 19 = .ok (.ifCond .lt 7, 3) := by decide +kernel
theorem dX0_canReach_22 : decode cX0_canReach 22 = .ok (.iconst 1, 1) := by decide +kernel
theorem dX0_canReach_23 : decode cX0_canReach 23 = .ok (.goto 4, 3) := by decide +kernel
theorem dX0_canReach_26 : decode cX0_canReach 26 = .ok (.iconst 0, 1) := by decide +kernel
theorem dX0_canReach_27 : decode cX0_canReach 27 = .ok (.ireturn, 1) := by decide +kernel
theorem dX0_restsFrom_0 : decode cX0_restsFrom 0 = .ok (.aload_n 0, 1) := by decide +kernel
theorem dX0_restsFrom_1 : decode cX0_restsFrom 1 = .ok (.getfield 18, 3) := by decide +kernel
theorem dX0_restsFrom_4 : decode cX0_restsFrom 4 = .ok (.invokevirtual 37, 3) := by decide +kernel
theorem dX0_restsFrom_7 : decode cX0_restsFrom 7 = .ok (.astore_n 2, 1) := by decide +kernel
theorem dX0_restsFrom_8 : decode cX0_restsFrom 8 = .ok (.aload_n 0, 1) := by decide +kernel
theorem dX0_restsFrom_9 : decode cX0_restsFrom 9 = .ok (.iload_n 1, 1) := by decide +kernel
theorem dX0_restsFrom_10 : decode cX0_restsFrom 10 = .ok (.aload_n 2, 1) := by decide +kernel
theorem dX0_restsFrom_11 : decode cX0_restsFrom 11 = .ok (.invokevirtual 43, 3) := by decide +kernel
theorem dX0_restsFrom_14 : decode cX0_restsFrom 14 = .ok (.istore_n 3, 1) := by decide +kernel
theorem dX0_restsFrom_15 : decode cX0_restsFrom 15 = .ok (.iconst 0, 1) := by decide +kernel
theorem dX0_restsFrom_16 : decode cX0_restsFrom 16 = .ok (.istore 4, 2) := by decide +kernel
theorem dX0_restsFrom_18 : decode cX0_restsFrom 18 = .ok (.iconst 0, 1) := by decide +kernel
theorem dX0_restsFrom_19 : decode cX0_restsFrom 19 = .ok (.istore 5, 2) := by decide +kernel
theorem dX0_restsFrom_21 : decode cX0_restsFrom 21 = .ok (.iload 5, 2) := by decide +kernel
theorem dX0_restsFrom_23 : decode cX0_restsFrom 23 = .ok (.iload_n 3, 1) := by decide +kernel
theorem dX0_restsFrom_24 : decode cX0_restsFrom 24 = .ok (.if_icmp .ge 24, 3) := by decide +kernel
theorem dX0_restsFrom_27 : decode cX0_restsFrom 27 = .ok (.aload_n 2, 1) := by decide +kernel
theorem dX0_restsFrom_28 : decode cX0_restsFrom 28 = .ok (.aload_n 0, 1) := by decide +kernel
theorem dX0_restsFrom_29 : decode cX0_restsFrom 29 = .ok (.getfield 34, 3) := by decide +kernel
theorem dX0_restsFrom_32 : decode cX0_restsFrom 32 = .ok (.iload 5, 2) := by decide +kernel
theorem dX0_restsFrom_34 : decode cX0_restsFrom 34 = .ok (.iaload, 1) := by decide +kernel
theorem dX0_restsFrom_35 : decode cX0_restsFrom 35 = .ok (.iaload, 1) := by decide +kernel
theorem dX0_restsFrom_36 : decode cX0_restsFrom 36 = .ok (.ifCond .ne 6, 3) := by decide +kernel
theorem dX0_restsFrom_39 : decode cX0_restsFrom 39 = .ok (.iinc 4 1, 3) := by decide +kernel
theorem dX0_restsFrom_42 : decode cX0_restsFrom 42 = .ok (.iinc 5 1, 3) := by decide +kernel
theorem dX0_restsFrom_45 : decode cX0_restsFrom 45 = .ok (.goto (-24), 3) := by decide +kernel
theorem dX0_restsFrom_48 : decode cX0_restsFrom 48 = .ok (.iload 4, 2) := by decide +kernel
theorem dX0_restsFrom_50 : decode cX0_restsFrom 50 = .ok (.ireturn, 1) := by decide +kernel
theorem dX0_fewestDraws_0 : decode cX0_fewestDraws 0 = .ok (.aload_n 0, 1) := by decide +kernel
theorem dX0_fewestDraws_1 : decode cX0_fewestDraws 1 = .ok (.getfield 18, 3) := by decide +kernel
theorem dX0_fewestDraws_4 : decode cX0_fewestDraws 4 = .ok (.invokevirtual 37, 3) := by decide +kernel
theorem dX0_fewestDraws_7 : decode cX0_fewestDraws 7 = .ok (.astore_n 2, 1) := by decide +kernel
theorem dX0_fewestDraws_8 : decode cX0_fewestDraws 8 = .ok (.aload_n 0, 1) := by decide +kernel
theorem dX0_fewestDraws_9 : decode cX0_fewestDraws 9 = .ok (.iload_n 1, 1) := by decide +kernel
theorem dX0_fewestDraws_10 : decode cX0_fewestDraws 10 = .ok (.aload_n 2, 1) := by decide +kernel
theorem dX0_fewestDraws_11 : decode cX0_fewestDraws 11 = .ok (.invokevirtual 43, 3) := by decide +kernel
theorem dX0_fewestDraws_14 : decode cX0_fewestDraws 14 = .ok (.istore_n 3, 1) := by decide +kernel
theorem dX0_fewestDraws_15 : decode cX0_fewestDraws 15 = .ok (.iconst 0, 1) := by decide +kernel
theorem dX0_fewestDraws_16 : decode cX0_fewestDraws 16 = .ok (.istore 4, 2) := by decide +kernel
theorem dX0_fewestDraws_18 : decode cX0_fewestDraws 18 = .ok (.iload 4, 2) := by decide +kernel
theorem dX0_fewestDraws_20 : decode cX0_fewestDraws 20 = .ok (.iload_n 3, 1) := by decide +kernel
theorem dX0_fewestDraws_21 : decode cX0_fewestDraws 21 = .ok (.if_icmp .ge 34, 3) := by decide +kernel
theorem dX0_fewestDraws_24 : decode cX0_fewestDraws 24 = .ok (.aload_n 2, 1) := by decide +kernel
theorem dX0_fewestDraws_25 : decode cX0_fewestDraws 25 = .ok (.aload_n 0, 1) := by decide +kernel
theorem dX0_fewestDraws_26 : decode cX0_fewestDraws 26 = .ok (.getfield 34, 3) := by decide +kernel
theorem dX0_fewestDraws_29 : decode cX0_fewestDraws 29 = .ok (.iload 4, 2) := by decide +kernel
theorem dX0_fewestDraws_31 : decode cX0_fewestDraws 31 = .ok (.iaload, 1) := by decide +kernel
theorem dX0_fewestDraws_32 : decode cX0_fewestDraws 32 = .ok (.iaload, 1) := by decide +kernel
theorem dX0_fewestDraws_33 : decode cX0_fewestDraws 33 = .ok (.ifCond .ne 16, 3) := by decide +kernel
theorem dX0_fewestDraws_36 : decode cX0_fewestDraws 36 = .ok (.aload_n 0, 1) := by decide +kernel
theorem dX0_fewestDraws_37 : decode cX0_fewestDraws 37 = .ok (.getfield 28, 3) := by decide +kernel
theorem dX0_fewestDraws_40 : decode cX0_fewestDraws 40 = .ok (.aload_n 0, 1) := by decide +kernel
theorem dX0_fewestDraws_41 : decode cX0_fewestDraws 41 = .ok (.getfield 34, 3) := by decide +kernel
theorem dX0_fewestDraws_44 : decode cX0_fewestDraws 44 = .ok (.iload 4, 2) := by decide +kernel
theorem dX0_fewestDraws_46 : decode cX0_fewestDraws 46 = .ok (.iaload, 1) := by decide +kernel
theorem dX0_fewestDraws_47 : decode cX0_fewestDraws 47 = .ok (.iaload, 1) := by decide +kernel
theorem dX0_fewestDraws_48 : decode cX0_fewestDraws 48 = .ok (.ireturn, 1) := by decide +kernel
theorem dX0_fewestDraws_49 : decode cX0_fewestDraws 49 = .ok (.iinc 4 1, 3) := by decide +kernel
theorem dX0_fewestDraws_52 : decode cX0_fewestDraws 52 = .ok (.goto (-34), 3) := by decide +kernel
theorem dX0_fewestDraws_55 : decode cX0_fewestDraws 55 = .ok (.iconst (-1), 1) := by decide +kernel
theorem dX0_fewestDraws_56 : decode cX0_fewestDraws 56 = .ok (.ireturn, 1) := by decide +kernel
theorem dX0_search_0 : decode cX0_search 0 = .ok (.aload_n 0, 1) := by decide +kernel
theorem dX0_search_1 : decode cX0_search 1 = .ok (.getfield 18, 3) := by decide +kernel
theorem dX0_search_4 : decode cX0_search 4 = .ok (.invokevirtual 47, 3) := by decide +kernel
theorem dX0_search_7 : decode cX0_search 7 = .ok (.istore_n 3, 1) := by decide +kernel
theorem dX0_search_8 : decode cX0_search 8 = .ok (.iconst 0, 1) := by decide +kernel
theorem dX0_search_9 : decode cX0_search 9 = .ok (.istore 4, 2) := by decide +kernel
theorem dX0_search_11 : decode cX0_search 11 = .ok (.iload 4, 2) := by decide +kernel
theorem dX0_search_13 : decode cX0_search 13 = .ok (.iload_n 3, 1) := by decide +kernel
theorem dX0_search_14 : decode cX0_search 14 = .ok (.if_icmp .ge 17, 3) := by decide +kernel
theorem dX0_search_17 : decode cX0_search 17 = .ok (.aload_n 0, 1) := by decide +kernel
theorem dX0_search_18 : decode cX0_search 18 = .ok (.getfield 28, 3) := by decide +kernel
theorem dX0_search_21 : decode cX0_search 21 = .ok (.iload 4, 2) := by decide +kernel
theorem dX0_search_23 : decode cX0_search 23 = .ok (.iconst (-1), 1) := by decide +kernel
theorem dX0_search_24 : decode cX0_search 24 = .ok (.iastore, 1) := by decide +kernel
theorem dX0_search_25 : decode cX0_search 25 = .ok (.iinc 4 1, 3) := by decide +kernel
theorem dX0_search_28 : decode cX0_search 28 = .ok (.goto (-17), 3) := by decide +kernel
theorem dX0_search_31 : decode cX0_search 31 = .ok (.aload_n 0, 1) := by decide +kernel
theorem dX0_search_32 : decode cX0_search 32 = .ok (.getfield 28, 3) := by decide +kernel
theorem dX0_search_35 : decode cX0_search 35 = .ok (.iload_n 1, 1) := by decide +kernel
theorem dX0_search_36 : decode cX0_search 36 = .ok (.iconst 0, 1) := by decide +kernel
theorem dX0_search_37 : decode cX0_search 37 = .ok (.iastore, 1) := by decide +kernel
theorem dX0_search_38 : decode cX0_search 38 = .ok (.aload_n 0, 1) := by decide +kernel
theorem dX0_search_39 : decode cX0_search 39 = .ok (.getfield 34, 3) := by decide +kernel
theorem dX0_search_42 : decode cX0_search 42 = .ok (.iconst 0, 1) := by decide +kernel
theorem dX0_search_43 : decode cX0_search 43 = .ok (.iload_n 1, 1) := by decide +kernel
theorem dX0_search_44 : decode cX0_search 44 = .ok (.iastore, 1) := by decide +kernel
theorem dX0_search_45 : decode cX0_search 45 = .ok (.iconst 1, 1) := by decide +kernel
theorem dX0_search_46 : decode cX0_search 46 = .ok (.istore 4, 2) := by decide +kernel
theorem dX0_search_48 : decode cX0_search 48 = .ok (.iconst 0, 1) := by decide +kernel
theorem dX0_search_49 : decode cX0_search 49 = .ok (.istore 5, 2) := by decide +kernel
theorem dX0_search_51 : decode cX0_search 51 = .ok (.iload 5, 2) := by decide +kernel
theorem dX0_search_53 : decode cX0_search 53 = .ok (.iload 4, 2) := by decide +kernel
theorem dX0_search_55 : decode cX0_search 55 = .ok (.if_icmp .ge 106, 3) := by decide +kernel
theorem dX0_search_58 : decode cX0_search 58 = .ok (.iload 5, 2) := by decide +kernel
theorem dX0_search_60 : decode cX0_search 60 = .ok (.iload_n 3, 1) := by decide +kernel
theorem dX0_search_61 : decode cX0_search 61 = .ok (.if_icmp .ge 100, 3) := by decide +kernel
theorem dX0_search_64 : decode cX0_search 64 = .ok (.aload_n 0, 1) := by decide +kernel
theorem dX0_search_65 : decode cX0_search 65 = .ok (.getfield 34, 3) := by decide +kernel
theorem dX0_search_68 : decode cX0_search 68 = .ok (.iload 5, 2) := by decide +kernel
theorem dX0_search_70 : decode cX0_search 70 = .ok (.iaload, 1) := by decide +kernel
theorem dX0_search_71 : decode cX0_search 71 = .ok (.istore 6, 2) := by decide +kernel
theorem dX0_search_73 : decode cX0_search 73 = .ok (.iconst 0, 1) := by decide +kernel
theorem dX0_search_74 : decode cX0_search 74 = .ok (.istore 7, 2) := by decide +kernel
theorem dX0_search_76 : decode cX0_search 76 = .ok (.iload 7, 2) := by decide +kernel
theorem dX0_search_78 : decode cX0_search 78 = .ok (.aload_n 0, 1) := by decide +kernel
theorem dX0_search_79 : decode cX0_search 79 = .ok (.getfield 18, 3) := by decide +kernel
theorem dX0_search_82 : decode cX0_search 82 = .ok (.invokevirtual 51, 3) := by decide +kernel
theorem dX0_search_85 : decode cX0_search 85 = .ok (.if_icmp .ge 70, 3) := by decide +kernel
theorem dX0_search_88 : decode cX0_search 88 = .ok (.aload_n 2, 1) := by decide +kernel
theorem dX0_search_89 : decode cX0_search 89 = .ok (.iload 6, 2) := by decide +kernel
theorem dX0_search_91 : decode cX0_search 91 = .ok (.iaload, 1) := by decide +kernel
theorem dX0_search_92 : decode cX0_search 92 = .ok (.iconst 1, 1) := by decide +kernel
theorem dX0_search_93 : decode cX0_search 93 = .ok (.iload 7, 2) := by decide +kernel
theorem dX0_search_95 : decode cX0_search 95 = .ok (.ishl, 1) := by decide +kernel
theorem dX0_search_96 : decode cX0_search 96 = .ok (.iand, 1) := by decide +kernel
theorem dX0_search_97 : decode cX0_search 97 = .ok (.istore 8, 2) := by decide +kernel
theorem dX0_search_99 : decode cX0_search 99 = .ok (.iload 6, 2) := by decide +kernel
theorem dX0_search_101 : decode cX0_search 101 = .ok (.iload 8, 2) := by decide +kernel
theorem dX0_search_103 : decode cX0_search 103 = .ok (.ixor, 1) := by decide +kernel
theorem dX0_search_104 : decode cX0_search 104 = .ok (.istore 9, 2) := by decide +kernel
theorem dX0_search_106 : decode cX0_search 106 = .ok (.iload 8, 2) := by decide +kernel
theorem dX0_search_108 : decode cX0_search 108 = .ok (.ifCond .eq 41, 3) := by decide +kernel
theorem dX0_search_111 : decode cX0_search 111 = .ok (.aload_n 0, 1) := by decide +kernel
theorem dX0_search_112 : decode cX0_search 112 = .ok (.getfield 28, 3) := by decide +kernel
theorem dX0_search_115 : decode cX0_search 115 = .ok (.iload 9, 2) := by decide +kernel
theorem dX0_search_117 : decode cX0_search 117 = .ok (.iaload, 1) := by decide +kernel
theorem dX0_search_118 : decode cX0_search 118 = .ok (.ifCond .ge 31, 3) := by decide +kernel
theorem dX0_search_121 : decode cX0_search 121 = .ok (.aload_n 0, 1) := by decide +kernel
theorem dX0_search_122 : decode cX0_search 122 = .ok (.getfield 28, 3) := by decide +kernel
theorem dX0_search_125 : decode cX0_search 125 = .ok (.iload 9, 2) := by decide +kernel
theorem dX0_search_127 : decode cX0_search 127 = .ok (.aload_n 0, 1) := by decide +kernel
theorem dX0_search_128 : decode cX0_search 128 = .ok (.getfield 28, 3) := by decide +kernel
theorem dX0_search_131 : decode cX0_search 131 = .ok (.iload 6, 2) := by decide +kernel
theorem dX0_search_133 : decode cX0_search 133 = .ok (.iaload, 1) := by decide +kernel
theorem dX0_search_134 : decode cX0_search 134 = .ok (.iconst 1, 1) := by decide +kernel
theorem dX0_search_135 : decode cX0_search 135 = .ok (.iadd, 1) := by decide +kernel
theorem dX0_search_136 : decode cX0_search 136 = .ok (.iastore, 1) := by decide +kernel
theorem dX0_search_137 : decode cX0_search 137 = .ok (.aload_n 0, 1) := by decide +kernel
theorem dX0_search_138 : decode cX0_search 138 = .ok (.getfield 34, 3) := by decide +kernel
theorem dX0_search_141 : decode cX0_search 141 = .ok (.iload 4, 2) := by decide +kernel
theorem dX0_search_143 : decode cX0_search 143 = .ok (.iinc 4 1, 3) := by decide +kernel
theorem dX0_search_146 : decode cX0_search 146 = .ok (.iload 9, 2) := by decide +kernel
theorem dX0_search_148 : decode cX0_search 148 = .ok (.iastore, 1) := by decide +kernel
theorem dX0_search_149 : decode cX0_search 149 = .ok (.iinc 7 1, 3) := by decide +kernel
theorem dX0_search_152 : decode cX0_search 152 = .ok (.goto (-76), 3) := by decide +kernel
theorem dX0_search_155 : decode cX0_search 155 = .ok (.iinc 5 1, 3) := by decide +kernel
theorem dX0_search_158 : decode cX0_search 158 = .ok (.goto (-107), 3) := by decide +kernel
theorem dX0_search_161 : decode cX0_search 161 = .ok (.iload 4, 2) := by decide +kernel
theorem dX0_search_163 : decode cX0_search 163 = .ok (.ireturn, 1) := by decide +kernel
theorem dX0_fraction_0 : decode cX0_fraction 0 = .ok (.aload_n 0, 1) := by decide +kernel
theorem dX0_fraction_1 : decode cX0_fraction 1 = .ok (.getfield 18, 3) := by decide +kernel
theorem dX0_fraction_4 : decode cX0_fraction 4 = .ok (.invokevirtual 37, 3) := by decide +kernel
theorem dX0_fraction_7 : decode cX0_fraction 7 = .ok (.astore 4, 2) := by decide +kernel
theorem dX0_fraction_9 : decode cX0_fraction 9 = .ok (.aload_n 0, 1) := by decide +kernel
theorem dX0_fraction_10 : decode cX0_fraction 10 = .ok (.getfield 18, 3) := by decide +kernel
theorem dX0_fraction_13 : decode cX0_fraction 13 = .ok (.invokevirtual 47, 3) := by decide +kernel
theorem dX0_fraction_16 : decode cX0_fraction 16 = .ok (.istore 5, 2) := by decide +kernel
theorem dX0_fraction_18 : decode cX0_fraction 18 = .ok (.iconst 0, 1) := by decide +kernel
theorem dX0_fraction_19 : decode cX0_fraction 19 = .ok (.istore 6, 2) := by decide +kernel
theorem dX0_fraction_21 : decode cX0_fraction 21 = .ok (.iload 6, 2) := by decide +kernel
theorem dX0_fraction_23 : decode cX0_fraction 23 = .ok (.iload 5, 2) := by decide +kernel
theorem dX0_fraction_25 : decode cX0_fraction 25 = .ok (.if_icmp .ge 17, 3) := by decide +kernel
theorem dX0_fraction_28 : decode cX0_fraction 28 = .ok (.aload_n 0, 1) := by decide +kernel
theorem dX0_fraction_29 : decode cX0_fraction 29 = .ok (.getfield 9, 3) := by decide +kernel
theorem dX0_fraction_32 : decode cX0_fraction 32 = .ok (.iload 6, 2) := by decide +kernel
theorem dX0_fraction_34 : decode cX0_fraction 34 = .ok (.lconst 0, 1) := by decide +kernel
theorem dX0_fraction_35 : decode cX0_fraction 35 = .ok (.lastore, 1) := by decide +kernel
theorem dX0_fraction_36 : decode cX0_fraction 36 = .ok (.iinc 6 1, 3) := by decide +kernel
theorem dX0_fraction_39 : decode cX0_fraction 39 = .ok (.goto (-18), 3) := by decide +kernel
theorem dX0_fraction_42 : decode cX0_fraction 42 = .ok (.aload_n 0, 1) := by decide +kernel
theorem dX0_fraction_43 : decode cX0_fraction 43 = .ok (.getfield 9, 3) := by decide +kernel
theorem dX0_fraction_46 : decode cX0_fraction 46 = .ok (.iload_n 1, 1) := by decide +kernel
theorem dX0_fraction_47 : decode cX0_fraction 47 = .ok (.lconst 1, 1) := by decide +kernel
theorem dX0_fraction_48 : decode cX0_fraction 48 = .ok (.lastore, 1) := by decide +kernel
theorem dX0_fraction_49 : decode cX0_fraction 49 = .ok (.lconst 1, 1) := by decide +kernel
theorem dX0_fraction_50 : decode cX0_fraction 50 = .ok (.lstore 6, 2) := by decide +kernel
theorem dX0_fraction_52 : decode cX0_fraction 52 = .ok (.iconst 0, 1) := by decide +kernel
theorem dX0_fraction_53 : decode cX0_fraction 53 = .ok (.istore 8, 2) := by decide +kernel
theorem dX0_fraction_55 : decode cX0_fraction 55 = .ok (.iload 8, 2) := by decide +kernel
theorem dX0_fraction_57 : decode cX0_fraction 57 = .ok (.iload_n 2, 1) := by decide +kernel
theorem dX0_fraction_58 : decode cX0_fraction 58 = .ok (.if_icmp .ge 25, 3) := by decide +kernel
theorem dX0_fraction_61 : decode cX0_fraction 61 = .ok (.aload_n 0, 1) := by decide +kernel
theorem dX0_fraction_62 : decode cX0_fraction 62 = .ok (.aload 4, 2) := by decide +kernel
theorem dX0_fraction_64 : decode cX0_fraction 64 = .ok (.iload 5, 2) := by decide +kernel
theorem dX0_fraction_66 : decode cX0_fraction 66 = .ok (.invokevirtual 54, 3) := by decide +kernel
theorem dX0_fraction_69 : decode cX0_fraction 69 = .ok (.lload 6, 2) := by decide +kernel
theorem dX0_fraction_71 : decode cX0_fraction 71 = .ok (.ldc2_w 58, 3) := by decide +kernel
theorem dX0_fraction_74 : decode cX0_fraction 74 = .ok (.lmul, 1) := by decide +kernel
theorem dX0_fraction_75 : decode cX0_fraction 75 = .ok (.lstore 6, 2) := by decide +kernel
theorem dX0_fraction_77 : decode cX0_fraction 77 = .ok (.iinc 8 1, 3) := by decide +kernel
theorem dX0_fraction_80 : decode cX0_fraction 80 = .ok (.goto (-25), 3) := by decide +kernel
theorem dX0_fraction_83 : decode cX0_fraction 83 = .ok (.lconst 0, 1) := by decide +kernel
theorem dX0_fraction_84 : decode cX0_fraction 84 = .ok (.lstore 8, 2) := by decide +kernel
theorem dX0_fraction_86 : decode cX0_fraction 86 = .ok (.iconst 0, 1) := by decide +kernel
theorem dX0_fraction_87 : decode cX0_fraction 87 = .ok (.istore 10, 2) := by decide +kernel
theorem dX0_fraction_89 : decode cX0_fraction 89 = .ok (.iload 10, 2) := by decide +kernel
theorem dX0_fraction_91 : decode cX0_fraction 91 = .ok (.iload 5, 2) := by decide +kernel
theorem dX0_fraction_93 : decode cX0_fraction 93 = .ok (.if_icmp .ge 29, 3) := by decide +kernel
theorem dX0_fraction_96 : decode cX0_fraction 96 = .ok (.aload 4, 2) := by decide +kernel
theorem dX0_fraction_98 : decode cX0_fraction 98 = .ok (.iload 10, 2) := by decide +kernel
theorem dX0_fraction_100 : decode cX0_fraction 100 = .ok (.iaload, 1) := by decide +kernel
theorem dX0_fraction_101 : decode cX0_fraction 101 = .ok (.ifCond .ne 15, 3) := by decide +kernel
theorem dX0_fraction_104 : decode cX0_fraction 104 = .ok (.lload 8, 2) := by decide +kernel
theorem dX0_fraction_106 : decode cX0_fraction 106 = .ok (.aload_n 0, 1) := by decide +kernel
theorem dX0_fraction_107 : decode cX0_fraction 107 = .ok (.getfield 9, 3) := by decide +kernel
theorem dX0_fraction_110 : decode cX0_fraction 110 = .ok (.iload 10, 2) := by decide +kernel
theorem dX0_fraction_112 : decode cX0_fraction 112 = .ok (.laload, 1) := by decide +kernel
theorem dX0_fraction_113 : decode cX0_fraction 113 = .ok (.ladd, 1) := by decide +kernel
theorem dX0_fraction_114 : decode cX0_fraction 114 = .ok (.lstore 8, 2) := by decide +kernel
theorem dX0_fraction_116 : decode cX0_fraction 116 = .ok (.iinc 10 1, 3) := by decide +kernel
theorem dX0_fraction_119 : decode cX0_fraction 119 = .ok (.goto (-30), 3) := by decide +kernel
theorem dX0_fraction_122 : decode cX0_fraction 122 = .ok (.lload 6, 2) := by decide +kernel
theorem dX0_fraction_124 : decode cX0_fraction 124 = .ok (.lload 8, 2) := by decide +kernel
theorem dX0_fraction_126 : decode cX0_fraction 126 = .ok (.invokestatic 60, 3) := by decide +kernel
theorem dX0_fraction_129 : decode cX0_fraction 129 = .ok (.lstore 10, 2) := by decide +kernel
theorem dX0_fraction_131 : decode cX0_fraction 131 = .ok (.lload 10, 2) := by decide +kernel
theorem dX0_fraction_133 : decode cX0_fraction 133 = .ok (.lconst 0, 1) := by decide +kernel
theorem dX0_fraction_134 : decode cX0_fraction 134 = .ok (.lcmp, 1) := by decide +kernel
theorem dX0_fraction_135 : decode cX0_fraction 135 = .ok (.ifCond .gt 5, 3) := by decide +kernel
theorem dX0_fraction_138 : decode cX0_fraction 138 = .ok (.lconst 0, 1) := by decide +kernel
theorem dX0_fraction_139 : decode cX0_fraction 139 = .ok (.lreturn, 1) := by decide +kernel
theorem dX0_fraction_140 : decode cX0_fraction 140 = .ok (.iload_n 3, 1) := by decide +kernel
theorem dX0_fraction_141 : decode cX0_fraction 141 = .ok (.ifCond .eq 11, 3) := by decide +kernel
theorem dX0_fraction_144 : decode cX0_fraction 144 = .ok (.lload 8, 2) := by decide +kernel
theorem dX0_fraction_146 : decode cX0_fraction 146 = .ok (.lload 10, 2) := by decide +kernel
theorem dX0_fraction_148 : decode cX0_fraction 148 = .ok (.ldiv, 1) := by decide +kernel
theorem dX0_fraction_149 : decode cX0_fraction 149 = .ok (.goto 8, 3) := by decide +kernel
theorem dX0_fraction_152 : decode cX0_fraction 152 = .ok (.lload 6, 2) := by decide +kernel
theorem dX0_fraction_154 : decode cX0_fraction 154 = .ok (.lload 10, 2) := by decide +kernel
theorem dX0_fraction_156 : decode cX0_fraction 156 = .ok (.ldiv, 1) := by decide +kernel
theorem dX0_fraction_157 : decode cX0_fraction 157 = .ok (.lreturn, 1) := by decide +kernel
theorem dX0_drawOnce_0 : decode cX0_drawOnce 0 = .ok (.iconst 0, 1) := by decide +kernel
theorem dX0_drawOnce_1 : decode cX0_drawOnce 1 = .ok (.istore_n 3, 1) := by decide +kernel
theorem dX0_drawOnce_2 : decode cX0_drawOnce 2 = .ok (.iload_n 3, 1) := by decide +kernel
theorem dX0_drawOnce_3 : decode cX0_drawOnce 3 = .ok (.iload_n 2, 1) := by decide +kernel
theorem dX0_drawOnce_4 : decode cX0_drawOnce 4 = .ok (.if_icmp .ge 16, 3) := by decide +kernel
theorem dX0_drawOnce_7 : decode cX0_drawOnce 7 = .ok (.aload_n 0, 1) := by decide +kernel
theorem dX0_drawOnce_8 : decode cX0_drawOnce 8 = .ok (.getfield 15, 3) := by decide +kernel
theorem dX0_drawOnce_11 : decode cX0_drawOnce 11 = .ok (.iload_n 3, 1) := by decide +kernel
theorem dX0_drawOnce_12 : decode cX0_drawOnce 12 = .ok (.lconst 0, 1) := by decide +kernel
theorem dX0_drawOnce_13 : decode cX0_drawOnce 13 = .ok (.lastore, 1) := by decide +kernel
theorem dX0_drawOnce_14 : decode cX0_drawOnce 14 = .ok (.iinc 3 1, 3) := by decide +kernel
theorem dX0_drawOnce_17 : decode cX0_drawOnce 17 = .ok (.goto (-15), 3) := by decide +kernel
theorem dX0_drawOnce_20 : decode cX0_drawOnce 20 = .ok (.iconst 0, 1) := by decide +kernel
theorem dX0_drawOnce_21 : decode cX0_drawOnce 21 = .ok (.istore_n 3, 1) := by decide +kernel
theorem dX0_drawOnce_22 : decode cX0_drawOnce 22 = .ok (.iload_n 3, 1) := by decide +kernel
theorem dX0_drawOnce_23 : decode cX0_drawOnce 23 = .ok (.iload_n 2, 1) := by decide +kernel
theorem dX0_drawOnce_24 : decode cX0_drawOnce 24 = .ok (.if_icmp .ge 28, 3) := by decide +kernel
theorem dX0_drawOnce_27 : decode cX0_drawOnce 27 = .ok (.aload_n 0, 1) := by decide +kernel
theorem dX0_drawOnce_28 : decode cX0_drawOnce 28 = .ok (.getfield 9, 3) := by decide +kernel
theorem dX0_drawOnce_31 : decode cX0_drawOnce 31 = .ok (.iload_n 3, 1) := by decide +kernel
theorem dX0_drawOnce_32 : decode cX0_drawOnce 32 = .ok (.laload, 1) := by decide +kernel
theorem dX0_drawOnce_33 : decode cX0_drawOnce 33 = .ok (.lconst 0, 1) := by decide +kernel
theorem dX0_drawOnce_34 : decode cX0_drawOnce 34 = .ok (.lcmp, 1) := by decide +kernel
theorem dX0_drawOnce_35 : decode cX0_drawOnce 35 = .ok (.ifCond .le 11, 3) := by decide +kernel
theorem dX0_drawOnce_38 : decode cX0_drawOnce 38 = .ok (.aload_n 0, 1) := by decide +kernel
theorem dX0_drawOnce_39 : decode cX0_drawOnce 39 = .ok (.iload_n 3, 1) := by decide +kernel
theorem dX0_drawOnce_40 : decode cX0_drawOnce 40 = .ok (.aload_n 1, 1) := by decide +kernel
theorem dX0_drawOnce_41 : decode cX0_drawOnce 41 = .ok (.iload_n 3, 1) := by decide +kernel
theorem dX0_drawOnce_42 : decode cX0_drawOnce 42 = .ok (.iaload, 1) := by decide +kernel
theorem dX0_drawOnce_43 : decode cX0_drawOnce 43 = .ok (.invokevirtual 64, 3) := by decide +kernel
theorem dX0_drawOnce_46 : decode cX0_drawOnce 46 = .ok (.iinc 3 1, 3) := by decide +kernel
theorem dX0_drawOnce_49 : decode cX0_drawOnce 49 = .ok (.goto (-27), 3) := by decide +kernel
theorem dX0_drawOnce_52 : decode cX0_drawOnce 52 = .ok (.iconst 0, 1) := by decide +kernel
theorem dX0_drawOnce_53 : decode cX0_drawOnce 53 = .ok (.istore_n 3, 1) := by decide +kernel
theorem dX0_drawOnce_54 : decode cX0_drawOnce 54 = .ok (.iload_n 3, 1) := by decide +kernel
theorem dX0_drawOnce_55 : decode cX0_drawOnce 55 = .ok (.iload_n 2, 1) := by decide +kernel
theorem dX0_drawOnce_56 : decode cX0_drawOnce 56 = .ok (.if_icmp .ge 21, 3) := by decide +kernel
theorem dX0_drawOnce_59 : decode cX0_drawOnce 59 = .ok (.aload_n 0, 1) := by decide +kernel
theorem dX0_drawOnce_60 : decode cX0_drawOnce 60 = .ok (.getfield 9, 3) := by decide +kernel
theorem dX0_drawOnce_63 : decode cX0_drawOnce 63 = .ok (.iload_n 3, 1) := by decide +kernel
theorem dX0_drawOnce_64 : decode cX0_drawOnce 64 = .ok (.aload_n 0, 1) := by decide +kernel
theorem dX0_drawOnce_65 : decode cX0_drawOnce 65 = .ok (.getfield 15, 3) := by decide +kernel
theorem dX0_drawOnce_68 : decode cX0_drawOnce 68 = .ok (.iload_n 3, 1) := by decide +kernel
theorem dX0_drawOnce_69 : decode cX0_drawOnce 69 = .ok (.laload, 1) := by decide +kernel
theorem dX0_drawOnce_70 : decode cX0_drawOnce 70 = .ok (.lastore, 1) := by decide +kernel
theorem dX0_drawOnce_71 : decode cX0_drawOnce 71 = .ok (.iinc 3 1, 3) := by decide +kernel
theorem dX0_drawOnce_74 : decode cX0_drawOnce 74 = .ok (.goto (-20), 3) := by decide +kernel
theorem dX0_drawOnce_77 : decode cX0_drawOnce 77 = .ok (.return_, 1) := by decide +kernel
theorem dX0_handOn_0 : decode cX0_handOn 0 = .ok (.iload_n 2, 1) := by decide +kernel
theorem dX0_handOn_1 : decode cX0_handOn 1 = .ok (.invokestatic 68, 3) := by decide +kernel
theorem dX0_handOn_4 : decode cX0_handOn 4 = .ok (.istore_n 3, 1) := by decide +kernel
theorem dX0_handOn_5 : decode cX0_handOn 5 = .ok (.iload_n 3, 1) := by decide +kernel
theorem dX0_handOn_6 : decode cX0_handOn 6 = .ok (.ifCond .ne 23, 3) := by decide +kernel
theorem dX0_handOn_9 : decode cX0_handOn 9 = .ok (.aload_n 0, 1) := by decide +kernel
theorem dX0_handOn_10 : decode cX0_handOn 10 = .ok (.getfield 15, 3) := by decide +kernel
theorem dX0_handOn_13 : decode cX0_handOn 13 = .ok (.iload_n 1, 1) := by decide +kernel
theorem dX0_handOn_14 : decode cX0_handOn 14 = .ok (.dup2, 1) := by decide +kernel
theorem dX0_handOn_15 : decode cX0_handOn 15 = .ok (.laload, 1) := by decide +kernel
theorem dX0_handOn_16 : decode cX0_handOn 16 = .ok (.aload_n 0, 1) := by decide +kernel
theorem dX0_handOn_17 : decode cX0_handOn 17 = .ok (.getfield 9, 3) := by decide +kernel
theorem dX0_handOn_20 : decode cX0_handOn 20 = .ok (.iload_n 1, 1) := by decide +kernel
theorem dX0_handOn_21 : decode cX0_handOn 21 = .ok (.laload, 1) := by decide +kernel
theorem dX0_handOn_22 : decode cX0_handOn 22 = .ok (.ldc2_w 58, 3) := by decide +kernel
theorem dX0_handOn_25 : decode cX0_handOn 25 = .ok (.lmul, 1) := by decide +kernel
theorem dX0_handOn_26 : decode cX0_handOn 26 = .ok (.ladd, 1) := by decide +kernel
theorem dX0_handOn_27 : decode cX0_handOn 27 = .ok (.lastore, 1) := by decide +kernel
theorem dX0_handOn_28 : decode cX0_handOn 28 = .ok (.return_, 1) := by decide +kernel
theorem dX0_handOn_29 : decode cX0_handOn 29 = .ok (.aload_n 0, 1) := by decide +kernel
theorem dX0_handOn_30 : decode cX0_handOn 30 = .ok (.getfield 9, 3) := by decide +kernel
theorem dX0_handOn_33 : decode cX0_handOn 33 = .ok (.iload_n 1, 1) := by decide +kernel
theorem dX0_handOn_34 : decode cX0_handOn 34 = .ok (.laload, 1) := by decide +kernel
theorem dX0_handOn_35 : decode cX0_handOn 35 = .ok (.sipush 2520, 3) := by decide +kernel
theorem dX0_handOn_38 : decode cX0_handOn 38 = .ok (.iload_n 3, 1) := by decide +kernel
theorem dX0_handOn_39 : decode cX0_handOn 39 = .ok (.idiv, 1) := by decide +kernel
theorem dX0_handOn_40 : decode cX0_handOn 40 = .ok (.i2l, 1) := by decide +kernel
theorem dX0_handOn_41 : decode cX0_handOn 41 = .ok (.lmul, 1) := by decide +kernel
theorem dX0_handOn_42 : decode cX0_handOn 42 = .ok (.lstore 4, 2) := by decide +kernel
theorem dX0_handOn_44 : decode cX0_handOn 44 = .ok (.iconst 0, 1) := by decide +kernel
theorem dX0_handOn_45 : decode cX0_handOn 45 = .ok (.istore 6, 2) := by decide +kernel
theorem dX0_handOn_47 : decode cX0_handOn 47 = .ok (.iload 6, 2) := by decide +kernel
theorem dX0_handOn_49 : decode cX0_handOn 49 = .ok (.aload_n 0, 1) := by decide +kernel
theorem dX0_handOn_50 : decode cX0_handOn 50 = .ok (.getfield 18, 3) := by decide +kernel
theorem dX0_handOn_53 : decode cX0_handOn 53 = .ok (.invokevirtual 51, 3) := by decide +kernel
theorem dX0_handOn_56 : decode cX0_handOn 56 = .ok (.if_icmp .ge 36, 3) := by decide +kernel
theorem dX0_handOn_59 : decode cX0_handOn 59 = .ok (.iload_n 2, 1) := by decide +kernel
theorem dX0_handOn_60 : decode cX0_handOn 60 = .ok (.iconst 1, 1) := by decide +kernel
theorem dX0_handOn_61 : decode cX0_handOn 61 = .ok (.iload 6, 2) := by decide +kernel
theorem dX0_handOn_63 : decode cX0_handOn 63 = .ok (.ishl, 1) := by decide +kernel
theorem dX0_handOn_64 : decode cX0_handOn 64 = .ok (.iand, 1) := by decide +kernel
theorem dX0_handOn_65 : decode cX0_handOn 65 = .ok (.istore 7, 2) := by decide +kernel
theorem dX0_handOn_67 : decode cX0_handOn 67 = .ok (.iload 7, 2) := by decide +kernel
theorem dX0_handOn_69 : decode cX0_handOn 69 = .ok (.ifCond .eq 17, 3) := by decide +kernel
theorem dX0_handOn_72 : decode cX0_handOn 72 = .ok (.aload_n 0, 1) := by decide +kernel
theorem dX0_handOn_73 : decode cX0_handOn 73 = .ok (.getfield 15, 3) := by decide +kernel
theorem dX0_handOn_76 : decode cX0_handOn 76 = .ok (.iload_n 1, 1) := by decide +kernel
theorem dX0_handOn_77 : decode cX0_handOn 77 = .ok (.iload 7, 2) := by decide +kernel
theorem dX0_handOn_79 : decode cX0_handOn 79 = .ok (.ixor, 1) := by decide +kernel
theorem dX0_handOn_80 : decode cX0_handOn 80 = .ok (.dup2, 1) := by decide +kernel
theorem dX0_handOn_81 : decode cX0_handOn 81 = .ok (.laload, 1) := by decide +kernel
theorem dX0_handOn_82 : decode cX0_handOn 82 = .ok (.lload 4, 2) := by decide +kernel
theorem dX0_handOn_84 : decode cX0_handOn 84 = .ok (.ladd, 1) := by decide +kernel
theorem dX0_handOn_85 : decode cX0_handOn 85 = .ok (.lastore, 1) := by decide +kernel
theorem dX0_handOn_86 : decode cX0_handOn 86 = .ok (.iinc 6 1, 3) := by decide +kernel
theorem dX0_handOn_89 : decode cX0_handOn 89 = .ok (.goto (-42), 3) := by decide +kernel
theorem dX0_handOn_92 : decode cX0_handOn 92 = .ok (.return_, 1) := by decide +kernel
theorem dX0_commonDivisor_0 : decode cX0_commonDivisor 0 = .ok (.lload_n 0, 1) := by decide +kernel
theorem dX0_commonDivisor_1 : decode cX0_commonDivisor 1 = .ok (.lstore 4, 2) := by decide +kernel
theorem dX0_commonDivisor_3 : decode cX0_commonDivisor 3 = .ok (.lload_n 2, 1) := by decide +kernel
theorem dX0_commonDivisor_4 : decode cX0_commonDivisor 4 = .ok (.lstore 6, 2) := by decide +kernel
theorem dX0_commonDivisor_6 : decode cX0_commonDivisor 6 = .ok (.iconst 0, 1) := by decide +kernel
theorem dX0_commonDivisor_7 : decode cX0_commonDivisor 7 = .ok (.istore 8, 2) := by decide +kernel
theorem dX0_commonDivisor_9 : decode cX0_commonDivisor 9 = .ok (.iload 8, 2) := by decide +kernel
theorem dX0_commonDivisor_11 : decode cX0_commonDivisor 11 = .ok (.sipush 200, 3) := by decide +kernel
theorem dX0_commonDivisor_14 : decode cX0_commonDivisor 14 = .ok (.if_icmp .ge 31, 3) := by decide +kernel
theorem dX0_commonDivisor_17 : decode cX0_commonDivisor 17 = .ok (.lload 6, 2) := by decide +kernel
theorem dX0_commonDivisor_19 : decode cX0_commonDivisor 19 = .ok (.lconst 0, 1) := by decide +kernel
theorem dX0_commonDivisor_20 : decode cX0_commonDivisor 20 = .ok (.lcmp, 1) := by decide +kernel
theorem dX0_commonDivisor_21 : decode cX0_commonDivisor 21 = .ok (.ifCond .eq 24, 3) := by decide +kernel
theorem dX0_commonDivisor_24 : decode cX0_commonDivisor 24 = .ok (.lload 4, 2) := by decide +kernel
theorem dX0_commonDivisor_26 : decode cX0_commonDivisor 26 = .ok (.lload 6, 2) := by decide +kernel
theorem dX0_commonDivisor_28 : decode cX0_commonDivisor 28 = .ok (.lrem, 1) := by decide +kernel
theorem dX0_commonDivisor_29 : decode cX0_commonDivisor 29 = .ok (.lstore 9, 2) := by decide +kernel
theorem dX0_commonDivisor_31 : decode cX0_commonDivisor 31 = .ok (.lload 6, 2) := by decide +kernel
theorem dX0_commonDivisor_33 : decode cX0_commonDivisor 33 = .ok (.lstore 4, 2) := by decide +kernel
theorem dX0_commonDivisor_35 : decode cX0_commonDivisor 35 = .ok (.lload 9, 2) := by decide +kernel
theorem dX0_commonDivisor_37 : decode cX0_commonDivisor 37 = .ok (.lstore 6, 2) := by decide +kernel
theorem dX0_commonDivisor_39 : decode cX0_commonDivisor 39 = .ok (.iinc 8 1, 3) := by decide +kernel
theorem dX0_commonDivisor_42 : decode cX0_commonDivisor 42 = .ok (.goto (-33), 3) := by decide +kernel
theorem dX0_commonDivisor_45 : decode cX0_commonDivisor 45 = .ok (.lload 4, 2) := by decide +kernel
theorem dX0_commonDivisor_47 : decode cX0_commonDivisor 47 = .ok (.lreturn, 1) := by decide +kernel
theorem dX1_isDefined_0 : decode cX1_isDefined 0 = .ok (.aload_n 0, 1) := by decide +kernel
theorem dX1_isDefined_1 : decode cX1_isDefined 1 = .ok (.getfield 9, 3) := by decide +kernel
theorem dX1_isDefined_4 : decode cX1_isDefined 4 = .ok (.iconst 3, 1) := by decide +kernel
theorem dX1_isDefined_5 : decode cX1_isDefined 5 = .ok (.invokevirtual 15, 3) := by decide +kernel
theorem dX1_isDefined_8 : decode cX1_isDefined 8 = .ok (.ifCond .le 5, 3) := by decide +kernel
theorem dX1_isDefined_11 : decode cX1_isDefined 11 = .ok (.iconst 0, 1) := by decide +kernel
theorem dX1_isDefined_12 : decode cX1_isDefined 12 = .ok (.ireturn, 1) := by decide +kernel
theorem dX1_isDefined_13 : decode cX1_isDefined 13 = .ok (.iconst 0, 1) := by decide +kernel
theorem dX1_isDefined_14 : decode cX1_isDefined 14 = .ok (.istore_n 1, 1) := by decide +kernel
theorem dX1_isDefined_15 : decode cX1_isDefined 15 = .ok (.iload_n 1, 1) := by decide +kernel
theorem dX1_isDefined_16 : decode cX1_isDefined 16 = .ok (.aload_n 0, 1) := by decide +kernel
theorem dX1_isDefined_17 : decode cX1_isDefined 17 = .ok (.getfield 9, 3) := by decide +kernel
theorem dX1_isDefined_20 : decode cX1_isDefined 20 = .ok (.invokevirtual 21, 3) := by decide +kernel
theorem dX1_isDefined_23 : decode cX1_isDefined 23 = .ok (.if_icmp .ge 33, 3) := by decide +kernel
theorem dX1_isDefined_26 : decode cX1_isDefined 26 = .ok (.iconst 0, 1) := by decide +kernel
theorem dX1_isDefined_27 : decode cX1_isDefined 27 = .ok (.istore_n 2, 1) := by decide +kernel
theorem dX1_isDefined_28 : decode cX1_isDefined 28 = .ok (.iload_n 2, 1) := by decide +kernel
theorem dX1_isDefined_29 : decode cX1_isDefined 29 = .ok (.iload_n 1, 1) := by decide +kernel
theorem dX1_isDefined_30 : decode cX1_isDefined 30 = .ok (.if_icmp .ge 20, 3) := by decide +kernel
theorem dX1_isDefined_33 : decode cX1_isDefined 33 = .ok (.aload_n 0, 1) := by decide +kernel
theorem dX1_isDefined_34 : decode cX1_isDefined 34 = .ok (.iload_n 1, 1) := by decide +kernel
theorem dX1_isDefined_35 : decode cX1_isDefined 35 = .ok (.iload_n 2, 1) := by decide +kernel
theorem dX1_isDefined_36 : decode cX1_isDefined 36 = .ok (.invokevirtual 25, 3) := by decide +kernel
theorem dX1_isDefined_39 : decode cX1_isDefined 39 = .ok (.ifCond .ne 5, 3) := by decide +kernel
theorem dX1_isDefined_42 : decode cX1_isDefined 42 = .ok (.iconst 0, 1) := by decide +kernel
theorem dX1_isDefined_43 : decode cX1_isDefined 43 = .ok (.ireturn, 1) := by decide +kernel
theorem dX1_isDefined_44 : decode cX1_isDefined 44 = .ok (.iinc 2 1, 3) := by decide +kernel
theorem dX1_isDefined_47 : decode cX1_isDefined 47 = .ok (.goto (-19), 3) := by decide +kernel
theorem dX1_isDefined_50 : decode cX1_isDefined 50 = .ok (.iinc 1 1, 3) := by decide +kernel
theorem dX1_isDefined_53 : decode cX1_isDefined 53 = .ok (.goto (-38), 3) := by decide +kernel
theorem dX1_isDefined_56 : decode cX1_isDefined 56 = .ok (.iconst 1, 1) := by decide +kernel
theorem dX1_isDefined_57 : decode cX1_isDefined 57 = .ok (.ireturn, 1) := by decide +kernel
theorem dX1_isEvenPair_0 : decode cX1_isEvenPair 0 = .ok (.aload_n 0, 1) := by decide +kernel
theorem dX1_isEvenPair_1 : decode cX1_isEvenPair 1 = .ok (.getfield 9, 3) := by decide +kernel
theorem dX1_isEvenPair_4 : decode cX1_isEvenPair 4 = .ok (.iload_n 1, 1) := by decide +kernel
theorem dX1_isEvenPair_5 : decode cX1_isEvenPair 5 = .ok (.iload_n 2, 1) := by decide +kernel
theorem dX1_isEvenPair_6 : decode cX1_isEvenPair 6 = .ok (.invokevirtual 29, 3) := by decide +kernel
theorem dX1_isEvenPair_9 : decode cX1_isEvenPair 9 = .ok (.istore_n 3, 1) := by decide +kernel
theorem dX1_isEvenPair_10 : decode cX1_isEvenPair 10 = .ok (.iload_n 3, 1) := by decide +kernel
theorem dX1_isEvenPair_11 : decode cX1_isEvenPair 11 = .ok (.aload_n 0, 1) := by decide +kernel
theorem dX1_isEvenPair_12 : decode cX1_isEvenPair 12 = .ok (.getfield 9, 3) := by decide +kernel
theorem dX1_isEvenPair_15 : decode cX1_isEvenPair 15 = .ok (.iload_n 2, 1) := by decide +kernel
theorem dX1_isEvenPair_16 : decode cX1_isEvenPair 16 = .ok (.iload_n 1, 1) := by decide +kernel
theorem dX1_isEvenPair_17 : decode cX1_isEvenPair 17 = .ok (.invokevirtual 29, 3) := by decide +kernel
theorem dX1_isEvenPair_20 : decode cX1_isEvenPair 20 = .ok (.if_icmp .eq 5, 3) := by decide +kernel
theorem dX1_isEvenPair_23 : decode cX1_isEvenPair 23 = .ok (.iconst 0, 1) := by decide +kernel
theorem dX1_isEvenPair_24 : decode cX1_isEvenPair 24 = .ok (.ireturn, 1) := by decide +kernel
theorem dX1_isEvenPair_25 : decode cX1_isEvenPair 25 = .ok (.iload_n 3, 1) := by decide +kernel
theorem dX1_isEvenPair_26 : decode cX1_isEvenPair 26 = .ok (.ifCond .ne 5, 3) := by decide +kernel
theorem dX1_isEvenPair_29 : decode cX1_isEvenPair 29 = .ok (.iconst 1, 1) := by decide +kernel
theorem dX1_isEvenPair_30 : decode cX1_isEvenPair 30 = .ok (.ireturn, 1) := by decide +kernel
theorem dX1_isEvenPair_31 : decode cX1_isEvenPair 31 = .ok (.aload_n 0, 1) := by decide +kernel
theorem dX1_isEvenPair_32 : decode cX1_isEvenPair 32 = .ok (.getfield 9, 3) := by decide +kernel
theorem dX1_isEvenPair_35 : decode cX1_isEvenPair 35 = .ok (.iload_n 1, 1) := by decide +kernel
theorem dX1_isEvenPair_36 : decode cX1_isEvenPair 36 = .ok (.invokevirtual 33, 3) := by decide +kernel
theorem dX1_isEvenPair_39 : decode cX1_isEvenPair 39 = .ok (.istore 4, 2) := by decide +kernel
theorem dX1_isEvenPair_41 : decode cX1_isEvenPair 41 = .ok (.aload_n 0, 1) := by decide +kernel
theorem dX1_isEvenPair_42 : decode cX1_isEvenPair 42 = .ok (.getfield 9, 3) := by decide +kernel
theorem dX1_isEvenPair_45 : decode cX1_isEvenPair 45 = .ok (.iload_n 2, 1) := by decide +kernel
theorem dX1_isEvenPair_46 : decode cX1_isEvenPair 46 = .ok (.invokevirtual 33, 3) := by decide +kernel
theorem dX1_isEvenPair_49 : decode cX1_isEvenPair 49 = .ok (.istore 5, 2) := by decide +kernel
theorem dX1_isEvenPair_51 : decode cX1_isEvenPair 51 = .ok (.iload 4, 2) := by decide +kernel
theorem dX1_isEvenPair_53 : decode cX1_isEvenPair 53 = .ok (.iconst 1, 1) := by decide +kernel
theorem dX1_isEvenPair_54 : decode cX1_isEvenPair 54 = .ok (.if_icmp .ne 8, 3) := by decide +kernel
theorem dX1_isEvenPair_57 : decode cX1_isEvenPair 57 = .ok (.iload 5, 2) := by decide +kernel
theorem dX1_isEvenPair_59 : decode cX1_isEvenPair 59 = .ok (.ifCond .eq 14, 3) := by decide +kernel
theorem dX1_isEvenPair_62 : decode cX1_isEvenPair 62 = .ok (.iload 4, 2) := by decide +kernel
theorem dX1_isEvenPair_64 : decode cX1_isEvenPair 64 = .ok (.ifCond .ne 13, 3) := by decide +kernel
theorem dX1_isEvenPair_67 : decode cX1_isEvenPair 67 = .ok (.iload 5, 2) := by decide +kernel
theorem dX1_isEvenPair_69 : decode cX1_isEvenPair 69 = .ok (.iconst 1, 1) := by decide +kernel
theorem dX1_isEvenPair_70 : decode cX1_isEvenPair 70 = .ok (.if_icmp .ne 7, 3) := by decide +kernel
theorem dX1_isEvenPair_73 : decode cX1_isEvenPair 73 = .ok (.iconst 1, 1) := by decide +kernel
theorem dX1_isEvenPair_74 : decode cX1_isEvenPair 74 = .ok (.goto 4, 3) := by decide +kernel
theorem dX1_isEvenPair_77 : decode cX1_isEvenPair 77 = .ok (.iconst 0, 1) := by decide +kernel
theorem dX1_isEvenPair_78 : decode cX1_isEvenPair 78 = .ok (.istore 6, 2) := by decide +kernel
theorem dX1_isEvenPair_80 : decode cX1_isEvenPair 80 = .ok (.iload 6, 2) := by decide +kernel
theorem dX1_isEvenPair_82 : decode cX1_isEvenPair 82 = .ok (.ifCond .ne 7, 3) := by decide +kernel
theorem dX1_isEvenPair_85 : decode cX1_isEvenPair 85 = .ok (.iconst 1, 1) := by decide +kernel
theorem dX1_isEvenPair_86 : decode cX1_isEvenPair 86 = .ok (.goto 4, 3) := by decide +kernel
theorem dX1_isEvenPair_89 : decode cX1_isEvenPair 89 = .ok (.iconst 0, 1) := by decide +kernel
theorem dX1_isEvenPair_90 : decode cX1_isEvenPair 90 = .ok (.ireturn, 1) := by decide +kernel
theorem dX1_of_0 : decode cX1_of 0 = .ok (.iconst 0, 1) := by decide +kernel
theorem dX1_of_1 : decode cX1_of 1 = .ok (.istore_n 2, 1) := by decide +kernel
theorem dX1_of_2 : decode cX1_of 2 = .ok (.iconst 0, 1) := by decide +kernel
theorem dX1_of_3 : decode cX1_of 3 = .ok (.istore_n 3, 1) := by decide +kernel
theorem dX1_of_4 : decode cX1_of 4 = .ok (.iload_n 3, 1) := by decide +kernel
theorem dX1_of_5 : decode cX1_of 5 = .ok (.aload_n 0, 1) := by decide +kernel
theorem dX1_of_6 : decode cX1_of 6 = .ok (.getfield 9, 3) := by decide +kernel
theorem dX1_of_9 : decode cX1_of 9 = .ok (.invokevirtual 21, 3) := by decide +kernel
theorem dX1_of_12 : decode cX1_of 12 = .ok (.if_icmp .ge 44, 3) := by decide +kernel
theorem dX1_of_15 : decode cX1_of 15 = .ok (.iload_n 2, 1) := by decide +kernel
theorem dX1_of_16 : decode cX1_of 16 = .ok (.aload_n 0, 1) := by decide +kernel
theorem dX1_of_17 : decode cX1_of 17 = .ok (.iload_n 3, 1) := by decide +kernel
theorem dX1_of_18 : decode cX1_of 18 = .ok (.iload_n 1, 1) := by decide +kernel
theorem dX1_of_19 : decode cX1_of 19 = .ok (.invokevirtual 36, 3) := by decide +kernel
theorem dX1_of_22 : decode cX1_of 22 = .ok (.iadd, 1) := by decide +kernel
theorem dX1_of_23 : decode cX1_of 23 = .ok (.istore_n 2, 1) := by decide +kernel
theorem dX1_of_24 : decode cX1_of 24 = .ok (.iconst 0, 1) := by decide +kernel
theorem dX1_of_25 : decode cX1_of 25 = .ok (.istore 4, 2) := by decide +kernel
theorem dX1_of_27 : decode cX1_of 27 = .ok (.iload 4, 2) := by decide +kernel
theorem dX1_of_29 : decode cX1_of 29 = .ok (.iload_n 3, 1) := by decide +kernel
theorem dX1_of_30 : decode cX1_of 30 = .ok (.if_icmp .ge 20, 3) := by decide +kernel
theorem dX1_of_33 : decode cX1_of 33 = .ok (.iload_n 2, 1) := by decide +kernel
theorem dX1_of_34 : decode cX1_of 34 = .ok (.aload_n 0, 1) := by decide +kernel
theorem dX1_of_35 : decode cX1_of 35 = .ok (.iload_n 3, 1) := by decide +kernel
theorem dX1_of_36 : decode cX1_of 36 = .ok (.iload 4, 2) := by decide +kernel
theorem dX1_of_38 : decode cX1_of 38 = .ok (.iload_n 1, 1) := by decide +kernel
theorem dX1_of_39 : decode cX1_of 39 = .ok (.invokevirtual 39, 3) := by decide +kernel
theorem dX1_of_42 : decode cX1_of 42 = .ok (.iadd, 1) := by decide +kernel
theorem dX1_of_43 : decode cX1_of 43 = .ok (.istore_n 2, 1) := by decide +kernel
theorem dX1_of_44 : decode cX1_of 44 = .ok (.iinc 4 1, 3) := by decide +kernel
theorem dX1_of_47 : decode cX1_of 47 = .ok (.goto (-20), 3) := by decide +kernel
theorem dX1_of_50 : decode cX1_of 50 = .ok (.iinc 3 1, 3) := by decide +kernel
theorem dX1_of_53 : decode cX1_of 53 = .ok (.goto (-49), 3) := by decide +kernel
theorem dX1_of_56 : decode cX1_of 56 = .ok (.iload_n 2, 1) := by decide +kernel
theorem dX1_of_57 : decode cX1_of 57 = .ok (.ireturn, 1) := by decide +kernel
theorem dX1_ofPair_0 : decode cX1_ofPair 0 = .ok (.aload_n 0, 1) := by decide +kernel
theorem dX1_ofPair_1 : decode cX1_ofPair 1 = .ok (.getfield 9, 3) := by decide +kernel
theorem dX1_ofPair_4 : decode cX1_ofPair 4 = .ok (.iload_n 1, 1) := by decide +kernel
theorem dX1_ofPair_5 : decode cX1_ofPair 5 = .ok (.invokevirtual 33, 3) := by decide +kernel
theorem dX1_ofPair_8 : decode cX1_ofPair 8 = .ok (.istore 4, 2) := by decide +kernel
theorem dX1_ofPair_10 : decode cX1_ofPair 10 = .ok (.aload_n 0, 1) := by decide +kernel
theorem dX1_ofPair_11 : decode cX1_ofPair 11 = .ok (.getfield 9, 3) := by decide +kernel
theorem dX1_ofPair_14 : decode cX1_ofPair 14 = .ok (.iload_n 2, 1) := by decide +kernel
theorem dX1_ofPair_15 : decode cX1_ofPair 15 = .ok (.invokevirtual 33, 3) := by decide +kernel
theorem dX1_ofPair_18 : decode cX1_ofPair 18 = .ok (.istore 5, 2) := by decide +kernel
theorem dX1_ofPair_20 : decode cX1_ofPair 20 = .ok (.iload 4, 2) := by decide +kernel
theorem dX1_ofPair_22 : decode cX1_ofPair 22 = .ok (.iconst 2, 1) := by decide +kernel
theorem dX1_ofPair_23 : decode cX1_ofPair 23 = .ok (.if_icmp .ne 11, 3) := by decide +kernel
theorem dX1_ofPair_26 : decode cX1_ofPair 26 = .ok (.iload 5, 2) := by decide +kernel
theorem dX1_ofPair_28 : decode cX1_ofPair 28 = .ok (.iconst 2, 1) := by decide +kernel
theorem dX1_ofPair_29 : decode cX1_ofPair 29 = .ok (.if_icmp .ne 5, 3) := by decide +kernel
theorem dX1_ofPair_32 : decode cX1_ofPair 32 = .ok (.iconst 0, 1) := by decide +kernel
theorem dX1_ofPair_33 : decode cX1_ofPair 33 = .ok (.ireturn, 1) := by decide +kernel
theorem dX1_ofPair_34 : decode cX1_ofPair 34 = .ok (.iload_n 3, 1) := by decide +kernel
theorem dX1_ofPair_35 : decode cX1_ofPair 35 = .ok (.iload_n 1, 1) := by decide +kernel
theorem dX1_ofPair_36 : decode cX1_ofPair 36 = .ok (.invokestatic 43, 3) := by decide +kernel
theorem dX1_ofPair_39 : decode cX1_ofPair 39 = .ok (.iload_n 3, 1) := by decide +kernel
theorem dX1_ofPair_40 : decode cX1_ofPair 40 = .ok (.iload_n 2, 1) := by decide +kernel
theorem dX1_ofPair_41 : decode cX1_ofPair 41 = .ok (.invokestatic 43, 3) := by decide +kernel
theorem dX1_ofPair_44 : decode cX1_ofPair 44 = .ok (.if_icmp .ne 7, 3) := by decide +kernel
theorem dX1_ofPair_47 : decode cX1_ofPair 47 = .ok (.iconst 1, 1) := by decide +kernel
theorem dX1_ofPair_48 : decode cX1_ofPair 48 = .ok (.goto 4, 3) := by decide +kernel
theorem dX1_ofPair_51 : decode cX1_ofPair 51 = .ok (.iconst 0, 1) := by decide +kernel
theorem dX1_ofPair_52 : decode cX1_ofPair 52 = .ok (.istore 6, 2) := by decide +kernel
theorem dX1_ofPair_54 : decode cX1_ofPair 54 = .ok (.iload 4, 2) := by decide +kernel
theorem dX1_ofPair_56 : decode cX1_ofPair 56 = .ok (.iconst 1, 1) := by decide +kernel
theorem dX1_ofPair_57 : decode cX1_ofPair 57 = .ok (.if_icmp .eq 9, 3) := by decide +kernel
theorem dX1_ofPair_60 : decode cX1_ofPair 60 = .ok (.iload 5, 2) := by decide +kernel
theorem dX1_ofPair_62 : decode cX1_ofPair 62 = .ok (.iconst 1, 1) := by decide +kernel
theorem dX1_ofPair_63 : decode cX1_ofPair 63 = .ok (.if_icmp .ne 7, 3) := by decide +kernel
theorem dX1_ofPair_66 : decode cX1_ofPair 66 = .ok (.iconst 1, 1) := by decide +kernel
theorem dX1_ofPair_67 : decode cX1_ofPair 67 = .ok (.goto 4, 3) := by decide +kernel
theorem dX1_ofPair_70 : decode cX1_ofPair 70 = .ok (.iconst 0, 1) := by decide +kernel
theorem dX1_ofPair_71 : decode cX1_ofPair 71 = .ok (.istore 7, 2) := by decide +kernel
theorem dX1_ofPair_73 : decode cX1_ofPair 73 = .ok (.iload 6, 2) := by decide +kernel
theorem dX1_ofPair_75 : decode cX1_ofPair 75 = .ok (.iload 7, 2) := by decide +kernel
theorem dX1_ofPair_77 : decode cX1_ofPair 77 = .ok (.if_icmp .eq 15, 3) := by decide +kernel
theorem dX1_ofPair_80 : decode cX1_ofPair 80 = .ok (.aload_n 0, 1) := by decide +kernel
theorem dX1_ofPair_81 : decode cX1_ofPair 81 = .ok (.getfield 9, 3) := by decide +kernel
theorem dX1_ofPair_84 : decode cX1_ofPair 84 = .ok (.iload_n 1, 1) := by decide +kernel
theorem dX1_ofPair_85 : decode cX1_ofPair 85 = .ok (.iload_n 2, 1) := by decide +kernel
theorem dX1_ofPair_86 : decode cX1_ofPair 86 = .ok (.invokevirtual 29, 3) := by decide +kernel
theorem dX1_ofPair_89 : decode cX1_ofPair 89 = .ok (.goto 13, 3) := by decide +kernel
theorem dX1_ofPair_92 : decode cX1_ofPair 92 = .ok (.aload_n 0, 1) := by decide +kernel
theorem dX1_ofPair_93 : decode cX1_ofPair 93 = .ok (.getfield 9, 3) := by decide +kernel
theorem dX1_ofPair_96 : decode cX1_ofPair 96 = .ok (.iload_n 1, 1) := by decide +kernel
theorem dX1_ofPair_97 : decode cX1_ofPair 97 = .ok (.iload_n 2, 1) := by decide +kernel
theorem dX1_ofPair_98 : decode cX1_ofPair 98 = .ok (.invokevirtual 29, 3) := by decide +kernel
theorem dX1_ofPair_101 : decode cX1_ofPair 101 = .ok (.ineg, 1) := by decide +kernel
theorem dX1_ofPair_102 : decode cX1_ofPair 102 = .ok (.ireturn, 1) := by decide +kernel
theorem dX1_ofLean_0 : decode cX1_ofLean 0 = .ok (.aload_n 0, 1) := by decide +kernel
theorem dX1_ofLean_1 : decode cX1_ofLean 1 = .ok (.getfield 9, 3) := by decide +kernel
theorem dX1_ofLean_4 : decode cX1_ofLean 4 = .ok (.iload_n 1, 1) := by decide +kernel
theorem dX1_ofLean_5 : decode cX1_ofLean 5 = .ok (.invokevirtual 33, 3) := by decide +kernel
theorem dX1_ofLean_8 : decode cX1_ofLean 8 = .ok (.istore_n 3, 1) := by decide +kernel
theorem dX1_ofLean_9 : decode cX1_ofLean 9 = .ok (.iload_n 3, 1) := by decide +kernel
theorem dX1_ofLean_10 : decode cX1_ofLean 10 = .ok (.ifCond .eq 10, 3) := by decide +kernel
theorem dX1_ofLean_13 : decode cX1_ofLean 13 = .ok (.iload_n 3, 1) := by decide +kernel
theorem dX1_ofLean_14 : decode cX1_ofLean 14 = .ok (.iconst 1, 1) := by decide +kernel
theorem dX1_ofLean_15 : decode cX1_ofLean 15 = .ok (.if_icmp .eq 5, 3) := by decide +kernel
theorem dX1_ofLean_18 : decode cX1_ofLean 18 = .ok (.iconst 0, 1) := by decide +kernel
theorem dX1_ofLean_19 : decode cX1_ofLean 19 = .ok (.ireturn, 1) := by decide +kernel
theorem dX1_ofLean_20 : decode cX1_ofLean 20 = .ok (.iload_n 2, 1) := by decide +kernel
theorem dX1_ofLean_21 : decode cX1_ofLean 21 = .ok (.iload_n 1, 1) := by decide +kernel
theorem dX1_ofLean_22 : decode cX1_ofLean 22 = .ok (.invokestatic 43, 3) := by decide +kernel
theorem dX1_ofLean_25 : decode cX1_ofLean 25 = .ok (.iconst 1, 1) := by decide +kernel
theorem dX1_ofLean_26 : decode cX1_ofLean 26 = .ok (.if_icmp .ne 7, 3) := by decide +kernel
theorem dX1_ofLean_29 : decode cX1_ofLean 29 = .ok (.iconst 1, 1) := by decide +kernel
theorem dX1_ofLean_30 : decode cX1_ofLean 30 = .ok (.goto 4, 3) := by decide +kernel
theorem dX1_ofLean_33 : decode cX1_ofLean 33 = .ok (.iconst 0, 1) := by decide +kernel
theorem dX1_ofLean_34 : decode cX1_ofLean 34 = .ok (.istore 4, 2) := by decide +kernel
theorem dX1_ofLean_36 : decode cX1_ofLean 36 = .ok (.iload 4, 2) := by decide +kernel
theorem dX1_ofLean_38 : decode cX1_ofLean 38 = .ok (.iload_n 3, 1) := by decide +kernel
theorem dX1_ofLean_39 : decode cX1_ofLean 39 = .ok (.ifCond .ne 7, 3) := by decide +kernel
theorem dX1_ofLean_42 : decode cX1_ofLean 42 = .ok (.iconst 1, 1) := by decide +kernel
theorem dX1_ofLean_43 : decode cX1_ofLean 43 = .ok (.goto 4, 3) := by decide +kernel
theorem dX1_ofLean_46 : decode cX1_ofLean 46 = .ok (.iconst 0, 1) := by decide +kernel
theorem dX1_ofLean_47 : decode cX1_ofLean 47 = .ok (.if_icmp .ne 14, 3) := by decide +kernel
theorem dX1_ofLean_50 : decode cX1_ofLean 50 = .ok (.aload_n 0, 1) := by decide +kernel
theorem dX1_ofLean_51 : decode cX1_ofLean 51 = .ok (.getfield 9, 3) := by decide +kernel
theorem dX1_ofLean_54 : decode cX1_ofLean 54 = .ok (.iload_n 1, 1) := by decide +kernel
theorem dX1_ofLean_55 : decode cX1_ofLean 55 = .ok (.invokevirtual 46, 3) := by decide +kernel
theorem dX1_ofLean_58 : decode cX1_ofLean 58 = .ok (.goto 12, 3) := by decide +kernel
theorem dX1_ofLean_61 : decode cX1_ofLean 61 = .ok (.aload_n 0, 1) := by decide +kernel
theorem dX1_ofLean_62 : decode cX1_ofLean 62 = .ok (.getfield 9, 3) := by decide +kernel
theorem dX1_ofLean_65 : decode cX1_ofLean 65 = .ok (.iload_n 1, 1) := by decide +kernel
theorem dX1_ofLean_66 : decode cX1_ofLean 66 = .ok (.invokevirtual 46, 3) := by decide +kernel
theorem dX1_ofLean_69 : decode cX1_ofLean 69 = .ok (.ineg, 1) := by decide +kernel
theorem dX1_ofLean_70 : decode cX1_ofLean 70 = .ok (.ireturn, 1) := by decide +kernel
theorem dX2_size_0 : decode cX2_size 0 = .ok (.aload_n 0, 1) := by decide +kernel
theorem dX2_size_1 : decode cX2_size 1 = .ok (.getfield 15, 3) := by decide +kernel
theorem dX2_size_4 : decode cX2_size 4 = .ok (.ireturn, 1) := by decide +kernel
theorem dX2_isFull_0 : decode cX2_isFull 0 = .ok (.aload_n 0, 1) := by decide +kernel
theorem dX2_isFull_1 : decode cX2_isFull 1 = .ok (.getfield 15, 3) := by decide +kernel
theorem dX2_isFull_4 : decode cX2_isFull 4 = .ok (.bipush 8, 2) := by decide +kernel
theorem dX2_isFull_6 : decode cX2_isFull 6 = .ok (.if_icmp .lt 7, 3) := by decide +kernel
theorem dX2_isFull_9 : decode cX2_isFull 9 = .ok (.iconst 1, 1) := by decide +kernel
theorem dX2_isFull_10 : decode cX2_isFull 10 = .ok (.goto 4, 3) := by decide +kernel
theorem dX2_isFull_13 : decode cX2_isFull 13 = .ok (.iconst 0, 1) := by decide +kernel
theorem dX2_isFull_14 : decode cX2_isFull 14 = .ok (.ireturn, 1) := by decide +kernel
theorem dX2_add_0 : decode cX2_add 0 = .ok (.aload_n 0, 1) := by decide +kernel
theorem dX2_add_1 : decode cX2_add 1 = .ok (.invokevirtual 23, 3) := by decide +kernel
theorem dX2_add_4 : decode cX2_add 4 = .ok (.ifCond .eq 4, 3) := by decide +kernel
theorem dX2_add_7 : decode cX2_add 7 = .ok (.return_, 1) := by decide +kernel
theorem dX2_add_8 : decode cX2_add 8 = .ok (.aload_n 0, 1) := by decide +kernel
theorem dX2_add_9 : decode cX2_add 9 = .ok (.getfield 9, 3) := by decide +kernel
theorem dX2_add_12 : decode cX2_add 12 = .ok (.aload_n 0, 1) := by decide +kernel
theorem dX2_add_13 : decode cX2_add 13 = .ok (.getfield 15, 3) := by decide +kernel
theorem dX2_add_16 : decode cX2_add 16 = .ok (.iload_n 1, 1) := by decide +kernel
theorem dX2_add_17 : decode cX2_add 17 = .ok (.iastore, 1) := by decide +kernel
theorem dX2_add_18 : decode cX2_add 18 = .ok (.aload_n 0, 1) := by decide +kernel
theorem dX2_add_19 : decode cX2_add 19 = .ok (.dup, 1) := by decide +kernel
theorem dX2_add_20 : decode cX2_add 20 = .ok (.getfield 15, 3) := by decide +kernel
theorem dX2_add_23 : decode cX2_add 23 = .ok (.iconst 1, 1) := by decide +kernel
theorem dX2_add_24 : decode cX2_add 24 = .ok (.iadd, 1) := by decide +kernel
theorem dX2_add_25 : decode cX2_add 25 = .ok (.putfield 15, 3) := by decide +kernel
theorem dX2_add_28 : decode cX2_add 28 = .ok (.return_, 1) := by decide +kernel
theorem dX2_clear_0 : decode cX2_clear 0 = .ok (.aload_n 0, 1) := by decide +kernel
theorem dX2_clear_1 : decode cX2_clear 1 = .ok (.iconst 0, 1) := by decide +kernel
theorem dX2_clear_2 : decode cX2_clear 2 = .ok (.putfield 15, 3) := by decide +kernel
theorem dX2_clear_5 : decode cX2_clear 5 = .ok (.return_, 1) := by decide +kernel
theorem dX2_kindsOf_0 : decode cX2_kindsOf 0 = .ok (.bipush 15, 2) := by decide +kernel
theorem dX2_kindsOf_2 : decode cX2_kindsOf 2 = .ok (.istore_n 2, 1) := by decide +kernel
theorem dX2_kindsOf_3 : decode cX2_kindsOf 3 = .ok (.iconst 0, 1) := by decide +kernel
theorem dX2_kindsOf_4 : decode cX2_kindsOf 4 = .ok (.istore_n 3, 1) := by decide +kernel
theorem dX2_kindsOf_5 : decode cX2_kindsOf 5 = .ok (.iload_n 3, 1) := by decide +kernel
theorem dX2_kindsOf_6 : decode cX2_kindsOf 6 = .ok (.iconst 1, 1) := by decide +kernel
theorem dX2_kindsOf_7 : decode cX2_kindsOf 7 = .ok (.iadd, 1) := by decide +kernel
theorem dX2_kindsOf_8 : decode cX2_kindsOf 8 = .ok (.aload_n 0, 1) := by decide +kernel
theorem dX2_kindsOf_9 : decode cX2_kindsOf 9 = .ok (.getfield 15, 3) := by decide +kernel
theorem dX2_kindsOf_12 : decode cX2_kindsOf 12 = .ok (.if_icmp .ge 89, 3) := by decide +kernel
theorem dX2_kindsOf_15 : decode cX2_kindsOf 15 = .ok (.aload_n 0, 1) := by decide +kernel
theorem dX2_kindsOf_16 : decode cX2_kindsOf 16 = .ok (.getfield 19, 3) := by decide +kernel
theorem dX2_kindsOf_19 : decode cX2_kindsOf 19 = .ok (.iload_n 1, 1) := by decide +kernel
theorem dX2_kindsOf_20 : decode cX2_kindsOf 20 = .ok (.aload_n 0, 1) := by decide +kernel
theorem dX2_kindsOf_21 : decode cX2_kindsOf 21 = .ok (.getfield 9, 3) := by decide +kernel
theorem dX2_kindsOf_24 : decode cX2_kindsOf 24 = .ok (.iload_n 3, 1) := by decide +kernel
theorem dX2_kindsOf_25 : decode cX2_kindsOf 25 = .ok (.iaload, 1) := by decide +kernel
theorem dX2_kindsOf_26 : decode cX2_kindsOf 26 = .ok (.invokevirtual 27, 3) := by decide +kernel
theorem dX2_kindsOf_29 : decode cX2_kindsOf 29 = .ok (.istore 4, 2) := by decide +kernel
theorem dX2_kindsOf_31 : decode cX2_kindsOf 31 = .ok (.aload_n 0, 1) := by decide +kernel
theorem dX2_kindsOf_32 : decode cX2_kindsOf 32 = .ok (.getfield 9, 3) := by decide +kernel
theorem dX2_kindsOf_35 : decode cX2_kindsOf 35 = .ok (.iload_n 3, 1) := by decide +kernel
theorem dX2_kindsOf_36 : decode cX2_kindsOf 36 = .ok (.iaload, 1) := by decide +kernel
theorem dX2_kindsOf_37 : decode cX2_kindsOf 37 = .ok (.iload_n 1, 1) := by decide +kernel
theorem dX2_kindsOf_38 : decode cX2_kindsOf 38 = .ok (.invokestatic 33, 3) := by decide +kernel
theorem dX2_kindsOf_41 : decode cX2_kindsOf 41 = .ok (.istore 5, 2) := by decide +kernel
theorem dX2_kindsOf_43 : decode cX2_kindsOf 43 = .ok (.aload_n 0, 1) := by decide +kernel
theorem dX2_kindsOf_44 : decode cX2_kindsOf 44 = .ok (.getfield 9, 3) := by decide +kernel
theorem dX2_kindsOf_47 : decode cX2_kindsOf 47 = .ok (.iload_n 3, 1) := by decide +kernel
theorem dX2_kindsOf_48 : decode cX2_kindsOf 48 = .ok (.iconst 1, 1) := by decide +kernel
theorem dX2_kindsOf_49 : decode cX2_kindsOf 49 = .ok (.iadd, 1) := by decide +kernel
theorem dX2_kindsOf_50 : decode cX2_kindsOf 50 = .ok (.iaload, 1) := by decide +kernel
theorem dX2_kindsOf_51 : decode cX2_kindsOf 51 = .ok (.iload_n 1, 1) := by decide +kernel
theorem dX2_kindsOf_52 : decode cX2_kindsOf 52 = .ok (.invokestatic 33, 3) := by decide +kernel
theorem dX2_kindsOf_55 : decode cX2_kindsOf 55 = .ok (.istore 6, 2) := by decide +kernel
theorem dX2_kindsOf_57 : decode cX2_kindsOf 57 = .ok (.iconst 0, 1) := by decide +kernel
theorem dX2_kindsOf_58 : decode cX2_kindsOf 58 = .ok (.istore 7, 2) := by decide +kernel
theorem dX2_kindsOf_60 : decode cX2_kindsOf 60 = .ok (.iload 7, 2) := by decide +kernel
theorem dX2_kindsOf_62 : decode cX2_kindsOf 62 = .ok (.iconst 4, 1) := by decide +kernel
theorem dX2_kindsOf_63 : decode cX2_kindsOf 63 = .ok (.if_icmp .ge 32, 3) := by decide +kernel
theorem dX2_kindsOf_66 : decode cX2_kindsOf 66 = .ok (.iload 7, 2) := by decide +kernel
theorem dX2_kindsOf_68 : decode cX2_kindsOf 68 = .ok (.iload 4, 2) := by decide +kernel
theorem dX2_kindsOf_70 : decode cX2_kindsOf 70 = .ok (.iload 5, 2) := by decide +kernel
theorem dX2_kindsOf_72 : decode cX2_kindsOf 72 = .ok (.invokestatic 36, 3) := by decide +kernel
theorem dX2_kindsOf_75 : decode cX2_kindsOf 75 = .ok (.iload 6, 2) := by decide +kernel
theorem dX2_kindsOf_77 : decode cX2_kindsOf 77 = .ok (.if_icmp .eq 12, 3) := by decide +kernel
theorem dX2_kindsOf_80 : decode cX2_kindsOf 80 = .ok (.iload_n 2, 1) := by decide +kernel
theorem dX2_kindsOf_81 : decode cX2_kindsOf 81 = .ok (.iconst 1, 1) := by decide +kernel
theorem dX2_kindsOf_82 : decode cX2_kindsOf 82 = .ok (.iload 7, 2) := by decide +kernel
theorem dX2_kindsOf_84 : decode cX2_kindsOf 84 = .ok (.ishl, 1) := by decide +kernel
theorem dX2_kindsOf_85 : decode cX2_kindsOf 85 = .ok (.iconst (-1), 1) := by decide +kernel
theorem dX2_kindsOf_86 : decode cX2_kindsOf 86 = .ok (.ixor, 1) := by decide +kernel
theorem dX2_kindsOf_87 : decode cX2_kindsOf 87 = .ok (.iand, 1) := by decide +kernel
theorem dX2_kindsOf_88 : decode cX2_kindsOf 88 = .ok (.istore_n 2, 1) := by decide +kernel
theorem dX2_kindsOf_89 : decode cX2_kindsOf 89 = .ok (.iinc 7 1, 3) := by decide +kernel
theorem dX2_kindsOf_92 : decode cX2_kindsOf 92 = .ok (.goto (-32), 3) := by decide +kernel
theorem dX2_kindsOf_95 : decode cX2_kindsOf 95 = .ok (.iinc 3 1, 3) := by decide +kernel
theorem dX2_kindsOf_98 : decode cX2_kindsOf 98 = .ok (.goto (-93), 3) := by decide +kernel
theorem dX2_kindsOf_101 : decode cX2_kindsOf 101 = .ok (.iload_n 2, 1) := by decide +kernel
theorem dX2_kindsOf_102 : decode cX2_kindsOf 102 = .ok (.ireturn, 1) := by decide +kernel
theorem dX2_explanations_0 : decode cX2_explanations 0 = .ok (.lconst 1, 1) := by decide +kernel
theorem dX2_explanations_1 : decode cX2_explanations 1 = .ok (.lstore_n 1, 1) := by decide +kernel
theorem dX2_explanations_2 : decode cX2_explanations 2 = .ok (.iconst 0, 1) := by decide +kernel
theorem dX2_explanations_3 : decode cX2_explanations 3 = .ok (.istore_n 3, 1) := by decide +kernel
theorem dX2_explanations_4 : decode cX2_explanations 4 = .ok (.iload_n 3, 1) := by decide +kernel
theorem dX2_explanations_5 : decode cX2_explanations 5 = .ok (.aload_n 0, 1) := by decide +kernel
theorem dX2_explanations_6 : decode cX2_explanations 6 = .ok (.getfield 19, 3) := by decide +kernel
theorem dX2_explanations_9 : decode cX2_explanations 9 = .ok (.invokevirtual 40, 3) := by decide +kernel
theorem dX2_explanations_12 : decode cX2_explanations 12 = .ok (.if_icmp .ge 21, 3) := by decide +kernel
theorem dX2_explanations_15 : decode cX2_explanations 15 = .ok (.lload_n 1, 1) := by decide +kernel
theorem dX2_explanations_16 : decode cX2_explanations 16 = .ok (.aload_n 0, 1) := by decide +kernel
theorem dX2_explanations_17 : decode cX2_explanations 17 = .ok (.iload_n 3, 1) := by decide +kernel
theorem dX2_explanations_18 : decode cX2_explanations 18 = .ok (.invokevirtual 43, 3) := by decide +kernel
theorem dX2_explanations_21 : decode cX2_explanations 21 = .ok (.invokestatic 47, 3) := by decide +kernel
theorem dX2_explanations_24 : decode cX2_explanations 24 = .ok (.i2l, 1) := by decide +kernel
theorem dX2_explanations_25 : decode cX2_explanations 25 = .ok (.lmul, 1) := by decide +kernel
theorem dX2_explanations_26 : decode cX2_explanations 26 = .ok (.lstore_n 1, 1) := by decide +kernel
theorem dX2_explanations_27 : decode cX2_explanations 27 = .ok (.iinc 3 1, 3) := by decide +kernel
theorem dX2_explanations_30 : decode cX2_explanations 30 = .ok (.goto (-26), 3) := by decide +kernel
theorem dX2_explanations_33 : decode cX2_explanations 33 = .ok (.lload_n 1, 1) := by decide +kernel
theorem dX2_explanations_34 : decode cX2_explanations 34 = .ok (.lreturn, 1) := by decide +kernel
theorem dX2_settleKinds_0 : decode cX2_settleKinds 0 = .ok (.iconst 0, 1) := by decide +kernel
theorem dX2_settleKinds_1 : decode cX2_settleKinds 1 = .ok (.istore_n 1, 1) := by decide +kernel
theorem dX2_settleKinds_2 : decode cX2_settleKinds 2 = .ok (.iconst 0, 1) := by decide +kernel
theorem dX2_settleKinds_3 : decode cX2_settleKinds 3 = .ok (.istore_n 2, 1) := by decide +kernel
theorem dX2_settleKinds_4 : decode cX2_settleKinds 4 = .ok (.iload_n 2, 1) := by decide +kernel
theorem dX2_settleKinds_5 : decode cX2_settleKinds 5 = .ok (.aload_n 0, 1) := by decide +kernel
theorem dX2_settleKinds_6 : decode cX2_settleKinds 6 = .ok (.getfield 19, 3) := by decide +kernel
theorem dX2_settleKinds_9 : decode cX2_settleKinds 9 = .ok (.invokevirtual 40, 3) := by decide +kernel
theorem dX2_settleKinds_12 : decode cX2_settleKinds 12 = .ok (.if_icmp .ge 42, 3) := by decide +kernel
theorem dX2_settleKinds_15 : decode cX2_settleKinds 15 = .ok (.aload_n 0, 1) := by decide +kernel
theorem dX2_settleKinds_16 : decode cX2_settleKinds 16 = .ok (.iload_n 2, 1) := by decide +kernel
theorem dX2_settleKinds_17 : decode cX2_settleKinds 17 = .ok (.invokevirtual 43, 3) := by decide +kernel
theorem dX2_settleKinds_20 : decode cX2_settleKinds 20 = .ok (.invokestatic 52, 3) := by decide +kernel
theorem dX2_settleKinds_23 : decode cX2_settleKinds 23 = .ok (.istore_n 3, 1) := by decide +kernel
theorem dX2_settleKinds_24 : decode cX2_settleKinds 24 = .ok (.iload_n 3, 1) := by decide +kernel
theorem dX2_settleKinds_25 : decode cX2_settleKinds 25 = .ok (.aload_n 0, 1) := by decide +kernel
theorem dX2_settleKinds_26 : decode cX2_settleKinds 26 = .ok (.getfield 19, 3) := by decide +kernel
theorem dX2_settleKinds_29 : decode cX2_settleKinds 29 = .ok (.iload_n 2, 1) := by decide +kernel
theorem dX2_settleKinds_30 : decode cX2_settleKinds 30 = .ok (.invokevirtual 55, 3) := by decide +kernel
theorem dX2_settleKinds_33 : decode cX2_settleKinds 33 = .ok (.if_icmp .eq 15, 3) := by decide +kernel
theorem dX2_settleKinds_36 : decode cX2_settleKinds 36 = .ok (.aload_n 0, 1) := by decide +kernel
theorem dX2_settleKinds_37 : decode cX2_settleKinds 37 = .ok (.getfield 19, 3) := by decide +kernel
theorem dX2_settleKinds_40 : decode cX2_settleKinds 40 = .ok (.iload_n 2, 1) := by decide +kernel
theorem dX2_settleKinds_41 : decode cX2_settleKinds 41 = .ok (.iload_n 3, 1) := by decide +kernel
theorem dX2_settleKinds_42 : decode cX2_settleKinds 42 = .ok (.invokevirtual 58, 3) := by decide +kernel
theorem dX2_settleKinds_45 : decode cX2_settleKinds 45 = .ok (.iinc 1 1, 3) := by decide +kernel
theorem dX2_settleKinds_48 : decode cX2_settleKinds 48 = .ok (.iinc 2 1, 3) := by decide +kernel
theorem dX2_settleKinds_51 : decode cX2_settleKinds 51 = .ok (.goto (-47), 3) := by decide +kernel
theorem dX2_settleKinds_54 : decode cX2_settleKinds 54 = .ok (.iload_n 1, 1) := by decide +kernel
theorem dX2_settleKinds_55 : decode cX2_settleKinds 55 = .ok (.ireturn, 1) := by decide +kernel
theorem dX2_leastKind_0 : decode cX2_leastKind 0 = .ok (.iconst 0, 1) := by decide +kernel
theorem dX2_leastKind_1 : decode cX2_leastKind 1 = .ok (.istore_n 1, 1) := by decide +kernel
theorem dX2_leastKind_2 : decode cX2_leastKind 2 = .ok (.iload_n 1, 1) := by decide +kernel
theorem dX2_leastKind_3 : decode cX2_leastKind 3 = .ok (.iconst 3, 1) := by decide +kernel
theorem dX2_leastKind_4 : decode cX2_leastKind 4 = .ok (.if_icmp .ge 17, 3) := by decide +kernel
theorem dX2_leastKind_7 : decode cX2_leastKind 7 = .ok (.iload_n 0, 1) := by decide +kernel
theorem dX2_leastKind_8 : decode cX2_leastKind 8 = .ok (.iload_n 1, 1) := by decide +kernel
theorem dX2_leastKind_9 : decode cX2_leastKind 9 = .ok (.ishr, 1) := by decide +kernel
theorem dX2_leastKind_10 : decode cX2_leastKind 10 = .ok (.iconst 1, 1) := by decide +kernel
theorem dX2_leastKind_11 : decode cX2_leastKind 11 = .ok (.iand, 1) := by decide +kernel
theorem dX2_leastKind_12 : decode cX2_leastKind 12 = .ok (.ifCond .ne 9, 3) := by decide +kernel
theorem dX2_leastKind_15 : decode cX2_leastKind 15 = .ok (.iinc 1 1, 3) := by decide +kernel
theorem dX2_leastKind_18 : decode cX2_leastKind 18 = .ok (.goto (-16), 3) := by decide +kernel
theorem dX2_leastKind_21 : decode cX2_leastKind 21 = .ok (.iload_n 1, 1) := by decide +kernel
theorem dX2_leastKind_22 : decode cX2_leastKind 22 = .ok (.ireturn, 1) := by decide +kernel
theorem dX3_howMany_0 : decode cX3_howMany 0 = .ok (.aload_n 0, 1) := by decide +kernel
theorem dX3_howMany_1 : decode cX3_howMany 1 = .ok (.getfield 7, 3) := by decide +kernel
theorem dX3_howMany_4 : decode cX3_howMany 4 = .ok (.invokevirtual 13, 3) := by decide +kernel
theorem dX3_howMany_7 : decode cX3_howMany 7 = .ok (.astore_n 1, 1) := by decide +kernel
theorem dX3_howMany_8 : decode cX3_howMany 8 = .ok (.aload_n 0, 1) := by decide +kernel
theorem dX3_howMany_9 : decode cX3_howMany 9 = .ok (.getfield 7, 3) := by decide +kernel
theorem dX3_howMany_12 : decode cX3_howMany 12 = .ok (.invokevirtual 19, 3) := by decide +kernel
theorem dX3_howMany_15 : decode cX3_howMany 15 = .ok (.istore_n 2, 1) := by decide +kernel
theorem dX3_howMany_16 : decode cX3_howMany 16 = .ok (.iconst 0, 1) := by decide +kernel
theorem dX3_howMany_17 : decode cX3_howMany 17 = .ok (.istore_n 3, 1) := by decide +kernel
theorem dX3_howMany_18 : decode cX3_howMany 18 = .ok (.iconst 0, 1) := by decide +kernel
theorem dX3_howMany_19 : decode cX3_howMany 19 = .ok (.istore 4, 2) := by decide +kernel
theorem dX3_howMany_21 : decode cX3_howMany 21 = .ok (.iload 4, 2) := by decide +kernel
theorem dX3_howMany_23 : decode cX3_howMany 23 = .ok (.iload_n 2, 1) := by decide +kernel
theorem dX3_howMany_24 : decode cX3_howMany 24 = .ok (.if_icmp .ge 19, 3) := by decide +kernel
theorem dX3_howMany_27 : decode cX3_howMany 27 = .ok (.aload_n 1, 1) := by decide +kernel
theorem dX3_howMany_28 : decode cX3_howMany 28 = .ok (.iload 4, 2) := by decide +kernel
theorem dX3_howMany_30 : decode cX3_howMany 30 = .ok (.iaload, 1) := by decide +kernel
theorem dX3_howMany_31 : decode cX3_howMany 31 = .ok (.ifCond .ne 6, 3) := by decide +kernel
theorem dX3_howMany_34 : decode cX3_howMany 34 = .ok (.iinc 3 1, 3) := by decide +kernel
theorem dX3_howMany_37 : decode cX3_howMany 37 = .ok (.iinc 4 1, 3) := by decide +kernel
theorem dX3_howMany_40 : decode cX3_howMany 40 = .ok (.goto (-19), 3) := by decide +kernel
theorem dX3_howMany_43 : decode cX3_howMany 43 = .ok (.iload_n 3, 1) := by decide +kernel
theorem dX3_howMany_44 : decode cX3_howMany 44 = .ok (.ireturn, 1) := by decide +kernel
theorem dX3_dressOf_0 : decode cX3_dressOf 0 = .ok (.aload_n 0, 1) := by decide +kernel
theorem dX3_dressOf_1 : decode cX3_dressOf 1 = .ok (.getfield 7, 3) := by decide +kernel
theorem dX3_dressOf_4 : decode cX3_dressOf 4 = .ok (.invokevirtual 13, 3) := by decide +kernel
theorem dX3_dressOf_7 : decode cX3_dressOf 7 = .ok (.astore_n 2, 1) := by decide +kernel
theorem dX3_dressOf_8 : decode cX3_dressOf 8 = .ok (.aload_n 0, 1) := by decide +kernel
theorem dX3_dressOf_9 : decode cX3_dressOf 9 = .ok (.getfield 7, 3) := by decide +kernel
theorem dX3_dressOf_12 : decode cX3_dressOf 12 = .ok (.invokevirtual 19, 3) := by decide +kernel
theorem dX3_dressOf_15 : decode cX3_dressOf 15 = .ok (.istore_n 3, 1) := by decide +kernel
theorem dX3_dressOf_16 : decode cX3_dressOf 16 = .ok (.iload_n 1, 1) := by decide +kernel
theorem dX3_dressOf_17 : decode cX3_dressOf 17 = .ok (.istore 4, 2) := by decide +kernel
theorem dX3_dressOf_19 : decode cX3_dressOf 19 = .ok (.iconst 0, 1) := by decide +kernel
theorem dX3_dressOf_20 : decode cX3_dressOf 20 = .ok (.istore 5, 2) := by decide +kernel
theorem dX3_dressOf_22 : decode cX3_dressOf 22 = .ok (.iload 5, 2) := by decide +kernel
theorem dX3_dressOf_24 : decode cX3_dressOf 24 = .ok (.iload_n 3, 1) := by decide +kernel
theorem dX3_dressOf_25 : decode cX3_dressOf 25 = .ok (.if_icmp .ge 32, 3) := by decide +kernel
theorem dX3_dressOf_28 : decode cX3_dressOf 28 = .ok (.iload 4, 2) := by decide +kernel
theorem dX3_dressOf_30 : decode cX3_dressOf 30 = .ok (.ifCond .lt 27, 3) := by decide +kernel
theorem dX3_dressOf_33 : decode cX3_dressOf 33 = .ok (.aload_n 2, 1) := by decide +kernel
theorem dX3_dressOf_34 : decode cX3_dressOf 34 = .ok (.iload 5, 2) := by decide +kernel
theorem dX3_dressOf_36 : decode cX3_dressOf 36 = .ok (.iaload, 1) := by decide +kernel
theorem dX3_dressOf_37 : decode cX3_dressOf 37 = .ok (.ifCond .ne 14, 3) := by decide +kernel
theorem dX3_dressOf_40 : decode cX3_dressOf 40 = .ok (.iload 4, 2) := by decide +kernel
theorem dX3_dressOf_42 : decode cX3_dressOf 42 = .ok (.ifCond .ne 6, 3) := by decide +kernel
theorem dX3_dressOf_45 : decode cX3_dressOf 45 = .ok (.iload 5, 2) := by decide +kernel
theorem dX3_dressOf_47 : decode cX3_dressOf 47 = .ok (.ireturn, 1) := by decide +kernel
theorem dX3_dressOf_48 : decode cX3_dressOf 48 = .ok (.iinc 4 (-1), 3) := by decide +kernel
theorem dX3_dressOf_51 : decode cX3_dressOf 51 = .ok (.iinc 5 1, 3) := by decide +kernel
theorem dX3_dressOf_54 : decode cX3_dressOf 54 = .ok (.goto (-32), 3) := by decide +kernel
theorem dX3_dressOf_57 : decode cX3_dressOf 57 = .ok (.iconst (-1), 1) := by decide +kernel
theorem dX3_dressOf_58 : decode cX3_dressOf 58 = .ok (.ireturn, 1) := by decide +kernel
theorem dX3_fewestRestless_0 : decode cX3_fewestRestless 0 = .ok (.aload_n 0, 1) := by decide +kernel
theorem dX3_fewestRestless_1 : decode cX3_fewestRestless 1 = .ok (.getfield 7, 3) := by decide +kernel
theorem dX3_fewestRestless_4 : decode cX3_fewestRestless 4 = .ok (.invokevirtual 13, 3) := by decide +kernel
theorem dX3_fewestRestless_7 : decode cX3_fewestRestless 7 = .ok (.astore_n 1, 1) := by decide +kernel
theorem dX3_fewestRestless_8 : decode cX3_fewestRestless 8 = .ok (.aload_n 0, 1) := by decide +kernel
theorem dX3_fewestRestless_9 : decode cX3_fewestRestless 9 = .ok (.getfield 7, 3) := by decide +kernel
theorem dX3_fewestRestless_12 : decode cX3_fewestRestless 12 = .ok (.invokevirtual 19, 3) := by decide +kernel
theorem dX3_fewestRestless_15 : decode cX3_fewestRestless 15 = .ok (.istore_n 2, 1) := by decide +kernel
theorem dX3_fewestRestless_16 : decode cX3_fewestRestless 16 = .ok (.aload_n 1, 1) := by decide +kernel
theorem dX3_fewestRestless_17 : decode cX3_fewestRestless 17 = .ok (.iconst 0, 1) := by decide +kernel
theorem dX3_fewestRestless_18 : decode cX3_fewestRestless 18 = .ok (.iaload, 1) := by decide +kernel
theorem dX3_fewestRestless_19 : decode cX3_fewestRestless 19 = .ok (.istore_n 3, 1) := by decide +kernel
theorem dX3_fewestRestless_20 : decode cX3_fewestRestless 20 = .ok (.iconst 1, 1) := by decide +kernel
theorem dX3_fewestRestless_21 : decode cX3_fewestRestless 21 = .ok (.istore 4, 2) := by decide +kernel
theorem dX3_fewestRestless_23 : decode cX3_fewestRestless 23 = .ok (.iload 4, 2) := by decide +kernel
theorem dX3_fewestRestless_25 : decode cX3_fewestRestless 25 = .ok (.iload_n 2, 1) := by decide +kernel
theorem dX3_fewestRestless_26 : decode cX3_fewestRestless 26 = .ok (.if_icmp .ge 46, 3) := by decide +kernel
theorem dX3_fewestRestless_29 : decode cX3_fewestRestless 29 = .ok (.aload_n 1, 1) := by decide +kernel
theorem dX3_fewestRestless_30 : decode cX3_fewestRestless 30 = .ok (.iload 4, 2) := by decide +kernel
theorem dX3_fewestRestless_32 : decode cX3_fewestRestless 32 = .ok (.iaload, 1) := by decide +kernel
theorem dX3_fewestRestless_33 : decode cX3_fewestRestless 33 = .ok (.invokestatic 23, 3) := by decide +kernel
theorem dX3_fewestRestless_36 : decode cX3_fewestRestless 36 = .ok (.iload_n 3, 1) := by decide +kernel
theorem dX3_fewestRestless_37 : decode cX3_fewestRestless 37 = .ok (.invokestatic 23, 3) := by decide +kernel
theorem dX3_fewestRestless_40 : decode cX3_fewestRestless 40 = .ok (.isub, 1) := by decide +kernel
theorem dX3_fewestRestless_41 : decode cX3_fewestRestless 41 = .ok (.istore 5, 2) := by decide +kernel
theorem dX3_fewestRestless_43 : decode cX3_fewestRestless 43 = .ok (.iload 5, 2) := by decide +kernel
theorem dX3_fewestRestless_45 : decode cX3_fewestRestless 45 = .ok (.ifCond .lt 16, 3) := by decide +kernel
theorem dX3_fewestRestless_48 : decode cX3_fewestRestless 48 = .ok (.iload 5, 2) := by decide +kernel
theorem dX3_fewestRestless_50 : decode cX3_fewestRestless 50 = .ok (.ifCond .ne 16, 3) := by decide +kernel
theorem dX3_fewestRestless_53 : decode cX3_fewestRestless 53 = .ok (.aload_n 1, 1) := by decide +kernel
theorem dX3_fewestRestless_54 : decode cX3_fewestRestless 54 = .ok (.iload 4, 2) := by decide +kernel
theorem dX3_fewestRestless_56 : decode cX3_fewestRestless 56 = .ok (.iaload, 1) := by decide +kernel
theorem dX3_fewestRestless_57 : decode cX3_fewestRestless 57 = .ok (.iload_n 3, 1) := by decide +kernel
theorem dX3_fewestRestless_58 : decode cX3_fewestRestless 58 = .ok (.if_icmp .ge 8, 3) := by decide +kernel
theorem dX3_fewestRestless_61 : decode cX3_fewestRestless 61 = .ok (.aload_n 1, 1) := by decide +kernel
theorem dX3_fewestRestless_62 : decode cX3_fewestRestless 62 = .ok (.iload 4, 2) := by decide +kernel
theorem dX3_fewestRestless_64 : decode cX3_fewestRestless 64 = .ok (.iaload, 1) := by decide +kernel
theorem dX3_fewestRestless_65 : decode cX3_fewestRestless 65 = .ok (.istore_n 3, 1) := by decide +kernel
theorem dX3_fewestRestless_66 : decode cX3_fewestRestless 66 = .ok (.iinc 4 1, 3) := by decide +kernel
theorem dX3_fewestRestless_69 : decode cX3_fewestRestless 69 = .ok (.goto (-46), 3) := by decide +kernel
theorem dX3_fewestRestless_72 : decode cX3_fewestRestless 72 = .ok (.iload_n 3, 1) := by decide +kernel
theorem dX3_fewestRestless_73 : decode cX3_fewestRestless 73 = .ok (.ireturn, 1) := by decide +kernel
theorem dX3_leastOfFewestRestless_0 : decode cX3_leastOfFewestRestless 0 = .ok (.aload_n 0, 1) := by decide +kernel
theorem dX3_leastOfFewestRestless_1 : decode cX3_leastOfFewestRestless 1 = .ok (.getfield 7, 3) := by decide +kernel
theorem dX3_leastOfFewestRestless_4 : decode cX3_leastOfFewestRestless 4 = .ok (.invokevirtual 13, 3) := by decide +kernel
theorem dX3_leastOfFewestRestless_7 : decode cX3_leastOfFewestRestless 7 = .ok (.astore_n 1, 1) := by decide +kernel
theorem dX3_leastOfFewestRestless_8 : decode cX3_leastOfFewestRestless 8 = .ok (.aload_n 0, 1) := by decide +kernel
theorem dX3_leastOfFewestRestless_9 : decode cX3_leastOfFewestRestless 9 = .ok (.getfield 7, 3) := by decide +kernel
theorem dX3_leastOfFewestRestless_12 : decode cX3_leastOfFewestRestless 12 = .ok (.invokevirtual 19, 3) := by decide +kernel
theorem dX3_leastOfFewestRestless_15 : decode cX3_leastOfFewestRestless 15 = .ok (.istore_n 2, 1) := by decide +kernel
theorem dX3_leastOfFewestRestless_16 : decode cX3_leastOfFewestRestless 16 = .ok (.iconst 0, 1) := by decide +kernel
theorem dX3_leastOfFewestRestless_17 : decode cX3_leastOfFewestRestless 17 = .ok (.istore_n 3, 1) := by decide +kernel
theorem dX3_leastOfFewestRestless_18 : decode cX3_leastOfFewestRestless 18 = .ok (.iconst 1, 1) := by decide +kernel
theorem dX3_leastOfFewestRestless_19 : decode cX3_leastOfFewestRestless 19 = .ok (.istore 4, 2) := by decide +kernel
theorem dX3_leastOfFewestRestless_21 : decode cX3_leastOfFewestRestless 21 = .ok (.iload 4, 2) := by decide +kernel
theorem dX3_leastOfFewestRestless_23 : decode cX3_leastOfFewestRestless 23 = .ok (.iload_n 2, 1) := by decide +kernel
theorem dX3_leastOfFewestRestless_24 : decode cX3_leastOfFewestRestless 24 = .ok (.if_icmp .ge 28, 3) := by decide +kernel
theorem dX3_leastOfFewestRestless_27 : decode cX3_leastOfFewestRestless 27 = .ok (.aload_n 1, 1) := by decide +kernel
theorem dX3_leastOfFewestRestless_28 : decode cX3_leastOfFewestRestless 28 = .ok (.iload 4, 2) := by decide +kernel
theorem dX3_leastOfFewestRestless_30 : decode cX3_leastOfFewestRestless 30 = .ok (.iaload, 1) := by decide +kernel
theorem dX3_leastOfFewestRestless_31 : decode cX3_leastOfFewestRestless 31 = .ok (.invokestatic 23, 3) := by decide +kernel
theorem dX3_leastOfFewestRestless_34 : decode cX3_leastOfFewestRestless 34 = .ok (.aload_n 1, 1) := by decide +kernel
theorem dX3_leastOfFewestRestless_35 : decode cX3_leastOfFewestRestless 35 = .ok (.iload_n 3, 1) := by decide +kernel
theorem dX3_leastOfFewestRestless_36 : decode cX3_leastOfFewestRestless 36 = .ok (.iaload, 1) := by decide +kernel
theorem dX3_leastOfFewestRestless_37 : decode cX3_leastOfFewestRestless 37 = .ok (.invokestatic 23, 3) := by decide +kernel
theorem dX3_leastOfFewestRestless_40 : decode cX3_leastOfFewestRestless 40 = .ok (.if_icmp .ge 6, 3) := by decide +kernel
theorem dX3_leastOfFewestRestless_43 : decode cX3_leastOfFewestRestless 43 = .ok (.iload 4, 2) := by decide +kernel
theorem dX3_leastOfFewestRestless_45 : decode cX3_leastOfFewestRestless 45 = .ok (.istore_n 3, 1) := by decide +kernel
theorem dX3_leastOfFewestRestless_46 : decode cX3_leastOfFewestRestless 46 = .ok (.iinc 4 1, 3) := by decide +kernel
theorem dX3_leastOfFewestRestless_49 : decode cX3_leastOfFewestRestless 49 = .ok (.goto (-28), 3) := by decide +kernel
theorem dX3_leastOfFewestRestless_52 : decode cX3_leastOfFewestRestless 52 = .ok (.iload_n 3, 1) := by decide +kernel
theorem dX3_leastOfFewestRestless_53 : decode cX3_leastOfFewestRestless 53 = .ok (.ireturn, 1) := by decide +kernel
theorem dX4_leastDress_0 : decode cX4_leastDress 0 = .ok (.aload_n 0, 1) := by decide +kernel
theorem dX4_leastDress_1 : decode cX4_leastDress 1 = .ok (.getfield 9, 3) := by decide +kernel
theorem dX4_leastDress_4 : decode cX4_leastDress 4 = .ok (.invokevirtual 48, 3) := by decide +kernel
theorem dX4_leastDress_7 : decode cX4_leastDress 7 = .ok (.astore_n 1, 1) := by decide +kernel
theorem dX4_leastDress_8 : decode cX4_leastDress 8 = .ok (.aload_n 0, 1) := by decide +kernel
theorem dX4_leastDress_9 : decode cX4_leastDress 9 = .ok (.getfield 9, 3) := by decide +kernel
theorem dX4_leastDress_12 : decode cX4_leastDress 12 = .ok (.invokevirtual 54, 3) := by decide +kernel
theorem dX4_leastDress_15 : decode cX4_leastDress 15 = .ok (.istore_n 2, 1) := by decide +kernel
theorem dX4_leastDress_16 : decode cX4_leastDress 16 = .ok (.iconst 0, 1) := by decide +kernel
theorem dX4_leastDress_17 : decode cX4_leastDress 17 = .ok (.istore_n 3, 1) := by decide +kernel
theorem dX4_leastDress_18 : decode cX4_leastDress 18 = .ok (.iload_n 3, 1) := by decide +kernel
theorem dX4_leastDress_19 : decode cX4_leastDress 19 = .ok (.iload_n 2, 1) := by decide +kernel
theorem dX4_leastDress_20 : decode cX4_leastDress 20 = .ok (.if_icmp .ge 25, 3) := by decide +kernel
theorem dX4_leastDress_23 : decode cX4_leastDress 23 = .ok (.aload_n 0, 1) := by decide +kernel
theorem dX4_leastDress_24 : decode cX4_leastDress 24 = .ok (.getfield 21, 3) := by decide +kernel
theorem dX4_leastDress_27 : decode cX4_leastDress 27 = .ok (.iload_n 3, 1) := by decide +kernel
theorem dX4_leastDress_28 : decode cX4_leastDress 28 = .ok (.iconst 0, 1) := by decide +kernel
theorem dX4_leastDress_29 : decode cX4_leastDress 29 = .ok (.iastore, 1) := by decide +kernel
theorem dX4_leastDress_30 : decode cX4_leastDress 30 = .ok (.aload_n 0, 1) := by decide +kernel
theorem dX4_leastDress_31 : decode cX4_leastDress 31 = .ok (.getfield 45, 3) := by decide +kernel
theorem dX4_leastDress_34 : decode cX4_leastDress 34 = .ok (.iload_n 3, 1) := by decide +kernel
theorem dX4_leastDress_35 : decode cX4_leastDress 35 = .ok (.aload_n 1, 1) := by decide +kernel
theorem dX4_leastDress_36 : decode cX4_leastDress 36 = .ok (.iload_n 3, 1) := by decide +kernel
theorem dX4_leastDress_37 : decode cX4_leastDress 37 = .ok (.iaload, 1) := by decide +kernel
theorem dX4_leastDress_38 : decode cX4_leastDress 38 = .ok (.iastore, 1) := by decide +kernel
theorem dX4_leastDress_39 : decode cX4_leastDress 39 = .ok (.iinc 3 1, 3) := by decide +kernel
theorem dX4_leastDress_42 : decode cX4_leastDress 42 = .ok (.goto (-24), 3) := by decide +kernel
theorem dX4_leastDress_45 : decode cX4_leastDress 45 = .ok (.aload_n 0, 1) := by decide +kernel
theorem dX4_leastDress_46 : decode cX4_leastDress 46 = .ok (.iconst 0, 1) := by decide +kernel
theorem dX4_leastDress_47 : decode cX4_leastDress 47 = .ok (.putfield 58, 3) := by decide +kernel
theorem dX4_leastDress_50 : decode cX4_leastDress 50 = .ok (.aload_n 0, 1) := by decide +kernel
theorem dX4_leastDress_51 : decode cX4_leastDress 51 = .ok (.iconst 0, 1) := by decide +kernel
theorem dX4_leastDress_52 : decode cX4_leastDress 52 = .ok (.putfield 62, 3) := by decide +kernel
theorem dX4_leastDress_55 : decode cX4_leastDress 55 = .ok (.iload_n 2, 1) := by decide +kernel
theorem dX4_leastDress_56 : decode cX4_leastDress 56 = .ok (.istore_n 3, 1) := by decide +kernel
theorem dX4_leastDress_57 : decode cX4_leastDress 57 = .ok (.iconst 0, 1) := by decide +kernel
theorem dX4_leastDress_58 : decode cX4_leastDress 58 = .ok (.istore 4, 2) := by decide +kernel
theorem dX4_leastDress_60 : decode cX4_leastDress 60 = .ok (.iload 4, 2) := by decide +kernel
theorem dX4_leastDress_62 : decode cX4_leastDress 62 = .ok (.iload_n 3, 1) := by decide +kernel
theorem dX4_leastDress_63 : decode cX4_leastDress 63 = .ok (.if_icmp .ge 31, 3) := by decide +kernel
theorem dX4_leastDress_66 : decode cX4_leastDress 66 = .ok (.aload_n 0, 1) := by decide +kernel
theorem dX4_leastDress_67 : decode cX4_leastDress 67 = .ok (.getfield 21, 3) := by decide +kernel
theorem dX4_leastDress_70 : decode cX4_leastDress 70 = .ok (.iload 4, 2) := by decide +kernel
theorem dX4_leastDress_72 : decode cX4_leastDress 72 = .ok (.iaload, 1) := by decide +kernel
theorem dX4_leastDress_73 : decode cX4_leastDress 73 = .ok (.ifCond .ne 15, 3) := by decide +kernel
theorem dX4_leastDress_76 : decode cX4_leastDress 76 = .ok (.iload_n 3, 1) := by decide +kernel
theorem dX4_leastDress_77 : decode cX4_leastDress 77 = .ok (.aload_n 0, 1) := by decide +kernel
theorem dX4_leastDress_78 : decode cX4_leastDress 78 = .ok (.iload 4, 2) := by decide +kernel
theorem dX4_leastDress_80 : decode cX4_leastDress 80 = .ok (.iload_n 2, 1) := by decide +kernel
theorem dX4_leastDress_81 : decode cX4_leastDress 81 = .ok (.invokevirtual 65, 3) := by decide +kernel
theorem dX4_leastDress_84 : decode cX4_leastDress 84 = .ok (.invokestatic 69, 3) := by decide +kernel
theorem dX4_leastDress_87 : decode cX4_leastDress 87 = .ok (.istore_n 3, 1) := by decide +kernel
theorem dX4_leastDress_88 : decode cX4_leastDress 88 = .ok (.iinc 4 1, 3) := by decide +kernel
theorem dX4_leastDress_91 : decode cX4_leastDress 91 = .ok (.goto (-31), 3) := by decide +kernel
theorem dX4_leastDress_94 : decode cX4_leastDress 94 = .ok (.iload_n 3, 1) := by decide +kernel
theorem dX4_leastDress_95 : decode cX4_leastDress 95 = .ok (.iload_n 2, 1) := by decide +kernel
theorem dX4_leastDress_96 : decode cX4_leastDress 96 = .ok (.if_icmp .ge 7, 3) := by decide +kernel
theorem dX4_leastDress_99 : decode cX4_leastDress 99 = .ok (.iload_n 3, 1) := by decide +kernel
theorem dX4_leastDress_100 : decode cX4_leastDress 100 = .ok (.goto 4, 3) := by decide +kernel
theorem dX4_leastDress_103 : decode cX4_leastDress 103 = .ok (.iconst (-1), 1) := by decide +kernel
theorem dX4_leastDress_104 : decode cX4_leastDress 104 = .ok (.ireturn, 1) := by decide +kernel
theorem dX4_searchFrom_0 : decode cX4_searchFrom 0 = .ok (.sipush 11264, 3) := by decide +kernel
theorem dX4_searchFrom_3 : decode cX4_searchFrom 3 = .ok (.istore_n 3, 1) := by decide +kernel
theorem dX4_searchFrom_4 : decode cX4_searchFrom 4 = .ok (.iload_n 2, 1) := by decide +kernel
theorem dX4_searchFrom_5 : decode cX4_searchFrom 5 = .ok (.istore 4, 2) := by decide +kernel
theorem dX4_searchFrom_7 : decode cX4_searchFrom 7 = .ok (.aload_n 0, 1) := by decide +kernel
theorem dX4_searchFrom_8 : decode cX4_searchFrom 8 = .ok (.iconst 0, 1) := by decide +kernel
theorem dX4_searchFrom_9 : decode cX4_searchFrom 9 = .ok (.putfield 74, 3) := by decide +kernel
theorem dX4_searchFrom_12 : decode cX4_searchFrom 12 = .ok (.aload_n 0, 1) := by decide +kernel
theorem dX4_searchFrom_13 : decode cX4_searchFrom 13 = .ok (.iload_n 1, 1) := by decide +kernel
theorem dX4_searchFrom_14 : decode cX4_searchFrom 14 = .ok (.invokevirtual 77, 3) := by decide +kernel
theorem dX4_searchFrom_17 : decode cX4_searchFrom 17 = .ok (.iconst 0, 1) := by decide +kernel
theorem dX4_searchFrom_18 : decode cX4_searchFrom 18 = .ok (.istore 5, 2) := by decide +kernel
theorem dX4_searchFrom_20 : decode cX4_searchFrom 20 = .ok (.iload 5, 2) := by decide +kernel
theorem dX4_searchFrom_22 : decode cX4_searchFrom 22 = .ok (.iload_n 3, 1) := by decide +kernel
theorem dX4_searchFrom_23 : decode cX4_searchFrom 23 = .ok (.if_icmp .ge 62, 3) := by decide +kernel
theorem dX4_searchFrom_26 : decode cX4_searchFrom 26 = .ok (.aload_n 0, 1) := by decide +kernel
theorem dX4_searchFrom_27 : decode cX4_searchFrom 27 = .ok (.getfield 74, 3) := by decide +kernel
theorem dX4_searchFrom_30 : decode cX4_searchFrom 30 = .ok (.ifCond .le 55, 3) := by decide +kernel
theorem dX4_searchFrom_33 : decode cX4_searchFrom 33 = .ok (.aload_n 0, 1) := by decide +kernel
theorem dX4_searchFrom_34 : decode cX4_searchFrom 34 = .ok (.getfield 33, 3) := by decide +kernel
theorem dX4_searchFrom_37 : decode cX4_searchFrom 37 = .ok (.aload_n 0, 1) := by decide +kernel
theorem dX4_searchFrom_38 : decode cX4_searchFrom 38 = .ok (.getfield 74, 3) := by decide +kernel
theorem dX4_searchFrom_41 : decode cX4_searchFrom 41 = .ok (.iconst 1, 1) := by decide +kernel
theorem dX4_searchFrom_42 : decode cX4_searchFrom 42 = .ok (.isub, 1) := by decide +kernel
theorem dX4_searchFrom_43 : decode cX4_searchFrom 43 = .ok (.iaload, 1) := by decide +kernel
theorem dX4_searchFrom_44 : decode cX4_searchFrom 44 = .ok (.istore 6, 2) := by decide +kernel
theorem dX4_searchFrom_46 : decode cX4_searchFrom 46 = .ok (.aload_n 0, 1) := by decide +kernel
theorem dX4_searchFrom_47 : decode cX4_searchFrom 47 = .ok (.getfield 45, 3) := by decide +kernel
theorem dX4_searchFrom_50 : decode cX4_searchFrom 50 = .ok (.iload 6, 2) := by decide +kernel
theorem dX4_searchFrom_52 : decode cX4_searchFrom 52 = .ok (.iaload, 1) := by decide +kernel
theorem dX4_searchFrom_53 : decode cX4_searchFrom 53 = .ok (.ifCond .eq 12, 3) := by decide +kernel
theorem dX4_searchFrom_56 : decode cX4_searchFrom 56 = .ok (.aload_n 0, 1) := by decide +kernel
theorem dX4_searchFrom_57 : decode cX4_searchFrom 57 = .ok (.iload 6, 2) := by decide +kernel
theorem dX4_searchFrom_59 : decode cX4_searchFrom 59 = .ok (.invokevirtual 81, 3) := by decide +kernel
theorem dX4_searchFrom_62 : decode cX4_searchFrom 62 = .ok (.goto 17, 3) := by decide +kernel
theorem dX4_searchFrom_65 : decode cX4_searchFrom 65 = .ok (.iload 4, 2) := by decide +kernel
theorem dX4_searchFrom_67 : decode cX4_searchFrom 67 = .ok (.aload_n 0, 1) := by decide +kernel
theorem dX4_searchFrom_68 : decode cX4_searchFrom 68 = .ok (.iload 6, 2) := by decide +kernel
theorem dX4_searchFrom_70 : decode cX4_searchFrom 70 = .ok (.iload_n 2, 1) := by decide +kernel
theorem dX4_searchFrom_71 : decode cX4_searchFrom 71 = .ok (.invokevirtual 84, 3) := by decide +kernel
theorem dX4_searchFrom_74 : decode cX4_searchFrom 74 = .ok (.invokestatic 69, 3) := by decide +kernel
theorem dX4_searchFrom_77 : decode cX4_searchFrom 77 = .ok (.istore 4, 2) := by decide +kernel
theorem dX4_searchFrom_79 : decode cX4_searchFrom 79 = .ok (.iinc 5 1, 3) := by decide +kernel
theorem dX4_searchFrom_82 : decode cX4_searchFrom 82 = .ok (.goto (-62), 3) := by decide +kernel
theorem dX4_searchFrom_85 : decode cX4_searchFrom 85 = .ok (.iload 4, 2) := by decide +kernel
theorem dX4_searchFrom_87 : decode cX4_searchFrom 87 = .ok (.ireturn, 1) := by decide +kernel
theorem dX4_enter_0 : decode cX4_enter 0 = .ok (.aload_n 0, 1) := by decide +kernel
theorem dX4_enter_1 : decode cX4_enter 1 = .ok (.dup, 1) := by decide +kernel
theorem dX4_enter_2 : decode cX4_enter 2 = .ok (.getfield 58, 3) := by decide +kernel
theorem dX4_enter_5 : decode cX4_enter 5 = .ok (.iconst 1, 1) := by decide +kernel
theorem dX4_enter_6 : decode cX4_enter 6 = .ok (.iadd, 1) := by decide +kernel
theorem dX4_enter_7 : decode cX4_enter 7 = .ok (.putfield 58, 3) := by decide +kernel
theorem dX4_enter_10 : decode cX4_enter 10 = .ok (.aload_n 0, 1) := by decide +kernel
theorem dX4_enter_11 : decode cX4_enter 11 = .ok (.getfield 21, 3) := by decide +kernel
theorem dX4_enter_14 : decode cX4_enter 14 = .ok (.iload_n 1, 1) := by decide +kernel
theorem dX4_enter_15 : decode cX4_enter 15 = .ok (.aload_n 0, 1) := by decide +kernel
theorem dX4_enter_16 : decode cX4_enter 16 = .ok (.getfield 58, 3) := by decide +kernel
theorem dX4_enter_19 : decode cX4_enter 19 = .ok (.iastore, 1) := by decide +kernel
theorem dX4_enter_20 : decode cX4_enter 20 = .ok (.aload_n 0, 1) := by decide +kernel
theorem dX4_enter_21 : decode cX4_enter 21 = .ok (.getfield 27, 3) := by decide +kernel
theorem dX4_enter_24 : decode cX4_enter 24 = .ok (.iload_n 1, 1) := by decide +kernel
theorem dX4_enter_25 : decode cX4_enter 25 = .ok (.aload_n 0, 1) := by decide +kernel
theorem dX4_enter_26 : decode cX4_enter 26 = .ok (.getfield 58, 3) := by decide +kernel
theorem dX4_enter_29 : decode cX4_enter 29 = .ok (.iastore, 1) := by decide +kernel
theorem dX4_enter_30 : decode cX4_enter 30 = .ok (.aload_n 0, 1) := by decide +kernel
theorem dX4_enter_31 : decode cX4_enter 31 = .ok (.getfield 33, 3) := by decide +kernel
theorem dX4_enter_34 : decode cX4_enter 34 = .ok (.aload_n 0, 1) := by decide +kernel
theorem dX4_enter_35 : decode cX4_enter 35 = .ok (.dup, 1) := by decide +kernel
theorem dX4_enter_36 : decode cX4_enter 36 = .ok (.getfield 74, 3) := by decide +kernel
theorem dX4_enter_39 : decode cX4_enter 39 = .ok (.dup_x1, 1) := by decide +kernel
theorem dX4_enter_40 : decode cX4_enter 40 = .ok (.iconst 1, 1) := by decide +kernel
theorem dX4_enter_41 : decode cX4_enter 41 = .ok (.iadd, 1) := by decide +kernel
theorem dX4_enter_42 : decode cX4_enter 42 = .ok (.putfield 74, 3) := by decide +kernel
theorem dX4_enter_45 : decode cX4_enter 45 = .ok (.iload_n 1, 1) := by decide +kernel
theorem dX4_enter_46 : decode cX4_enter 46 = .ok (.iastore, 1) := by decide +kernel
theorem dX4_enter_47 : decode cX4_enter 47 = .ok (.aload_n 0, 1) := by decide +kernel
theorem dX4_enter_48 : decode cX4_enter 48 = .ok (.getfield 39, 3) := by decide +kernel
theorem dX4_enter_51 : decode cX4_enter 51 = .ok (.aload_n 0, 1) := by decide +kernel
theorem dX4_enter_52 : decode cX4_enter 52 = .ok (.dup, 1) := by decide +kernel
theorem dX4_enter_53 : decode cX4_enter 53 = .ok (.getfield 62, 3) := by decide +kernel
theorem dX4_enter_56 : decode cX4_enter 56 = .ok (.dup_x1, 1) := by decide +kernel
theorem dX4_enter_57 : decode cX4_enter 57 = .ok (.iconst 1, 1) := by decide +kernel
theorem dX4_enter_58 : decode cX4_enter 58 = .ok (.iadd, 1) := by decide +kernel
theorem dX4_enter_59 : decode cX4_enter 59 = .ok (.putfield 62, 3) := by decide +kernel
theorem dX4_enter_62 : decode cX4_enter 62 = .ok (.iload_n 1, 1) := by decide +kernel
theorem dX4_enter_63 : decode cX4_enter 63 = .ok (.iastore, 1) := by decide +kernel
theorem dX4_enter_64 : decode cX4_enter 64 = .ok (.return_, 1) := by decide +kernel
theorem dX4_followOne_0 : decode cX4_followOne 0 = .ok (.aload_n 0, 1) := by decide +kernel
theorem dX4_followOne_1 : decode cX4_followOne 1 = .ok (.getfield 45, 3) := by decide +kernel
theorem dX4_followOne_4 : decode cX4_followOne 4 = .ok (.iload_n 1, 1) := by decide +kernel
theorem dX4_followOne_5 : decode cX4_followOne 5 = .ok (.iaload, 1) := by decide +kernel
theorem dX4_followOne_6 : decode cX4_followOne 6 = .ok (.aload_n 0, 1) := by decide +kernel
theorem dX4_followOne_7 : decode cX4_followOne 7 = .ok (.getfield 45, 3) := by decide +kernel
theorem dX4_followOne_10 : decode cX4_followOne 10 = .ok (.iload_n 1, 1) := by decide +kernel
theorem dX4_followOne_11 : decode cX4_followOne 11 = .ok (.iaload, 1) := by decide +kernel
theorem dX4_followOne_12 : decode cX4_followOne 12 = .ok (.ineg, 1) := by decide +kernel
theorem dX4_followOne_13 : decode cX4_followOne 13 = .ok (.iand, 1) := by decide +kernel
theorem dX4_followOne_14 : decode cX4_followOne 14 = .ok (.istore_n 2, 1) := by decide +kernel
theorem dX4_followOne_15 : decode cX4_followOne 15 = .ok (.aload_n 0, 1) := by decide +kernel
theorem dX4_followOne_16 : decode cX4_followOne 16 = .ok (.getfield 45, 3) := by decide +kernel
theorem dX4_followOne_19 : decode cX4_followOne 19 = .ok (.iload_n 1, 1) := by decide +kernel
theorem dX4_followOne_20 : decode cX4_followOne 20 = .ok (.dup2, 1) := by decide +kernel
theorem dX4_followOne_21 : decode cX4_followOne 21 = .ok (.iaload, 1) := by decide +kernel
theorem dX4_followOne_22 : decode cX4_followOne 22 = .ok (.iload_n 2, 1) := by decide +kernel
theorem dX4_followOne_23 : decode cX4_followOne 23 = .ok (.ixor, 1) := by decide +kernel
theorem dX4_followOne_24 : decode cX4_followOne 24 = .ok (.iastore, 1) := by decide +kernel
theorem dX4_followOne_25 : decode cX4_followOne 25 = .ok (.iload_n 1, 1) := by decide +kernel
theorem dX4_followOne_26 : decode cX4_followOne 26 = .ok (.iload_n 2, 1) := by decide +kernel
theorem dX4_followOne_27 : decode cX4_followOne 27 = .ok (.ixor, 1) := by decide +kernel
theorem dX4_followOne_28 : decode cX4_followOne 28 = .ok (.istore_n 3, 1) := by decide +kernel
theorem dX4_followOne_29 : decode cX4_followOne 29 = .ok (.aload_n 0, 1) := by decide +kernel
theorem dX4_followOne_30 : decode cX4_followOne 30 = .ok (.getfield 21, 3) := by decide +kernel
theorem dX4_followOne_33 : decode cX4_followOne 33 = .ok (.iload_n 3, 1) := by decide +kernel
theorem dX4_followOne_34 : decode cX4_followOne 34 = .ok (.iaload, 1) := by decide +kernel
theorem dX4_followOne_35 : decode cX4_followOne 35 = .ok (.ifCond .ne 11, 3) := by decide +kernel
theorem dX4_followOne_38 : decode cX4_followOne 38 = .ok (.aload_n 0, 1) := by decide +kernel
theorem dX4_followOne_39 : decode cX4_followOne 39 = .ok (.iload_n 3, 1) := by decide +kernel
theorem dX4_followOne_40 : decode cX4_followOne 40 = .ok (.invokevirtual 77, 3) := by decide +kernel
theorem dX4_followOne_43 : decode cX4_followOne 43 = .ok (.goto 36, 3) := by decide +kernel
theorem dX4_followOne_46 : decode cX4_followOne 46 = .ok (.aload_n 0, 1) := by decide +kernel
theorem dX4_followOne_47 : decode cX4_followOne 47 = .ok (.getfield 27, 3) := by decide +kernel
theorem dX4_followOne_50 : decode cX4_followOne 50 = .ok (.iload_n 3, 1) := by decide +kernel
theorem dX4_followOne_51 : decode cX4_followOne 51 = .ok (.iaload, 1) := by decide +kernel
theorem dX4_followOne_52 : decode cX4_followOne 52 = .ok (.sipush 1025, 3) := by decide +kernel
theorem dX4_followOne_55 : decode cX4_followOne 55 = .ok (.if_icmp .eq 24, 3) := by decide +kernel
theorem dX4_followOne_58 : decode cX4_followOne 58 = .ok (.aload_n 0, 1) := by decide +kernel
theorem dX4_followOne_59 : decode cX4_followOne 59 = .ok (.getfield 27, 3) := by decide +kernel
theorem dX4_followOne_62 : decode cX4_followOne 62 = .ok (.iload_n 1, 1) := by decide +kernel
theorem dX4_followOne_63 : decode cX4_followOne 63 = .ok (.aload_n 0, 1) := by decide +kernel
theorem dX4_followOne_64 : decode cX4_followOne 64 = .ok (.getfield 27, 3) := by decide +kernel
theorem dX4_followOne_67 : decode cX4_followOne 67 = .ok (.iload_n 1, 1) := by decide +kernel
theorem dX4_followOne_68 : decode cX4_followOne 68 = .ok (.iaload, 1) := by decide +kernel
theorem dX4_followOne_69 : decode cX4_followOne 69 = .ok (.aload_n 0, 1) := by decide +kernel
theorem dX4_followOne_70 : decode cX4_followOne 70 = .ok (.getfield 21, 3) := by decide +kernel
theorem dX4_followOne_73 : decode cX4_followOne 73 = .ok (.iload_n 3, 1) := by decide +kernel
theorem dX4_followOne_74 : decode cX4_followOne 74 = .ok (.iaload, 1) := by decide +kernel
theorem dX4_followOne_75 : decode cX4_followOne 75 = .ok (.invokestatic 69, 3) := by decide +kernel
theorem dX4_followOne_78 : decode cX4_followOne 78 = .ok (.iastore, 1) := by decide +kernel
theorem dX4_followOne_79 : decode cX4_followOne 79 = .ok (.return_, 1) := by decide +kernel
theorem dX4_goBack_0 : decode cX4_goBack 0 = .ok (.aload_n 0, 1) := by decide +kernel
theorem dX4_goBack_1 : decode cX4_goBack 1 = .ok (.dup, 1) := by decide +kernel
theorem dX4_goBack_2 : decode cX4_goBack 2 = .ok (.getfield 74, 3) := by decide +kernel
theorem dX4_goBack_5 : decode cX4_goBack 5 = .ok (.iconst 1, 1) := by decide +kernel
theorem dX4_goBack_6 : decode cX4_goBack 6 = .ok (.isub, 1) := by decide +kernel
theorem dX4_goBack_7 : decode cX4_goBack 7 = .ok (.putfield 74, 3) := by decide +kernel
theorem dX4_goBack_10 : decode cX4_goBack 10 = .ok (.aload_n 0, 1) := by decide +kernel
theorem dX4_goBack_11 : decode cX4_goBack 11 = .ok (.getfield 27, 3) := by decide +kernel
theorem dX4_goBack_14 : decode cX4_goBack 14 = .ok (.iload_n 1, 1) := by decide +kernel
theorem dX4_goBack_15 : decode cX4_goBack 15 = .ok (.iaload, 1) := by decide +kernel
theorem dX4_goBack_16 : decode cX4_goBack 16 = .ok (.aload_n 0, 1) := by decide +kernel
theorem dX4_goBack_17 : decode cX4_goBack 17 = .ok (.getfield 21, 3) := by decide +kernel
theorem dX4_goBack_20 : decode cX4_goBack 20 = .ok (.iload_n 1, 1) := by decide +kernel
theorem dX4_goBack_21 : decode cX4_goBack 21 = .ok (.iaload, 1) := by decide +kernel
theorem dX4_goBack_22 : decode cX4_goBack 22 = .ok (.if_icmp .ne 10, 3) := by decide +kernel
theorem dX4_goBack_25 : decode cX4_goBack 25 = .ok (.aload_n 0, 1) := by decide +kernel
theorem dX4_goBack_26 : decode cX4_goBack 26 = .ok (.iload_n 1, 1) := by decide +kernel
theorem dX4_goBack_27 : decode cX4_goBack 27 = .ok (.iload_n 2, 1) := by decide +kernel
theorem dX4_goBack_28 : decode cX4_goBack 28 = .ok (.invokevirtual 87, 3) := by decide +kernel
theorem dX4_goBack_31 : decode cX4_goBack 31 = .ok (.ireturn, 1) := by decide +kernel
theorem dX4_goBack_32 : decode cX4_goBack 32 = .ok (.aload_n 0, 1) := by decide +kernel
theorem dX4_goBack_33 : decode cX4_goBack 33 = .ok (.getfield 74, 3) := by decide +kernel
theorem dX4_goBack_36 : decode cX4_goBack 36 = .ok (.ifCond .le 36, 3) := by decide +kernel
theorem dX4_goBack_39 : decode cX4_goBack 39 = .ok (.aload_n 0, 1) := by decide +kernel
theorem dX4_goBack_40 : decode cX4_goBack 40 = .ok (.getfield 33, 3) := by decide +kernel
theorem dX4_goBack_43 : decode cX4_goBack 43 = .ok (.aload_n 0, 1) := by decide +kernel
theorem dX4_goBack_44 : decode cX4_goBack 44 = .ok (.getfield 74, 3) := by decide +kernel
theorem dX4_goBack_47 : decode cX4_goBack 47 = .ok (.iconst 1, 1) := by decide +kernel
theorem dX4_goBack_48 : decode cX4_goBack 48 = .ok (.isub, 1) := by decide +kernel
theorem dX4_goBack_49 : decode cX4_goBack 49 = .ok (.iaload, 1) := by decide +kernel
theorem dX4_goBack_50 : decode cX4_goBack 50 = .ok (.istore_n 3, 1) := by decide +kernel
theorem dX4_goBack_51 : decode cX4_goBack 51 = .ok (.aload_n 0, 1) := by decide +kernel
theorem dX4_goBack_52 : decode cX4_goBack 52 = .ok (.getfield 27, 3) := by decide +kernel
theorem dX4_goBack_55 : decode cX4_goBack 55 = .ok (.iload_n 3, 1) := by decide +kernel
theorem dX4_goBack_56 : decode cX4_goBack 56 = .ok (.aload_n 0, 1) := by decide +kernel
theorem dX4_goBack_57 : decode cX4_goBack 57 = .ok (.getfield 27, 3) := by decide +kernel
theorem dX4_goBack_60 : decode cX4_goBack 60 = .ok (.iload_n 3, 1) := by decide +kernel
theorem dX4_goBack_61 : decode cX4_goBack 61 = .ok (.iaload, 1) := by decide +kernel
theorem dX4_goBack_62 : decode cX4_goBack 62 = .ok (.aload_n 0, 1) := by decide +kernel
theorem dX4_goBack_63 : decode cX4_goBack 63 = .ok (.getfield 27, 3) := by decide +kernel
theorem dX4_goBack_66 : decode cX4_goBack 66 = .ok (.iload_n 1, 1) := by decide +kernel
theorem dX4_goBack_67 : decode cX4_goBack 67 = .ok (.iaload, 1) := by decide +kernel
theorem dX4_goBack_68 : decode cX4_goBack 68 = .ok (.invokestatic 69, 3) := by decide +kernel
theorem dX4_goBack_71 : decode cX4_goBack 71 = .ok (.iastore, 1) := by decide +kernel
theorem dX4_goBack_72 : decode cX4_goBack 72 = .ok (.iload_n 2, 1) := by decide +kernel
theorem dX4_goBack_73 : decode cX4_goBack 73 = .ok (.ireturn, 1) := by decide +kernel
theorem dX4_close_0 : decode cX4_close 0 = .ok (.iload_n 1, 1) := by decide +kernel
theorem dX4_close_1 : decode cX4_close 1 = .ok (.istore_n 3, 1) := by decide +kernel
theorem dX4_close_2 : decode cX4_close 2 = .ok (.iconst 0, 1) := by decide +kernel
theorem dX4_close_3 : decode cX4_close 3 = .ok (.istore 4, 2) := by decide +kernel
theorem dX4_close_5 : decode cX4_close 5 = .ok (.iconst (-1), 1) := by decide +kernel
theorem dX4_close_6 : decode cX4_close 6 = .ok (.istore 5, 2) := by decide +kernel
theorem dX4_close_8 : decode cX4_close 8 = .ok (.aload_n 0, 1) := by decide +kernel
theorem dX4_close_9 : decode cX4_close 9 = .ok (.getfield 62, 3) := by decide +kernel
theorem dX4_close_12 : decode cX4_close 12 = .ok (.ifCond .le 50, 3) := by decide +kernel
theorem dX4_close_15 : decode cX4_close 15 = .ok (.iload 5, 2) := by decide +kernel
theorem dX4_close_17 : decode cX4_close 17 = .ok (.iload_n 1, 1) := by decide +kernel
theorem dX4_close_18 : decode cX4_close 18 = .ok (.if_icmp .eq 44, 3) := by decide +kernel
theorem dX4_close_21 : decode cX4_close 21 = .ok (.aload_n 0, 1) := by decide +kernel
theorem dX4_close_22 : decode cX4_close 22 = .ok (.getfield 39, 3) := by decide +kernel
theorem dX4_close_25 : decode cX4_close 25 = .ok (.aload_n 0, 1) := by decide +kernel
theorem dX4_close_26 : decode cX4_close 26 = .ok (.dup, 1) := by decide +kernel
theorem dX4_close_27 : decode cX4_close 27 = .ok (.getfield 62, 3) := by decide +kernel
theorem dX4_close_30 : decode cX4_close 30 = .ok (.iconst 1, 1) := by decide +kernel
theorem dX4_close_31 : decode cX4_close 31 = .ok (.isub, 1) := by decide +kernel
theorem dX4_close_32 : decode cX4_close 32 = .ok (.dup_x1, 1) := by decide +kernel
theorem dX4_close_33 : decode cX4_close 33 = .ok (.putfield 62, 3) := by decide +kernel
theorem dX4_close_36 : decode cX4_close 36 = .ok (.iaload, 1) := by decide +kernel
theorem dX4_close_37 : decode cX4_close 37 = .ok (.istore 5, 2) := by decide +kernel
theorem dX4_close_39 : decode cX4_close 39 = .ok (.aload_n 0, 1) := by decide +kernel
theorem dX4_close_40 : decode cX4_close 40 = .ok (.getfield 27, 3) := by decide +kernel
theorem dX4_close_43 : decode cX4_close 43 = .ok (.iload 5, 2) := by decide +kernel
theorem dX4_close_45 : decode cX4_close 45 = .ok (.sipush 1025, 3) := by decide +kernel
theorem dX4_close_48 : decode cX4_close 48 = .ok (.iastore, 1) := by decide +kernel
theorem dX4_close_49 : decode cX4_close 49 = .ok (.iload_n 3, 1) := by decide +kernel
theorem dX4_close_50 : decode cX4_close 50 = .ok (.iload 5, 2) := by decide +kernel
theorem dX4_close_52 : decode cX4_close 52 = .ok (.invokestatic 69, 3) := by decide +kernel
theorem dX4_close_55 : decode cX4_close 55 = .ok (.istore_n 3, 1) := by decide +kernel
theorem dX4_close_56 : decode cX4_close 56 = .ok (.iinc 4 1, 3) := by decide +kernel
theorem dX4_close_59 : decode cX4_close 59 = .ok (.goto (-51), 3) := by decide +kernel
theorem dX4_close_62 : decode cX4_close 62 = .ok (.iload 4, 2) := by decide +kernel
theorem dX4_close_64 : decode cX4_close 64 = .ok (.iconst 1, 1) := by decide +kernel
theorem dX4_close_65 : decode cX4_close 65 = .ok (.if_icmp .le 7, 3) := by decide +kernel
theorem dX4_close_68 : decode cX4_close 68 = .ok (.iload_n 3, 1) := by decide +kernel
theorem dX4_close_69 : decode cX4_close 69 = .ok (.goto 4, 3) := by decide +kernel
theorem dX4_close_72 : decode cX4_close 72 = .ok (.iload_n 2, 1) := by decide +kernel
theorem dX4_close_73 : decode cX4_close 73 = .ok (.ireturn, 1) := by decide +kernel
theorem dJ6_bitCount_0f7a4_0 : decode cJ6_bitCount_0f7a4 0 = .ok (.iload_n 0, 1) := by decide +kernel
theorem dJ6_bitCount_0f7a4_1 : decode cJ6_bitCount_0f7a4 1 = .ok (.iload_n 0, 1) := by decide +kernel
theorem dJ6_bitCount_0f7a4_2 : decode cJ6_bitCount_0f7a4 2 = .ok (.iconst 1, 1) := by decide +kernel
theorem dJ6_bitCount_0f7a4_3 : decode cJ6_bitCount_0f7a4 3 = .ok (.iushr, 1) := by decide +kernel
theorem dJ6_bitCount_0f7a4_4 : decode cJ6_bitCount_0f7a4 4 = .ok (.ldc_w 265, 3) := by decide +kernel
theorem dJ6_bitCount_0f7a4_7 : decode cJ6_bitCount_0f7a4 7 = .ok (.iand, 1) := by decide +kernel
theorem dJ6_bitCount_0f7a4_8 : decode cJ6_bitCount_0f7a4 8 = .ok (.isub, 1) := by decide +kernel
theorem dJ6_bitCount_0f7a4_9 : decode cJ6_bitCount_0f7a4 9 = .ok (.istore_n 0, 1) := by decide +kernel
theorem dJ6_bitCount_0f7a4_10 : decode cJ6_bitCount_0f7a4 10 = .ok (.iload_n 0, 1) := by decide +kernel
theorem dJ6_bitCount_0f7a4_11 : decode cJ6_bitCount_0f7a4 11 = .ok (.ldc_w 266, 3) := by decide +kernel
theorem dJ6_bitCount_0f7a4_14 : decode cJ6_bitCount_0f7a4 14 = .ok (.iand, 1) := by decide +kernel
theorem dJ6_bitCount_0f7a4_15 : decode cJ6_bitCount_0f7a4 15 = .ok (.iload_n 0, 1) := by decide +kernel
theorem dJ6_bitCount_0f7a4_16 : decode cJ6_bitCount_0f7a4 16 = .ok (.iconst 2, 1) := by decide +kernel
theorem dJ6_bitCount_0f7a4_17 : decode cJ6_bitCount_0f7a4 17 = .ok (.iushr, 1) := by decide +kernel
theorem dJ6_bitCount_0f7a4_18 : decode cJ6_bitCount_0f7a4 18 = .ok (.ldc_w 266, 3) := by decide +kernel
theorem dJ6_bitCount_0f7a4_21 : decode cJ6_bitCount_0f7a4 21 = .ok (.iand, 1) := by decide +kernel
theorem dJ6_bitCount_0f7a4_22 : decode cJ6_bitCount_0f7a4 22 = .ok (.iadd, 1) := by decide +kernel
theorem dJ6_bitCount_0f7a4_23 : decode cJ6_bitCount_0f7a4 23 = .ok (.istore_n 0, 1) := by decide +kernel
theorem dJ6_bitCount_0f7a4_24 : decode cJ6_bitCount_0f7a4 24 = .ok (.iload_n 0, 1) := by decide +kernel
theorem dJ6_bitCount_0f7a4_25 : decode cJ6_bitCount_0f7a4 25 = .ok (.iload_n 0, 1) := by decide +kernel
theorem dJ6_bitCount_0f7a4_26 : decode cJ6_bitCount_0f7a4 26 = .ok (.iconst 4, 1) := by decide +kernel
theorem dJ6_bitCount_0f7a4_27 : decode cJ6_bitCount_0f7a4 27 = .ok (.iushr, 1) := by decide +kernel
theorem dJ6_bitCount_0f7a4_28 : decode cJ6_bitCount_0f7a4 28 = .ok (.iadd, 1) := by decide +kernel
theorem dJ6_bitCount_0f7a4_29 : decode cJ6_bitCount_0f7a4 29 = .ok (.ldc_w 267, 3) := by decide +kernel
theorem dJ6_bitCount_0f7a4_32 : decode cJ6_bitCount_0f7a4 32 = .ok (.iand, 1) := by decide +kernel
theorem dJ6_bitCount_0f7a4_33 : decode cJ6_bitCount_0f7a4 33 = .ok (.istore_n 0, 1) := by decide +kernel
theorem dJ6_bitCount_0f7a4_34 : decode cJ6_bitCount_0f7a4 34 = .ok (.iload_n 0, 1) := by decide +kernel
theorem dJ6_bitCount_0f7a4_35 : decode cJ6_bitCount_0f7a4 35 = .ok (.iload_n 0, 1) := by decide +kernel
theorem dJ6_bitCount_0f7a4_36 : decode cJ6_bitCount_0f7a4 36 = .ok (.bipush 8, 2) := by decide +kernel
theorem dJ6_bitCount_0f7a4_38 : decode cJ6_bitCount_0f7a4 38 = .ok (.iushr, 1) := by decide +kernel
theorem dJ6_bitCount_0f7a4_39 : decode cJ6_bitCount_0f7a4 39 = .ok (.iadd, 1) := by decide +kernel
theorem dJ6_bitCount_0f7a4_40 : decode cJ6_bitCount_0f7a4 40 = .ok (.istore_n 0, 1) := by decide +kernel
theorem dJ6_bitCount_0f7a4_41 : decode cJ6_bitCount_0f7a4 41 = .ok (.iload_n 0, 1) := by decide +kernel
theorem dJ6_bitCount_0f7a4_42 : decode cJ6_bitCount_0f7a4 42 = .ok (.iload_n 0, 1) := by decide +kernel
theorem dJ6_bitCount_0f7a4_43 : decode cJ6_bitCount_0f7a4 43 = .ok (.bipush 16, 2) := by decide +kernel
theorem dJ6_bitCount_0f7a4_45 : decode cJ6_bitCount_0f7a4 45 = .ok (.iushr, 1) := by decide +kernel
theorem dJ6_bitCount_0f7a4_46 : decode cJ6_bitCount_0f7a4 46 = .ok (.iadd, 1) := by decide +kernel
theorem dJ6_bitCount_0f7a4_47 : decode cJ6_bitCount_0f7a4 47 = .ok (.istore_n 0, 1) := by decide +kernel
theorem dJ6_bitCount_0f7a4_48 : decode cJ6_bitCount_0f7a4 48 = .ok (.iload_n 0, 1) := by decide +kernel
theorem dJ6_bitCount_0f7a4_49 : decode cJ6_bitCount_0f7a4 49 = .ok (.bipush 63, 2) := by decide +kernel
theorem dJ6_bitCount_0f7a4_51 : decode cJ6_bitCount_0f7a4 51 = .ok (.iand, 1) := by decide +kernel
theorem dJ6_bitCount_0f7a4_52 : decode cJ6_bitCount_0f7a4 52 = .ok (.ireturn, 1) := by decide +kernel
