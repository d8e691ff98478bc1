theorem dX5_askedFrom_0 : decode cX5_askedFrom 0 = .ok (.aload_n 0, 1) := by decide +kernel
theorem dX5_askedFrom_1 : decode cX5_askedFrom 1 = .ok (.getfield 15, 3) := by decide +kernel
theorem dX5_askedFrom_4 : decode cX5_askedFrom 4 = .ok (.iload_n 2, 1) := by decide +kernel
theorem dX5_askedFrom_5 : decode cX5_askedFrom 5 = .ok (.invokevirtual 34, 3) := by decide +kernel
theorem dX5_askedFrom_8 : decode cX5_askedFrom 8 = .ok (.astore 4, 2) := by decide +kernel
theorem dX5_askedFrom_10 : decode cX5_askedFrom 10 = .ok (.iload_n 1, 1) := by decide +kernel
theorem dX5_askedFrom_11 : decode cX5_askedFrom 11 = .ok (.istore 5, 2) := by decide +kernel
theorem dX5_askedFrom_13 : decode cX5_askedFrom 13 = .ok (.iconst 0, 1) := by decide +kernel
theorem dX5_askedFrom_14 : decode cX5_askedFrom 14 = .ok (.istore 6, 2) := by decide +kernel
theorem dX5_askedFrom_16 : decode cX5_askedFrom 16 = .ok (.iconst 0, 1) := by decide +kernel
theorem dX5_askedFrom_17 : decode cX5_askedFrom 17 = .ok (.istore 7, 2) := by decide +kernel
theorem dX5_askedFrom_19 : decode cX5_askedFrom 19 = .ok (.iload 7, 2) := by decide +kernel
theorem dX5_askedFrom_21 : decode cX5_askedFrom 21 = .ok (.iload_n 3, 1) := by decide +kernel
theorem dX5_askedFrom_22 : decode cX5_askedFrom 22 = .ok (.if_icmp .ge 34, 3) := by decide +kernel
theorem dX5_askedFrom_25 : decode cX5_askedFrom 25 = .ok (.iload 6, 2) := by decide +kernel
theorem dX5_askedFrom_27 : decode cX5_askedFrom 27 = .ok (.aload 4, 2) := by decide +kernel
theorem dX5_askedFrom_29 : decode cX5_askedFrom 29 = .ok (.iload 5, 2) := by decide +kernel
theorem dX5_askedFrom_31 : decode cX5_askedFrom 31 = .ok (.iaload, 1) := by decide +kernel
theorem dX5_askedFrom_32 : decode cX5_askedFrom 32 = .ok (.iload 5, 2) := by decide +kernel
theorem dX5_askedFrom_34 : decode cX5_askedFrom 34 = .ok (.iconst (-1), 1) := by decide +kernel
theorem dX5_askedFrom_35 : decode cX5_askedFrom 35 = .ok (.ixor, 1) := by decide +kernel
theorem dX5_askedFrom_36 : decode cX5_askedFrom 36 = .ok (.iand, 1) := by decide +kernel
theorem dX5_askedFrom_37 : decode cX5_askedFrom 37 = .ok (.invokestatic 40, 3) := by decide +kernel
theorem dX5_askedFrom_40 : decode cX5_askedFrom 40 = .ok (.iadd, 1) := by decide +kernel
theorem dX5_askedFrom_41 : decode cX5_askedFrom 41 = .ok (.istore 6, 2) := by decide +kernel
theorem dX5_askedFrom_43 : decode cX5_askedFrom 43 = .ok (.aload 4, 2) := by decide +kernel
theorem dX5_askedFrom_45 : decode cX5_askedFrom 45 = .ok (.iload 5, 2) := by decide +kernel
theorem dX5_askedFrom_47 : decode cX5_askedFrom 47 = .ok (.iaload, 1) := by decide +kernel
theorem dX5_askedFrom_48 : decode cX5_askedFrom 48 = .ok (.istore 5, 2) := by decide +kernel
theorem dX5_askedFrom_50 : decode cX5_askedFrom 50 = .ok (.iinc 7 1, 3) := by decide +kernel
theorem dX5_askedFrom_53 : decode cX5_askedFrom 53 = .ok (.goto (-34), 3) := by decide +kernel
theorem dX5_askedFrom_56 : decode cX5_askedFrom 56 = .ok (.iload 6, 2) := by decide +kernel
theorem dX5_askedFrom_58 : decode cX5_askedFrom 58 = .ok (.ireturn, 1) := by decide +kernel
theorem dX5_gainBy_0 : decode cX5_gainBy 0 = .ok (.aload_n 0, 1) := by decide +kernel
theorem dX5_gainBy_1 : decode cX5_gainBy 1 = .ok (.iload_n 1, 1) := by decide +kernel
theorem dX5_gainBy_2 : decode cX5_gainBy 2 = .ok (.iload_n 2, 1) := by decide +kernel
theorem dX5_gainBy_3 : decode cX5_gainBy 3 = .ok (.invokevirtual 46, 3) := by decide +kernel
theorem dX5_gainBy_6 : decode cX5_gainBy 6 = .ok (.iconst 0, 1) := by decide +kernel
theorem dX5_gainBy_7 : decode cX5_gainBy 7 = .ok (.istore 6, 2) := by decide +kernel
theorem dX5_gainBy_9 : decode cX5_gainBy 9 = .ok (.iconst 0, 1) := by decide +kernel
theorem dX5_gainBy_10 : decode cX5_gainBy 10 = .ok (.istore 7, 2) := by decide +kernel
theorem dX5_gainBy_12 : decode cX5_gainBy 12 = .ok (.iload 7, 2) := by decide +kernel
theorem dX5_gainBy_14 : decode cX5_gainBy 14 = .ok (.sipush 500, 3) := by decide +kernel
theorem dX5_gainBy_17 : decode cX5_gainBy 17 = .ok (.if_icmp .gt 28, 3) := by decide +kernel
theorem dX5_gainBy_20 : decode cX5_gainBy 20 = .ok (.iload 6, 2) := by decide +kernel
theorem dX5_gainBy_22 : decode cX5_gainBy 22 = .ok (.aload_n 0, 1) := by decide +kernel
theorem dX5_gainBy_23 : decode cX5_gainBy 23 = .ok (.getfield 31, 3) := by decide +kernel
theorem dX5_gainBy_26 : decode cX5_gainBy 26 = .ok (.iload 7, 2) := by decide +kernel
theorem dX5_gainBy_28 : decode cX5_gainBy 28 = .ok (.iaload, 1) := by decide +kernel
theorem dX5_gainBy_29 : decode cX5_gainBy 29 = .ok (.iload 7, 2) := by decide +kernel
theorem dX5_gainBy_31 : decode cX5_gainBy 31 = .ok (.iload_n 3, 1) := by decide +kernel
theorem dX5_gainBy_32 : decode cX5_gainBy 32 = .ok (.invokestatic 50, 3) := by decide +kernel
theorem dX5_gainBy_35 : decode cX5_gainBy 35 = .ok (.imul, 1) := by decide +kernel
theorem dX5_gainBy_36 : decode cX5_gainBy 36 = .ok (.iadd, 1) := by decide +kernel
theorem dX5_gainBy_37 : decode cX5_gainBy 37 = .ok (.istore 6, 2) := by decide +kernel
theorem dX5_gainBy_39 : decode cX5_gainBy 39 = .ok (.iinc 7 1, 3) := by decide +kernel
theorem dX5_gainBy_42 : decode cX5_gainBy 42 = .ok (.goto (-30), 3) := by decide +kernel
theorem dX5_gainBy_45 : decode cX5_gainBy 45 = .ok (.iload 6, 2) := by decide +kernel
theorem dX5_gainBy_47 : decode cX5_gainBy 47 = .ok (.iload 5, 2) := by decide +kernel
theorem dX5_gainBy_49 : decode cX5_gainBy 49 = .ok (.imul, 1) := by decide +kernel
theorem dX5_gainBy_50 : decode cX5_gainBy 50 = .ok (.aload_n 0, 1) := by decide +kernel
theorem dX5_gainBy_51 : decode cX5_gainBy 51 = .ok (.getfield 9, 3) := by decide +kernel
theorem dX5_gainBy_54 : decode cX5_gainBy 54 = .ok (.invokevirtual 56, 3) := by decide +kernel
theorem dX5_gainBy_57 : decode cX5_gainBy 57 = .ok (.iload_n 3, 1) := by decide +kernel
theorem dX5_gainBy_58 : decode cX5_gainBy 58 = .ok (.imul, 1) := by decide +kernel
theorem dX5_gainBy_59 : decode cX5_gainBy 59 = .ok (.iload 4, 2) := by decide +kernel
theorem dX5_gainBy_61 : decode cX5_gainBy 61 = .ok (.imul, 1) := by decide +kernel
theorem dX5_gainBy_62 : decode cX5_gainBy 62 = .ok (.isub, 1) := by decide +kernel
theorem dX5_gainBy_63 : decode cX5_gainBy 63 = .ok (.ireturn, 1) := by decide +kernel
theorem dX5_bestStock_0 : decode cX5_bestStock 0 = .ok (.aload_n 0, 1) := by decide +kernel
theorem dX5_bestStock_1 : decode cX5_bestStock 1 = .ok (.iload_n 1, 1) := by decide +kernel
theorem dX5_bestStock_2 : decode cX5_bestStock 2 = .ok (.iload_n 2, 1) := by decide +kernel
theorem dX5_bestStock_3 : decode cX5_bestStock 3 = .ok (.invokevirtual 46, 3) := by decide +kernel
theorem dX5_bestStock_6 : decode cX5_bestStock 6 = .ok (.aload_n 0, 1) := by decide +kernel
theorem dX5_bestStock_7 : decode cX5_bestStock 7 = .ok (.getfield 9, 3) := by decide +kernel
theorem dX5_bestStock_10 : decode cX5_bestStock 10 = .ok (.invokevirtual 56, 3) := by decide +kernel
theorem dX5_bestStock_13 : decode cX5_bestStock 13 = .ok (.istore 5, 2) := by decide +kernel
theorem dX5_bestStock_15 : decode cX5_bestStock 15 = .ok (.iconst 0, 1) := by decide +kernel
theorem dX5_bestStock_16 : decode cX5_bestStock 16 = .ok (.istore 6, 2) := by decide +kernel
theorem dX5_bestStock_18 : decode cX5_bestStock 18 = .ok (.iconst 0, 1) := by decide +kernel
theorem dX5_bestStock_19 : decode cX5_bestStock 19 = .ok (.istore 7, 2) := by decide +kernel
theorem dX5_bestStock_21 : decode cX5_bestStock 21 = .ok (.iconst 0, 1) := by decide +kernel
theorem dX5_bestStock_22 : decode cX5_bestStock 22 = .ok (.istore 8, 2) := by decide +kernel
theorem dX5_bestStock_24 : decode cX5_bestStock 24 = .ok (.iload 5, 2) := by decide +kernel
theorem dX5_bestStock_26 : decode cX5_bestStock 26 = .ok (.aload_n 0, 1) := by decide +kernel
theorem dX5_bestStock_27 : decode cX5_bestStock 27 = .ok (.getfield 31, 3) := by decide +kernel
theorem dX5_bestStock_30 : decode cX5_bestStock 30 = .ok (.iconst 0, 1) := by decide +kernel
theorem dX5_bestStock_31 : decode cX5_bestStock 31 = .ok (.iaload, 1) := by decide +kernel
theorem dX5_bestStock_32 : decode cX5_bestStock 32 = .ok (.isub, 1) := by decide +kernel
theorem dX5_bestStock_33 : decode cX5_bestStock 33 = .ok (.istore 9, 2) := by decide +kernel
theorem dX5_bestStock_35 : decode cX5_bestStock 35 = .ok (.iconst 1, 1) := by decide +kernel
theorem dX5_bestStock_36 : decode cX5_bestStock 36 = .ok (.istore 10, 2) := by decide +kernel
theorem dX5_bestStock_38 : decode cX5_bestStock 38 = .ok (.iload 10, 2) := by decide +kernel
theorem dX5_bestStock_40 : decode cX5_bestStock 40 = .ok (.sipush 500, 3) := by decide +kernel
theorem dX5_bestStock_43 : decode cX5_bestStock 43 = .ok (.if_icmp .gt 51, 3) := by decide +kernel
theorem dX5_bestStock_46 : decode cX5_bestStock 46 = .ok (.iload 8, 2) := by decide +kernel
theorem dX5_bestStock_48 : decode cX5_bestStock 48 = .ok (.iload 9, 2) := by decide +kernel
theorem dX5_bestStock_50 : decode cX5_bestStock 50 = .ok (.iload 4, 2) := by decide +kernel
theorem dX5_bestStock_52 : decode cX5_bestStock 52 = .ok (.imul, 1) := by decide +kernel
theorem dX5_bestStock_53 : decode cX5_bestStock 53 = .ok (.iload 5, 2) := by decide +kernel
theorem dX5_bestStock_55 : decode cX5_bestStock 55 = .ok (.iload_n 3, 1) := by decide +kernel
theorem dX5_bestStock_56 : decode cX5_bestStock 56 = .ok (.imul, 1) := by decide +kernel
theorem dX5_bestStock_57 : decode cX5_bestStock 57 = .ok (.isub, 1) := by decide +kernel
theorem dX5_bestStock_58 : decode cX5_bestStock 58 = .ok (.iadd, 1) := by decide +kernel
theorem dX5_bestStock_59 : decode cX5_bestStock 59 = .ok (.istore 8, 2) := by decide +kernel
theorem dX5_bestStock_61 : decode cX5_bestStock 61 = .ok (.iload 8, 2) := by decide +kernel
theorem dX5_bestStock_63 : decode cX5_bestStock 63 = .ok (.iload 7, 2) := by decide +kernel
theorem dX5_bestStock_65 : decode cX5_bestStock 65 = .ok (.if_icmp .le 11, 3) := by decide +kernel
theorem dX5_bestStock_68 : decode cX5_bestStock 68 = .ok (.iload 10, 2) := by decide +kernel
theorem dX5_bestStock_70 : decode cX5_bestStock 70 = .ok (.istore 6, 2) := by decide +kernel
theorem dX5_bestStock_72 : decode cX5_bestStock 72 = .ok (.iload 8, 2) := by decide +kernel
theorem dX5_bestStock_74 : decode cX5_bestStock 74 = .ok (.istore 7, 2) := by decide +kernel
theorem dX5_bestStock_76 : decode cX5_bestStock 76 = .ok (.iload 9, 2) := by decide +kernel
theorem dX5_bestStock_78 : decode cX5_bestStock 78 = .ok (.aload_n 0, 1) := by decide +kernel
theorem dX5_bestStock_79 : decode cX5_bestStock 79 = .ok (.getfield 31, 3) := by decide +kernel
theorem dX5_bestStock_82 : decode cX5_bestStock 82 = .ok (.iload 10, 2) := by decide +kernel
theorem dX5_bestStock_84 : decode cX5_bestStock 84 = .ok (.iaload, 1) := by decide +kernel
theorem dX5_bestStock_85 : decode cX5_bestStock 85 = .ok (.isub, 1) := by decide +kernel
theorem dX5_bestStock_86 : decode cX5_bestStock 86 = .ok (.istore 9, 2) := by decide +kernel
theorem dX5_bestStock_88 : decode cX5_bestStock 88 = .ok (.iinc 10 1, 3) := by decide +kernel
theorem dX5_bestStock_91 : decode cX5_bestStock 91 = .ok (.goto (-53), 3) := by decide +kernel
theorem dX5_bestStock_94 : decode cX5_bestStock 94 = .ok (.iload 6, 2) := by decide +kernel
theorem dX5_bestStock_96 : decode cX5_bestStock 96 = .ok (.ireturn, 1) := by decide +kernel
theorem dX5_tally_0 : decode cX5_tally 0 = .ok (.aload_n 0, 1) := by decide +kernel
theorem dX5_tally_1 : decode cX5_tally 1 = .ok (.getfield 15, 3) := by decide +kernel
theorem dX5_tally_4 : decode cX5_tally 4 = .ok (.iload_n 1, 1) := by decide +kernel
theorem dX5_tally_5 : decode cX5_tally 5 = .ok (.invokevirtual 34, 3) := by decide +kernel
theorem dX5_tally_8 : decode cX5_tally 8 = .ok (.astore_n 3, 1) := by decide +kernel
theorem dX5_tally_9 : decode cX5_tally 9 = .ok (.aload_n 0, 1) := by decide +kernel
theorem dX5_tally_10 : decode cX5_tally 10 = .ok (.getfield 9, 3) := by decide +kernel
theorem dX5_tally_13 : decode cX5_tally 13 = .ok (.invokevirtual 56, 3) := by decide +kernel
theorem dX5_tally_16 : decode cX5_tally 16 = .ok (.istore 4, 2) := by decide +kernel
theorem dX5_tally_18 : decode cX5_tally 18 = .ok (.iconst 0, 1) := by decide +kernel
theorem dX5_tally_19 : decode cX5_tally 19 = .ok (.istore 5, 2) := by decide +kernel
theorem dX5_tally_21 : decode cX5_tally 21 = .ok (.iload 5, 2) := by decide +kernel
theorem dX5_tally_23 : decode cX5_tally 23 = .ok (.sipush 500, 3) := by decide +kernel
theorem dX5_tally_26 : decode cX5_tally 26 = .ok (.if_icmp .gt 17, 3) := by decide +kernel
theorem dX5_tally_29 : decode cX5_tally 29 = .ok (.aload_n 0, 1) := by decide +kernel
theorem dX5_tally_30 : decode cX5_tally 30 = .ok (.getfield 31, 3) := by decide +kernel
theorem dX5_tally_33 : decode cX5_tally 33 = .ok (.iload 5, 2) := by decide +kernel
theorem dX5_tally_35 : decode cX5_tally 35 = .ok (.iconst 0, 1) := by decide +kernel
theorem dX5_tally_36 : decode cX5_tally 36 = .ok (.iastore, 1) := by decide +kernel
theorem dX5_tally_37 : decode cX5_tally 37 = .ok (.iinc 5 1, 3) := by decide +kernel
theorem dX5_tally_40 : decode cX5_tally 40 = .ok (.goto (-19), 3) := by decide +kernel
theorem dX5_tally_43 : decode cX5_tally 43 = .ok (.iconst 0, 1) := by decide +kernel
theorem dX5_tally_44 : decode cX5_tally 44 = .ok (.istore 5, 2) := by decide +kernel
theorem dX5_tally_46 : decode cX5_tally 46 = .ok (.iload 5, 2) := by decide +kernel
theorem dX5_tally_48 : decode cX5_tally 48 = .ok (.iload 4, 2) := by decide +kernel
theorem dX5_tally_50 : decode cX5_tally 50 = .ok (.if_icmp .ge 28, 3) := by decide +kernel
theorem dX5_tally_53 : decode cX5_tally 53 = .ok (.aload_n 0, 1) := by decide +kernel
theorem dX5_tally_54 : decode cX5_tally 54 = .ok (.getfield 25, 3) := by decide +kernel
theorem dX5_tally_57 : decode cX5_tally 57 = .ok (.iload 5, 2) := by decide +kernel
theorem dX5_tally_59 : decode cX5_tally 59 = .ok (.aload_n 3, 1) := by decide +kernel
theorem dX5_tally_60 : decode cX5_tally 60 = .ok (.iload 5, 2) := by decide +kernel
theorem dX5_tally_62 : decode cX5_tally 62 = .ok (.iaload, 1) := by decide +kernel
theorem dX5_tally_63 : decode cX5_tally 63 = .ok (.iload 5, 2) := by decide +kernel
theorem dX5_tally_65 : decode cX5_tally 65 = .ok (.iconst (-1), 1) := by decide +kernel
theorem dX5_tally_66 : decode cX5_tally 66 = .ok (.ixor, 1) := by decide +kernel
theorem dX5_tally_67 : decode cX5_tally 67 = .ok (.iand, 1) := by decide +kernel
theorem dX5_tally_68 : decode cX5_tally 68 = .ok (.invokestatic 40, 3) := by decide +kernel
theorem dX5_tally_71 : decode cX5_tally 71 = .ok (.iastore, 1) := by decide +kernel
theorem dX5_tally_72 : decode cX5_tally 72 = .ok (.iinc 5 1, 3) := by decide +kernel
theorem dX5_tally_75 : decode cX5_tally 75 = .ok (.goto (-29), 3) := by decide +kernel
theorem dX5_tally_78 : decode cX5_tally 78 = .ok (.iconst 0, 1) := by decide +kernel
theorem dX5_tally_79 : decode cX5_tally 79 = .ok (.istore 5, 2) := by decide +kernel
theorem dX5_tally_81 : decode cX5_tally 81 = .ok (.iload 5, 2) := by decide +kernel
theorem dX5_tally_83 : decode cX5_tally 83 = .ok (.iload 4, 2) := by decide +kernel
theorem dX5_tally_85 : decode cX5_tally 85 = .ok (.if_icmp .ge 60, 3) := by decide +kernel
theorem dX5_tally_88 : decode cX5_tally 88 = .ok (.iload 5, 2) := by decide +kernel
theorem dX5_tally_90 : decode cX5_tally 90 = .ok (.istore 6, 2) := by decide +kernel
theorem dX5_tally_92 : decode cX5_tally 92 = .ok (.iconst 0, 1) := by decide +kernel
theorem dX5_tally_93 : decode cX5_tally 93 = .ok (.istore 7, 2) := by decide +kernel
theorem dX5_tally_95 : decode cX5_tally 95 = .ok (.iconst 0, 1) := by decide +kernel
theorem dX5_tally_96 : decode cX5_tally 96 = .ok (.istore 8, 2) := by decide +kernel
theorem dX5_tally_98 : decode cX5_tally 98 = .ok (.iload 8, 2) := by decide +kernel
theorem dX5_tally_100 : decode cX5_tally 100 = .ok (.iload_n 2, 1) := by decide +kernel
theorem dX5_tally_101 : decode cX5_tally 101 = .ok (.if_icmp .ge 27, 3) := by decide +kernel
theorem dX5_tally_104 : decode cX5_tally 104 = .ok (.iload 7, 2) := by decide +kernel
theorem dX5_tally_106 : decode cX5_tally 106 = .ok (.aload_n 0, 1) := by decide +kernel
theorem dX5_tally_107 : decode cX5_tally 107 = .ok (.getfield 25, 3) := by decide +kernel
theorem dX5_tally_110 : decode cX5_tally 110 = .ok (.iload 6, 2) := by decide +kernel
theorem dX5_tally_112 : decode cX5_tally 112 = .ok (.iaload, 1) := by decide +kernel
theorem dX5_tally_113 : decode cX5_tally 113 = .ok (.iadd, 1) := by decide +kernel
theorem dX5_tally_114 : decode cX5_tally 114 = .ok (.istore 7, 2) := by decide +kernel
theorem dX5_tally_116 : decode cX5_tally 116 = .ok (.aload_n 3, 1) := by decide +kernel
theorem dX5_tally_117 : decode cX5_tally 117 = .ok (.iload 6, 2) := by decide +kernel
theorem dX5_tally_119 : decode cX5_tally 119 = .ok (.iaload, 1) := by decide +kernel
theorem dX5_tally_120 : decode cX5_tally 120 = .ok (.istore 6, 2) := by decide +kernel
theorem dX5_tally_122 : decode cX5_tally 122 = .ok (.iinc 8 1, 3) := by decide +kernel
theorem dX5_tally_125 : decode cX5_tally 125 = .ok (.goto (-27), 3) := by decide +kernel
theorem dX5_tally_128 : decode cX5_tally 128 = .ok (.aload_n 0, 1) := by decide +kernel
theorem dX5_tally_129 : decode cX5_tally 129 = .ok (.getfield 31, 3) := by decide +kernel
theorem dX5_tally_132 : decode cX5_tally 132 = .ok (.iload 7, 2) := by decide +kernel
theorem dX5_tally_134 : decode cX5_tally 134 = .ok (.dup2, 1) := by decide +kernel
theorem dX5_tally_135 : decode cX5_tally 135 = .ok (.iaload, 1) := by decide +kernel
theorem dX5_tally_136 : decode cX5_tally 136 = .ok (.iconst 1, 1) := by decide +kernel
theorem dX5_tally_137 : decode cX5_tally 137 = .ok (.iadd, 1) := by decide +kernel
theorem dX5_tally_138 : decode cX5_tally 138 = .ok (.iastore, 1) := by decide +kernel
theorem dX5_tally_139 : decode cX5_tally 139 = .ok (.iinc 5 1, 3) := by decide +kernel
theorem dX5_tally_142 : decode cX5_tally 142 = .ok (.goto (-61), 3) := by decide +kernel
theorem dX5_tally_145 : decode cX5_tally 145 = .ok (.return_, 1) := by decide +kernel
theorem dX7_size_0 : decode cX7_size 0 = .ok (.aload_n 0, 1) := by decide +kernel
theorem dX7_size_1 : decode cX7_size 1 = .ok (.getfield 29, 3) := by decide +kernel
theorem dX7_size_4 : decode cX7_size 4 = .ok (.ireturn, 1) := by decide +kernel
theorem dX7_dresses_0 : decode cX7_dresses 0 = .ok (.iconst 1, 1) := by decide +kernel
theorem dX7_dresses_1 : decode cX7_dresses 1 = .ok (.aload_n 0, 1) := by decide +kernel
theorem dX7_dresses_2 : decode cX7_dresses 2 = .ok (.getfield 29, 3) := by decide +kernel
theorem dX7_dresses_5 : decode cX7_dresses 5 = .ok (.ishl, 1) := by decide +kernel
theorem dX7_dresses_6 : decode cX7_dresses 6 = .ok (.ireturn, 1) := by decide +kernel
theorem dX7_version_0 : decode cX7_version 0 = .ok (.aload_n 0, 1) := by decide +kernel
theorem dX7_version_1 : decode cX7_version 1 = .ok (.getfield 36, 3) := by decide +kernel
theorem dX7_version_4 : decode cX7_version 4 = .ok (.ireturn, 1) := by decide +kernel
theorem dX7_has_0 : decode cX7_has 0 = .ok (.iload_n 1, 1) := by decide +kernel
theorem dX7_has_1 : decode cX7_has 1 = .ok (.ifCond .lt 15, 3) := by decide +kernel
theorem dX7_has_4 : decode cX7_has 4 = .ok (.iload_n 1, 1) := by decide +kernel
theorem dX7_has_5 : decode cX7_has 5 = .ok (.aload_n 0, 1) := by decide +kernel
theorem dX7_has_6 : decode cX7_has 6 = .ok (.getfield 29, 3) := by decide +kernel
theorem dX7_has_9 : decode cX7_has 9 = .ok (.if_icmp .ge 7, 3) := by decide +kernel
theorem dX7_has_12 : decode cX7_has 12 = .ok (.iconst 1, 1) := by decide +kernel
theorem dX7_has_13 : decode cX7_has 13 = .ok (.goto 4, 3) := by decide +kernel
theorem dX7_has_16 : decode cX7_has 16 = .ok (.iconst 0, 1) := by decide +kernel
theorem dX7_has_17 : decode cX7_has 17 = .ok (.ireturn, 1) := by decide +kernel
theorem dX7_isDress_0 : decode cX7_isDress 0 = .ok (.iload_n 1, 1) := by decide +kernel
theorem dX7_isDress_1 : decode cX7_isDress 1 = .ok (.ifCond .lt 15, 3) := by decide +kernel
theorem dX7_isDress_4 : decode cX7_isDress 4 = .ok (.iload_n 1, 1) := by decide +kernel
theorem dX7_isDress_5 : decode cX7_isDress 5 = .ok (.aload_n 0, 1) := by decide +kernel
theorem dX7_isDress_6 : decode cX7_isDress 6 = .ok (.invokevirtual 39, 3) := by decide +kernel
theorem dX7_isDress_9 : decode cX7_isDress 9 = .ok (.if_icmp .ge 7, 3) := by decide +kernel
theorem dX7_isDress_12 : decode cX7_isDress 12 = .ok (.iconst 1, 1) := by decide +kernel
theorem dX7_isDress_13 : decode cX7_isDress 13 = .ok (.goto 4, 3) := by decide +kernel
theorem dX7_isDress_16 : decode cX7_isDress 16 = .ok (.iconst 0, 1) := by decide +kernel
theorem dX7_isDress_17 : decode cX7_isDress 17 = .ok (.ireturn, 1) := by decide +kernel
theorem dX7_startAnew_0 : decode cX7_startAnew 0 = .ok (.aload_n 0, 1) := by decide +kernel
theorem dX7_startAnew_1 : decode cX7_startAnew 1 = .ok (.iload_n 1, 1) := by decide +kernel
theorem dX7_startAnew_2 : decode cX7_startAnew 2 = .ok (.putfield 29, 3) := by decide +kernel
theorem dX7_startAnew_5 : decode cX7_startAnew 5 = .ok (.iconst 0, 1) := by decide +kernel
theorem dX7_startAnew_6 : decode cX7_startAnew 6 = .ok (.istore_n 2, 1) := by decide +kernel
theorem dX7_startAnew_7 : decode cX7_startAnew 7 = .ok (.iload_n 2, 1) := by decide +kernel
theorem dX7_startAnew_8 : decode cX7_startAnew 8 = .ok (.bipush 10, 2) := by decide +kernel
theorem dX7_startAnew_10 : decode cX7_startAnew 10 = .ok (.if_icmp .ge 51, 3) := by decide +kernel
theorem dX7_startAnew_13 : decode cX7_startAnew 13 = .ok (.iconst 0, 1) := by decide +kernel
theorem dX7_startAnew_14 : decode cX7_startAnew 14 = .ok (.istore_n 3, 1) := by decide +kernel
theorem dX7_startAnew_15 : decode cX7_startAnew 15 = .ok (.iload_n 3, 1) := by decide +kernel
theorem dX7_startAnew_16 : decode cX7_startAnew 16 = .ok (.bipush 10, 2) := by decide +kernel
theorem dX7_startAnew_18 : decode cX7_startAnew 18 = .ok (.if_icmp .ge 18, 3) := by decide +kernel
theorem dX7_startAnew_21 : decode cX7_startAnew 21 = .ok (.aload_n 0, 1) := by decide +kernel
theorem dX7_startAnew_22 : decode cX7_startAnew 22 = .ok (.getfield 11, 3) := by decide +kernel
theorem dX7_startAnew_25 : decode cX7_startAnew 25 = .ok (.iload_n 2, 1) := by decide +kernel
theorem dX7_startAnew_26 : decode cX7_startAnew 26 = .ok (.aaload, 1) := by decide +kernel
theorem dX7_startAnew_27 : decode cX7_startAnew 27 = .ok (.iload_n 3, 1) := by decide +kernel
theorem dX7_startAnew_28 : decode cX7_startAnew 28 = .ok (.iconst 0, 1) := by decide +kernel
theorem dX7_startAnew_29 : decode cX7_startAnew 29 = .ok (.iastore, 1) := by decide +kernel
theorem dX7_startAnew_30 : decode cX7_startAnew 30 = .ok (.iinc 3 1, 3) := by decide +kernel
theorem dX7_startAnew_33 : decode cX7_startAnew 33 = .ok (.goto (-18), 3) := by decide +kernel
theorem dX7_startAnew_36 : decode cX7_startAnew 36 = .ok (.aload_n 0, 1) := by decide +kernel
theorem dX7_startAnew_37 : decode cX7_startAnew 37 = .ok (.getfield 16, 3) := by decide +kernel
theorem dX7_startAnew_40 : decode cX7_startAnew 40 = .ok (.iload_n 2, 1) := by decide +kernel
theorem dX7_startAnew_41 : decode cX7_startAnew 41 = .ok (.iconst 0, 1) := by decide +kernel
theorem dX7_startAnew_42 : decode cX7_startAnew 42 = .ok (.iastore, 1) := by decide +kernel
theorem dX7_startAnew_43 : decode cX7_startAnew 43 = .ok (.aload_n 0, 1) := by decide +kernel
theorem dX7_startAnew_44 : decode cX7_startAnew 44 = .ok (.getfield 20, 3) := by decide +kernel
theorem dX7_startAnew_47 : decode cX7_startAnew 47 = .ok (.iload_n 2, 1) := by decide +kernel
theorem dX7_startAnew_48 : decode cX7_startAnew 48 = .ok (.iconst 0, 1) := by decide +kernel
theorem dX7_startAnew_49 : decode cX7_startAnew 49 = .ok (.iastore, 1) := by decide +kernel
theorem dX7_startAnew_50 : decode cX7_startAnew 50 = .ok (.aload_n 0, 1) := by decide +kernel
theorem dX7_startAnew_51 : decode cX7_startAnew 51 = .ok (.iload_n 2, 1) := by decide +kernel
theorem dX7_startAnew_52 : decode cX7_startAnew 52 = .ok (.invokevirtual 43, 3) := by decide +kernel
theorem dX7_startAnew_55 : decode cX7_startAnew 55 = .ok (.iinc 2 1, 3) := by decide +kernel
theorem dX7_startAnew_58 : decode cX7_startAnew 58 = .ok (.goto (-51), 3) := by decide +kernel
theorem dX7_startAnew_61 : decode cX7_startAnew 61 = .ok (.iconst 0, 1) := by decide +kernel
theorem dX7_startAnew_62 : decode cX7_startAnew 62 = .ok (.istore_n 2, 1) := by decide +kernel
theorem dX7_startAnew_63 : decode cX7_startAnew 63 = .ok (.iload_n 2, 1) := by decide +kernel
theorem dX7_startAnew_64 : decode cX7_startAnew 64 = .ok (.sipush 1024, 3) := by decide +kernel
theorem dX7_startAnew_67 : decode cX7_startAnew 67 = .ok (.if_icmp .ge 16, 3) := by decide +kernel
theorem dX7_startAnew_70 : decode cX7_startAnew 70 = .ok (.aload_n 0, 1) := by decide +kernel
theorem dX7_startAnew_71 : decode cX7_startAnew 71 = .ok (.getfield 26, 3) := by decide +kernel
theorem dX7_startAnew_74 : decode cX7_startAnew 74 = .ok (.iload_n 2, 1) := by decide +kernel
theorem dX7_startAnew_75 : decode cX7_startAnew 75 = .ok (.iconst 0, 1) := by decide +kernel
theorem dX7_startAnew_76 : decode cX7_startAnew 76 = .ok (.iastore, 1) := by decide +kernel
theorem dX7_startAnew_77 : decode cX7_startAnew 77 = .ok (.iinc 2 1, 3) := by decide +kernel
theorem dX7_startAnew_80 : decode cX7_startAnew 80 = .ok (.goto (-17), 3) := by decide +kernel
theorem dX7_startAnew_83 : decode cX7_startAnew 83 = .ok (.return_, 1) := by decide +kernel
theorem dX7_weight_0 : decode cX7_weight 0 = .ok (.aload_n 0, 1) := by decide +kernel
theorem dX7_weight_1 : decode cX7_weight 1 = .ok (.getfield 11, 3) := by decide +kernel
theorem dX7_weight_4 : decode cX7_weight 4 = .ok (.iload_n 1, 1) := by decide +kernel
theorem dX7_weight_5 : decode cX7_weight 5 = .ok (.aaload, 1) := by decide +kernel
theorem dX7_weight_6 : decode cX7_weight 6 = .ok (.iload_n 2, 1) := by decide +kernel
theorem dX7_weight_7 : decode cX7_weight 7 = .ok (.iaload, 1) := by decide +kernel
theorem dX7_weight_8 : decode cX7_weight 8 = .ok (.ireturn, 1) := by decide +kernel
theorem dX7_setWeight_0 : decode cX7_setWeight 0 = .ok (.aload_n 0, 1) := by decide +kernel
theorem dX7_setWeight_1 : decode cX7_setWeight 1 = .ok (.getfield 11, 3) := by decide +kernel
theorem dX7_setWeight_4 : decode cX7_setWeight 4 = .ok (.iload_n 1, 1) := by decide +kernel
theorem dX7_setWeight_5 : decode cX7_setWeight 5 = .ok (.aaload, 1) := by decide +kernel
theorem dX7_setWeight_6 : decode cX7_setWeight 6 = .ok (.iload_n 2, 1) := by decide +kernel
theorem dX7_setWeight_7 : decode cX7_setWeight 7 = .ok (.iload_n 3, 1) := by decide +kernel
theorem dX7_setWeight_8 : decode cX7_setWeight 8 = .ok (.iastore, 1) := by decide +kernel
theorem dX7_setWeight_9 : decode cX7_setWeight 9 = .ok (.aload_n 0, 1) := by decide +kernel
theorem dX7_setWeight_10 : decode cX7_setWeight 10 = .ok (.iload_n 1, 1) := by decide +kernel
theorem dX7_setWeight_11 : decode cX7_setWeight 11 = .ok (.invokevirtual 43, 3) := by decide +kernel
theorem dX7_setWeight_14 : decode cX7_setWeight 14 = .ok (.return_, 1) := by decide +kernel
theorem dX7_kind_0 : decode cX7_kind 0 = .ok (.aload_n 0, 1) := by decide +kernel
theorem dX7_kind_1 : decode cX7_kind 1 = .ok (.getfield 16, 3) := by decide +kernel
theorem dX7_kind_4 : decode cX7_kind 4 = .ok (.iload_n 1, 1) := by decide +kernel
theorem dX7_kind_5 : decode cX7_kind 5 = .ok (.iaload, 1) := by decide +kernel
theorem dX7_kind_6 : decode cX7_kind 6 = .ok (.ireturn, 1) := by decide +kernel
theorem dX7_setKind_0 : decode cX7_setKind 0 = .ok (.aload_n 0, 1) := by decide +kernel
theorem dX7_setKind_1 : decode cX7_setKind 1 = .ok (.getfield 16, 3) := by decide +kernel
theorem dX7_setKind_4 : decode cX7_setKind 4 = .ok (.iload_n 1, 1) := by decide +kernel
theorem dX7_setKind_5 : decode cX7_setKind 5 = .ok (.iload_n 2, 1) := by decide +kernel
theorem dX7_setKind_6 : decode cX7_setKind 6 = .ok (.iastore, 1) := by decide +kernel
theorem dX7_setKind_7 : decode cX7_setKind 7 = .ok (.aload_n 0, 1) := by decide +kernel
theorem dX7_setKind_8 : decode cX7_setKind 8 = .ok (.iload_n 1, 1) := by decide +kernel
theorem dX7_setKind_9 : decode cX7_setKind 9 = .ok (.invokevirtual 43, 3) := by decide +kernel
theorem dX7_setKind_12 : decode cX7_setKind 12 = .ok (.return_, 1) := by decide +kernel
theorem dX7_lean_0 : decode cX7_lean 0 = .ok (.aload_n 0, 1) := by decide +kernel
theorem dX7_lean_1 : decode cX7_lean 1 = .ok (.getfield 20, 3) := by decide +kernel
theorem dX7_lean_4 : decode cX7_lean 4 = .ok (.iload_n 1, 1) := by decide +kernel
theorem dX7_lean_5 : decode cX7_lean 5 = .ok (.iaload, 1) := by decide +kernel
theorem dX7_lean_6 : decode cX7_lean 6 = .ok (.ireturn, 1) := by decide +kernel
theorem dX7_setLean_0 : decode cX7_setLean 0 = .ok (.aload_n 0, 1) := by decide +kernel
theorem dX7_setLean_1 : decode cX7_setLean 1 = .ok (.getfield 20, 3) := by decide +kernel
theorem dX7_setLean_4 : decode cX7_setLean 4 = .ok (.iload_n 1, 1) := by decide +kernel
theorem dX7_setLean_5 : decode cX7_setLean 5 = .ok (.iload_n 2, 1) := by decide +kernel
theorem dX7_setLean_6 : decode cX7_setLean 6 = .ok (.iastore, 1) := by decide +kernel
theorem dX7_setLean_7 : decode cX7_setLean 7 = .ok (.aload_n 0, 1) := by decide +kernel
theorem dX7_setLean_8 : decode cX7_setLean 8 = .ok (.iload_n 1, 1) := by decide +kernel
theorem dX7_setLean_9 : decode cX7_setLean 9 = .ok (.invokevirtual 43, 3) := by decide +kernel
theorem dX7_setLean_12 : decode cX7_setLean 12 = .ok (.return_, 1) := by decide +kernel
theorem dX7_changed_0 : decode cX7_changed 0 = .ok (.aload_n 0, 1) := by decide +kernel
theorem dX7_changed_1 : decode cX7_changed 1 = .ok (.dup, 1) := by decide +kernel
theorem dX7_changed_2 : decode cX7_changed 2 = .ok (.getfield 33, 3) := by decide +kernel
theorem dX7_changed_5 : decode cX7_changed 5 = .ok (.iconst 1, 1) := by decide +kernel
theorem dX7_changed_6 : decode cX7_changed 6 = .ok (.iload_n 1, 1) := by decide +kernel
theorem dX7_changed_7 : decode cX7_changed 7 = .ok (.ishl, 1) := by decide +kernel
theorem dX7_changed_8 : decode cX7_changed 8 = .ok (.ior, 1) := by decide +kernel
theorem dX7_changed_9 : decode cX7_changed 9 = .ok (.putfield 33, 3) := by decide +kernel
theorem dX7_changed_12 : decode cX7_changed 12 = .ok (.aload_n 0, 1) := by decide +kernel
theorem dX7_changed_13 : decode cX7_changed 13 = .ok (.dup, 1) := by decide +kernel
theorem dX7_changed_14 : decode cX7_changed 14 = .ok (.getfield 36, 3) := by decide +kernel
theorem dX7_changed_17 : decode cX7_changed 17 = .ok (.iconst 1, 1) := by decide +kernel
theorem dX7_changed_18 : decode cX7_changed 18 = .ok (.iadd, 1) := by decide +kernel
theorem dX7_changed_19 : decode cX7_changed 19 = .ok (.putfield 36, 3) := by decide +kernel
theorem dX7_changed_22 : decode cX7_changed 22 = .ok (.return_, 1) := by decide +kernel
theorem dX7_seenBy_0 : decode cX7_seenBy 0 = .ok (.iconst 0, 1) := by decide +kernel
theorem dX7_seenBy_1 : decode cX7_seenBy 1 = .ok (.istore_n 2, 1) := by decide +kernel
theorem dX7_seenBy_2 : decode cX7_seenBy 2 = .ok (.iconst 0, 1) := by decide +kernel
theorem dX7_seenBy_3 : decode cX7_seenBy 3 = .ok (.istore_n 3, 1) := by decide +kernel
theorem dX7_seenBy_4 : decode cX7_seenBy 4 = .ok (.iload_n 3, 1) := by decide +kernel
theorem dX7_seenBy_5 : decode cX7_seenBy 5 = .ok (.aload_n 0, 1) := by decide +kernel
theorem dX7_seenBy_6 : decode cX7_seenBy 6 = .ok (.getfield 29, 3) := by decide +kernel
theorem dX7_seenBy_9 : decode cX7_seenBy 9 = .ok (.if_icmp .ge 23, 3) := by decide +kernel
theorem dX7_seenBy_12 : decode cX7_seenBy 12 = .ok (.aload_n 0, 1) := by decide +kernel
theorem dX7_seenBy_13 : decode cX7_seenBy 13 = .ok (.getfield 11, 3) := by decide +kernel
theorem dX7_seenBy_16 : decode cX7_seenBy 16 = .ok (.iload_n 1, 1) := by decide +kernel
theorem dX7_seenBy_17 : decode cX7_seenBy 17 = .ok (.aaload, 1) := by decide +kernel
theorem dX7_seenBy_18 : decode cX7_seenBy 18 = .ok (.iload_n 3, 1) := by decide +kernel
theorem dX7_seenBy_19 : decode cX7_seenBy 19 = .ok (.iaload, 1) := by decide +kernel
theorem dX7_seenBy_20 : decode cX7_seenBy 20 = .ok (.ifCond .le 6, 3) := by decide +kernel
theorem dX7_seenBy_23 : decode cX7_seenBy 23 = .ok (.iinc 2 1, 3) := by decide +kernel
theorem dX7_seenBy_26 : decode cX7_seenBy 26 = .ok (.iinc 3 1, 3) := by decide +kernel
theorem dX7_seenBy_29 : decode cX7_seenBy 29 = .ok (.goto (-25), 3) := by decide +kernel
theorem dX7_seenBy_32 : decode cX7_seenBy 32 = .ok (.iload_n 2, 1) := by decide +kernel
theorem dX7_seenBy_33 : decode cX7_seenBy 33 = .ok (.ireturn, 1) := by decide +kernel
theorem dX7_seeing_0 : decode cX7_seeing 0 = .ok (.iconst 0, 1) := by decide +kernel
theorem dX7_seeing_1 : decode cX7_seeing 1 = .ok (.istore_n 2, 1) := by decide +kernel
theorem dX7_seeing_2 : decode cX7_seeing 2 = .ok (.iconst 0, 1) := by decide +kernel
theorem dX7_seeing_3 : decode cX7_seeing 3 = .ok (.istore_n 3, 1) := by decide +kernel
theorem dX7_seeing_4 : decode cX7_seeing 4 = .ok (.iload_n 3, 1) := by decide +kernel
theorem dX7_seeing_5 : decode cX7_seeing 5 = .ok (.aload_n 0, 1) := by decide +kernel
theorem dX7_seeing_6 : decode cX7_seeing 6 = .ok (.getfield 29, 3) := by decide +kernel
theorem dX7_seeing_9 : decode cX7_seeing 9 = .ok (.if_icmp .ge 23, 3) := by decide +kernel
theorem dX7_seeing_12 : decode cX7_seeing 12 = .ok (.aload_n 0, 1) := by decide +kernel
theorem dX7_seeing_13 : decode cX7_seeing 13 = .ok (.getfield 11, 3) := by decide +kernel
theorem dX7_seeing_16 : decode cX7_seeing 16 = .ok (.iload_n 3, 1) := by decide +kernel
theorem dX7_seeing_17 : decode cX7_seeing 17 = .ok (.aaload, 1) := by decide +kernel
theorem dX7_seeing_18 : decode cX7_seeing 18 = .ok (.iload_n 1, 1) := by decide +kernel
theorem dX7_seeing_19 : decode cX7_seeing 19 = .ok (.iaload, 1) := by decide +kernel
theorem dX7_seeing_20 : decode cX7_seeing 20 = .ok (.ifCond .le 6, 3) := by decide +kernel
theorem dX7_seeing_23 : decode cX7_seeing 23 = .ok (.iinc 2 1, 3) := by decide +kernel
theorem dX7_seeing_26 : decode cX7_seeing 26 = .ok (.iinc 3 1, 3) := by decide +kernel
theorem dX7_seeing_29 : decode cX7_seeing 29 = .ok (.goto (-25), 3) := by decide +kernel
theorem dX7_seeing_32 : decode cX7_seeing 32 = .ok (.iload_n 2, 1) := by decide +kernel
theorem dX7_seeing_33 : decode cX7_seeing 33 = .ok (.ireturn, 1) := by decide +kernel
theorem dX7_ties_0 : decode cX7_ties 0 = .ok (.iconst 0, 1) := by decide +kernel
theorem dX7_ties_1 : decode cX7_ties 1 = .ok (.istore_n 1, 1) := by decide +kernel
theorem dX7_ties_2 : decode cX7_ties 2 = .ok (.iconst 0, 1) := by decide +kernel
theorem dX7_ties_3 : decode cX7_ties 3 = .ok (.istore_n 2, 1) := by decide +kernel
theorem dX7_ties_4 : decode cX7_ties 4 = .ok (.iload_n 2, 1) := by decide +kernel
theorem dX7_ties_5 : decode cX7_ties 5 = .ok (.aload_n 0, 1) := by decide +kernel
theorem dX7_ties_6 : decode cX7_ties 6 = .ok (.getfield 29, 3) := by decide +kernel
theorem dX7_ties_9 : decode cX7_ties 9 = .ok (.if_icmp .ge 17, 3) := by decide +kernel
theorem dX7_ties_12 : decode cX7_ties 12 = .ok (.iload_n 1, 1) := by decide +kernel
theorem dX7_ties_13 : decode cX7_ties 13 = .ok (.aload_n 0, 1) := by decide +kernel
theorem dX7_ties_14 : decode cX7_ties 14 = .ok (.iload_n 2, 1) := by decide +kernel
theorem dX7_ties_15 : decode cX7_ties 15 = .ok (.invokevirtual 47, 3) := by decide +kernel
theorem dX7_ties_18 : decode cX7_ties 18 = .ok (.iadd, 1) := by decide +kernel
theorem dX7_ties_19 : decode cX7_ties 19 = .ok (.istore_n 1, 1) := by decide +kernel
theorem dX7_ties_20 : decode cX7_ties 20 = .ok (.iinc 2 1, 3) := by decide +kernel
theorem dX7_ties_23 : decode cX7_ties 23 = .ok (.goto (-19), 3) := by decide +kernel
theorem dX7_ties_26 : decode cX7_ties 26 = .ok (.iload_n 1, 1) := by decide +kernel
theorem dX7_ties_27 : decode cX7_ties 27 = .ok (.ireturn, 1) := by decide +kernel
theorem dX7_countKind_0 : decode cX7_countKind 0 = .ok (.iconst 0, 1) := by decide +kernel
theorem dX7_countKind_1 : decode cX7_countKind 1 = .ok (.istore_n 2, 1) := by decide +kernel
theorem dX7_countKind_2 : decode cX7_countKind 2 = .ok (.iconst 0, 1) := by decide +kernel
theorem dX7_countKind_3 : decode cX7_countKind 3 = .ok (.istore_n 3, 1) := by decide +kernel
theorem dX7_countKind_4 : decode cX7_countKind 4 = .ok (.iload_n 3, 1) := by decide +kernel
theorem dX7_countKind_5 : decode cX7_countKind 5 = .ok (.aload_n 0, 1) := by decide +kernel
theorem dX7_countKind_6 : decode cX7_countKind 6 = .ok (.getfield 29, 3) := by decide +kernel
theorem dX7_countKind_9 : decode cX7_countKind 9 = .ok (.if_icmp .ge 22, 3) := by decide +kernel
theorem dX7_countKind_12 : decode cX7_countKind 12 = .ok (.aload_n 0, 1) := by decide +kernel
theorem dX7_countKind_13 : decode cX7_countKind 13 = .ok (.getfield 16, 3) := by decide +kernel
theorem dX7_countKind_16 : decode cX7_countKind 16 = .ok (.iload_n 3, 1) := by decide +kernel
theorem dX7_countKind_17 : decode cX7_countKind 17 = .ok (.iaload, 1) := by decide +kernel
theorem dX7_countKind_18 : decode cX7_countKind 18 = .ok (.iload_n 1, 1) := by decide +kernel
theorem dX7_countKind_19 : decode cX7_countKind 19 = .ok (.if_icmp .ne 6, 3) := by decide +kernel
theorem dX7_countKind_22 : decode cX7_countKind 22 = .ok (.iinc 2 1, 3) := by decide +kernel
theorem dX7_countKind_25 : decode cX7_countKind 25 = .ok (.iinc 3 1, 3) := by decide +kernel
theorem dX7_countKind_28 : decode cX7_countKind 28 = .ok (.goto (-24), 3) := by decide +kernel
theorem dX7_countKind_31 : decode cX7_countKind 31 = .ok (.iload_n 2, 1) := by decide +kernel
theorem dX7_countKind_32 : decode cX7_countKind 32 = .ok (.ireturn, 1) := by decide +kernel
theorem dX7_sumOf_0 : decode cX7_sumOf 0 = .ok (.aload_n 0, 1) := by decide +kernel
theorem dX7_sumOf_1 : decode cX7_sumOf 1 = .ok (.getfield 20, 3) := by decide +kernel
theorem dX7_sumOf_4 : decode cX7_sumOf 4 = .ok (.iload_n 1, 1) := by decide +kernel
theorem dX7_sumOf_5 : decode cX7_sumOf 5 = .ok (.iaload, 1) := by decide +kernel
theorem dX7_sumOf_6 : decode cX7_sumOf 6 = .ok (.istore_n 3, 1) := by decide +kernel
theorem dX7_sumOf_7 : decode cX7_sumOf 7 = .ok (.iconst 0, 1) := by decide +kernel
theorem dX7_sumOf_8 : decode cX7_sumOf 8 = .ok (.istore 4, 2) := by decide +kernel
theorem dX7_sumOf_10 : decode cX7_sumOf 10 = .ok (.iload 4, 2) := by decide +kernel
theorem dX7_sumOf_12 : decode cX7_sumOf 12 = .ok (.aload_n 0, 1) := by decide +kernel
theorem dX7_sumOf_13 : decode cX7_sumOf 13 = .ok (.getfield 29, 3) := by decide +kernel
theorem dX7_sumOf_16 : decode cX7_sumOf 16 = .ok (.if_icmp .ge 41, 3) := by decide +kernel
theorem dX7_sumOf_19 : decode cX7_sumOf 19 = .ok (.aload_n 0, 1) := by decide +kernel
theorem dX7_sumOf_20 : decode cX7_sumOf 20 = .ok (.getfield 11, 3) := by decide +kernel
theorem dX7_sumOf_23 : decode cX7_sumOf 23 = .ok (.iload_n 1, 1) := by decide +kernel
theorem dX7_sumOf_24 : decode cX7_sumOf 24 = .ok (.aaload, 1) := by decide +kernel
theorem dX7_sumOf_25 : decode cX7_sumOf 25 = .ok (.iload 4, 2) := by decide +kernel
theorem dX7_sumOf_27 : decode cX7_sumOf 27 = .ok (.iaload, 1) := by decide +kernel
theorem dX7_sumOf_28 : decode cX7_sumOf 28 = .ok (.istore 5, 2) := by decide +kernel
theorem dX7_sumOf_30 : decode cX7_sumOf 30 = .ok (.iload_n 3, 1) := by decide +kernel
theorem dX7_sumOf_31 : decode cX7_sumOf 31 = .ok (.iload_n 2, 1) := by decide +kernel
theorem dX7_sumOf_32 : decode cX7_sumOf 32 = .ok (.iload 4, 2) := by decide +kernel
theorem dX7_sumOf_34 : decode cX7_sumOf 34 = .ok (.invokestatic 51, 3) := by decide +kernel
theorem dX7_sumOf_37 : decode cX7_sumOf 37 = .ok (.iconst 1, 1) := by decide +kernel
theorem dX7_sumOf_38 : decode cX7_sumOf 38 = .ok (.if_icmp .ne 8, 3) := by decide +kernel
theorem dX7_sumOf_41 : decode cX7_sumOf 41 = .ok (.iload 5, 2) := by decide +kernel
theorem dX7_sumOf_43 : decode cX7_sumOf 43 = .ok (.goto 6, 3) := by decide +kernel
theorem dX7_sumOf_46 : decode cX7_sumOf 46 = .ok (.iload 5, 2) := by decide +kernel
theorem dX7_sumOf_48 : decode cX7_sumOf 48 = .ok (.ineg, 1) := by decide +kernel
theorem dX7_sumOf_49 : decode cX7_sumOf 49 = .ok (.iadd, 1) := by decide +kernel
theorem dX7_sumOf_50 : decode cX7_sumOf 50 = .ok (.istore_n 3, 1) := by decide +kernel
theorem dX7_sumOf_51 : decode cX7_sumOf 51 = .ok (.iinc 4 1, 3) := by decide +kernel
theorem dX7_sumOf_54 : decode cX7_sumOf 54 = .ok (.goto (-44), 3) := by decide +kernel
theorem dX7_sumOf_57 : decode cX7_sumOf 57 = .ok (.iload_n 3, 1) := by decide +kernel
theorem dX7_sumOf_58 : decode cX7_sumOf 58 = .ok (.ireturn, 1) := by decide +kernel
theorem dX7_worn_0 : decode cX7_worn 0 = .ok (.iload_n 0, 1) := by decide +kernel
theorem dX7_worn_1 : decode cX7_worn 1 = .ok (.iload_n 1, 1) := by decide +kernel
theorem dX7_worn_2 : decode cX7_worn 2 = .ok (.ishr, 1) := by decide +kernel
theorem dX7_worn_3 : decode cX7_worn 3 = .ok (.iconst 1, 1) := by decide +kernel
theorem dX7_worn_4 : decode cX7_worn 4 = .ok (.iand, 1) := by decide +kernel
theorem dX7_worn_5 : decode cX7_worn 5 = .ok (.ireturn, 1) := by decide +kernel
theorem dX7_nextOf_0 : decode cX7_nextOf 0 = .ok (.iload_n 0, 1) := by decide +kernel
theorem dX7_nextOf_1 : decode cX7_nextOf 1 = .ok (.iconst 3, 1) := by decide +kernel
theorem dX7_nextOf_2 : decode cX7_nextOf 2 = .ok (.if_icmp .ne 7, 3) := by decide +kernel
theorem dX7_nextOf_5 : decode cX7_nextOf 5 = .ok (.iconst 1, 1) := by decide +kernel
theorem dX7_nextOf_6 : decode cX7_nextOf 6 = .ok (.iload_n 2, 1) := by decide +kernel
theorem dX7_nextOf_7 : decode cX7_nextOf 7 = .ok (.isub, 1) := by decide +kernel
theorem dX7_nextOf_8 : decode cX7_nextOf 8 = .ok (.ireturn, 1) := by decide +kernel
theorem dX7_nextOf_9 : decode cX7_nextOf 9 = .ok (.iload_n 0, 1) := by decide +kernel
theorem dX7_nextOf_10 : decode cX7_nextOf 10 = .ok (.iconst 2, 1) := by decide +kernel
theorem dX7_nextOf_11 : decode cX7_nextOf 11 = .ok (.if_icmp .eq 7, 3) := by decide +kernel
theorem dX7_nextOf_14 : decode cX7_nextOf 14 = .ok (.iload_n 1, 1) := by decide +kernel
theorem dX7_nextOf_15 : decode cX7_nextOf 15 = .ok (.ifCond .ne 5, 3) := by decide +kernel
theorem dX7_nextOf_18 : decode cX7_nextOf 18 = .ok (.iload_n 2, 1) := by decide +kernel
theorem dX7_nextOf_19 : decode cX7_nextOf 19 = .ok (.ireturn, 1) := by decide +kernel
theorem dX7_nextOf_20 : decode cX7_nextOf 20 = .ok (.iload_n 1, 1) := by decide +kernel
theorem dX7_nextOf_21 : decode cX7_nextOf 21 = .ok (.ifCond .le 7, 3) := by decide +kernel
theorem dX7_nextOf_24 : decode cX7_nextOf 24 = .ok (.iconst 1, 1) := by decide +kernel
theorem dX7_nextOf_25 : decode cX7_nextOf 25 = .ok (.goto 4, 3) := by decide +kernel
theorem dX7_nextOf_28 : decode cX7_nextOf 28 = .ok (.iconst 0, 1) := by decide +kernel
theorem dX7_nextOf_29 : decode cX7_nextOf 29 = .ok (.iload_n 0, 1) := by decide +kernel
theorem dX7_nextOf_30 : decode cX7_nextOf 30 = .ok (.ifCond .ne 7, 3) := by decide +kernel
theorem dX7_nextOf_33 : decode cX7_nextOf 33 = .ok (.iconst 1, 1) := by decide +kernel
theorem dX7_nextOf_34 : decode cX7_nextOf 34 = .ok (.goto 4, 3) := by decide +kernel
theorem dX7_nextOf_37 : decode cX7_nextOf 37 = .ok (.iconst 0, 1) := by decide +kernel
theorem dX7_nextOf_38 : decode cX7_nextOf 38 = .ok (.if_icmp .ne 7, 3) := by decide +kernel
theorem dX7_nextOf_41 : decode cX7_nextOf 41 = .ok (.iconst 1, 1) := by decide +kernel
theorem dX7_nextOf_42 : decode cX7_nextOf 42 = .ok (.goto 4, 3) := by decide +kernel
theorem dX7_nextOf_45 : decode cX7_nextOf 45 = .ok (.iconst 0, 1) := by decide +kernel
theorem dX7_nextOf_46 : decode cX7_nextOf 46 = .ok (.ireturn, 1) := by decide +kernel
theorem dX7_isCalm_0 : decode cX7_isCalm 0 = .ok (.iload_n 2, 1) := by decide +kernel
theorem dX7_isCalm_1 : decode cX7_isCalm 1 = .ok (.iload_n 1, 1) := by decide +kernel
theorem dX7_isCalm_2 : decode cX7_isCalm 2 = .ok (.invokestatic 51, 3) := by decide +kernel
theorem dX7_isCalm_5 : decode cX7_isCalm 5 = .ok (.istore_n 3, 1) := by decide +kernel
theorem dX7_isCalm_6 : decode cX7_isCalm 6 = .ok (.aload_n 0, 1) := by decide +kernel
theorem dX7_isCalm_7 : decode cX7_isCalm 7 = .ok (.getfield 16, 3) := by decide +kernel
theorem dX7_isCalm_10 : decode cX7_isCalm 10 = .ok (.iload_n 1, 1) := by decide +kernel
theorem dX7_isCalm_11 : decode cX7_isCalm 11 = .ok (.iaload, 1) := by decide +kernel
theorem dX7_isCalm_12 : decode cX7_isCalm 12 = .ok (.aload_n 0, 1) := by decide +kernel
theorem dX7_isCalm_13 : decode cX7_isCalm 13 = .ok (.iload_n 1, 1) := by decide +kernel
theorem dX7_isCalm_14 : decode cX7_isCalm 14 = .ok (.iload_n 2, 1) := by decide +kernel
theorem dX7_isCalm_15 : decode cX7_isCalm 15 = .ok (.invokevirtual 55, 3) := by decide +kernel
theorem dX7_isCalm_18 : decode cX7_isCalm 18 = .ok (.iload_n 3, 1) := by decide +kernel
theorem dX7_isCalm_19 : decode cX7_isCalm 19 = .ok (.invokestatic 58, 3) := by decide +kernel
theorem dX7_isCalm_22 : decode cX7_isCalm 22 = .ok (.iload_n 3, 1) := by decide +kernel
theorem dX7_isCalm_23 : decode cX7_isCalm 23 = .ok (.if_icmp .ne 7, 3) := by decide +kernel
theorem dX7_isCalm_26 : decode cX7_isCalm 26 = .ok (.iconst 1, 1) := by decide +kernel
theorem dX7_isCalm_27 : decode cX7_isCalm 27 = .ok (.goto 4, 3) := by decide +kernel
theorem dX7_isCalm_30 : decode cX7_isCalm 30 = .ok (.iconst 0, 1) := by decide +kernel
theorem dX7_isCalm_31 : decode cX7_isCalm 31 = .ok (.ireturn, 1) := by decide +kernel
theorem dX7_restlessIn_0 : decode cX7_restlessIn 0 = .ok (.iconst 0, 1) := by decide +kernel
theorem dX7_restlessIn_1 : decode cX7_restlessIn 1 = .ok (.istore_n 2, 1) := by decide +kernel
theorem dX7_restlessIn_2 : decode cX7_restlessIn 2 = .ok (.iconst 0, 1) := by decide +kernel
theorem dX7_restlessIn_3 : decode cX7_restlessIn 3 = .ok (.istore_n 3, 1) := by decide +kernel
theorem dX7_restlessIn_4 : decode cX7_restlessIn 4 = .ok (.iload_n 3, 1) := by decide +kernel
theorem dX7_restlessIn_5 : decode cX7_restlessIn 5 = .ok (.aload_n 0, 1) := by decide +kernel
theorem dX7_restlessIn_6 : decode cX7_restlessIn 6 = .ok (.getfield 29, 3) := by decide +kernel
theorem dX7_restlessIn_9 : decode cX7_restlessIn 9 = .ok (.if_icmp .ge 24, 3) := by decide +kernel
theorem dX7_restlessIn_12 : decode cX7_restlessIn 12 = .ok (.aload_n 0, 1) := by decide +kernel
theorem dX7_restlessIn_13 : decode cX7_restlessIn 13 = .ok (.iload_n 3, 1) := by decide +kernel
theorem dX7_restlessIn_14 : decode cX7_restlessIn 14 = .ok (.iload_n 1, 1) := by decide +kernel
theorem dX7_restlessIn_15 : decode cX7_restlessIn 15 = .ok (.invokevirtual 62, 3) := by decide +kernel
theorem dX7_restlessIn_18 : decode cX7_restlessIn 18 = .ok (.ifCond .ne 9, 3) := by decide +kernel
theorem dX7_restlessIn_21 : decode cX7_restlessIn 21 = .ok (.iload_n 2, 1) := by decide +kernel
theorem dX7_restlessIn_22 : decode cX7_restlessIn 22 = .ok (.iconst 1, 1) := by decide +kernel
theorem dX7_restlessIn_23 : decode cX7_restlessIn 23 = .ok (.iload_n 3, 1) := by decide +kernel
theorem dX7_restlessIn_24 : decode cX7_restlessIn 24 = .ok (.ishl, 1) := by decide +kernel
theorem dX7_restlessIn_25 : decode cX7_restlessIn 25 = .ok (.ior, 1) := by decide +kernel
theorem dX7_restlessIn_26 : decode cX7_restlessIn 26 = .ok (.istore_n 2, 1) := by decide +kernel
theorem dX7_restlessIn_27 : decode cX7_restlessIn 27 = .ok (.iinc 3 1, 3) := by decide +kernel
theorem dX7_restlessIn_30 : decode cX7_restlessIn 30 = .ok (.goto (-26), 3) := by decide +kernel
theorem dX7_restlessIn_33 : decode cX7_restlessIn 33 = .ok (.iload_n 2, 1) := by decide +kernel
theorem dX7_restlessIn_34 : decode cX7_restlessIn 34 = .ok (.ireturn, 1) := by decide +kernel
theorem dX7_restless_0 : decode cX7_restless 0 = .ok (.iconst 0, 1) := by decide +kernel
theorem dX7_restless_1 : decode cX7_restless 1 = .ok (.istore_n 1, 1) := by decide +kernel
theorem dX7_restless_2 : decode cX7_restless 2 = .ok (.iload_n 1, 1) := by decide +kernel
theorem dX7_restless_3 : decode cX7_restless 3 = .ok (.aload_n 0, 1) := by decide +kernel
theorem dX7_restless_4 : decode cX7_restless 4 = .ok (.getfield 29, 3) := by decide +kernel
theorem dX7_restless_7 : decode cX7_restless 7 = .ok (.if_icmp .ge 26, 3) := by decide +kernel
theorem dX7_restless_10 : decode cX7_restless 10 = .ok (.aload_n 0, 1) := by decide +kernel
theorem dX7_restless_11 : decode cX7_restless 11 = .ok (.getfield 33, 3) := by decide +kernel
theorem dX7_restless_14 : decode cX7_restless 14 = .ok (.iload_n 1, 1) := by decide +kernel
theorem dX7_restless_15 : decode cX7_restless 15 = .ok (.invokestatic 51, 3) := by decide +kernel
theorem dX7_restless_18 : decode cX7_restless 18 = .ok (.iconst 1, 1) := by decide +kernel
theorem dX7_restless_19 : decode cX7_restless 19 = .ok (.if_icmp .ne 8, 3) := by decide +kernel
theorem dX7_restless_22 : decode cX7_restless 22 = .ok (.aload_n 0, 1) := by decide +kernel
theorem dX7_restless_23 : decode cX7_restless 23 = .ok (.iload_n 1, 1) := by decide +kernel
theorem dX7_restless_24 : decode cX7_restless 24 = .ok (.invokevirtual 66, 3) := by decide +kernel
theorem dX7_restless_27 : decode cX7_restless 27 = .ok (.iinc 1 1, 3) := by decide +kernel
theorem dX7_restless_30 : decode cX7_restless 30 = .ok (.goto (-28), 3) := by decide +kernel
theorem dX7_restless_33 : decode cX7_restless 33 = .ok (.aload_n 0, 1) := by decide +kernel
theorem dX7_restless_34 : decode cX7_restless 34 = .ok (.iconst 0, 1) := by decide +kernel
theorem dX7_restless_35 : decode cX7_restless 35 = .ok (.putfield 33, 3) := by decide +kernel
theorem dX7_restless_38 : decode cX7_restless 38 = .ok (.aload_n 0, 1) := by decide +kernel
theorem dX7_restless_39 : decode cX7_restless 39 = .ok (.getfield 26, 3) := by decide +kernel
theorem dX7_restless_42 : decode cX7_restless 42 = .ok (.areturn, 1) := by decide +kernel
theorem dX7_renew_0 : decode cX7_renew 0 = .ok (.aload_n 0, 1) := by decide +kernel
theorem dX7_renew_1 : decode cX7_renew 1 = .ok (.iload_n 1, 1) := by decide +kernel
theorem dX7_renew_2 : decode cX7_renew 2 = .ok (.invokevirtual 69, 3) := by decide +kernel
theorem dX7_renew_5 : decode cX7_renew 5 = .ok (.aload_n 0, 1) := by decide +kernel
theorem dX7_renew_6 : decode cX7_renew 6 = .ok (.getfield 16, 3) := by decide +kernel
theorem dX7_renew_9 : decode cX7_renew 9 = .ok (.iload_n 1, 1) := by decide +kernel
theorem dX7_renew_10 : decode cX7_renew 10 = .ok (.iaload, 1) := by decide +kernel
theorem dX7_renew_11 : decode cX7_renew 11 = .ok (.istore_n 2, 1) := by decide +kernel
theorem dX7_renew_12 : decode cX7_renew 12 = .ok (.iconst 1, 1) := by decide +kernel
theorem dX7_renew_13 : decode cX7_renew 13 = .ok (.iload_n 1, 1) := by decide +kernel
theorem dX7_renew_14 : decode cX7_renew 14 = .ok (.ishl, 1) := by decide +kernel
theorem dX7_renew_15 : decode cX7_renew 15 = .ok (.istore_n 3, 1) := by decide +kernel
theorem dX7_renew_16 : decode cX7_renew 16 = .ok (.aload_n 0, 1) := by decide +kernel
theorem dX7_renew_17 : decode cX7_renew 17 = .ok (.invokevirtual 39, 3) := by decide +kernel
theorem dX7_renew_20 : decode cX7_renew 20 = .ok (.istore 4, 2) := by decide +kernel
theorem dX7_renew_22 : decode cX7_renew 22 = .ok (.iconst 0, 1) := by decide +kernel
theorem dX7_renew_23 : decode cX7_renew 23 = .ok (.istore 5, 2) := by decide +kernel
theorem dX7_renew_25 : decode cX7_renew 25 = .ok (.iload 5, 2) := by decide +kernel
theorem dX7_renew_27 : decode cX7_renew 27 = .ok (.iload 4, 2) := by decide +kernel
theorem dX7_renew_29 : decode cX7_renew 29 = .ok (.if_icmp .ge 77, 3) := by decide +kernel
theorem dX7_renew_32 : decode cX7_renew 32 = .ok (.iload 5, 2) := by decide +kernel
theorem dX7_renew_34 : decode cX7_renew 34 = .ok (.iload_n 1, 1) := by decide +kernel
theorem dX7_renew_35 : decode cX7_renew 35 = .ok (.invokestatic 51, 3) := by decide +kernel
theorem dX7_renew_38 : decode cX7_renew 38 = .ok (.istore 6, 2) := by decide +kernel
theorem dX7_renew_40 : decode cX7_renew 40 = .ok (.iload_n 2, 1) := by decide +kernel
theorem dX7_renew_41 : decode cX7_renew 41 = .ok (.aload_n 0, 1) := by decide +kernel
theorem dX7_renew_42 : decode cX7_renew 42 = .ok (.getfield 23, 3) := by decide +kernel
theorem dX7_renew_45 : decode cX7_renew 45 = .ok (.iload 5, 2) := by decide +kernel
theorem dX7_renew_47 : decode cX7_renew 47 = .ok (.iaload, 1) := by decide +kernel
theorem dX7_renew_48 : decode cX7_renew 48 = .ok (.iload 6, 2) := by decide +kernel
theorem dX7_renew_50 : decode cX7_renew 50 = .ok (.invokestatic 58, 3) := by decide +kernel
theorem dX7_renew_53 : decode cX7_renew 53 = .ok (.iload 6, 2) := by decide +kernel
theorem dX7_renew_55 : decode cX7_renew 55 = .ok (.if_icmp .ne 7, 3) := by decide +kernel
theorem dX7_renew_58 : decode cX7_renew 58 = .ok (.iconst 1, 1) := by decide +kernel
theorem dX7_renew_59 : decode cX7_renew 59 = .ok (.goto 4, 3) := by decide +kernel
theorem dX7_renew_62 : decode cX7_renew 62 = .ok (.iconst 0, 1) := by decide +kernel
theorem dX7_renew_63 : decode cX7_renew 63 = .ok (.istore 7, 2) := by decide +kernel
theorem dX7_renew_65 : decode cX7_renew 65 = .ok (.aload_n 0, 1) := by decide +kernel
theorem dX7_renew_66 : decode cX7_renew 66 = .ok (.getfield 26, 3) := by decide +kernel
theorem dX7_renew_69 : decode cX7_renew 69 = .ok (.iload 5, 2) := by decide +kernel
theorem dX7_renew_71 : decode cX7_renew 71 = .ok (.iload 7, 2) := by decide +kernel
theorem dX7_renew_73 : decode cX7_renew 73 = .ok (.ifCond .eq 17, 3) := by decide +kernel
theorem dX7_renew_76 : decode cX7_renew 76 = .ok (.aload_n 0, 1) := by decide +kernel
theorem dX7_renew_77 : decode cX7_renew 77 = .ok (.getfield 26, 3) := by decide +kernel
theorem dX7_renew_80 : decode cX7_renew 80 = .ok (.iload 5, 2) := by decide +kernel
theorem dX7_renew_82 : decode cX7_renew 82 = .ok (.iaload, 1) := by decide +kernel
theorem dX7_renew_83 : decode cX7_renew 83 = .ok (.iload_n 3, 1) := by decide +kernel
theorem dX7_renew_84 : decode cX7_renew 84 = .ok (.iconst (-1), 1) := by decide +kernel
theorem dX7_renew_85 : decode cX7_renew 85 = .ok (.ixor, 1) := by decide +kernel
theorem dX7_renew_86 : decode cX7_renew 86 = .ok (.iand, 1) := by decide +kernel
theorem dX7_renew_87 : decode cX7_renew 87 = .ok (.goto 12, 3) := by decide +kernel
theorem dX7_renew_90 : decode cX7_renew 90 = .ok (.aload_n 0, 1) := by decide +kernel
theorem dX7_renew_91 : decode cX7_renew 91 = .ok (.getfield 26, 3) := by decide +kernel
theorem dX7_renew_94 : decode cX7_renew 94 = .ok (.iload 5, 2) := by decide +kernel
theorem dX7_renew_96 : decode cX7_renew 96 = .ok (.iaload, 1) := by decide +kernel
theorem dX7_renew_97 : decode cX7_renew 97 = .ok (.iload_n 3, 1) := by decide +kernel
theorem dX7_renew_98 : decode cX7_renew 98 = .ok (.ior, 1) := by decide +kernel
theorem dX7_renew_99 : decode cX7_renew 99 = .ok (.iastore, 1) := by decide +kernel
theorem dX7_renew_100 : decode cX7_renew 100 = .ok (.iinc 5 1, 3) := by decide +kernel
theorem dX7_renew_103 : decode cX7_renew 103 = .ok (.goto (-78), 3) := by decide +kernel
theorem dX7_renew_106 : decode cX7_renew 106 = .ok (.return_, 1) := by decide +kernel
theorem dX7_fillSums_0 : decode cX7_fillSums 0 = .ok (.aload_n 0, 1) := by decide +kernel
theorem dX7_fillSums_1 : decode cX7_fillSums 1 = .ok (.getfield 11, 3) := by decide +kernel
theorem dX7_fillSums_4 : decode cX7_fillSums 4 = .ok (.iload_n 1, 1) := by decide +kernel
theorem dX7_fillSums_5 : decode cX7_fillSums 5 = .ok (.aaload, 1) := by decide +kernel
theorem dX7_fillSums_6 : decode cX7_fillSums 6 = .ok (.astore_n 2, 1) := by decide +kernel
theorem dX7_fillSums_7 : decode cX7_fillSums 7 = .ok (.aload_n 0, 1) := by decide +kernel
theorem dX7_fillSums_8 : decode cX7_fillSums 8 = .ok (.getfield 20, 3) := by decide +kernel
theorem dX7_fillSums_11 : decode cX7_fillSums 11 = .ok (.iload_n 1, 1) := by decide +kernel
theorem dX7_fillSums_12 : decode cX7_fillSums 12 = .ok (.iaload, 1) := by decide +kernel
theorem dX7_fillSums_13 : decode cX7_fillSums 13 = .ok (.istore_n 3, 1) := by decide +kernel
theorem dX7_fillSums_14 : decode cX7_fillSums 14 = .ok (.iconst 0, 1) := by decide +kernel
theorem dX7_fillSums_15 : decode cX7_fillSums 15 = .ok (.istore 4, 2) := by decide +kernel
theorem dX7_fillSums_17 : decode cX7_fillSums 17 = .ok (.iload 4, 2) := by decide +kernel
theorem dX7_fillSums_19 : decode cX7_fillSums 19 = .ok (.aload_n 0, 1) := by decide +kernel
theorem dX7_fillSums_20 : decode cX7_fillSums 20 = .ok (.getfield 29, 3) := by decide +kernel
theorem dX7_fillSums_23 : decode cX7_fillSums 23 = .ok (.if_icmp .ge 16, 3) := by decide +kernel
theorem dX7_fillSums_26 : decode cX7_fillSums 26 = .ok (.iload_n 3, 1) := by decide +kernel
theorem dX7_fillSums_27 : decode cX7_fillSums 27 = .ok (.aload_n 2, 1) := by decide +kernel
theorem dX7_fillSums_28 : decode cX7_fillSums 28 = .ok (.iload 4, 2) := by decide +kernel
theorem dX7_fillSums_30 : decode cX7_fillSums 30 = .ok (.iaload, 1) := by decide +kernel
theorem dX7_fillSums_31 : decode cX7_fillSums 31 = .ok (.isub, 1) := by decide +kernel
theorem dX7_fillSums_32 : decode cX7_fillSums 32 = .ok (.istore_n 3, 1) := by decide +kernel
theorem dX7_fillSums_33 : decode cX7_fillSums 33 = .ok (.iinc 4 1, 3) := by decide +kernel
theorem dX7_fillSums_36 : decode cX7_fillSums 36 = .ok (.goto (-19), 3) := by decide +kernel
theorem dX7_fillSums_39 : decode cX7_fillSums 39 = .ok (.aload_n 0, 1) := by decide +kernel
theorem dX7_fillSums_40 : decode cX7_fillSums 40 = .ok (.getfield 23, 3) := by decide +kernel
theorem dX7_fillSums_43 : decode cX7_fillSums 43 = .ok (.iconst 0, 1) := by decide +kernel
theorem dX7_fillSums_44 : decode cX7_fillSums 44 = .ok (.iload_n 3, 1) := by decide +kernel
theorem dX7_fillSums_45 : decode cX7_fillSums 45 = .ok (.iastore, 1) := by decide +kernel
theorem dX7_fillSums_46 : decode cX7_fillSums 46 = .ok (.iconst 0, 1) := by decide +kernel
theorem dX7_fillSums_47 : decode cX7_fillSums 47 = .ok (.istore 4, 2) := by decide +kernel
theorem dX7_fillSums_49 : decode cX7_fillSums 49 = .ok (.iload 4, 2) := by decide +kernel
theorem dX7_fillSums_51 : decode cX7_fillSums 51 = .ok (.aload_n 0, 1) := by decide +kernel
theorem dX7_fillSums_52 : decode cX7_fillSums 52 = .ok (.getfield 29, 3) := by decide +kernel
theorem dX7_fillSums_55 : decode cX7_fillSums 55 = .ok (.if_icmp .ge 59, 3) := by decide +kernel
theorem dX7_fillSums_58 : decode cX7_fillSums 58 = .ok (.iconst 1, 1) := by decide +kernel
theorem dX7_fillSums_59 : decode cX7_fillSums 59 = .ok (.iload 4, 2) := by decide +kernel
theorem dX7_fillSums_61 : decode cX7_fillSums 61 = .ok (.ishl, 1) := by decide +kernel
theorem dX7_fillSums_62 : decode cX7_fillSums 62 = .ok (.istore 5, 2) := by decide +kernel
theorem dX7_fillSums_64 : decode cX7_fillSums 64 = .ok (.iconst 2, 1) := by decide +kernel
theorem dX7_fillSums_65 : decode cX7_fillSums 65 = .ok (.aload_n 2, 1) := by decide +kernel
theorem dX7_fillSums_66 : decode cX7_fillSums 66 = .ok (.iload 4, 2) := by decide +kernel
theorem dX7_fillSums_68 : decode cX7_fillSums 68 = .ok (.iaload, 1) := by decide +kernel
theorem dX7_fillSums_69 : decode cX7_fillSums 69 = .ok (.imul, 1) := by decide +kernel
theorem dX7_fillSums_70 : decode cX7_fillSums 70 = .ok (.istore 6, 2) := by decide +kernel
theorem dX7_fillSums_72 : decode cX7_fillSums 72 = .ok (.iconst 0, 1) := by decide +kernel
theorem dX7_fillSums_73 : decode cX7_fillSums 73 = .ok (.istore 7, 2) := by decide +kernel
theorem dX7_fillSums_75 : decode cX7_fillSums 75 = .ok (.iload 7, 2) := by decide +kernel
theorem dX7_fillSums_77 : decode cX7_fillSums 77 = .ok (.iload 5, 2) := by decide +kernel
theorem dX7_fillSums_79 : decode cX7_fillSums 79 = .ok (.if_icmp .ge 29, 3) := by decide +kernel
theorem dX7_fillSums_82 : decode cX7_fillSums 82 = .ok (.aload_n 0, 1) := by decide +kernel
theorem dX7_fillSums_83 : decode cX7_fillSums 83 = .ok (.getfield 23, 3) := by decide +kernel
theorem dX7_fillSums_86 : decode cX7_fillSums 86 = .ok (.iload 7, 2) := by decide +kernel
theorem dX7_fillSums_88 : decode cX7_fillSums 88 = .ok (.iload 5, 2) := by decide +kernel
theorem dX7_fillSums_90 : decode cX7_fillSums 90 = .ok (.iadd, 1) := by decide +kernel
theorem dX7_fillSums_91 : decode cX7_fillSums 91 = .ok (.aload_n 0, 1) := by decide +kernel
theorem dX7_fillSums_92 : decode cX7_fillSums 92 = .ok (.getfield 23, 3) := by decide +kernel
theorem dX7_fillSums_95 : decode cX7_fillSums 95 = .ok (.iload 7, 2) := by decide +kernel
theorem dX7_fillSums_97 : decode cX7_fillSums 97 = .ok (.iaload, 1) := by decide +kernel
theorem dX7_fillSums_98 : decode cX7_fillSums 98 = .ok (.iload 6, 2) := by decide +kernel
theorem dX7_fillSums_100 : decode cX7_fillSums 100 = .ok (.iadd, 1) := by decide +kernel
theorem dX7_fillSums_101 : decode cX7_fillSums 101 = .ok (.iastore, 1) := by decide +kernel
theorem dX7_fillSums_102 : decode cX7_fillSums 102 = .ok (.iinc 7 1, 3) := by decide +kernel
theorem dX7_fillSums_105 : decode cX7_fillSums 105 = .ok (.goto (-30), 3) := by decide +kernel
theorem dX7_fillSums_108 : decode cX7_fillSums 108 = .ok (.iinc 4 1, 3) := by decide +kernel
theorem dX7_fillSums_111 : decode cX7_fillSums 111 = .ok (.goto (-62), 3) := by decide +kernel
theorem dX7_fillSums_114 : decode cX7_fillSums 114 = .ok (.return_, 1) := by decide +kernel
theorem dX8_stepsBy_0 : decode cX8_stepsBy 0 = .ok (.aload_n 0, 1) := by decide +kernel
theorem dX8_stepsBy_1 : decode cX8_stepsBy 1 = .ok (.getfield 24, 3) := by decide +kernel
theorem dX8_stepsBy_4 : decode cX8_stepsBy 4 = .ok (.iload_n 1, 1) := by decide +kernel
theorem dX8_stepsBy_5 : decode cX8_stepsBy 5 = .ok (.if_icmp .ne 17, 3) := by decide +kernel
theorem dX8_stepsBy_8 : decode cX8_stepsBy 8 = .ok (.aload_n 0, 1) := by decide +kernel
theorem dX8_stepsBy_9 : decode cX8_stepsBy 9 = .ok (.getfield 28, 3) := by decide +kernel
theorem dX8_stepsBy_12 : decode cX8_stepsBy 12 = .ok (.aload_n 0, 1) := by decide +kernel
theorem dX8_stepsBy_13 : decode cX8_stepsBy 13 = .ok (.getfield 37, 3) := by decide +kernel
theorem dX8_stepsBy_16 : decode cX8_stepsBy 16 = .ok (.invokevirtual 41, 3) := by decide +kernel
theorem dX8_stepsBy_19 : decode cX8_stepsBy 19 = .ok (.if_icmp .eq 78, 3) := by decide +kernel
theorem dX8_stepsBy_22 : decode cX8_stepsBy 22 = .ok (.aload_n 0, 1) := by decide +kernel
theorem dX8_stepsBy_23 : decode cX8_stepsBy 23 = .ok (.getfield 37, 3) := by decide +kernel
theorem dX8_stepsBy_26 : decode cX8_stepsBy 26 = .ok (.invokevirtual 47, 3) := by decide +kernel
theorem dX8_stepsBy_29 : decode cX8_stepsBy 29 = .ok (.astore_n 2, 1) := by decide +kernel
theorem dX8_stepsBy_30 : decode cX8_stepsBy 30 = .ok (.aload_n 0, 1) := by decide +kernel
theorem dX8_stepsBy_31 : decode cX8_stepsBy 31 = .ok (.getfield 37, 3) := by decide +kernel
theorem dX8_stepsBy_34 : decode cX8_stepsBy 34 = .ok (.invokevirtual 51, 3) := by decide +kernel
theorem dX8_stepsBy_37 : decode cX8_stepsBy 37 = .ok (.istore_n 3, 1) := by decide +kernel
theorem dX8_stepsBy_38 : decode cX8_stepsBy 38 = .ok (.iconst 0, 1) := by decide +kernel
theorem dX8_stepsBy_39 : decode cX8_stepsBy 39 = .ok (.istore 4, 2) := by decide +kernel
theorem dX8_stepsBy_41 : decode cX8_stepsBy 41 = .ok (.iload 4, 2) := by decide +kernel
theorem dX8_stepsBy_43 : decode cX8_stepsBy 43 = .ok (.iload_n 3, 1) := by decide +kernel
theorem dX8_stepsBy_44 : decode cX8_stepsBy 44 = .ok (.if_icmp .ge 37, 3) := by decide +kernel
theorem dX8_stepsBy_47 : decode cX8_stepsBy 47 = .ok (.aload_n 0, 1) := by decide +kernel
theorem dX8_stepsBy_48 : decode cX8_stepsBy 48 = .ok (.getfield 9, 3) := by decide +kernel
theorem dX8_stepsBy_51 : decode cX8_stepsBy 51 = .ok (.iload 4, 2) := by decide +kernel
theorem dX8_stepsBy_53 : decode cX8_stepsBy 53 = .ok (.iload_n 1, 1) := by decide +kernel
theorem dX8_stepsBy_54 : decode cX8_stepsBy 54 = .ok (.ifCond .ne 13, 3) := by decide +kernel
theorem dX8_stepsBy_57 : decode cX8_stepsBy 57 = .ok (.iload 4, 2) := by decide +kernel
theorem dX8_stepsBy_59 : decode cX8_stepsBy 59 = .ok (.aload_n 2, 1) := by decide +kernel
theorem dX8_stepsBy_60 : decode cX8_stepsBy 60 = .ok (.iload 4, 2) := by decide +kernel
theorem dX8_stepsBy_62 : decode cX8_stepsBy 62 = .ok (.iaload, 1) := by decide +kernel
theorem dX8_stepsBy_63 : decode cX8_stepsBy 63 = .ok (.ixor, 1) := by decide +kernel
theorem dX8_stepsBy_64 : decode cX8_stepsBy 64 = .ok (.goto 10, 3) := by decide +kernel
theorem dX8_stepsBy_67 : decode cX8_stepsBy 67 = .ok (.aload_n 0, 1) := by decide +kernel
theorem dX8_stepsBy_68 : decode cX8_stepsBy 68 = .ok (.aload_n 2, 1) := by decide +kernel
theorem dX8_stepsBy_69 : decode cX8_stepsBy 69 = .ok (.iload 4, 2) := by decide +kernel
theorem dX8_stepsBy_71 : decode cX8_stepsBy 71 = .ok (.invokevirtual 54, 3) := by decide +kernel
theorem dX8_stepsBy_74 : decode cX8_stepsBy 74 = .ok (.iastore, 1) := by decide +kernel
theorem dX8_stepsBy_75 : decode cX8_stepsBy 75 = .ok (.iinc 4 1, 3) := by decide +kernel
theorem dX8_stepsBy_78 : decode cX8_stepsBy 78 = .ok (.goto (-37), 3) := by decide +kernel
theorem dX8_stepsBy_81 : decode cX8_stepsBy 81 = .ok (.aload_n 0, 1) := by decide +kernel
theorem dX8_stepsBy_82 : decode cX8_stepsBy 82 = .ok (.iload_n 1, 1) := by decide +kernel
theorem dX8_stepsBy_83 : decode cX8_stepsBy 83 = .ok (.putfield 24, 3) := by decide +kernel
theorem dX8_stepsBy_86 : decode cX8_stepsBy 86 = .ok (.aload_n 0, 1) := by decide +kernel
theorem dX8_stepsBy_87 : decode cX8_stepsBy 87 = .ok (.aload_n 0, 1) := by decide +kernel
theorem dX8_stepsBy_88 : decode cX8_stepsBy 88 = .ok (.getfield 37, 3) := by decide +kernel
theorem dX8_stepsBy_91 : decode cX8_stepsBy 91 = .ok (.invokevirtual 41, 3) := by decide +kernel
theorem dX8_stepsBy_94 : decode cX8_stepsBy 94 = .ok (.putfield 28, 3) := by decide +kernel
theorem dX8_stepsBy_97 : decode cX8_stepsBy 97 = .ok (.aload_n 0, 1) := by decide +kernel
theorem dX8_stepsBy_98 : decode cX8_stepsBy 98 = .ok (.getfield 9, 3) := by decide +kernel
theorem dX8_stepsBy_101 : decode cX8_stepsBy 101 = .ok (.areturn, 1) := by decide +kernel
theorem dX8_oneByOne_0 : decode cX8_oneByOne 0 = .ok (.aload_n 0, 1) := by decide +kernel
theorem dX8_oneByOne_1 : decode cX8_oneByOne 1 = .ok (.getfield 37, 3) := by decide +kernel
theorem dX8_oneByOne_4 : decode cX8_oneByOne 4 = .ok (.invokevirtual 58, 3) := by decide +kernel
theorem dX8_oneByOne_7 : decode cX8_oneByOne 7 = .ok (.istore_n 3, 1) := by decide +kernel
theorem dX8_oneByOne_8 : decode cX8_oneByOne 8 = .ok (.iload_n 2, 1) := by decide +kernel
theorem dX8_oneByOne_9 : decode cX8_oneByOne 9 = .ok (.istore 4, 2) := by decide +kernel
theorem dX8_oneByOne_11 : decode cX8_oneByOne 11 = .ok (.iconst 0, 1) := by decide +kernel
theorem dX8_oneByOne_12 : decode cX8_oneByOne 12 = .ok (.istore 5, 2) := by decide +kernel
theorem dX8_oneByOne_14 : decode cX8_oneByOne 14 = .ok (.iload 5, 2) := by decide +kernel
theorem dX8_oneByOne_16 : decode cX8_oneByOne 16 = .ok (.iload_n 3, 1) := by decide +kernel
theorem dX8_oneByOne_17 : decode cX8_oneByOne 17 = .ok (.if_icmp .ge 23, 3) := by decide +kernel
theorem dX8_oneByOne_20 : decode cX8_oneByOne 20 = .ok (.iload 4, 2) := by decide +kernel
theorem dX8_oneByOne_22 : decode cX8_oneByOne 22 = .ok (.aload_n 1, 1) := by decide +kernel
theorem dX8_oneByOne_23 : decode cX8_oneByOne 23 = .ok (.iload 4, 2) := by decide +kernel
theorem dX8_oneByOne_25 : decode cX8_oneByOne 25 = .ok (.iaload, 1) := by decide +kernel
theorem dX8_oneByOne_26 : decode cX8_oneByOne 26 = .ok (.iconst 1, 1) := by decide +kernel
theorem dX8_oneByOne_27 : decode cX8_oneByOne 27 = .ok (.iload 5, 2) := by decide +kernel
theorem dX8_oneByOne_29 : decode cX8_oneByOne 29 = .ok (.ishl, 1) := by decide +kernel
theorem dX8_oneByOne_30 : decode cX8_oneByOne 30 = .ok (.iand, 1) := by decide +kernel
theorem dX8_oneByOne_31 : decode cX8_oneByOne 31 = .ok (.ixor, 1) := by decide +kernel
theorem dX8_oneByOne_32 : decode cX8_oneByOne 32 = .ok (.istore 4, 2) := by decide +kernel
theorem dX8_oneByOne_34 : decode cX8_oneByOne 34 = .ok (.iinc 5 1, 3) := by decide +kernel
theorem dX8_oneByOne_37 : decode cX8_oneByOne 37 = .ok (.goto (-23), 3) := by decide +kernel
theorem dX8_oneByOne_40 : decode cX8_oneByOne 40 = .ok (.iload 4, 2) := by decide +kernel
theorem dX8_oneByOne_42 : decode cX8_oneByOne 42 = .ok (.ireturn, 1) := by decide +kernel
theorem dX8_behind_0 : decode cX8_behind 0 = .ok (.aload_n 0, 1) := by decide +kernel
theorem dX8_behind_1 : decode cX8_behind 1 = .ok (.iload_n 2, 1) := by decide +kernel
theorem dX8_behind_2 : decode cX8_behind 2 = .ok (.invokevirtual 61, 3) := by decide +kernel
theorem dX8_behind_5 : decode cX8_behind 5 = .ok (.pop, 1) := by decide +kernel
theorem dX8_behind_6 : decode cX8_behind 6 = .ok (.iload_n 1, 1) := by decide +kernel
theorem dX8_behind_7 : decode cX8_behind 7 = .ok (.istore 4, 2) := by decide +kernel
theorem dX8_behind_9 : decode cX8_behind 9 = .ok (.iconst 0, 1) := by decide +kernel
theorem dX8_behind_10 : decode cX8_behind 10 = .ok (.istore 5, 2) := by decide +kernel
theorem dX8_behind_12 : decode cX8_behind 12 = .ok (.iload 5, 2) := by decide +kernel
theorem dX8_behind_14 : decode cX8_behind 14 = .ok (.iload_n 3, 1) := by decide +kernel
theorem dX8_behind_15 : decode cX8_behind 15 = .ok (.if_icmp .ge 18, 3) := by decide +kernel
theorem dX8_behind_18 : decode cX8_behind 18 = .ok (.aload_n 0, 1) := by decide +kernel
theorem dX8_behind_19 : decode cX8_behind 19 = .ok (.getfield 9, 3) := by decide +kernel
theorem dX8_behind_22 : decode cX8_behind 22 = .ok (.iload 4, 2) := by decide +kernel
theorem dX8_behind_24 : decode cX8_behind 24 = .ok (.iaload, 1) := by decide +kernel
theorem dX8_behind_25 : decode cX8_behind 25 = .ok (.istore 4, 2) := by decide +kernel
theorem dX8_behind_27 : decode cX8_behind 27 = .ok (.iinc 5 1, 3) := by decide +kernel
theorem dX8_behind_30 : decode cX8_behind 30 = .ok (.goto (-18), 3) := by decide +kernel
theorem dX8_behind_33 : decode cX8_behind 33 = .ok (.iload 4, 2) := by decide +kernel
theorem dX8_behind_35 : decode cX8_behind 35 = .ok (.ireturn, 1) := by decide +kernel
theorem dX8_stepsToRing_0 : decode cX8_stepsToRing 0 = .ok (.aload_n 0, 1) := by decide +kernel
theorem dX8_stepsToRing_1 : decode cX8_stepsToRing 1 = .ok (.iload_n 2, 1) := by decide +kernel
theorem dX8_stepsToRing_2 : decode cX8_stepsToRing 2 = .ok (.invokevirtual 65, 3) := by decide +kernel
theorem dX8_stepsToRing_5 : decode cX8_stepsToRing 5 = .ok (.aload_n 0, 1) := by decide +kernel
theorem dX8_stepsToRing_6 : decode cX8_stepsToRing 6 = .ok (.getfield 18, 3) := by decide +kernel
theorem dX8_stepsToRing_9 : decode cX8_stepsToRing 9 = .ok (.iload_n 1, 1) := by decide +kernel
theorem dX8_stepsToRing_10 : decode cX8_stepsToRing 10 = .ok (.iaload, 1) := by decide +kernel
theorem dX8_stepsToRing_11 : decode cX8_stepsToRing 11 = .ok (.ireturn, 1) := by decide +kernel
theorem dX8_entered_0 : decode cX8_entered 0 = .ok (.aload_n 0, 1) := by decide +kernel
theorem dX8_entered_1 : decode cX8_entered 1 = .ok (.iload_n 2, 1) := by decide +kernel
theorem dX8_entered_2 : decode cX8_entered 2 = .ok (.invokevirtual 65, 3) := by decide +kernel
theorem dX8_entered_5 : decode cX8_entered 5 = .ok (.iload_n 1, 1) := by decide +kernel
theorem dX8_entered_6 : decode cX8_entered 6 = .ok (.istore_n 3, 1) := by decide +kernel
theorem dX8_entered_7 : decode cX8_entered 7 = .ok (.iconst 0, 1) := by decide +kernel
theorem dX8_entered_8 : decode cX8_entered 8 = .ok (.istore 4, 2) := by decide +kernel
theorem dX8_entered_10 : decode cX8_entered 10 = .ok (.iload 4, 2) := by decide +kernel
theorem dX8_entered_12 : decode cX8_entered 12 = .ok (.aload_n 0, 1) := by decide +kernel
theorem dX8_entered_13 : decode cX8_entered 13 = .ok (.getfield 18, 3) := by decide +kernel
theorem dX8_entered_16 : decode cX8_entered 16 = .ok (.iload_n 1, 1) := by decide +kernel
theorem dX8_entered_17 : decode cX8_entered 17 = .ok (.iaload, 1) := by decide +kernel
theorem dX8_entered_18 : decode cX8_entered 18 = .ok (.if_icmp .ge 16, 3) := by decide +kernel
theorem dX8_entered_21 : decode cX8_entered 21 = .ok (.aload_n 0, 1) := by decide +kernel
theorem dX8_entered_22 : decode cX8_entered 22 = .ok (.getfield 9, 3) := by decide +kernel
theorem dX8_entered_25 : decode cX8_entered 25 = .ok (.iload_n 3, 1) := by decide +kernel
theorem dX8_entered_26 : decode cX8_entered 26 = .ok (.iaload, 1) := by decide +kernel
theorem dX8_entered_27 : decode cX8_entered 27 = .ok (.istore_n 3, 1) := by decide +kernel
theorem dX8_entered_28 : decode cX8_entered 28 = .ok (.iinc 4 1, 3) := by decide +kernel
theorem dX8_entered_31 : decode cX8_entered 31 = .ok (.goto (-21), 3) := by decide +kernel
theorem dX8_entered_34 : decode cX8_entered 34 = .ok (.iload_n 3, 1) := by decide +kernel
theorem dX8_entered_35 : decode cX8_entered 35 = .ok (.ireturn, 1) := by decide +kernel
theorem dX8_ringCount_0 : decode cX8_ringCount 0 = .ok (.aload_n 0, 1) := by decide +kernel
theorem dX8_ringCount_1 : decode cX8_ringCount 1 = .ok (.iload_n 1, 1) := by decide +kernel
theorem dX8_ringCount_2 : decode cX8_ringCount 2 = .ok (.invokevirtual 65, 3) := by decide +kernel
theorem dX8_ringCount_5 : decode cX8_ringCount 5 = .ok (.aload_n 0, 1) := by decide +kernel
theorem dX8_ringCount_6 : decode cX8_ringCount 6 = .ok (.getfield 37, 3) := by decide +kernel
theorem dX8_ringCount_9 : decode cX8_ringCount 9 = .ok (.invokevirtual 51, 3) := by decide +kernel
theorem dX8_ringCount_12 : decode cX8_ringCount 12 = .ok (.istore_n 2, 1) := by decide +kernel
theorem dX8_ringCount_13 : decode cX8_ringCount 13 = .ok (.iconst 0, 1) := by decide +kernel
theorem dX8_ringCount_14 : decode cX8_ringCount 14 = .ok (.istore_n 3, 1) := by decide +kernel
theorem dX8_ringCount_15 : decode cX8_ringCount 15 = .ok (.iconst 0, 1) := by decide +kernel
theorem dX8_ringCount_16 : decode cX8_ringCount 16 = .ok (.istore 4, 2) := by decide +kernel
theorem dX8_ringCount_18 : decode cX8_ringCount 18 = .ok (.iload 4, 2) := by decide +kernel
theorem dX8_ringCount_20 : decode cX8_ringCount 20 = .ok (.iload_n 2, 1) := by decide +kernel
theorem dX8_ringCount_21 : decode cX8_ringCount 21 = .ok (.if_icmp .ge 24, 3) := by decide +kernel
theorem dX8_ringCount_24 : decode cX8_ringCount 24 = .ok (.aload_n 0, 1) := by decide +kernel
theorem dX8_ringCount_25 : decode cX8_ringCount 25 = .ok (.getfield 15, 3) := by decide +kernel
theorem dX8_ringCount_28 : decode cX8_ringCount 28 = .ok (.iload 4, 2) := by decide +kernel
theorem dX8_ringCount_30 : decode cX8_ringCount 30 = .ok (.iaload, 1) := by decide +kernel
theorem dX8_ringCount_31 : decode cX8_ringCount 31 = .ok (.iload 4, 2) := by decide +kernel
theorem dX8_ringCount_33 : decode cX8_ringCount 33 = .ok (.if_icmp .ne 6, 3) := by decide +kernel
theorem dX8_ringCount_36 : decode cX8_ringCount 36 = .ok (.iinc 3 1, 3) := by decide +kernel
theorem dX8_ringCount_39 : decode cX8_ringCount 39 = .ok (.iinc 4 1, 3) := by decide +kernel
theorem dX8_ringCount_42 : decode cX8_ringCount 42 = .ok (.goto (-24), 3) := by decide +kernel
theorem dX8_ringCount_45 : decode cX8_ringCount 45 = .ok (.iload_n 3, 1) := by decide +kernel
theorem dX8_ringCount_46 : decode cX8_ringCount 46 = .ok (.ireturn, 1) := by decide +kernel
theorem dX8_leastOfRing_0 : decode cX8_leastOfRing 0 = .ok (.aload_n 0, 1) := by decide +kernel
theorem dX8_leastOfRing_1 : decode cX8_leastOfRing 1 = .ok (.iload_n 1, 1) := by decide +kernel
theorem dX8_leastOfRing_2 : decode cX8_leastOfRing 2 = .ok (.invokevirtual 65, 3) := by decide +kernel
theorem dX8_leastOfRing_5 : decode cX8_leastOfRing 5 = .ok (.aload_n 0, 1) := by decide +kernel
theorem dX8_leastOfRing_6 : decode cX8_leastOfRing 6 = .ok (.getfield 37, 3) := by decide +kernel
theorem dX8_leastOfRing_9 : decode cX8_leastOfRing 9 = .ok (.invokevirtual 51, 3) := by decide +kernel
theorem dX8_leastOfRing_12 : decode cX8_leastOfRing 12 = .ok (.istore_n 3, 1) := by decide +kernel
theorem dX8_leastOfRing_13 : decode cX8_leastOfRing 13 = .ok (.iload_n 2, 1) := by decide +kernel
theorem dX8_leastOfRing_14 : decode cX8_leastOfRing 14 = .ok (.istore 4, 2) := by decide +kernel
theorem dX8_leastOfRing_16 : decode cX8_leastOfRing 16 = .ok (.iconst 0, 1) := by decide +kernel
theorem dX8_leastOfRing_17 : decode cX8_leastOfRing 17 = .ok (.istore 5, 2) := by decide +kernel
theorem dX8_leastOfRing_19 : decode cX8_leastOfRing 19 = .ok (.iload 5, 2) := by decide +kernel
theorem dX8_leastOfRing_21 : decode cX8_leastOfRing 21 = .ok (.iload_n 3, 1) := by decide +kernel
theorem dX8_leastOfRing_22 : decode cX8_leastOfRing 22 = .ok (.if_icmp .ge 37, 3) := by decide +kernel
theorem dX8_leastOfRing_25 : decode cX8_leastOfRing 25 = .ok (.iload 4, 2) := by decide +kernel
theorem dX8_leastOfRing_27 : decode cX8_leastOfRing 27 = .ok (.ifCond .lt 32, 3) := by decide +kernel
theorem dX8_leastOfRing_30 : decode cX8_leastOfRing 30 = .ok (.aload_n 0, 1) := by decide +kernel
theorem dX8_leastOfRing_31 : decode cX8_leastOfRing 31 = .ok (.getfield 15, 3) := by decide +kernel
theorem dX8_leastOfRing_34 : decode cX8_leastOfRing 34 = .ok (.iload 5, 2) := by decide +kernel
theorem dX8_leastOfRing_36 : decode cX8_leastOfRing 36 = .ok (.iaload, 1) := by decide +kernel
theorem dX8_leastOfRing_37 : decode cX8_leastOfRing 37 = .ok (.iload 5, 2) := by decide +kernel
theorem dX8_leastOfRing_39 : decode cX8_leastOfRing 39 = .ok (.if_icmp .ne 14, 3) := by decide +kernel
theorem dX8_leastOfRing_42 : decode cX8_leastOfRing 42 = .ok (.iload 4, 2) := by decide +kernel
theorem dX8_leastOfRing_44 : decode cX8_leastOfRing 44 = .ok (.ifCond .ne 6, 3) := by decide +kernel
theorem dX8_leastOfRing_47 : decode cX8_leastOfRing 47 = .ok (.iload 5, 2) := by decide +kernel
theorem dX8_leastOfRing_49 : decode cX8_leastOfRing 49 = .ok (.ireturn, 1) := by decide +kernel
theorem dX8_leastOfRing_50 : decode cX8_leastOfRing 50 = .ok (.iinc 4 (-1), 3) := by decide +kernel
theorem dX8_leastOfRing_53 : decode cX8_leastOfRing 53 = .ok (.iinc 5 1, 3) := by decide +kernel
theorem dX8_leastOfRing_56 : decode cX8_leastOfRing 56 = .ok (.goto (-37), 3) := by decide +kernel
theorem dX8_leastOfRing_59 : decode cX8_leastOfRing 59 = .ok (.iconst (-1), 1) := by decide +kernel
theorem dX8_leastOfRing_60 : decode cX8_leastOfRing 60 = .ok (.ireturn, 1) := by decide +kernel
theorem dX8_lengthOf_0 : decode cX8_lengthOf 0 = .ok (.aload_n 0, 1) := by decide +kernel
theorem dX8_lengthOf_1 : decode cX8_lengthOf 1 = .ok (.iload_n 1, 1) := by decide +kernel
theorem dX8_lengthOf_2 : decode cX8_lengthOf 2 = .ok (.invokevirtual 61, 3) := by decide +kernel
theorem dX8_lengthOf_5 : decode cX8_lengthOf 5 = .ok (.pop, 1) := by decide +kernel
theorem dX8_lengthOf_6 : decode cX8_lengthOf 6 = .ok (.iconst 1, 1) := by decide +kernel
theorem dX8_lengthOf_7 : decode cX8_lengthOf 7 = .ok (.istore_n 3, 1) := by decide +kernel
theorem dX8_lengthOf_8 : decode cX8_lengthOf 8 = .ok (.aload_n 0, 1) := by decide +kernel
theorem dX8_lengthOf_9 : decode cX8_lengthOf 9 = .ok (.getfield 9, 3) := by decide +kernel
theorem dX8_lengthOf_12 : decode cX8_lengthOf 12 = .ok (.iload_n 2, 1) := by decide +kernel
theorem dX8_lengthOf_13 : decode cX8_lengthOf 13 = .ok (.iaload, 1) := by decide +kernel
theorem dX8_lengthOf_14 : decode cX8_lengthOf 14 = .ok (.istore 4, 2) := by decide +kernel
theorem dX8_lengthOf_16 : decode cX8_lengthOf 16 = .ok (.iload 4, 2) := by decide +kernel
theorem dX8_lengthOf_18 : decode cX8_lengthOf 18 = .ok (.iload_n 2, 1) := by decide +kernel
theorem dX8_lengthOf_19 : decode cX8_lengthOf 19 = .ok (.if_icmp .eq 25, 3) := by decide +kernel
theorem dX8_lengthOf_22 : decode cX8_lengthOf 22 = .ok (.iload_n 3, 1) := by decide +kernel
theorem dX8_lengthOf_23 : decode cX8_lengthOf 23 = .ok (.sipush 1024, 3) := by decide +kernel
theorem dX8_lengthOf_26 : decode cX8_lengthOf 26 = .ok (.if_icmp .ge 18, 3) := by decide +kernel
theorem dX8_lengthOf_29 : decode cX8_lengthOf 29 = .ok (.aload_n 0, 1) := by decide +kernel
theorem dX8_lengthOf_30 : decode cX8_lengthOf 30 = .ok (.getfield 9, 3) := by decide +kernel
theorem dX8_lengthOf_33 : decode cX8_lengthOf 33 = .ok (.iload 4, 2) := by decide +kernel
theorem dX8_lengthOf_35 : decode cX8_lengthOf 35 = .ok (.iaload, 1) := by decide +kernel
theorem dX8_lengthOf_36 : decode cX8_lengthOf 36 = .ok (.istore 4, 2) := by decide +kernel
theorem dX8_lengthOf_38 : decode cX8_lengthOf 38 = .ok (.iinc 3 1, 3) := by decide +kernel
theorem dX8_lengthOf_41 : decode cX8_lengthOf 41 = .ok (.goto (-25), 3) := by decide +kernel
theorem dX8_lengthOf_44 : decode cX8_lengthOf 44 = .ok (.iload_n 3, 1) := by decide +kernel
theorem dX8_lengthOf_45 : decode cX8_lengthOf 45 = .ok (.ireturn, 1) := by decide +kernel
theorem dX8_drawnTo_0 : decode cX8_drawnTo 0 = .ok (.aload_n 0, 1) := by decide +kernel
theorem dX8_drawnTo_1 : decode cX8_drawnTo 1 = .ok (.iload_n 1, 1) := by decide +kernel
theorem dX8_drawnTo_2 : decode cX8_drawnTo 2 = .ok (.invokevirtual 65, 3) := by decide +kernel
theorem dX8_drawnTo_5 : decode cX8_drawnTo 5 = .ok (.aload_n 0, 1) := by decide +kernel
theorem dX8_drawnTo_6 : decode cX8_drawnTo 6 = .ok (.getfield 37, 3) := by decide +kernel
theorem dX8_drawnTo_9 : decode cX8_drawnTo 9 = .ok (.invokevirtual 51, 3) := by decide +kernel
theorem dX8_drawnTo_12 : decode cX8_drawnTo 12 = .ok (.istore_n 3, 1) := by decide +kernel
theorem dX8_drawnTo_13 : decode cX8_drawnTo 13 = .ok (.iconst 0, 1) := by decide +kernel
theorem dX8_drawnTo_14 : decode cX8_drawnTo 14 = .ok (.istore 4, 2) := by decide +kernel
theorem dX8_drawnTo_16 : decode cX8_drawnTo 16 = .ok (.iconst 0, 1) := by decide +kernel
theorem dX8_drawnTo_17 : decode cX8_drawnTo 17 = .ok (.istore 5, 2) := by decide +kernel
theorem dX8_drawnTo_19 : decode cX8_drawnTo 19 = .ok (.iload 5, 2) := by decide +kernel
theorem dX8_drawnTo_21 : decode cX8_drawnTo 21 = .ok (.iload_n 3, 1) := by decide +kernel
theorem dX8_drawnTo_22 : decode cX8_drawnTo 22 = .ok (.if_icmp .ge 23, 3) := by decide +kernel
theorem dX8_drawnTo_25 : decode cX8_drawnTo 25 = .ok (.aload_n 0, 1) := by decide +kernel
theorem dX8_drawnTo_26 : decode cX8_drawnTo 26 = .ok (.getfield 15, 3) := by decide +kernel
theorem dX8_drawnTo_29 : decode cX8_drawnTo 29 = .ok (.iload 5, 2) := by decide +kernel
theorem dX8_drawnTo_31 : decode cX8_drawnTo 31 = .ok (.iaload, 1) := by decide +kernel
theorem dX8_drawnTo_32 : decode cX8_drawnTo 32 = .ok (.iload_n 2, 1) := by decide +kernel
theorem dX8_drawnTo_33 : decode cX8_drawnTo 33 = .ok (.if_icmp .ne 6, 3) := by decide +kernel
theorem dX8_drawnTo_36 : decode cX8_drawnTo 36 = .ok (.iinc 4 1, 3) := by decide +kernel
theorem dX8_drawnTo_39 : decode cX8_drawnTo 39 = .ok (.iinc 5 1, 3) := by decide +kernel
theorem dX8_drawnTo_42 : decode cX8_drawnTo 42 = .ok (.goto (-23), 3) := by decide +kernel
theorem dX8_drawnTo_45 : decode cX8_drawnTo 45 = .ok (.iload 4, 2) := by decide +kernel
theorem dX8_drawnTo_47 : decode cX8_drawnTo 47 = .ok (.ireturn, 1) := by decide +kernel
theorem dX8_farthestFrom_0 : decode cX8_farthestFrom 0 = .ok (.aload_n 0, 1) := by decide +kernel
theorem dX8_farthestFrom_1 : decode cX8_farthestFrom 1 = .ok (.iload_n 1, 1) := by decide +kernel
theorem dX8_farthestFrom_2 : decode cX8_farthestFrom 2 = .ok (.invokevirtual 65, 3) := by decide +kernel
theorem dX8_farthestFrom_5 : decode cX8_farthestFrom 5 = .ok (.aload_n 0, 1) := by decide +kernel
theorem dX8_farthestFrom_6 : decode cX8_farthestFrom 6 = .ok (.getfield 37, 3) := by decide +kernel
theorem dX8_farthestFrom_9 : decode cX8_farthestFrom 9 = .ok (.invokevirtual 51, 3) := by decide +kernel
theorem dX8_farthestFrom_12 : decode cX8_farthestFrom 12 = .ok (.istore_n 3, 1) := by decide +kernel
theorem dX8_farthestFrom_13 : decode cX8_farthestFrom 13 = .ok (.iconst 0, 1) := by decide +kernel
theorem dX8_farthestFrom_14 : decode cX8_farthestFrom 14 = .ok (.istore 4, 2) := by decide +kernel
theorem dX8_farthestFrom_16 : decode cX8_farthestFrom 16 = .ok (.iconst 0, 1) := by decide +kernel
theorem dX8_farthestFrom_17 : decode cX8_farthestFrom 17 = .ok (.istore 5, 2) := by decide +kernel
theorem dX8_farthestFrom_19 : decode cX8_farthestFrom 19 = .ok (.iload 5, 2) := by decide +kernel
theorem dX8_farthestFrom_21 : decode cX8_farthestFrom 21 = .ok (.iload_n 3, 1) := by decide +kernel
theorem dX8_farthestFrom_22 : decode cX8_farthestFrom 22 = .ok (.if_icmp .ge 34, 3) := by decide +kernel
theorem dX8_farthestFrom_25 : decode cX8_farthestFrom 25 = .ok (.aload_n 0, 1) := by decide +kernel
theorem dX8_farthestFrom_26 : decode cX8_farthestFrom 26 = .ok (.getfield 15, 3) := by decide +kernel
theorem dX8_farthestFrom_29 : decode cX8_farthestFrom 29 = .ok (.iload 5, 2) := by decide +kernel
theorem dX8_farthestFrom_31 : decode cX8_farthestFrom 31 = .ok (.iaload, 1) := by decide +kernel
theorem dX8_farthestFrom_32 : decode cX8_farthestFrom 32 = .ok (.iload_n 2, 1) := by decide +kernel
theorem dX8_farthestFrom_33 : decode cX8_farthestFrom 33 = .ok (.if_icmp .ne 17, 3) := by decide +kernel
theorem dX8_farthestFrom_36 : decode cX8_farthestFrom 36 = .ok (.iload 4, 2) := by decide +kernel
theorem dX8_farthestFrom_38 : decode cX8_farthestFrom 38 = .ok (.aload_n 0, 1) := by decide +kernel
theorem dX8_farthestFrom_39 : decode cX8_farthestFrom 39 = .ok (.getfield 18, 3) := by decide +kernel
theorem dX8_farthestFrom_42 : decode cX8_farthestFrom 42 = .ok (.iload 5, 2) := by decide +kernel
theorem dX8_farthestFrom_44 : decode cX8_farthestFrom 44 = .ok (.iaload, 1) := by decide +kernel
theorem dX8_farthestFrom_45 : decode cX8_farthestFrom 45 = .ok (.invokestatic 69, 3) := by decide +kernel
theorem dX8_farthestFrom_48 : decode cX8_farthestFrom 48 = .ok (.istore 4, 2) := by decide +kernel
theorem dX8_farthestFrom_50 : decode cX8_farthestFrom 50 = .ok (.iinc 5 1, 3) := by decide +kernel
theorem dX8_farthestFrom_53 : decode cX8_farthestFrom 53 = .ok (.goto (-34), 3) := by decide +kernel
theorem dX8_farthestFrom_56 : decode cX8_farthestFrom 56 = .ok (.iload 4, 2) := by decide +kernel
theorem dX8_farthestFrom_58 : decode cX8_farthestFrom 58 = .ok (.ireturn, 1) := by decide +kernel
theorem dX8_greatestLength_0 : decode cX8_greatestLength 0 = .ok (.aload_n 0, 1) := by decide +kernel
theorem dX8_greatestLength_1 : decode cX8_greatestLength 1 = .ok (.iload_n 1, 1) := by decide +kernel
theorem dX8_greatestLength_2 : decode cX8_greatestLength 2 = .ok (.invokevirtual 65, 3) := by decide +kernel
theorem dX8_greatestLength_5 : decode cX8_greatestLength 5 = .ok (.aload_n 0, 1) := by decide +kernel
theorem dX8_greatestLength_6 : decode cX8_greatestLength 6 = .ok (.getfield 37, 3) := by decide +kernel
theorem dX8_greatestLength_9 : decode cX8_greatestLength 9 = .ok (.invokevirtual 51, 3) := by decide +kernel
theorem dX8_greatestLength_12 : decode cX8_greatestLength 12 = .ok (.istore_n 2, 1) := by decide +kernel
theorem dX8_greatestLength_13 : decode cX8_greatestLength 13 = .ok (.iconst 0, 1) := by decide +kernel
theorem dX8_greatestLength_14 : decode cX8_greatestLength 14 = .ok (.istore_n 3, 1) := by decide +kernel
theorem dX8_greatestLength_15 : decode cX8_greatestLength 15 = .ok (.iconst 0, 1) := by decide +kernel
theorem dX8_greatestLength_16 : decode cX8_greatestLength 16 = .ok (.istore 4, 2) := by decide +kernel
theorem dX8_greatestLength_18 : decode cX8_greatestLength 18 = .ok (.iload 4, 2) := by decide +kernel
theorem dX8_greatestLength_20 : decode cX8_greatestLength 20 = .ok (.iload_n 2, 1) := by decide +kernel
theorem dX8_greatestLength_21 : decode cX8_greatestLength 21 = .ok (.if_icmp .ge 33, 3) := by decide +kernel
theorem dX8_greatestLength_24 : decode cX8_greatestLength 24 = .ok (.aload_n 0, 1) := by decide +kernel
theorem dX8_greatestLength_25 : decode cX8_greatestLength 25 = .ok (.getfield 15, 3) := by decide +kernel
theorem dX8_greatestLength_28 : decode cX8_greatestLength 28 = .ok (.iload 4, 2) := by decide +kernel
theorem dX8_greatestLength_30 : decode cX8_greatestLength 30 = .ok (.iaload, 1) := by decide +kernel
theorem dX8_greatestLength_31 : decode cX8_greatestLength 31 = .ok (.iload 4, 2) := by decide +kernel
theorem dX8_greatestLength_33 : decode cX8_greatestLength 33 = .ok (.if_icmp .ne 15, 3) := by decide +kernel
theorem dX8_greatestLength_36 : decode cX8_greatestLength 36 = .ok (.iload_n 3, 1) := by decide +kernel
theorem dX8_greatestLength_37 : decode cX8_greatestLength 37 = .ok (.aload_n 0, 1) := by decide +kernel
theorem dX8_greatestLength_38 : decode cX8_greatestLength 38 = .ok (.iload_n 1, 1) := by decide +kernel
theorem dX8_greatestLength_39 : decode cX8_greatestLength 39 = .ok (.iload 4, 2) := by decide +kernel
theorem dX8_greatestLength_41 : decode cX8_greatestLength 41 = .ok (.invokevirtual 75, 3) := by decide +kernel
theorem dX8_greatestLength_44 : decode cX8_greatestLength 44 = .ok (.invokestatic 69, 3) := by decide +kernel
theorem dX8_greatestLength_47 : decode cX8_greatestLength 47 = .ok (.istore_n 3, 1) := by decide +kernel
theorem dX8_greatestLength_48 : decode cX8_greatestLength 48 = .ok (.iinc 4 1, 3) := by decide +kernel
theorem dX8_greatestLength_51 : decode cX8_greatestLength 51 = .ok (.goto (-33), 3) := by decide +kernel
theorem dX8_greatestLength_54 : decode cX8_greatestLength 54 = .ok (.iload_n 3, 1) := by decide +kernel
theorem dX8_greatestLength_55 : decode cX8_greatestLength 55 = .ok (.ireturn, 1) := by decide +kernel
theorem dX8_findRings_0 : decode cX8_findRings 0 = .ok (.aload_n 0, 1) := by decide +kernel
theorem dX8_findRings_1 : decode cX8_findRings 1 = .ok (.iload_n 1, 1) := by decide +kernel
theorem dX8_findRings_2 : decode cX8_findRings 2 = .ok (.invokevirtual 61, 3) := by decide +kernel
theorem dX8_findRings_5 : decode cX8_findRings 5 = .ok (.pop, 1) := by decide +kernel
theorem dX8_findRings_6 : decode cX8_findRings 6 = .ok (.aload_n 0, 1) := by decide +kernel
theorem dX8_findRings_7 : decode cX8_findRings 7 = .ok (.getfield 31, 3) := by decide +kernel
theorem dX8_findRings_10 : decode cX8_findRings 10 = .ok (.iload_n 1, 1) := by decide +kernel
theorem dX8_findRings_11 : decode cX8_findRings 11 = .ok (.if_icmp .ne 18, 3) := by decide +kernel
theorem dX8_findRings_14 : decode cX8_findRings 14 = .ok (.aload_n 0, 1) := by decide +kernel
theorem dX8_findRings_15 : decode cX8_findRings 15 = .ok (.getfield 34, 3) := by decide +kernel
theorem dX8_findRings_18 : decode cX8_findRings 18 = .ok (.aload_n 0, 1) := by decide +kernel
theorem dX8_findRings_19 : decode cX8_findRings 19 = .ok (.getfield 37, 3) := by decide +kernel
theorem dX8_findRings_22 : decode cX8_findRings 22 = .ok (.invokevirtual 41, 3) := by decide +kernel
theorem dX8_findRings_25 : decode cX8_findRings 25 = .ok (.if_icmp .ne 4, 3) := by decide +kernel
theorem dX8_findRings_28 : decode cX8_findRings 28 = .ok (.return_, 1) := by decide +kernel
theorem dX8_findRings_29 : decode cX8_findRings 29 = .ok (.aload_n 0, 1) := by decide +kernel
theorem dX8_findRings_30 : decode cX8_findRings 30 = .ok (.getfield 37, 3) := by decide +kernel
theorem dX8_findRings_33 : decode cX8_findRings 33 = .ok (.invokevirtual 51, 3) := by decide +kernel
theorem dX8_findRings_36 : decode cX8_findRings 36 = .ok (.istore_n 2, 1) := by decide +kernel
theorem dX8_findRings_37 : decode cX8_findRings 37 = .ok (.aload_n 0, 1) := by decide +kernel
theorem dX8_findRings_38 : decode cX8_findRings 38 = .ok (.iload_n 2, 1) := by decide +kernel
theorem dX8_findRings_39 : decode cX8_findRings 39 = .ok (.invokevirtual 78, 3) := by decide +kernel
theorem dX8_findRings_42 : decode cX8_findRings 42 = .ok (.istore_n 3, 1) := by decide +kernel
theorem dX8_findRings_43 : decode cX8_findRings 43 = .ok (.iconst 0, 1) := by decide +kernel
theorem dX8_findRings_44 : decode cX8_findRings 44 = .ok (.istore 4, 2) := by decide +kernel
theorem dX8_findRings_46 : decode cX8_findRings 46 = .ok (.iload 4, 2) := by decide +kernel
theorem dX8_findRings_48 : decode cX8_findRings 48 = .ok (.iload_n 2, 1) := by decide +kernel
theorem dX8_findRings_49 : decode cX8_findRings 49 = .ok (.if_icmp .ge 26, 3) := by decide +kernel
theorem dX8_findRings_52 : decode cX8_findRings 52 = .ok (.aload_n 0, 1) := by decide +kernel
theorem dX8_findRings_53 : decode cX8_findRings 53 = .ok (.getfield 18, 3) := by decide +kernel
theorem dX8_findRings_56 : decode cX8_findRings 56 = .ok (.iload 4, 2) := by decide +kernel
theorem dX8_findRings_58 : decode cX8_findRings 58 = .ok (.iaload, 1) := by decide +kernel
theorem dX8_findRings_59 : decode cX8_findRings 59 = .ok (.ifCond .le 10, 3) := by decide +kernel
theorem dX8_findRings_62 : decode cX8_findRings 62 = .ok (.aload_n 0, 1) := by decide +kernel
theorem dX8_findRings_63 : decode cX8_findRings 63 = .ok (.iload 4, 2) := by decide +kernel
theorem dX8_findRings_65 : decode cX8_findRings 65 = .ok (.iload_n 2, 1) := by decide +kernel
theorem dX8_findRings_66 : decode cX8_findRings 66 = .ok (.invokevirtual 82, 3) := by decide +kernel
theorem dX8_findRings_69 : decode cX8_findRings 69 = .ok (.iinc 4 1, 3) := by decide +kernel
theorem dX8_findRings_72 : decode cX8_findRings 72 = .ok (.goto (-26), 3) := by decide +kernel
theorem dX8_findRings_75 : decode cX8_findRings 75 = .ok (.iload_n 3, 1) := by decide +kernel
theorem dX8_findRings_76 : decode cX8_findRings 76 = .ok (.iconst 1, 1) := by decide +kernel
theorem dX8_findRings_77 : decode cX8_findRings 77 = .ok (.isub, 1) := by decide +kernel
theorem dX8_findRings_78 : decode cX8_findRings 78 = .ok (.istore 4, 2) := by decide +kernel
theorem dX8_findRings_80 : decode cX8_findRings 80 = .ok (.iload 4, 2) := by decide +kernel
theorem dX8_findRings_82 : decode cX8_findRings 82 = .ok (.ifCond .lt 58, 3) := by decide +kernel
theorem dX8_findRings_85 : decode cX8_findRings 85 = .ok (.aload_n 0, 1) := by decide +kernel
theorem dX8_findRings_86 : decode cX8_findRings 86 = .ok (.getfield 21, 3) := by decide +kernel
theorem dX8_findRings_89 : decode cX8_findRings 89 = .ok (.iload 4, 2) := by decide +kernel
theorem dX8_findRings_91 : decode cX8_findRings 91 = .ok (.iaload, 1) := by decide +kernel
theorem dX8_findRings_92 : decode cX8_findRings 92 = .ok (.istore 5, 2) := by decide +kernel
theorem dX8_findRings_94 : decode cX8_findRings 94 = .ok (.aload_n 0, 1) := by decide +kernel
theorem dX8_findRings_95 : decode cX8_findRings 95 = .ok (.getfield 15, 3) := by decide +kernel
theorem dX8_findRings_98 : decode cX8_findRings 98 = .ok (.iload 5, 2) := by decide +kernel
theorem dX8_findRings_100 : decode cX8_findRings 100 = .ok (.aload_n 0, 1) := by decide +kernel
theorem dX8_findRings_101 : decode cX8_findRings 101 = .ok (.getfield 15, 3) := by decide +kernel
theorem dX8_findRings_104 : decode cX8_findRings 104 = .ok (.aload_n 0, 1) := by decide +kernel
theorem dX8_findRings_105 : decode cX8_findRings 105 = .ok (.getfield 9, 3) := by decide +kernel
theorem dX8_findRings_108 : decode cX8_findRings 108 = .ok (.iload 5, 2) := by decide +kernel
theorem dX8_findRings_110 : decode cX8_findRings 110 = .ok (.iaload, 1) := by decide +kernel
theorem dX8_findRings_111 : decode cX8_findRings 111 = .ok (.iaload, 1) := by decide +kernel
theorem dX8_findRings_112 : decode cX8_findRings 112 = .ok (.iastore, 1) := by decide +kernel
theorem dX8_findRings_113 : decode cX8_findRings 113 = .ok (.aload_n 0, 1) := by decide +kernel
theorem dX8_findRings_114 : decode cX8_findRings 114 = .ok (.getfield 18, 3) := by decide +kernel
theorem dX8_findRings_117 : decode cX8_findRings 117 = .ok (.iload 5, 2) := by decide +kernel
theorem dX8_findRings_119 : decode cX8_findRings 119 = .ok (.aload_n 0, 1) := by decide +kernel
theorem dX8_findRings_120 : decode cX8_findRings 120 = .ok (.getfield 18, 3) := by decide +kernel
theorem dX8_findRings_123 : decode cX8_findRings 123 = .ok (.aload_n 0, 1) := by decide +kernel
theorem dX8_findRings_124 : decode cX8_findRings 124 = .ok (.getfield 9, 3) := by decide +kernel
theorem dX8_findRings_127 : decode cX8_findRings 127 = .ok (.iload 5, 2) := by decide +kernel
theorem dX8_findRings_129 : decode cX8_findRings 129 = .ok (.iaload, 1) := by decide +kernel
theorem dX8_findRings_130 : decode cX8_findRings 130 = .ok (.iaload, 1) := by decide +kernel
theorem dX8_findRings_131 : decode cX8_findRings 131 = .ok (.iconst 1, 1) := by decide +kernel
theorem dX8_findRings_132 : decode cX8_findRings 132 = .ok (.iadd, 1) := by decide +kernel
theorem dX8_findRings_133 : decode cX8_findRings 133 = .ok (.iastore, 1) := by decide +kernel
theorem dX8_findRings_134 : decode cX8_findRings 134 = .ok (.iinc 4 (-1), 3) := by decide +kernel
theorem dX8_findRings_137 : decode cX8_findRings 137 = .ok (.goto (-57), 3) := by decide +kernel
theorem dX8_findRings_140 : decode cX8_findRings 140 = .ok (.aload_n 0, 1) := by decide +kernel
theorem dX8_findRings_141 : decode cX8_findRings 141 = .ok (.iload_n 1, 1) := by decide +kernel
theorem dX8_findRings_142 : decode cX8_findRings 142 = .ok (.putfield 31, 3) := by decide +kernel
theorem dX8_findRings_145 : decode cX8_findRings 145 = .ok (.aload_n 0, 1) := by decide +kernel
theorem dX8_findRings_146 : decode cX8_findRings 146 = .ok (.aload_n 0, 1) := by decide +kernel
theorem dX8_findRings_147 : decode cX8_findRings 147 = .ok (.getfield 37, 3) := by decide +kernel
theorem dX8_findRings_150 : decode cX8_findRings 150 = .ok (.invokevirtual 41, 3) := by decide +kernel
theorem dX8_findRings_153 : decode cX8_findRings 153 = .ok (.putfield 34, 3) := by decide +kernel
theorem dX8_findRings_156 : decode cX8_findRings 156 = .ok (.return_, 1) := by decide +kernel
theorem dX8_takeOff_0 : decode cX8_takeOff 0 = .ok (.iconst 0, 1) := by decide +kernel
theorem dX8_takeOff_1 : decode cX8_takeOff 1 = .ok (.istore_n 2, 1) := by decide +kernel
theorem dX8_takeOff_2 : decode cX8_takeOff 2 = .ok (.iload_n 2, 1) := by decide +kernel
theorem dX8_takeOff_3 : decode cX8_takeOff 3 = .ok (.iload_n 1, 1) := by decide +kernel
theorem dX8_takeOff_4 : decode cX8_takeOff 4 = .ok (.if_icmp .ge 16, 3) := by decide +kernel
theorem dX8_takeOff_7 : decode cX8_takeOff 7 = .ok (.aload_n 0, 1) := by decide +kernel
theorem dX8_takeOff_8 : decode cX8_takeOff 8 = .ok (.getfield 18, 3) := by decide +kernel
theorem dX8_takeOff_11 : decode cX8_takeOff 11 = .ok (.iload_n 2, 1) := by decide +kernel
theorem dX8_takeOff_12 : decode cX8_takeOff 12 = .ok (.iconst 0, 1) := by decide +kernel
theorem dX8_takeOff_13 : decode cX8_takeOff 13 = .ok (.iastore, 1) := by decide +kernel
theorem dX8_takeOff_14 : decode cX8_takeOff 14 = .ok (.iinc 2 1, 3) := by decide +kernel
theorem dX8_takeOff_17 : decode cX8_takeOff 17 = .ok (.goto (-15), 3) := by decide +kernel
theorem dX8_takeOff_20 : decode cX8_takeOff 20 = .ok (.iconst 0, 1) := by decide +kernel
theorem dX8_takeOff_21 : decode cX8_takeOff 21 = .ok (.istore_n 2, 1) := by decide +kernel
theorem dX8_takeOff_22 : decode cX8_takeOff 22 = .ok (.iload_n 2, 1) := by decide +kernel
theorem dX8_takeOff_23 : decode cX8_takeOff 23 = .ok (.iload_n 1, 1) := by decide +kernel
theorem dX8_takeOff_24 : decode cX8_takeOff 24 = .ok (.if_icmp .ge 24, 3) := by decide +kernel
theorem dX8_takeOff_27 : decode cX8_takeOff 27 = .ok (.aload_n 0, 1) := by decide +kernel
theorem dX8_takeOff_28 : decode cX8_takeOff 28 = .ok (.getfield 18, 3) := by decide +kernel
theorem dX8_takeOff_31 : decode cX8_takeOff 31 = .ok (.aload_n 0, 1) := by decide +kernel
theorem dX8_takeOff_32 : decode cX8_takeOff 32 = .ok (.getfield 9, 3) := by decide +kernel
theorem dX8_takeOff_35 : decode cX8_takeOff 35 = .ok (.iload_n 2, 1) := by decide +kernel
theorem dX8_takeOff_36 : decode cX8_takeOff 36 = .ok (.iaload, 1) := by decide +kernel
theorem dX8_takeOff_37 : decode cX8_takeOff 37 = .ok (.dup2, 1) := by decide +kernel
theorem dX8_takeOff_38 : decode cX8_takeOff 38 = .ok (.iaload, 1) := by decide +kernel
theorem dX8_takeOff_39 : decode cX8_takeOff 39 = .ok (.iconst 1, 1) := by decide +kernel
theorem dX8_takeOff_40 : decode cX8_takeOff 40 = .ok (.iadd, 1) := by decide +kernel
theorem dX8_takeOff_41 : decode cX8_takeOff 41 = .ok (.iastore, 1) := by decide +kernel
theorem dX8_takeOff_42 : decode cX8_takeOff 42 = .ok (.iinc 2 1, 3) := by decide +kernel
theorem dX8_takeOff_45 : decode cX8_takeOff 45 = .ok (.goto (-23), 3) := by decide +kernel
theorem dX8_takeOff_48 : decode cX8_takeOff 48 = .ok (.iconst 0, 1) := by decide +kernel
theorem dX8_takeOff_49 : decode cX8_takeOff 49 = .ok (.istore_n 2, 1) := by decide +kernel
theorem dX8_takeOff_50 : decode cX8_takeOff 50 = .ok (.iconst 0, 1) := by decide +kernel
theorem dX8_takeOff_51 : decode cX8_takeOff 51 = .ok (.istore_n 3, 1) := by decide +kernel
theorem dX8_takeOff_52 : decode cX8_takeOff 52 = .ok (.iload_n 3, 1) := by decide +kernel
theorem dX8_takeOff_53 : decode cX8_takeOff 53 = .ok (.iload_n 1, 1) := by decide +kernel
theorem dX8_takeOff_54 : decode cX8_takeOff 54 = .ok (.if_icmp .ge 28, 3) := by decide +kernel
theorem dX8_takeOff_57 : decode cX8_takeOff 57 = .ok (.aload_n 0, 1) := by decide +kernel
theorem dX8_takeOff_58 : decode cX8_takeOff 58 = .ok (.getfield 18, 3) := by decide +kernel
theorem dX8_takeOff_61 : decode cX8_takeOff 61 = .ok (.iload_n 3, 1) := by decide +kernel
theorem dX8_takeOff_62 : decode cX8_takeOff 62 = .ok (.iaload, 1) := by decide +kernel
theorem dX8_takeOff_63 : decode cX8_takeOff 63 = .ok (.ifCond .ne 13, 3) := by decide +kernel
theorem dX8_takeOff_66 : decode cX8_takeOff 66 = .ok (.aload_n 0, 1) := by decide +kernel
theorem dX8_takeOff_67 : decode cX8_takeOff 67 = .ok (.getfield 21, 3) := by decide +kernel
theorem dX8_takeOff_70 : decode cX8_takeOff 70 = .ok (.iload_n 2, 1) := by decide +kernel
theorem dX8_takeOff_71 : decode cX8_takeOff 71 = .ok (.iinc 2 1, 3) := by decide +kernel
theorem dX8_takeOff_74 : decode cX8_takeOff 74 = .ok (.iload_n 3, 1) := by decide +kernel
theorem dX8_takeOff_75 : decode cX8_takeOff 75 = .ok (.iastore, 1) := by decide +kernel
theorem dX8_takeOff_76 : decode cX8_takeOff 76 = .ok (.iinc 3 1, 3) := by decide +kernel
theorem dX8_takeOff_79 : decode cX8_takeOff 79 = .ok (.goto (-27), 3) := by decide +kernel
theorem dX8_takeOff_82 : decode cX8_takeOff 82 = .ok (.iconst 0, 1) := by decide +kernel
theorem dX8_takeOff_83 : decode cX8_takeOff 83 = .ok (.istore_n 3, 1) := by decide +kernel
theorem dX8_takeOff_84 : decode cX8_takeOff 84 = .ok (.iload_n 3, 1) := by decide +kernel
theorem dX8_takeOff_85 : decode cX8_takeOff 85 = .ok (.iload_n 2, 1) := by decide +kernel
theorem dX8_takeOff_86 : decode cX8_takeOff 86 = .ok (.if_icmp .ge 59, 3) := by decide +kernel
theorem dX8_takeOff_89 : decode cX8_takeOff 89 = .ok (.iload_n 3, 1) := by decide +kernel
theorem dX8_takeOff_90 : decode cX8_takeOff 90 = .ok (.iload_n 1, 1) := by decide +kernel
theorem dX8_takeOff_91 : decode cX8_takeOff 91 = .ok (.if_icmp .ge 54, 3) := by decide +kernel
theorem dX8_takeOff_94 : decode cX8_takeOff 94 = .ok (.aload_n 0, 1) := by decide +kernel
theorem dX8_takeOff_95 : decode cX8_takeOff 95 = .ok (.getfield 9, 3) := by decide +kernel
theorem dX8_takeOff_98 : decode cX8_takeOff 98 = .ok (.aload_n 0, 1) := by decide +kernel
theorem dX8_takeOff_99 : decode cX8_takeOff 99 = .ok (.getfield 21, 3) := by decide +kernel
theorem dX8_takeOff_102 : decode cX8_takeOff 102 = .ok (.iload_n 3, 1) := by decide +kernel
theorem dX8_takeOff_103 : decode cX8_takeOff 103 = .ok (.iaload, 1) := by decide +kernel
theorem dX8_takeOff_104 : decode cX8_takeOff 104 = .ok (.iaload, 1) := by decide +kernel
theorem dX8_takeOff_105 : decode cX8_takeOff 105 = .ok (.istore 4, 2) := by decide +kernel
theorem dX8_takeOff_107 : decode cX8_takeOff 107 = .ok (.aload_n 0, 1) := by decide +kernel
theorem dX8_takeOff_108 : decode cX8_takeOff 108 = .ok (.getfield 18, 3) := by decide +kernel
theorem dX8_takeOff_111 : decode cX8_takeOff 111 = .ok (.iload 4, 2) := by decide +kernel
theorem dX8_takeOff_113 : decode cX8_takeOff 113 = .ok (.dup2, 1) := by decide +kernel
theorem dX8_takeOff_114 : decode cX8_takeOff 114 = .ok (.iaload, 1) := by decide +kernel
theorem dX8_takeOff_115 : decode cX8_takeOff 115 = .ok (.iconst 1, 1) := by decide +kernel
theorem dX8_takeOff_116 : decode cX8_takeOff 116 = .ok (.isub, 1) := by decide +kernel
theorem dX8_takeOff_117 : decode cX8_takeOff 117 = .ok (.iastore, 1) := by decide +kernel
theorem dX8_takeOff_118 : decode cX8_takeOff 118 = .ok (.aload_n 0, 1) := by decide +kernel
theorem dX8_takeOff_119 : decode cX8_takeOff 119 = .ok (.getfield 18, 3) := by decide +kernel
theorem dX8_takeOff_122 : decode cX8_takeOff 122 = .ok (.iload 4, 2) := by decide +kernel
theorem dX8_takeOff_124 : decode cX8_takeOff 124 = .ok (.iaload, 1) := by decide +kernel
theorem dX8_takeOff_125 : decode cX8_takeOff 125 = .ok (.ifCond .ne 14, 3) := by decide +kernel
theorem dX8_takeOff_128 : decode cX8_takeOff 128 = .ok (.aload_n 0, 1) := by decide +kernel
theorem dX8_takeOff_129 : decode cX8_takeOff 129 = .ok (.getfield 21, 3) := by decide +kernel
theorem dX8_takeOff_132 : decode cX8_takeOff 132 = .ok (.iload_n 2, 1) := by decide +kernel
theorem dX8_takeOff_133 : decode cX8_takeOff 133 = .ok (.iinc 2 1, 3) := by decide +kernel
theorem dX8_takeOff_136 : decode cX8_takeOff 136 = .ok (.iload 4, 2) := by decide +kernel
theorem dX8_takeOff_138 : decode cX8_takeOff 138 = .ok (.iastore, 1) := by decide +kernel
theorem dX8_takeOff_139 : decode cX8_takeOff 139 = .ok (.iinc 3 1, 3) := by decide +kernel
theorem dX8_takeOff_142 : decode cX8_takeOff 142 = .ok (.goto (-58), 3) := by decide +kernel
theorem dX8_takeOff_145 : decode cX8_takeOff 145 = .ok (.iload_n 2, 1) := by decide +kernel
theorem dX8_takeOff_146 : decode cX8_takeOff 146 = .ok (.ireturn, 1) := by decide +kernel
theorem dX8_goRound_0 : decode cX8_goRound 0 = .ok (.iload_n 1, 1) := by decide +kernel
theorem dX8_goRound_1 : decode cX8_goRound 1 = .ok (.istore_n 3, 1) := by decide +kernel
theorem dX8_goRound_2 : decode cX8_goRound 2 = .ok (.iconst 0, 1) := by decide +kernel
theorem dX8_goRound_3 : decode cX8_goRound 3 = .ok (.istore 4, 2) := by decide +kernel
theorem dX8_goRound_5 : decode cX8_goRound 5 = .ok (.iload 4, 2) := by decide +kernel
theorem dX8_goRound_7 : decode cX8_goRound 7 = .ok (.iload_n 2, 1) := by decide +kernel
theorem dX8_goRound_8 : decode cX8_goRound 8 = .ok (.if_icmp .ge 39, 3) := by decide +kernel
theorem dX8_goRound_11 : decode cX8_goRound 11 = .ok (.aload_n 0, 1) := by decide +kernel
theorem dX8_goRound_12 : decode cX8_goRound 12 = .ok (.getfield 18, 3) := by decide +kernel
theorem dX8_goRound_15 : decode cX8_goRound 15 = .ok (.iload_n 3, 1) := by decide +kernel
theorem dX8_goRound_16 : decode cX8_goRound 16 = .ok (.iaload, 1) := by decide +kernel
theorem dX8_goRound_17 : decode cX8_goRound 17 = .ok (.ifCond .le 30, 3) := by decide +kernel
theorem dX8_goRound_20 : decode cX8_goRound 20 = .ok (.aload_n 0, 1) := by decide +kernel
theorem dX8_goRound_21 : decode cX8_goRound 21 = .ok (.getfield 15, 3) := by decide +kernel
theorem dX8_goRound_24 : decode cX8_goRound 24 = .ok (.iload_n 3, 1) := by decide +kernel
theorem dX8_goRound_25 : decode cX8_goRound 25 = .ok (.iload_n 1, 1) := by decide +kernel
theorem dX8_goRound_26 : decode cX8_goRound 26 = .ok (.iastore, 1) := by decide +kernel
theorem dX8_goRound_27 : decode cX8_goRound 27 = .ok (.aload_n 0, 1) := by decide +kernel
theorem dX8_goRound_28 : decode cX8_goRound 28 = .ok (.getfield 18, 3) := by decide +kernel
theorem dX8_goRound_31 : decode cX8_goRound 31 = .ok (.iload_n 3, 1) := by decide +kernel
theorem dX8_goRound_32 : decode cX8_goRound 32 = .ok (.iconst 0, 1) := by decide +kernel
theorem dX8_goRound_33 : decode cX8_goRound 33 = .ok (.iastore, 1) := by decide +kernel
theorem dX8_goRound_34 : decode cX8_goRound 34 = .ok (.aload_n 0, 1) := by decide +kernel
theorem dX8_goRound_35 : decode cX8_goRound 35 = .ok (.getfield 9, 3) := by decide +kernel
theorem dX8_goRound_38 : decode cX8_goRound 38 = .ok (.iload_n 3, 1) := by decide +kernel
theorem dX8_goRound_39 : decode cX8_goRound 39 = .ok (.iaload, 1) := by decide +kernel
theorem dX8_goRound_40 : decode cX8_goRound 40 = .ok (.istore_n 3, 1) := by decide +kernel
theorem dX8_goRound_41 : decode cX8_goRound 41 = .ok (.iinc 4 1, 3) := by decide +kernel
theorem dX8_goRound_44 : decode cX8_goRound 44 = .ok (.goto (-39), 3) := by decide +kernel
theorem dX8_goRound_47 : decode cX8_goRound 47 = .ok (.return_, 1) := by decide +kernel
theorem dX9_people_0 : decode cX9_people 0 = .ok (.iload_n 1, 1) := by decide +kernel
theorem dX9_people_1 : decode cX9_people 1 = .ok (.iconst 1, 1) := by decide +kernel
theorem dX9_people_2 : decode cX9_people 2 = .ok (.bipush 10, 2) := by decide +kernel
theorem dX9_people_4 : decode cX9_people 4 = .ok (.invokestatic 74, 3) := by decide +kernel
theorem dX9_people_7 : decode cX9_people 7 = .ok (.ifCond .ne 6, 3) := by decide +kernel
theorem dX9_people_10 : decode cX9_people 10 = .ok (.bipush (-2), 2) := by decide +kernel
theorem dX9_people_12 : decode cX9_people 12 = .ok (.ireturn, 1) := by decide +kernel
theorem dX9_people_13 : decode cX9_people 13 = .ok (.aload_n 0, 1) := by decide +kernel
theorem dX9_people_14 : decode cX9_people 14 = .ok (.getfield 15, 3) := by decide +kernel
theorem dX9_people_17 : decode cX9_people 17 = .ok (.invokevirtual 78, 3) := by decide +kernel
theorem dX9_people_20 : decode cX9_people 20 = .ok (.istore_n 2, 1) := by decide +kernel
theorem dX9_people_21 : decode cX9_people 21 = .ok (.aload_n 0, 1) := by decide +kernel
theorem dX9_people_22 : decode cX9_people 22 = .ok (.getfield 15, 3) := by decide +kernel
theorem dX9_people_25 : decode cX9_people 25 = .ok (.iload_n 1, 1) := by decide +kernel
theorem dX9_people_26 : decode cX9_people 26 = .ok (.invokevirtual 82, 3) := by decide +kernel
theorem dX9_people_29 : decode cX9_people 29 = .ok (.aload_n 0, 1) := by decide +kernel
theorem dX9_people_30 : decode cX9_people 30 = .ok (.getfield 61, 3) := by decide +kernel
theorem dX9_people_33 : decode cX9_people 33 = .ok (.invokevirtual 86, 3) := by decide +kernel
theorem dX9_people_36 : decode cX9_people 36 = .ok (.iload_n 2, 1) := by decide +kernel
theorem dX9_people_37 : decode cX9_people 37 = .ok (.ireturn, 1) := by decide +kernel
theorem dX9_tie_0 : decode cX9_tie 0 = .ok (.aload_n 0, 1) := by decide +kernel
theorem dX9_tie_1 : decode cX9_tie 1 = .ok (.getfield 15, 3) := by decide +kernel
theorem dX9_tie_4 : decode cX9_tie 4 = .ok (.iload_n 1, 1) := by decide +kernel
theorem dX9_tie_5 : decode cX9_tie 5 = .ok (.invokevirtual 89, 3) := by decide +kernel
theorem dX9_tie_8 : decode cX9_tie 8 = .ok (.ifCond .eq 14, 3) := by decide +kernel
theorem dX9_tie_11 : decode cX9_tie 11 = .ok (.aload_n 0, 1) := by decide +kernel
theorem dX9_tie_12 : decode cX9_tie 12 = .ok (.getfield 15, 3) := by decide +kernel
theorem dX9_tie_15 : decode cX9_tie 15 = .ok (.iload_n 2, 1) := by decide +kernel
theorem dX9_tie_16 : decode cX9_tie 16 = .ok (.invokevirtual 89, 3) := by decide +kernel
theorem dX9_tie_19 : decode cX9_tie 19 = .ok (.ifCond .ne 5, 3) := by decide +kernel
theorem dX9_tie_22 : decode cX9_tie 22 = .ok (.iconst (-1), 1) := by decide +kernel
theorem dX9_tie_23 : decode cX9_tie 23 = .ok (.ireturn, 1) := by decide +kernel
theorem dX9_tie_24 : decode cX9_tie 24 = .ok (.iload_n 3, 1) := by decide +kernel
theorem dX9_tie_25 : decode cX9_tie 25 = .ok (.iconst 0, 1) := by decide +kernel
theorem dX9_tie_26 : decode cX9_tie 26 = .ok (.bipush 9, 2) := by decide +kernel
theorem dX9_tie_28 : decode cX9_tie 28 = .ok (.invokestatic 74, 3) := by decide +kernel
theorem dX9_tie_31 : decode cX9_tie 31 = .ok (.ifCond .ne 6, 3) := by decide +kernel
theorem dX9_tie_34 : decode cX9_tie 34 = .ok (.bipush (-2), 2) := by decide +kernel
theorem dX9_tie_36 : decode cX9_tie 36 = .ok (.ireturn, 1) := by decide +kernel
theorem dX9_tie_37 : decode cX9_tie 37 = .ok (.iload_n 1, 1) := by decide +kernel
theorem dX9_tie_38 : decode cX9_tie 38 = .ok (.iload_n 2, 1) := by decide +kernel
theorem dX9_tie_39 : decode cX9_tie 39 = .ok (.if_icmp .ne 6, 3) := by decide +kernel
theorem dX9_tie_42 : decode cX9_tie 42 = .ok (.bipush (-3), 2) := by decide +kernel
theorem dX9_tie_44 : decode cX9_tie 44 = .ok (.ireturn, 1) := by decide +kernel
theorem dX9_tie_45 : decode cX9_tie 45 = .ok (.aload_n 0, 1) := by decide +kernel
theorem dX9_tie_46 : decode cX9_tie 46 = .ok (.getfield 15, 3) := by decide +kernel
theorem dX9_tie_49 : decode cX9_tie 49 = .ok (.iload_n 1, 1) := by decide +kernel
theorem dX9_tie_50 : decode cX9_tie 50 = .ok (.iload_n 2, 1) := by decide +kernel
theorem dX9_tie_51 : decode cX9_tie 51 = .ok (.invokevirtual 93, 3) := by decide +kernel
theorem dX9_tie_54 : decode cX9_tie 54 = .ok (.istore 4, 2) := by decide +kernel
theorem dX9_tie_56 : decode cX9_tie 56 = .ok (.aload_n 0, 1) := by decide +kernel
theorem dX9_tie_57 : decode cX9_tie 57 = .ok (.getfield 15, 3) := by decide +kernel
theorem dX9_tie_60 : decode cX9_tie 60 = .ok (.iload_n 1, 1) := by decide +kernel
theorem dX9_tie_61 : decode cX9_tie 61 = .ok (.iload_n 2, 1) := by decide +kernel
theorem dX9_tie_62 : decode cX9_tie 62 = .ok (.iload_n 3, 1) := by decide +kernel
theorem dX9_tie_63 : decode cX9_tie 63 = .ok (.invokevirtual 97, 3) := by decide +kernel
theorem dX9_tie_66 : decode cX9_tie 66 = .ok (.iload 4, 2) := by decide +kernel
theorem dX9_tie_68 : decode cX9_tie 68 = .ok (.ireturn, 1) := by decide +kernel
theorem dX9_set_0 : decode cX9_set 0 = .ok (.aload_n 0, 1) := by decide +kernel
theorem dX9_set_1 : decode cX9_set 1 = .ok (.getfield 15, 3) := by decide +kernel
theorem dX9_set_4 : decode cX9_set 4 = .ok (.iload_n 1, 1) := by decide +kernel
theorem dX9_set_5 : decode cX9_set 5 = .ok (.invokevirtual 89, 3) := by decide +kernel
theorem dX9_set_8 : decode cX9_set 8 = .ok (.ifCond .ne 5, 3) := by decide +kernel
theorem dX9_set_11 : decode cX9_set 11 = .ok (.iconst (-1), 1) := by decide +kernel
theorem dX9_set_12 : decode cX9_set 12 = .ok (.ireturn, 1) := by decide +kernel
theorem dX9_set_13 : decode cX9_set 13 = .ok (.iload_n 2, 1) := by decide +kernel
theorem dX9_set_14 : decode cX9_set 14 = .ok (.ifCond .ne 34, 3) := by decide +kernel
theorem dX9_set_17 : decode cX9_set 17 = .ok (.iload_n 3, 1) := by decide +kernel
theorem dX9_set_18 : decode cX9_set 18 = .ok (.iconst 0, 1) := by decide +kernel
theorem dX9_set_19 : decode cX9_set 19 = .ok (.iconst 3, 1) := by decide +kernel
theorem dX9_set_20 : decode cX9_set 20 = .ok (.invokestatic 74, 3) := by decide +kernel
theorem dX9_set_23 : decode cX9_set 23 = .ok (.ifCond .eq 25, 3) := by decide +kernel
theorem dX9_set_26 : decode cX9_set 26 = .ok (.aload_n 0, 1) := by decide +kernel
theorem dX9_set_27 : decode cX9_set 27 = .ok (.getfield 15, 3) := by decide +kernel
theorem dX9_set_30 : decode cX9_set 30 = .ok (.iload_n 1, 1) := by decide +kernel
theorem dX9_set_31 : decode cX9_set 31 = .ok (.invokevirtual 101, 3) := by decide +kernel
theorem dX9_set_34 : decode cX9_set 34 = .ok (.istore 4, 2) := by decide +kernel
theorem dX9_set_36 : decode cX9_set 36 = .ok (.aload_n 0, 1) := by decide +kernel
theorem dX9_set_37 : decode cX9_set 37 = .ok (.getfield 15, 3) := by decide +kernel
theorem dX9_set_40 : decode cX9_set 40 = .ok (.iload_n 1, 1) := by decide +kernel
theorem dX9_set_41 : decode cX9_set 41 = .ok (.iload_n 3, 1) := by decide +kernel
theorem dX9_set_42 : decode cX9_set 42 = .ok (.invokevirtual 105, 3) := by decide +kernel
theorem dX9_set_45 : decode cX9_set 45 = .ok (.iload 4, 2) := by decide +kernel
theorem dX9_set_47 : decode cX9_set 47 = .ok (.ireturn, 1) := by decide +kernel
theorem dX9_set_48 : decode cX9_set 48 = .ok (.iload_n 2, 1) := by decide +kernel
theorem dX9_set_49 : decode cX9_set 49 = .ok (.iconst 1, 1) := by decide +kernel
theorem dX9_set_50 : decode cX9_set 50 = .ok (.if_icmp .ne 36, 3) := by decide +kernel
theorem dX9_set_53 : decode cX9_set 53 = .ok (.iload_n 3, 1) := by decide +kernel
theorem dX9_set_54 : decode cX9_set 54 = .ok (.bipush (-9), 2) := by decide +kernel
theorem dX9_set_56 : decode cX9_set 56 = .ok (.bipush 9, 2) := by decide +kernel
theorem dX9_set_58 : decode cX9_set 58 = .ok (.invokestatic 74, 3) := by decide +kernel
theorem dX9_set_61 : decode cX9_set 61 = .ok (.ifCond .eq 25, 3) := by decide +kernel
theorem dX9_set_64 : decode cX9_set 64 = .ok (.aload_n 0, 1) := by decide +kernel
theorem dX9_set_65 : decode cX9_set 65 = .ok (.getfield 15, 3) := by decide +kernel
theorem dX9_set_68 : decode cX9_set 68 = .ok (.iload_n 1, 1) := by decide +kernel
theorem dX9_set_69 : decode cX9_set 69 = .ok (.invokevirtual 109, 3) := by decide +kernel
theorem dX9_set_72 : decode cX9_set 72 = .ok (.istore 4, 2) := by decide +kernel
theorem dX9_set_74 : decode cX9_set 74 = .ok (.aload_n 0, 1) := by decide +kernel
theorem dX9_set_75 : decode cX9_set 75 = .ok (.getfield 15, 3) := by decide +kernel
theorem dX9_set_78 : decode cX9_set 78 = .ok (.iload_n 1, 1) := by decide +kernel
theorem dX9_set_79 : decode cX9_set 79 = .ok (.iload_n 3, 1) := by decide +kernel
theorem dX9_set_80 : decode cX9_set 80 = .ok (.invokevirtual 112, 3) := by decide +kernel
theorem dX9_set_83 : decode cX9_set 83 = .ok (.iload 4, 2) := by decide +kernel
theorem dX9_set_85 : decode cX9_set 85 = .ok (.ireturn, 1) := by decide +kernel
theorem dX9_set_86 : decode cX9_set 86 = .ok (.bipush (-2), 2) := by decide +kernel
theorem dX9_set_88 : decode cX9_set 88 = .ok (.ireturn, 1) := by decide +kernel
theorem dX9_about_0 : decode cX9_about 0 = .ok (.aload_n 0, 1) := by decide +kernel
theorem dX9_about_1 : decode cX9_about 1 = .ok (.getfield 15, 3) := by decide +kernel
theorem dX9_about_4 : decode cX9_about 4 = .ok (.iload_n 1, 1) := by decide +kernel
theorem dX9_about_5 : decode cX9_about 5 = .ok (.invokevirtual 89, 3) := by decide +kernel
theorem dX9_about_8 : decode cX9_about 8 = .ok (.ifCond .ne 5, 3) := by decide +kernel
theorem dX9_about_11 : decode cX9_about 11 = .ok (.iconst (-1), 1) := by decide +kernel
theorem dX9_about_12 : decode cX9_about 12 = .ok (.ireturn, 1) := by decide +kernel
theorem dX9_about_13 : decode cX9_about 13 = .ok (.iload_n 2, 1) := by decide +kernel
theorem dX9_about_14 : decode cX9_about 14 = .ok (.tableswitch 66 0 3 #[30, 39, 48, 57], 30) := by decide +kernel
theorem dX9_about_44 : decode cX9_about 44 = .ok (.aload_n 0, 1) := by decide +kernel
theorem dX9_about_45 : decode cX9_about 45 = .ok (.getfield 15, 3) := by decide +kernel
theorem dX9_about_48 : decode cX9_about 48 = .ok (.iload_n 1, 1) := by decide +kernel
theorem dX9_about_49 : decode cX9_about 49 = .ok (.invokevirtual 101, 3) := by decide +kernel
theorem dX9_about_52 : decode cX9_about 52 = .ok (.ireturn, 1) := by decide +kernel
theorem dX9_about_53 : decode cX9_about 53 = .ok (.aload_n 0, 1) := by decide +kernel
theorem dX9_about_54 : decode cX9_about 54 = .ok (.getfield 15, 3) := by decide +kernel
theorem dX9_about_57 : decode cX9_about 57 = .ok (.iload_n 1, 1) := by decide +kernel
theorem dX9_about_58 : decode cX9_about 58 = .ok (.invokevirtual 109, 3) := by decide +kernel
theorem dX9_about_61 : decode cX9_about 61 = .ok (.ireturn, 1) := by decide +kernel
theorem dX9_about_62 : decode cX9_about 62 = .ok (.aload_n 0, 1) := by decide +kernel
theorem dX9_about_63 : decode cX9_about 63 = .ok (.getfield 15, 3) := by decide +kernel
theorem dX9_about_66 : decode cX9_about 66 = .ok (.iload_n 1, 1) := by decide +kernel
theorem dX9_about_67 : decode cX9_about 67 = .ok (.invokevirtual 115, 3) := by decide +kernel
theorem dX9_about_70 : decode cX9_about 70 = .ok (.ireturn, 1) := by decide +kernel
theorem dX9_about_71 : decode cX9_about 71 = .ok (.aload_n 0, 1) := by decide +kernel
theorem dX9_about_72 : decode cX9_about 72 = .ok (.getfield 15, 3) := by decide +kernel
theorem dX9_about_75 : decode cX9_about 75 = .ok (.iload_n 1, 1) := by decide +kernel
theorem dX9_about_76 : decode cX9_about 76 = .ok (.invokevirtual 118, 3) := by decide +kernel
theorem dX9_about_79 : decode cX9_about 79 = .ok (.ireturn, 1) := by decide +kernel
theorem dX9_about_80 : decode cX9_about 80 = .ok (.bipush (-2), 2) := by decide +kernel
theorem dX9_about_82 : decode cX9_about 82 = .ok (.ireturn, 1) := by decide +kernel
theorem dX9_sees_0 : decode cX9_sees 0 = .ok (.aload_n 0, 1) := by decide +kernel
theorem dX9_sees_1 : decode cX9_sees 1 = .ok (.getfield 15, 3) := by decide +kernel
theorem dX9_sees_4 : decode cX9_sees 4 = .ok (.iload_n 1, 1) := by decide +kernel
theorem dX9_sees_5 : decode cX9_sees 5 = .ok (.invokevirtual 89, 3) := by decide +kernel
theorem dX9_sees_8 : decode cX9_sees 8 = .ok (.ifCond .eq 14, 3) := by decide +kernel
theorem dX9_sees_11 : decode cX9_sees 11 = .ok (.aload_n 0, 1) := by decide +kernel
theorem dX9_sees_12 : decode cX9_sees 12 = .ok (.getfield 15, 3) := by decide +kernel
theorem dX9_sees_15 : decode cX9_sees 15 = .ok (.iload_n 2, 1) := by decide +kernel
theorem dX9_sees_16 : decode cX9_sees 16 = .ok (.invokevirtual 89, 3) := by decide +kernel
theorem dX9_sees_19 : decode cX9_sees 19 = .ok (.ifCond .ne 5, 3) := by decide +kernel
theorem dX9_sees_22 : decode cX9_sees 22 = .ok (.iconst (-1), 1) := by decide +kernel
theorem dX9_sees_23 : decode cX9_sees 23 = .ok (.ireturn, 1) := by decide +kernel
theorem dX9_sees_24 : decode cX9_sees 24 = .ok (.iload_n 1, 1) := by decide +kernel
theorem dX9_sees_25 : decode cX9_sees 25 = .ok (.iload_n 2, 1) := by decide +kernel
theorem dX9_sees_26 : decode cX9_sees 26 = .ok (.if_icmp .ne 6, 3) := by decide +kernel
theorem dX9_sees_29 : decode cX9_sees 29 = .ok (.bipush (-3), 2) := by decide +kernel
theorem dX9_sees_31 : decode cX9_sees 31 = .ok (.ireturn, 1) := by decide +kernel
theorem dX9_sees_32 : decode cX9_sees 32 = .ok (.aload_n 0, 1) := by decide +kernel
theorem dX9_sees_33 : decode cX9_sees 33 = .ok (.getfield 15, 3) := by decide +kernel
theorem dX9_sees_36 : decode cX9_sees 36 = .ok (.iload_n 1, 1) := by decide +kernel
theorem dX9_sees_37 : decode cX9_sees 37 = .ok (.iload_n 2, 1) := by decide +kernel
theorem dX9_sees_38 : decode cX9_sees 38 = .ok (.invokevirtual 93, 3) := by decide +kernel
theorem dX9_sees_41 : decode cX9_sees 41 = .ok (.ireturn, 1) := by decide +kernel
theorem dX9_sum_0 : decode cX9_sum 0 = .ok (.aload_n 0, 1) := by decide +kernel
theorem dX9_sum_1 : decode cX9_sum 1 = .ok (.getfield 15, 3) := by decide +kernel
theorem dX9_sum_4 : decode cX9_sum 4 = .ok (.iload_n 1, 1) := by decide +kernel
theorem dX9_sum_5 : decode cX9_sum 5 = .ok (.invokevirtual 89, 3) := by decide +kernel
theorem dX9_sum_8 : decode cX9_sum 8 = .ok (.ifCond .ne 5, 3) := by decide +kernel
theorem dX9_sum_11 : decode cX9_sum 11 = .ok (.iconst (-1), 1) := by decide +kernel
theorem dX9_sum_12 : decode cX9_sum 12 = .ok (.ireturn, 1) := by decide +kernel
theorem dX9_sum_13 : decode cX9_sum 13 = .ok (.aload_n 0, 1) := by decide +kernel
theorem dX9_sum_14 : decode cX9_sum 14 = .ok (.getfield 15, 3) := by decide +kernel
theorem dX9_sum_17 : decode cX9_sum 17 = .ok (.iload_n 2, 1) := by decide +kernel
theorem dX9_sum_18 : decode cX9_sum 18 = .ok (.invokevirtual 121, 3) := by decide +kernel
theorem dX9_sum_21 : decode cX9_sum 21 = .ok (.ifCond .ne 6, 3) := by decide +kernel
theorem dX9_sum_24 : decode cX9_sum 24 = .ok (.bipush (-2), 2) := by decide +kernel
theorem dX9_sum_26 : decode cX9_sum 26 = .ok (.ireturn, 1) := by decide +kernel
theorem dX9_sum_27 : decode cX9_sum 27 = .ok (.aload_n 0, 1) := by decide +kernel
theorem dX9_sum_28 : decode cX9_sum 28 = .ok (.getfield 15, 3) := by decide +kernel
theorem dX9_sum_31 : decode cX9_sum 31 = .ok (.iload_n 1, 1) := by decide +kernel
theorem dX9_sum_32 : decode cX9_sum 32 = .ok (.iload_n 2, 1) := by decide +kernel
theorem dX9_sum_33 : decode cX9_sum 33 = .ok (.invokevirtual 124, 3) := by decide +kernel
theorem dX9_sum_36 : decode cX9_sum 36 = .ok (.ireturn, 1) := by decide +kernel
theorem dX9_calm_0 : decode cX9_calm 0 = .ok (.aload_n 0, 1) := by decide +kernel
theorem dX9_calm_1 : decode cX9_calm 1 = .ok (.getfield 15, 3) := by decide +kernel
theorem dX9_calm_4 : decode cX9_calm 4 = .ok (.iload_n 1, 1) := by decide +kernel
theorem dX9_calm_5 : decode cX9_calm 5 = .ok (.invokevirtual 121, 3) := by decide +kernel
theorem dX9_calm_8 : decode cX9_calm 8 = .ok (.ifCond .ne 6, 3) := by decide +kernel
theorem dX9_calm_11 : decode cX9_calm 11 = .ok (.bipush (-2), 2) := by decide +kernel
theorem dX9_calm_13 : decode cX9_calm 13 = .ok (.ireturn, 1) := by decide +kernel
theorem dX9_calm_14 : decode cX9_calm 14 = .ok (.aload_n 0, 1) := by decide +kernel
theorem dX9_calm_15 : decode cX9_calm 15 = .ok (.getfield 15, 3) := by decide +kernel
theorem dX9_calm_18 : decode cX9_calm 18 = .ok (.invokevirtual 127, 3) := by decide +kernel
theorem dX9_calm_21 : decode cX9_calm 21 = .ok (.iconst 1, 1) := by decide +kernel
theorem dX9_calm_22 : decode cX9_calm 22 = .ok (.isub, 1) := by decide +kernel
theorem dX9_calm_23 : decode cX9_calm 23 = .ok (.aload_n 0, 1) := by decide +kernel
theorem dX9_calm_24 : decode cX9_calm 24 = .ok (.getfield 15, 3) := by decide +kernel
theorem dX9_calm_27 : decode cX9_calm 27 = .ok (.iload_n 1, 1) := by decide +kernel
theorem dX9_calm_28 : decode cX9_calm 28 = .ok (.invokevirtual 130, 3) := by decide +kernel
theorem dX9_calm_31 : decode cX9_calm 31 = .ok (.iconst (-1), 1) := by decide +kernel
theorem dX9_calm_32 : decode cX9_calm 32 = .ok (.ixor, 1) := by decide +kernel
theorem dX9_calm_33 : decode cX9_calm 33 = .ok (.iand, 1) := by decide +kernel
theorem dX9_calm_34 : decode cX9_calm 34 = .ok (.ireturn, 1) := by decide +kernel
theorem dX9_after_0 : decode cX9_after 0 = .ok (.aload_n 0, 1) := by decide +kernel
theorem dX9_after_1 : decode cX9_after 1 = .ok (.getfield 15, 3) := by decide +kernel
theorem dX9_after_4 : decode cX9_after 4 = .ok (.iload_n 1, 1) := by decide +kernel
theorem dX9_after_5 : decode cX9_after 5 = .ok (.invokevirtual 121, 3) := by decide +kernel
theorem dX9_after_8 : decode cX9_after 8 = .ok (.ifCond .eq 21, 3) := by decide +kernel
theorem dX9_after_11 : decode cX9_after 11 = .ok (.iload_n 2, 1) := by decide +kernel
theorem dX9_after_12 : decode cX9_after 12 = .ok (.invokestatic 133, 3) := by decide +kernel
theorem dX9_after_15 : decode cX9_after 15 = .ok (.ifCond .eq 14, 3) := by decide +kernel
theorem dX9_after_18 : decode cX9_after 18 = .ok (.iload_n 3, 1) := by decide +kernel
theorem dX9_after_19 : decode cX9_after 19 = .ok (.iconst 0, 1) := by decide +kernel
theorem dX9_after_20 : decode cX9_after 20 = .ok (.sipush 10000, 3) := by decide +kernel
theorem dX9_after_23 : decode cX9_after 23 = .ok (.invokestatic 74, 3) := by decide +kernel
theorem dX9_after_26 : decode cX9_after 26 = .ok (.ifCond .ne 6, 3) := by decide +kernel
theorem dX9_after_29 : decode cX9_after 29 = .ok (.bipush (-2), 2) := by decide +kernel
theorem dX9_after_31 : decode cX9_after 31 = .ok (.ireturn, 1) := by decide +kernel
theorem dX9_after_32 : decode cX9_after 32 = .ok (.aload_n 0, 1) := by decide +kernel
theorem dX9_after_33 : decode cX9_after 33 = .ok (.getfield 38, 3) := by decide +kernel
theorem dX9_after_36 : decode cX9_after 36 = .ok (.iload_n 1, 1) := by decide +kernel
theorem dX9_after_37 : decode cX9_after 37 = .ok (.iload_n 2, 1) := by decide +kernel
theorem dX9_after_38 : decode cX9_after 38 = .ok (.iload_n 3, 1) := by decide +kernel
theorem dX9_after_39 : decode cX9_after 39 = .ok (.invokevirtual 136, 3) := by decide +kernel
theorem dX9_after_42 : decode cX9_after 42 = .ok (.ireturn, 1) := by decide +kernel
theorem dX9_run_0 : decode cX9_run 0 = .ok (.aload_n 0, 1) := by decide +kernel
theorem dX9_run_1 : decode cX9_run 1 = .ok (.getfield 15, 3) := by decide +kernel
theorem dX9_run_4 : decode cX9_run 4 = .ok (.iload_n 1, 1) := by decide +kernel
theorem dX9_run_5 : decode cX9_run 5 = .ok (.invokevirtual 121, 3) := by decide +kernel
theorem dX9_run_8 : decode cX9_run 8 = .ok (.ifCond .eq 10, 3) := by decide +kernel
theorem dX9_run_11 : decode cX9_run 11 = .ok (.iload_n 2, 1) := by decide +kernel
theorem dX9_run_12 : decode cX9_run 12 = .ok (.invokestatic 133, 3) := by decide +kernel
theorem dX9_run_15 : decode cX9_run 15 = .ok (.ifCond .ne 6, 3) := by decide +kernel
theorem dX9_run_18 : decode cX9_run 18 = .ok (.bipush (-2), 2) := by decide +kernel
theorem dX9_run_20 : decode cX9_run 20 = .ok (.ireturn, 1) := by decide +kernel
theorem dX9_run_21 : decode cX9_run 21 = .ok (.iload_n 3, 1) := by decide +kernel
theorem dX9_run_22 : decode cX9_run 22 = .ok (.tableswitch 64 0 2 #[26, 36, 46], 26) := by decide +kernel
theorem dX9_run_48 : decode cX9_run 48 = .ok (.aload_n 0, 1) := by decide +kernel
theorem dX9_run_49 : decode cX9_run 49 = .ok (.getfield 38, 3) := by decide +kernel
theorem dX9_run_52 : decode cX9_run 52 = .ok (.iload_n 1, 1) := by decide +kernel
theorem dX9_run_53 : decode cX9_run 53 = .ok (.iload_n 2, 1) := by decide +kernel
theorem dX9_run_54 : decode cX9_run 54 = .ok (.invokevirtual 140, 3) := by decide +kernel
theorem dX9_run_57 : decode cX9_run 57 = .ok (.ireturn, 1) := by decide +kernel
theorem dX9_run_58 : decode cX9_run 58 = .ok (.aload_n 0, 1) := by decide +kernel
theorem dX9_run_59 : decode cX9_run 59 = .ok (.getfield 38, 3) := by decide +kernel
theorem dX9_run_62 : decode cX9_run 62 = .ok (.iload_n 1, 1) := by decide +kernel
theorem dX9_run_63 : decode cX9_run 63 = .ok (.iload_n 2, 1) := by decide +kernel
theorem dX9_run_64 : decode cX9_run 64 = .ok (.invokevirtual 143, 3) := by decide +kernel
theorem dX9_run_67 : decode cX9_run 67 = .ok (.ireturn, 1) := by decide +kernel
theorem dX9_run_68 : decode cX9_run 68 = .ok (.aload_n 0, 1) := by decide +kernel
theorem dX9_run_69 : decode cX9_run 69 = .ok (.getfield 38, 3) := by decide +kernel
theorem dX9_run_72 : decode cX9_run 72 = .ok (.iload_n 2, 1) := by decide +kernel
theorem dX9_run_73 : decode cX9_run 73 = .ok (.aload_n 0, 1) := by decide +kernel
theorem dX9_run_74 : decode cX9_run 74 = .ok (.getfield 38, 3) := by decide +kernel
theorem dX9_run_77 : decode cX9_run 77 = .ok (.iload_n 1, 1) := by decide +kernel
theorem dX9_run_78 : decode cX9_run 78 = .ok (.iload_n 2, 1) := by decide +kernel
theorem dX9_run_79 : decode cX9_run 79 = .ok (.invokevirtual 143, 3) := by decide +kernel
theorem dX9_run_82 : decode cX9_run 82 = .ok (.invokevirtual 146, 3) := by decide +kernel
theorem dX9_run_85 : decode cX9_run 85 = .ok (.ireturn, 1) := by decide +kernel
theorem dX9_run_86 : decode cX9_run 86 = .ok (.bipush (-2), 2) := by decide +kernel
theorem dX9_run_88 : decode cX9_run 88 = .ok (.ireturn, 1) := by decide +kernel
theorem dX9_rings_0 : decode cX9_rings 0 = .ok (.iload_n 1, 1) := by decide +kernel
theorem dX9_rings_1 : decode cX9_rings 1 = .ok (.invokestatic 133, 3) := by decide +kernel
theorem dX9_rings_4 : decode cX9_rings 4 = .ok (.ifCond .ne 6, 3) := by decide +kernel
theorem dX9_rings_7 : decode cX9_rings 7 = .ok (.bipush (-2), 2) := by decide +kernel
theorem dX9_rings_9 : decode cX9_rings 9 = .ok (.ireturn, 1) := by decide +kernel
theorem dX9_rings_10 : decode cX9_rings 10 = .ok (.aload_n 0, 1) := by decide +kernel
theorem dX9_rings_11 : decode cX9_rings 11 = .ok (.getfield 38, 3) := by decide +kernel
theorem dX9_rings_14 : decode cX9_rings 14 = .ok (.iload_n 1, 1) := by decide +kernel
theorem dX9_rings_15 : decode cX9_rings 15 = .ok (.invokevirtual 149, 3) := by decide +kernel
theorem dX9_rings_18 : decode cX9_rings 18 = .ok (.ireturn, 1) := by decide +kernel
theorem dX9_ring_0 : decode cX9_ring 0 = .ok (.iload_n 1, 1) := by decide +kernel
theorem dX9_ring_1 : decode cX9_ring 1 = .ok (.invokestatic 133, 3) := by decide +kernel
theorem dX9_ring_4 : decode cX9_ring 4 = .ok (.ifCond .ne 6, 3) := by decide +kernel
theorem dX9_ring_7 : decode cX9_ring 7 = .ok (.bipush (-2), 2) := by decide +kernel
theorem dX9_ring_9 : decode cX9_ring 9 = .ok (.ireturn, 1) := by decide +kernel
theorem dX9_ring_10 : decode cX9_ring 10 = .ok (.aload_n 0, 1) := by decide +kernel
theorem dX9_ring_11 : decode cX9_ring 11 = .ok (.getfield 38, 3) := by decide +kernel
theorem dX9_ring_14 : decode cX9_ring 14 = .ok (.iload_n 1, 1) := by decide +kernel
theorem dX9_ring_15 : decode cX9_ring 15 = .ok (.iload_n 2, 1) := by decide +kernel
theorem dX9_ring_16 : decode cX9_ring 16 = .ok (.invokevirtual 152, 3) := by decide +kernel
theorem dX9_ring_19 : decode cX9_ring 19 = .ok (.istore 4, 2) := by decide +kernel
theorem dX9_ring_21 : decode cX9_ring 21 = .ok (.iload 4, 2) := by decide +kernel
theorem dX9_ring_23 : decode cX9_ring 23 = .ok (.ifCond .ge 5, 3) := by decide +kernel
theorem dX9_ring_26 : decode cX9_ring 26 = .ok (.iconst (-1), 1) := by decide +kernel
theorem dX9_ring_27 : decode cX9_ring 27 = .ok (.ireturn, 1) := by decide +kernel
theorem dX9_ring_28 : decode cX9_ring 28 = .ok (.iload_n 3, 1) := by decide +kernel
theorem dX9_ring_29 : decode cX9_ring 29 = .ok (.tableswitch 67 0 3 #[31, 34, 45, 56], 31) := by decide +kernel
theorem dX9_ring_60 : decode cX9_ring 60 = .ok (.iload 4, 2) := by decide +kernel
theorem dX9_ring_62 : decode cX9_ring 62 = .ok (.ireturn, 1) := by decide +kernel
theorem dX9_ring_63 : decode cX9_ring 63 = .ok (.aload_n 0, 1) := by decide +kernel
theorem dX9_ring_64 : decode cX9_ring 64 = .ok (.getfield 38, 3) := by decide +kernel
theorem dX9_ring_67 : decode cX9_ring 67 = .ok (.iload_n 1, 1) := by decide +kernel
theorem dX9_ring_68 : decode cX9_ring 68 = .ok (.iload 4, 2) := by decide +kernel
theorem dX9_ring_70 : decode cX9_ring 70 = .ok (.invokevirtual 146, 3) := by decide +kernel
theorem dX9_ring_73 : decode cX9_ring 73 = .ok (.ireturn, 1) := by decide +kernel
theorem dX9_ring_74 : decode cX9_ring 74 = .ok (.aload_n 0, 1) := by decide +kernel
theorem dX9_ring_75 : decode cX9_ring 75 = .ok (.getfield 38, 3) := by decide +kernel
theorem dX9_ring_78 : decode cX9_ring 78 = .ok (.iload_n 1, 1) := by decide +kernel
theorem dX9_ring_79 : decode cX9_ring 79 = .ok (.iload 4, 2) := by decide +kernel
theorem dX9_ring_81 : decode cX9_ring 81 = .ok (.invokevirtual 155, 3) := by decide +kernel
theorem dX9_ring_84 : decode cX9_ring 84 = .ok (.ireturn, 1) := by decide +kernel
theorem dX9_ring_85 : decode cX9_ring 85 = .ok (.aload_n 0, 1) := by decide +kernel
theorem dX9_ring_86 : decode cX9_ring 86 = .ok (.getfield 38, 3) := by decide +kernel
theorem dX9_ring_89 : decode cX9_ring 89 = .ok (.iload_n 1, 1) := by decide +kernel
theorem dX9_ring_90 : decode cX9_ring 90 = .ok (.iload 4, 2) := by decide +kernel
theorem dX9_ring_92 : decode cX9_ring 92 = .ok (.invokevirtual 158, 3) := by decide +kernel
theorem dX9_ring_95 : decode cX9_ring 95 = .ok (.ireturn, 1) := by decide +kernel
theorem dX9_ring_96 : decode cX9_ring 96 = .ok (.bipush (-2), 2) := by decide +kernel
theorem dX9_ring_98 : decode cX9_ring 98 = .ok (.ireturn, 1) := by decide +kernel
theorem dX9_longest_0 : decode cX9_longest 0 = .ok (.iload_n 1, 1) := by decide +kernel
theorem dX9_longest_1 : decode cX9_longest 1 = .ok (.invokestatic 133, 3) := by decide +kernel
theorem dX9_longest_4 : decode cX9_longest 4 = .ok (.ifCond .ne 6, 3) := by decide +kernel
theorem dX9_longest_7 : decode cX9_longest 7 = .ok (.bipush (-2), 2) := by decide +kernel
theorem dX9_longest_9 : decode cX9_longest 9 = .ok (.ireturn, 1) := by decide +kernel
theorem dX9_longest_10 : decode cX9_longest 10 = .ok (.aload_n 0, 1) := by decide +kernel
theorem dX9_longest_11 : decode cX9_longest 11 = .ok (.getfield 38, 3) := by decide +kernel
theorem dX9_longest_14 : decode cX9_longest 14 = .ok (.iload_n 1, 1) := by decide +kernel
theorem dX9_longest_15 : decode cX9_longest 15 = .ok (.invokevirtual 161, 3) := by decide +kernel
theorem dX9_longest_18 : decode cX9_longest 18 = .ok (.ireturn, 1) := by decide +kernel
theorem dX9_rests_0 : decode cX9_rests 0 = .ok (.aload_n 0, 1) := by decide +kernel
theorem dX9_rests_1 : decode cX9_rests 1 = .ok (.getfield 31, 3) := by decide +kernel
theorem dX9_rests_4 : decode cX9_rests 4 = .ok (.invokevirtual 164, 3) := by decide +kernel
theorem dX9_rests_7 : decode cX9_rests 7 = .ok (.ireturn, 1) := by decide +kernel
theorem dX9_rest_0 : decode cX9_rest 0 = .ok (.aload_n 0, 1) := by decide +kernel
theorem dX9_rest_1 : decode cX9_rest 1 = .ok (.getfield 31, 3) := by decide +kernel
theorem dX9_rest_4 : decode cX9_rest 4 = .ok (.iload_n 1, 1) := by decide +kernel
theorem dX9_rest_5 : decode cX9_rest 5 = .ok (.invokevirtual 167, 3) := by decide +kernel
theorem dX9_rest_8 : decode cX9_rest 8 = .ok (.istore_n 2, 1) := by decide +kernel
theorem dX9_rest_9 : decode cX9_rest 9 = .ok (.iload_n 2, 1) := by decide +kernel
theorem dX9_rest_10 : decode cX9_rest 10 = .ok (.ifCond .ge 7, 3) := by decide +kernel
theorem dX9_rest_13 : decode cX9_rest 13 = .ok (.iconst (-1), 1) := by decide +kernel
theorem dX9_rest_14 : decode cX9_rest 14 = .ok (.goto 4, 3) := by decide +kernel
theorem dX9_rest_17 : decode cX9_rest 17 = .ok (.iload_n 2, 1) := by decide +kernel
theorem dX9_rest_18 : decode cX9_rest 18 = .ok (.ireturn, 1) := by decide +kernel
theorem dX9_even_0 : decode cX9_even 0 = .ok (.aload_n 0, 1) := by decide +kernel
theorem dX9_even_1 : decode cX9_even 1 = .ok (.getfield 24, 3) := by decide +kernel
theorem dX9_even_4 : decode cX9_even 4 = .ok (.invokevirtual 170, 3) := by decide +kernel
theorem dX9_even_7 : decode cX9_even 7 = .ok (.ifCond .eq 7, 3) := by decide +kernel
theorem dX9_even_10 : decode cX9_even 10 = .ok (.iconst 1, 1) := by decide +kernel
theorem dX9_even_11 : decode cX9_even 11 = .ok (.goto 4, 3) := by decide +kernel
theorem dX9_even_14 : decode cX9_even 14 = .ok (.iconst 0, 1) := by decide +kernel
theorem dX9_even_15 : decode cX9_even 15 = .ok (.ireturn, 1) := by decide +kernel
theorem dX9_heat_0 : decode cX9_heat 0 = .ok (.aload_n 0, 1) := by decide +kernel
theorem dX9_heat_1 : decode cX9_heat 1 = .ok (.getfield 15, 3) := by decide +kernel
theorem dX9_heat_4 : decode cX9_heat 4 = .ok (.iload_n 1, 1) := by decide +kernel
theorem dX9_heat_5 : decode cX9_heat 5 = .ok (.invokevirtual 121, 3) := by decide +kernel
theorem dX9_heat_8 : decode cX9_heat 8 = .ok (.ifCond .ne 6, 3) := by decide +kernel
theorem dX9_heat_11 : decode cX9_heat 11 = .ok (.bipush (-2), 2) := by decide +kernel
theorem dX9_heat_13 : decode cX9_heat 13 = .ok (.ireturn, 1) := by decide +kernel
theorem dX9_heat_14 : decode cX9_heat 14 = .ok (.aload_n 0, 1) := by decide +kernel
theorem dX9_heat_15 : decode cX9_heat 15 = .ok (.getfield 24, 3) := by decide +kernel
theorem dX9_heat_18 : decode cX9_heat 18 = .ok (.invokevirtual 170, 3) := by decide +kernel
theorem dX9_heat_21 : decode cX9_heat 21 = .ok (.ifCond .ne 6, 3) := by decide +kernel
theorem dX9_heat_24 : decode cX9_heat 24 = .ok (.bipush (-3), 2) := by decide +kernel
theorem dX9_heat_26 : decode cX9_heat 26 = .ok (.ireturn, 1) := by decide +kernel
theorem dX9_heat_27 : decode cX9_heat 27 = .ok (.sipush 10000, 3) := by decide +kernel
theorem dX9_heat_30 : decode cX9_heat 30 = .ok (.aload_n 0, 1) := by decide +kernel
theorem dX9_heat_31 : decode cX9_heat 31 = .ok (.getfield 24, 3) := by decide +kernel
theorem dX9_heat_34 : decode cX9_heat 34 = .ok (.iload_n 1, 1) := by decide +kernel
theorem dX9_heat_35 : decode cX9_heat 35 = .ok (.invokevirtual 174, 3) := by decide +kernel
theorem dX9_heat_38 : decode cX9_heat 38 = .ok (.iadd, 1) := by decide +kernel
theorem dX9_heat_39 : decode cX9_heat 39 = .ok (.ireturn, 1) := by decide +kernel
theorem dX9_lone_0 : decode cX9_lone 0 = .ok (.aload_n 0, 1) := by decide +kernel
theorem dX9_lone_1 : decode cX9_lone 1 = .ok (.getfield 15, 3) := by decide +kernel
theorem dX9_lone_4 : decode cX9_lone 4 = .ok (.iload_n 1, 1) := by decide +kernel
theorem dX9_lone_5 : decode cX9_lone 5 = .ok (.invokevirtual 89, 3) := by decide +kernel
theorem dX9_lone_8 : decode cX9_lone 8 = .ok (.ifCond .ne 5, 3) := by decide +kernel
theorem dX9_lone_11 : decode cX9_lone 11 = .ok (.iconst (-1), 1) := by decide +kernel
theorem dX9_lone_12 : decode cX9_lone 12 = .ok (.ireturn, 1) := by decide +kernel
theorem dX9_lone_13 : decode cX9_lone 13 = .ok (.aload_n 0, 1) := by decide +kernel
theorem dX9_lone_14 : decode cX9_lone 14 = .ok (.getfield 15, 3) := by decide +kernel
theorem dX9_lone_17 : decode cX9_lone 17 = .ok (.iload_n 2, 1) := by decide +kernel
theorem dX9_lone_18 : decode cX9_lone 18 = .ok (.invokevirtual 121, 3) := by decide +kernel
theorem dX9_lone_21 : decode cX9_lone 21 = .ok (.ifCond .ne 6, 3) := by decide +kernel
theorem dX9_lone_24 : decode cX9_lone 24 = .ok (.bipush (-2), 2) := by decide +kernel
theorem dX9_lone_26 : decode cX9_lone 26 = .ok (.ireturn, 1) := by decide +kernel
theorem dX9_lone_27 : decode cX9_lone 27 = .ok (.aload_n 0, 1) := by decide +kernel
theorem dX9_lone_28 : decode cX9_lone 28 = .ok (.getfield 15, 3) := by decide +kernel
theorem dX9_lone_31 : decode cX9_lone 31 = .ok (.iload_n 1, 1) := by decide +kernel
theorem dX9_lone_32 : decode cX9_lone 32 = .ok (.iload_n 2, 1) := by decide +kernel
theorem dX9_lone_33 : decode cX9_lone 33 = .ok (.invokevirtual 177, 3) := by decide +kernel
theorem dX9_lone_36 : decode cX9_lone 36 = .ok (.ifCond .eq 6, 3) := by decide +kernel
theorem dX9_lone_39 : decode cX9_lone 39 = .ok (.bipush (-3), 2) := by decide +kernel
theorem dX9_lone_41 : decode cX9_lone 41 = .ok (.ireturn, 1) := by decide +kernel
theorem dX9_lone_42 : decode cX9_lone 42 = .ok (.iload_n 2, 1) := by decide +kernel
theorem dX9_lone_43 : decode cX9_lone 43 = .ok (.iconst 1, 1) := by decide +kernel
theorem dX9_lone_44 : decode cX9_lone 44 = .ok (.iload_n 1, 1) := by decide +kernel
theorem dX9_lone_45 : decode cX9_lone 45 = .ok (.ishl, 1) := by decide +kernel
theorem dX9_lone_46 : decode cX9_lone 46 = .ok (.ixor, 1) := by decide +kernel
theorem dX9_lone_47 : decode cX9_lone 47 = .ok (.ireturn, 1) := by decide +kernel
theorem dX9_settled_0 : decode cX9_settled 0 = .ok (.aload_n 0, 1) := by decide +kernel
theorem dX9_settled_1 : decode cX9_settled 1 = .ok (.getfield 47, 3) := by decide +kernel
theorem dX9_settled_4 : decode cX9_settled 4 = .ok (.invokevirtual 181, 3) := by decide +kernel
theorem dX9_settled_7 : decode cX9_settled 7 = .ok (.ifCond .ge 7, 3) := by decide +kernel
theorem dX9_settled_10 : decode cX9_settled 10 = .ok (.iconst 1, 1) := by decide +kernel
theorem dX9_settled_11 : decode cX9_settled 11 = .ok (.goto 4, 3) := by decide +kernel
theorem dX9_settled_14 : decode cX9_settled 14 = .ok (.iconst 0, 1) := by decide +kernel
theorem dX9_settled_15 : decode cX9_settled 15 = .ok (.ireturn, 1) := by decide +kernel
theorem dX9_witness_0 : decode cX9_witness 0 = .ok (.aload_n 0, 1) := by decide +kernel
theorem dX9_witness_1 : decode cX9_witness 1 = .ok (.getfield 47, 3) := by decide +kernel
theorem dX9_witness_4 : decode cX9_witness 4 = .ok (.invokevirtual 181, 3) := by decide +kernel
theorem dX9_witness_7 : decode cX9_witness 7 = .ok (.istore_n 1, 1) := by decide +kernel
theorem dX9_witness_8 : decode cX9_witness 8 = .ok (.iload_n 1, 1) := by decide +kernel
theorem dX9_witness_9 : decode cX9_witness 9 = .ok (.ifCond .ge 8, 3) := by decide +kernel
theorem dX9_witness_12 : decode cX9_witness 12 = .ok (.bipush (-9), 2) := by decide +kernel
theorem dX9_witness_14 : decode cX9_witness 14 = .ok (.goto 4, 3) := by decide +kernel
theorem dX9_witness_17 : decode cX9_witness 17 = .ok (.iload_n 1, 1) := by decide +kernel
theorem dX9_witness_18 : decode cX9_witness 18 = .ok (.ireturn, 1) := by decide +kernel
theorem dX9_turn_0 : decode cX9_turn 0 = .ok (.aload_n 0, 1) := by decide +kernel
theorem dX9_turn_1 : decode cX9_turn 1 = .ok (.getfield 15, 3) := by decide +kernel
theorem dX9_turn_4 : decode cX9_turn 4 = .ok (.iconst 3, 1) := by decide +kernel
theorem dX9_turn_5 : decode cX9_turn 5 = .ok (.invokevirtual 184, 3) := by decide +kernel
theorem dX9_turn_8 : decode cX9_turn 8 = .ok (.ifCond .le 6, 3) := by decide +kernel
theorem dX9_turn_11 : decode cX9_turn 11 = .ok (.bipush (-9), 2) := by decide +kernel
theorem dX9_turn_13 : decode cX9_turn 13 = .ok (.ireturn, 1) := by decide +kernel
theorem dX9_turn_14 : decode cX9_turn 14 = .ok (.aload_n 0, 1) := by decide +kernel
theorem dX9_turn_15 : decode cX9_turn 15 = .ok (.getfield 31, 3) := by decide +kernel
theorem dX9_turn_18 : decode cX9_turn 18 = .ok (.invokevirtual 187, 3) := by decide +kernel
theorem dX9_turn_21 : decode cX9_turn 21 = .ok (.invokestatic 190, 3) := by decide +kernel
theorem dX9_turn_24 : decode cX9_turn 24 = .ok (.ireturn, 1) := by decide +kernel
theorem dX9_turned_0 : decode cX9_turned 0 = .ok (.aload_n 0, 1) := by decide +kernel
theorem dX9_turned_1 : decode cX9_turned 1 = .ok (.getfield 15, 3) := by decide +kernel
theorem dX9_turned_4 : decode cX9_turned 4 = .ok (.iconst 3, 1) := by decide +kernel
theorem dX9_turned_5 : decode cX9_turned 5 = .ok (.invokevirtual 184, 3) := by decide +kernel
theorem dX9_turned_8 : decode cX9_turned 8 = .ok (.ifCond .le 6, 3) := by decide +kernel
theorem dX9_turned_11 : decode cX9_turned 11 = .ok (.bipush (-9), 2) := by decide +kernel
theorem dX9_turned_13 : decode cX9_turned 13 = .ok (.ireturn, 1) := by decide +kernel
theorem dX9_turned_14 : decode cX9_turned 14 = .ok (.aload_n 0, 1) := by decide +kernel
theorem dX9_turned_15 : decode cX9_turned 15 = .ok (.getfield 31, 3) := by decide +kernel
theorem dX9_turned_18 : decode cX9_turned 18 = .ok (.invokevirtual 187, 3) := by decide +kernel
theorem dX9_turned_21 : decode cX9_turned 21 = .ok (.ireturn, 1) := by decide +kernel
theorem dX9_hold_0 : decode cX9_hold 0 = .ok (.aload_n 0, 1) := by decide +kernel
theorem dX9_hold_1 : decode cX9_hold 1 = .ok (.getfield 31, 3) := by decide +kernel
theorem dX9_hold_4 : decode cX9_hold 4 = .ok (.invokevirtual 195, 3) := by decide +kernel
theorem dX9_hold_7 : decode cX9_hold 7 = .ok (.istore_n 2, 1) := by decide +kernel
theorem dX9_hold_8 : decode cX9_hold 8 = .ok (.iload_n 1, 1) := by decide +kernel
theorem dX9_hold_9 : decode cX9_hold 9 = .ok (.ifCond .eq 7, 3) := by decide +kernel
theorem dX9_hold_12 : decode cX9_hold 12 = .ok (.iload_n 2, 1) := by decide +kernel
theorem dX9_hold_13 : decode cX9_hold 13 = .ok (.goto 14, 3) := by decide +kernel
theorem dX9_hold_16 : decode cX9_hold 16 = .ok (.aload_n 0, 1) := by decide +kernel
theorem dX9_hold_17 : decode cX9_hold 17 = .ok (.getfield 15, 3) := by decide +kernel
theorem dX9_hold_20 : decode cX9_hold 20 = .ok (.iload_n 2, 1) := by decide +kernel
theorem dX9_hold_21 : decode cX9_hold 21 = .ok (.invokevirtual 130, 3) := by decide +kernel
theorem dX9_hold_24 : decode cX9_hold 24 = .ok (.invokestatic 190, 3) := by decide +kernel
theorem dX9_hold_27 : decode cX9_hold 27 = .ok (.ireturn, 1) := by decide +kernel
theorem dX9_may_0 : decode cX9_may 0 = .ok (.aload_n 0, 1) := by decide +kernel
theorem dX9_may_1 : decode cX9_may 1 = .ok (.getfield 15, 3) := by decide +kernel
theorem dX9_may_4 : decode cX9_may 4 = .ok (.iload_n 1, 1) := by decide +kernel
theorem dX9_may_5 : decode cX9_may 5 = .ok (.invokevirtual 121, 3) := by decide +kernel
theorem dX9_may_8 : decode cX9_may 8 = .ok (.ifCond .ne 6, 3) := by decide +kernel
theorem dX9_may_11 : decode cX9_may 11 = .ok (.bipush (-2), 2) := by decide +kernel
theorem dX9_may_13 : decode cX9_may 13 = .ok (.ireturn, 1) := by decide +kernel
theorem dX9_may_14 : decode cX9_may 14 = .ok (.aload_n 0, 1) := by decide +kernel
theorem dX9_may_15 : decode cX9_may 15 = .ok (.getfield 31, 3) := by decide +kernel
theorem dX9_may_18 : decode cX9_may 18 = .ok (.iload_n 2, 1) := by decide +kernel
theorem dX9_may_19 : decode cX9_may 19 = .ok (.invokevirtual 167, 3) := by decide +kernel
theorem dX9_may_22 : decode cX9_may 22 = .ok (.istore_n 3, 1) := by decide +kernel
theorem dX9_may_23 : decode cX9_may 23 = .ok (.iload_n 3, 1) := by decide +kernel
theorem dX9_may_24 : decode cX9_may 24 = .ok (.ifCond .ge 5, 3) := by decide +kernel
theorem dX9_may_27 : decode cX9_may 27 = .ok (.iconst (-1), 1) := by decide +kernel
theorem dX9_may_28 : decode cX9_may 28 = .ok (.ireturn, 1) := by decide +kernel
theorem dX9_may_29 : decode cX9_may 29 = .ok (.aload_n 0, 1) := by decide +kernel
theorem dX9_may_30 : decode cX9_may 30 = .ok (.getfield 54, 3) := by decide +kernel
theorem dX9_may_33 : decode cX9_may 33 = .ok (.iload_n 1, 1) := by decide +kernel
theorem dX9_may_34 : decode cX9_may 34 = .ok (.iload_n 3, 1) := by decide +kernel
theorem dX9_may_35 : decode cX9_may 35 = .ok (.invokevirtual 198, 3) := by decide +kernel
theorem dX9_may_38 : decode cX9_may 38 = .ok (.ifCond .eq 7, 3) := by decide +kernel
theorem dX9_may_41 : decode cX9_may 41 = .ok (.iconst 1, 1) := by decide +kernel
theorem dX9_may_42 : decode cX9_may 42 = .ok (.goto 4, 3) := by decide +kernel
theorem dX9_may_45 : decode cX9_may 45 = .ok (.iconst 0, 1) := by decide +kernel
theorem dX9_may_46 : decode cX9_may 46 = .ok (.ireturn, 1) := by decide +kernel
theorem dX9_mays_0 : decode cX9_mays 0 = .ok (.aload_n 0, 1) := by decide +kernel
theorem dX9_mays_1 : decode cX9_mays 1 = .ok (.getfield 15, 3) := by decide +kernel
theorem dX9_mays_4 : decode cX9_mays 4 = .ok (.iload_n 1, 1) := by decide +kernel
theorem dX9_mays_5 : decode cX9_mays 5 = .ok (.invokevirtual 121, 3) := by decide +kernel
theorem dX9_mays_8 : decode cX9_mays 8 = .ok (.ifCond .ne 6, 3) := by decide +kernel
theorem dX9_mays_11 : decode cX9_mays 11 = .ok (.bipush (-2), 2) := by decide +kernel
theorem dX9_mays_13 : decode cX9_mays 13 = .ok (.ireturn, 1) := by decide +kernel
theorem dX9_mays_14 : decode cX9_mays 14 = .ok (.aload_n 0, 1) := by decide +kernel
theorem dX9_mays_15 : decode cX9_mays 15 = .ok (.getfield 54, 3) := by decide +kernel
theorem dX9_mays_18 : decode cX9_mays 18 = .ok (.iload_n 1, 1) := by decide +kernel
theorem dX9_mays_19 : decode cX9_mays 19 = .ok (.invokevirtual 201, 3) := by decide +kernel
theorem dX9_mays_22 : decode cX9_mays 22 = .ok (.ireturn, 1) := by decide +kernel
theorem dX9_soon_0 : decode cX9_soon 0 = .ok (.aload_n 0, 1) := by decide +kernel
theorem dX9_soon_1 : decode cX9_soon 1 = .ok (.getfield 15, 3) := by decide +kernel
theorem dX9_soon_4 : decode cX9_soon 4 = .ok (.iload_n 1, 1) := by decide +kernel
theorem dX9_soon_5 : decode cX9_soon 5 = .ok (.invokevirtual 121, 3) := by decide +kernel
theorem dX9_soon_8 : decode cX9_soon 8 = .ok (.ifCond .ne 6, 3) := by decide +kernel
theorem dX9_soon_11 : decode cX9_soon 11 = .ok (.bipush (-2), 2) := by decide +kernel
theorem dX9_soon_13 : decode cX9_soon 13 = .ok (.ireturn, 1) := by decide +kernel
theorem dX9_soon_14 : decode cX9_soon 14 = .ok (.aload_n 0, 1) := by decide +kernel
theorem dX9_soon_15 : decode cX9_soon 15 = .ok (.getfield 54, 3) := by decide +kernel
theorem dX9_soon_18 : decode cX9_soon 18 = .ok (.iload_n 1, 1) := by decide +kernel
theorem dX9_soon_19 : decode cX9_soon 19 = .ok (.invokevirtual 204, 3) := by decide +kernel
theorem dX9_soon_22 : decode cX9_soon 22 = .ok (.istore_n 2, 1) := by decide +kernel
theorem dX9_soon_23 : decode cX9_soon 23 = .ok (.iload_n 2, 1) := by decide +kernel
theorem dX9_soon_24 : decode cX9_soon 24 = .ok (.ifCond .ge 8, 3) := by decide +kernel
theorem dX9_soon_27 : decode cX9_soon 27 = .ok (.bipush (-9), 2) := by decide +kernel
theorem dX9_soon_29 : decode cX9_soon 29 = .ok (.goto 4, 3) := by decide +kernel
theorem dX9_soon_32 : decode cX9_soon 32 = .ok (.iload_n 2, 1) := by decide +kernel
theorem dX9_soon_33 : decode cX9_soon 33 = .ok (.ireturn, 1) := by decide +kernel
theorem dX9_likely_0 : decode cX9_likely 0 = .ok (.aload_n 0, 1) := by decide +kernel
theorem dX9_likely_1 : decode cX9_likely 1 = .ok (.getfield 15, 3) := by decide +kernel
theorem dX9_likely_4 : decode cX9_likely 4 = .ok (.iload_n 1, 1) := by decide +kernel
theorem dX9_likely_5 : decode cX9_likely 5 = .ok (.invokevirtual 121, 3) := by decide +kernel
theorem dX9_likely_8 : decode cX9_likely 8 = .ok (.ifCond .eq 12, 3) := by decide +kernel
theorem dX9_likely_11 : decode cX9_likely 11 = .ok (.iload_n 2, 1) := by decide +kernel
theorem dX9_likely_12 : decode cX9_likely 12 = .ok (.iconst 0, 1) := by decide +kernel
theorem dX9_likely_13 : decode cX9_likely 13 = .ok (.iconst 4, 1) := by decide +kernel
theorem dX9_likely_14 : decode cX9_likely 14 = .ok (.invokestatic 74, 3) := by decide +kernel
theorem dX9_likely_17 : decode cX9_likely 17 = .ok (.ifCond .ne 7, 3) := by decide +kernel
theorem dX9_likely_20 : decode cX9_likely 20 = .ok (.ldc2_w 207, 3) := by decide +kernel
theorem dX9_likely_23 : decode cX9_likely 23 = .ok (.lreturn, 1) := by decide +kernel
theorem dX9_likely_24 : decode cX9_likely 24 = .ok (.aload_n 0, 1) := by decide +kernel
theorem dX9_likely_25 : decode cX9_likely 25 = .ok (.getfield 54, 3) := by decide +kernel
theorem dX9_likely_28 : decode cX9_likely 28 = .ok (.iload_n 1, 1) := by decide +kernel
theorem dX9_likely_29 : decode cX9_likely 29 = .ok (.iload_n 2, 1) := by decide +kernel
theorem dX9_likely_30 : decode cX9_likely 30 = .ok (.iload_n 3, 1) := by decide +kernel
theorem dX9_likely_31 : decode cX9_likely 31 = .ok (.invokevirtual 209, 3) := by decide +kernel
theorem dX9_likely_34 : decode cX9_likely 34 = .ok (.lreturn, 1) := by decide +kernel
theorem dX9_week_0 : decode cX9_week 0 = .ok (.aload_n 0, 1) := by decide +kernel
theorem dX9_week_1 : decode cX9_week 1 = .ok (.getfield 15, 3) := by decide +kernel
theorem dX9_week_4 : decode cX9_week 4 = .ok (.iload_n 1, 1) := by decide +kernel
theorem dX9_week_5 : decode cX9_week 5 = .ok (.invokevirtual 121, 3) := by decide +kernel
theorem dX9_week_8 : decode cX9_week 8 = .ok (.ifCond .ne 6, 3) := by decide +kernel
theorem dX9_week_11 : decode cX9_week 11 = .ok (.bipush (-2), 2) := by decide +kernel
theorem dX9_week_13 : decode cX9_week 13 = .ok (.ireturn, 1) := by decide +kernel
theorem dX9_week_14 : decode cX9_week 14 = .ok (.aload_n 0, 1) := by decide +kernel
theorem dX9_week_15 : decode cX9_week 15 = .ok (.getfield 61, 3) := by decide +kernel
theorem dX9_week_18 : decode cX9_week 18 = .ok (.invokevirtual 213, 3) := by decide +kernel
theorem dX9_week_21 : decode cX9_week 21 = .ok (.ifCond .eq 6, 3) := by decide +kernel
theorem dX9_week_24 : decode cX9_week 24 = .ok (.bipush (-4), 2) := by decide +kernel
theorem dX9_week_26 : decode cX9_week 26 = .ok (.ireturn, 1) := by decide +kernel
theorem dX9_week_27 : decode cX9_week 27 = .ok (.aload_n 0, 1) := by decide +kernel
theorem dX9_week_28 : decode cX9_week 28 = .ok (.getfield 61, 3) := by decide +kernel
theorem dX9_week_31 : decode cX9_week 31 = .ok (.iload_n 1, 1) := by decide +kernel
theorem dX9_week_32 : decode cX9_week 32 = .ok (.invokevirtual 216, 3) := by decide +kernel
theorem dX9_week_35 : decode cX9_week 35 = .ok (.aload_n 0, 1) := by decide +kernel
theorem dX9_week_36 : decode cX9_week 36 = .ok (.getfield 61, 3) := by decide +kernel
theorem dX9_week_39 : decode cX9_week 39 = .ok (.invokevirtual 219, 3) := by decide +kernel
theorem dX9_week_42 : decode cX9_week 42 = .ok (.ireturn, 1) := by decide +kernel
theorem dX9_wipe_0 : decode cX9_wipe 0 = .ok (.aload_n 0, 1) := by decide +kernel
theorem dX9_wipe_1 : decode cX9_wipe 1 = .ok (.getfield 61, 3) := by decide +kernel
theorem dX9_wipe_4 : decode cX9_wipe 4 = .ok (.invokevirtual 219, 3) := by decide +kernel
theorem dX9_wipe_7 : decode cX9_wipe 7 = .ok (.istore_n 1, 1) := by decide +kernel
theorem dX9_wipe_8 : decode cX9_wipe 8 = .ok (.aload_n 0, 1) := by decide +kernel
theorem dX9_wipe_9 : decode cX9_wipe 9 = .ok (.getfield 61, 3) := by decide +kernel
theorem dX9_wipe_12 : decode cX9_wipe 12 = .ok (.invokevirtual 86, 3) := by decide +kernel
theorem dX9_wipe_15 : decode cX9_wipe 15 = .ok (.iload_n 1, 1) := by decide +kernel
theorem dX9_wipe_16 : decode cX9_wipe 16 = .ok (.ireturn, 1) := by decide +kernel
theorem dX9_maybe_0 : decode cX9_maybe 0 = .ok (.aload_n 0, 1) := by decide +kernel
theorem dX9_maybe_1 : decode cX9_maybe 1 = .ok (.getfield 15, 3) := by decide +kernel
theorem dX9_maybe_4 : decode cX9_maybe 4 = .ok (.iload_n 1, 1) := by decide +kernel
theorem dX9_maybe_5 : decode cX9_maybe 5 = .ok (.invokevirtual 89, 3) := by decide +kernel
theorem dX9_maybe_8 : decode cX9_maybe 8 = .ok (.ifCond .ne 5, 3) := by decide +kernel
theorem dX9_maybe_11 : decode cX9_maybe 11 = .ok (.iconst (-1), 1) := by decide +kernel
theorem dX9_maybe_12 : decode cX9_maybe 12 = .ok (.ireturn, 1) := by decide +kernel
theorem dX9_maybe_13 : decode cX9_maybe 13 = .ok (.aload_n 0, 1) := by decide +kernel
theorem dX9_maybe_14 : decode cX9_maybe 14 = .ok (.getfield 61, 3) := by decide +kernel
theorem dX9_maybe_17 : decode cX9_maybe 17 = .ok (.iload_n 1, 1) := by decide +kernel
theorem dX9_maybe_18 : decode cX9_maybe 18 = .ok (.invokevirtual 220, 3) := by decide +kernel
theorem dX9_maybe_21 : decode cX9_maybe 21 = .ok (.ireturn, 1) := by decide +kernel
theorem dX9_ways_0 : decode cX9_ways 0 = .ok (.aload_n 0, 1) := by decide +kernel
theorem dX9_ways_1 : decode cX9_ways 1 = .ok (.getfield 61, 3) := by decide +kernel
theorem dX9_ways_4 : decode cX9_ways 4 = .ok (.invokevirtual 223, 3) := by decide +kernel
theorem dX9_ways_7 : decode cX9_ways 7 = .ok (.lreturn, 1) := by decide +kernel
theorem dX9_take_0 : decode cX9_take 0 = .ok (.aload_n 0, 1) := by decide +kernel
theorem dX9_take_1 : decode cX9_take 1 = .ok (.getfield 61, 3) := by decide +kernel
theorem dX9_take_4 : decode cX9_take 4 = .ok (.invokevirtual 223, 3) := by decide +kernel
theorem dX9_take_7 : decode cX9_take 7 = .ok (.lconst 0, 1) := by decide +kernel
theorem dX9_take_8 : decode cX9_take 8 = .ok (.lcmp, 1) := by decide +kernel
theorem dX9_take_9 : decode cX9_take 9 = .ok (.ifCond .ne 6, 3) := by decide +kernel
theorem dX9_take_12 : decode cX9_take 12 = .ok (.bipush (-3), 2) := by decide +kernel
theorem dX9_take_14 : decode cX9_take 14 = .ok (.ireturn, 1) := by decide +kernel
theorem dX9_take_15 : decode cX9_take 15 = .ok (.aload_n 0, 1) := by decide +kernel
theorem dX9_take_16 : decode cX9_take 16 = .ok (.getfield 61, 3) := by decide +kernel
theorem dX9_take_19 : decode cX9_take 19 = .ok (.invokevirtual 227, 3) := by decide +kernel
theorem dX9_take_22 : decode cX9_take 22 = .ok (.ireturn, 1) := by decide +kernel
theorem dX9_asked_0 : decode cX9_asked 0 = .ok (.aload_n 0, 1) := by decide +kernel
theorem dX9_asked_1 : decode cX9_asked 1 = .ok (.getfield 15, 3) := by decide +kernel
theorem dX9_asked_4 : decode cX9_asked 4 = .ok (.iload_n 1, 1) := by decide +kernel
theorem dX9_asked_5 : decode cX9_asked 5 = .ok (.invokevirtual 121, 3) := by decide +kernel
theorem dX9_asked_8 : decode cX9_asked 8 = .ok (.ifCond .eq 17, 3) := by decide +kernel
theorem dX9_asked_11 : decode cX9_asked 11 = .ok (.iload_n 2, 1) := by decide +kernel
theorem dX9_asked_12 : decode cX9_asked 12 = .ok (.invokestatic 133, 3) := by decide +kernel
theorem dX9_asked_15 : decode cX9_asked 15 = .ok (.ifCond .eq 10, 3) := by decide +kernel
theorem dX9_asked_18 : decode cX9_asked 18 = .ok (.iload_n 3, 1) := by decide +kernel
theorem dX9_asked_19 : decode cX9_asked 19 = .ok (.invokestatic 230, 3) := by decide +kernel
theorem dX9_asked_22 : decode cX9_asked 22 = .ok (.ifCond .ne 6, 3) := by decide +kernel
theorem dX9_asked_25 : decode cX9_asked 25 = .ok (.bipush (-2), 2) := by decide +kernel
theorem dX9_asked_27 : decode cX9_asked 27 = .ok (.ireturn, 1) := by decide +kernel
theorem dX9_asked_28 : decode cX9_asked 28 = .ok (.aload_n 0, 1) := by decide +kernel
theorem dX9_asked_29 : decode cX9_asked 29 = .ok (.getfield 70, 3) := by decide +kernel
theorem dX9_asked_32 : decode cX9_asked 32 = .ok (.iload_n 1, 1) := by decide +kernel
theorem dX9_asked_33 : decode cX9_asked 33 = .ok (.iload_n 2, 1) := by decide +kernel
theorem dX9_asked_34 : decode cX9_asked 34 = .ok (.iload_n 3, 1) := by decide +kernel
theorem dX9_asked_35 : decode cX9_asked 35 = .ok (.invokevirtual 233, 3) := by decide +kernel
theorem dX9_asked_38 : decode cX9_asked 38 = .ok (.ireturn, 1) := by decide +kernel
theorem dX9_gain_0 : decode cX9_gain 0 = .ok (.iload_n 1, 1) := by decide +kernel
theorem dX9_gain_1 : decode cX9_gain 1 = .ok (.invokestatic 133, 3) := by decide +kernel
theorem dX9_gain_4 : decode cX9_gain 4 = .ok (.ifCond .eq 21, 3) := by decide +kernel
theorem dX9_gain_7 : decode cX9_gain 7 = .ok (.iload_n 2, 1) := by decide +kernel
theorem dX9_gain_8 : decode cX9_gain 8 = .ok (.invokestatic 230, 3) := by decide +kernel
theorem dX9_gain_11 : decode cX9_gain 11 = .ok (.ifCond .eq 14, 3) := by decide +kernel
theorem dX9_gain_14 : decode cX9_gain 14 = .ok (.iload_n 3, 1) := by decide +kernel
theorem dX9_gain_15 : decode cX9_gain 15 = .ok (.iconst 0, 1) := by decide +kernel
theorem dX9_gain_16 : decode cX9_gain 16 = .ok (.sipush 500, 3) := by decide +kernel
theorem dX9_gain_19 : decode cX9_gain 19 = .ok (.invokestatic 74, 3) := by decide +kernel
theorem dX9_gain_22 : decode cX9_gain 22 = .ok (.ifCond .ne 6, 3) := by decide +kernel
theorem dX9_gain_25 : decode cX9_gain 25 = .ok (.bipush (-2), 2) := by decide +kernel
theorem dX9_gain_27 : decode cX9_gain 27 = .ok (.ireturn, 1) := by decide +kernel
theorem dX9_gain_28 : decode cX9_gain 28 = .ok (.iload 4, 2) := by decide +kernel
theorem dX9_gain_30 : decode cX9_gain 30 = .ok (.invokestatic 236, 3) := by decide +kernel
theorem dX9_gain_33 : decode cX9_gain 33 = .ok (.ifCond .eq 11, 3) := by decide +kernel
theorem dX9_gain_36 : decode cX9_gain 36 = .ok (.iload 5, 2) := by decide +kernel
theorem dX9_gain_38 : decode cX9_gain 38 = .ok (.invokestatic 236, 3) := by decide +kernel
theorem dX9_gain_41 : decode cX9_gain 41 = .ok (.ifCond .ne 6, 3) := by decide +kernel
theorem dX9_gain_44 : decode cX9_gain 44 = .ok (.bipush (-2), 2) := by decide +kernel
theorem dX9_gain_46 : decode cX9_gain 46 = .ok (.ireturn, 1) := by decide +kernel
theorem dX9_gain_47 : decode cX9_gain 47 = .ok (.aload_n 0, 1) := by decide +kernel
theorem dX9_gain_48 : decode cX9_gain 48 = .ok (.getfield 70, 3) := by decide +kernel
theorem dX9_gain_51 : decode cX9_gain 51 = .ok (.iload_n 1, 1) := by decide +kernel
theorem dX9_gain_52 : decode cX9_gain 52 = .ok (.iload_n 2, 1) := by decide +kernel
theorem dX9_gain_53 : decode cX9_gain 53 = .ok (.iload_n 3, 1) := by decide +kernel
theorem dX9_gain_54 : decode cX9_gain 54 = .ok (.iload 4, 2) := by decide +kernel
theorem dX9_gain_56 : decode cX9_gain 56 = .ok (.iload 5, 2) := by decide +kernel
theorem dX9_gain_58 : decode cX9_gain 58 = .ok (.invokevirtual 239, 3) := by decide +kernel
theorem dX9_gain_61 : decode cX9_gain 61 = .ok (.ireturn, 1) := by decide +kernel
theorem dX9_order_0 : decode cX9_order 0 = .ok (.iload_n 1, 1) := by decide +kernel
theorem dX9_order_1 : decode cX9_order 1 = .ok (.invokestatic 133, 3) := by decide +kernel
theorem dX9_order_4 : decode cX9_order 4 = .ok (.ifCond .eq 10, 3) := by decide +kernel
theorem dX9_order_7 : decode cX9_order 7 = .ok (.iload_n 2, 1) := by decide +kernel
theorem dX9_order_8 : decode cX9_order 8 = .ok (.invokestatic 230, 3) := by decide +kernel
theorem dX9_order_11 : decode cX9_order 11 = .ok (.ifCond .ne 6, 3) := by decide +kernel
theorem dX9_order_14 : decode cX9_order 14 = .ok (.bipush (-2), 2) := by decide +kernel
theorem dX9_order_16 : decode cX9_order 16 = .ok (.ireturn, 1) := by decide +kernel
theorem dX9_order_17 : decode cX9_order 17 = .ok (.iload_n 3, 1) := by decide +kernel
theorem dX9_order_18 : decode cX9_order 18 = .ok (.invokestatic 236, 3) := by decide +kernel
theorem dX9_order_21 : decode cX9_order 21 = .ok (.ifCond .eq 11, 3) := by decide +kernel
theorem dX9_order_24 : decode cX9_order 24 = .ok (.iload 4, 2) := by decide +kernel
theorem dX9_order_26 : decode cX9_order 26 = .ok (.invokestatic 236, 3) := by decide +kernel
theorem dX9_order_29 : decode cX9_order 29 = .ok (.ifCond .ne 6, 3) := by decide +kernel
theorem dX9_order_32 : decode cX9_order 32 = .ok (.bipush (-2), 2) := by decide +kernel
theorem dX9_order_34 : decode cX9_order 34 = .ok (.ireturn, 1) := by decide +kernel
theorem dX9_order_35 : decode cX9_order 35 = .ok (.aload_n 0, 1) := by decide +kernel
theorem dX9_order_36 : decode cX9_order 36 = .ok (.getfield 70, 3) := by decide +kernel
theorem dX9_order_39 : decode cX9_order 39 = .ok (.iload_n 1, 1) := by decide +kernel
theorem dX9_order_40 : decode cX9_order 40 = .ok (.iload_n 2, 1) := by decide +kernel
theorem dX9_order_41 : decode cX9_order 41 = .ok (.iload_n 3, 1) := by decide +kernel
theorem dX9_order_42 : decode cX9_order 42 = .ok (.iload 4, 2) := by decide +kernel
theorem dX9_order_44 : decode cX9_order 44 = .ok (.invokevirtual 243, 3) := by decide +kernel
theorem dX9_order_47 : decode cX9_order 47 = .ok (.ireturn, 1) := by decide +kernel
theorem dX9_count_0 : decode cX9_count 0 = .ok (.iload_n 1, 1) := by decide +kernel
theorem dX9_count_1 : decode cX9_count 1 = .ok (.tableswitch 77 0 4 #[35, 43, 51, 59, 68], 35) := by decide +kernel
theorem dX9_count_36 : decode cX9_count 36 = .ok (.aload_n 0, 1) := by decide +kernel
theorem dX9_count_37 : decode cX9_count 37 = .ok (.getfield 15, 3) := by decide +kernel
theorem dX9_count_40 : decode cX9_count 40 = .ok (.invokevirtual 78, 3) := by decide +kernel
theorem dX9_count_43 : decode cX9_count 43 = .ok (.ireturn, 1) := by decide +kernel
theorem dX9_count_44 : decode cX9_count 44 = .ok (.aload_n 0, 1) := by decide +kernel
theorem dX9_count_45 : decode cX9_count 45 = .ok (.getfield 15, 3) := by decide +kernel
theorem dX9_count_48 : decode cX9_count 48 = .ok (.invokevirtual 247, 3) := by decide +kernel
theorem dX9_count_51 : decode cX9_count 51 = .ok (.ireturn, 1) := by decide +kernel
theorem dX9_count_52 : decode cX9_count 52 = .ok (.aload_n 0, 1) := by decide +kernel
theorem dX9_count_53 : decode cX9_count 53 = .ok (.getfield 61, 3) := by decide +kernel
theorem dX9_count_56 : decode cX9_count 56 = .ok (.invokevirtual 219, 3) := by decide +kernel
theorem dX9_count_59 : decode cX9_count 59 = .ok (.ireturn, 1) := by decide +kernel
theorem dX9_count_60 : decode cX9_count 60 = .ok (.aload_n 0, 1) := by decide +kernel
theorem dX9_count_61 : decode cX9_count 61 = .ok (.getfield 15, 3) := by decide +kernel
theorem dX9_count_64 : decode cX9_count 64 = .ok (.iconst 0, 1) := by decide +kernel
theorem dX9_count_65 : decode cX9_count 65 = .ok (.invokevirtual 184, 3) := by decide +kernel
theorem dX9_count_68 : decode cX9_count 68 = .ok (.ireturn, 1) := by decide +kernel
theorem dX9_count_69 : decode cX9_count 69 = .ok (.aload_n 0, 1) := by decide +kernel
theorem dX9_count_70 : decode cX9_count 70 = .ok (.getfield 15, 3) := by decide +kernel
theorem dX9_count_73 : decode cX9_count 73 = .ok (.iconst 1, 1) := by decide +kernel
theorem dX9_count_74 : decode cX9_count 74 = .ok (.invokevirtual 184, 3) := by decide +kernel
theorem dX9_count_77 : decode cX9_count 77 = .ok (.ireturn, 1) := by decide +kernel
theorem dX9_count_78 : decode cX9_count 78 = .ok (.bipush (-2), 2) := by decide +kernel
theorem dX9_count_80 : decode cX9_count 80 = .ok (.ireturn, 1) := by decide +kernel
theorem dX9_within_0 : decode cX9_within 0 = .ok (.iload_n 0, 1) := by decide +kernel
theorem dX9_within_1 : decode cX9_within 1 = .ok (.iload_n 1, 1) := by decide +kernel
theorem dX9_within_2 : decode cX9_within 2 = .ok (.if_icmp .lt 12, 3) := by decide +kernel
theorem dX9_within_5 : decode cX9_within 5 = .ok (.iload_n 0, 1) := by decide +kernel
theorem dX9_within_6 : decode cX9_within 6 = .ok (.iload_n 2, 1) := by decide +kernel
theorem dX9_within_7 : decode cX9_within 7 = .ok (.if_icmp .gt 7, 3) := by decide +kernel
theorem dX9_within_10 : decode cX9_within 10 = .ok (.iconst 1, 1) := by decide +kernel
theorem dX9_within_11 : decode cX9_within 11 = .ok (.goto 4, 3) := by decide +kernel
theorem dX9_within_14 : decode cX9_within 14 = .ok (.iconst 0, 1) := by decide +kernel
theorem dX9_within_15 : decode cX9_within 15 = .ok (.ireturn, 1) := by decide +kernel
theorem dX9_isWay_0 : decode cX9_isWay 0 = .ok (.iload_n 0, 1) := by decide +kernel
theorem dX9_isWay_1 : decode cX9_isWay 1 = .ok (.ifCond .eq 8, 3) := by decide +kernel
theorem dX9_isWay_4 : decode cX9_isWay 4 = .ok (.iload_n 0, 1) := by decide +kernel
theorem dX9_isWay_5 : decode cX9_isWay 5 = .ok (.iconst 1, 1) := by decide +kernel
theorem dX9_isWay_6 : decode cX9_isWay 6 = .ok (.if_icmp .ne 7, 3) := by decide +kernel
theorem dX9_isWay_9 : decode cX9_isWay 9 = .ok (.iconst 1, 1) := by decide +kernel
theorem dX9_isWay_10 : decode cX9_isWay 10 = .ok (.goto 4, 3) := by decide +kernel
theorem dX9_isWay_13 : decode cX9_isWay 13 = .ok (.iconst 0, 1) := by decide +kernel
theorem dX9_isWay_14 : decode cX9_isWay 14 = .ok (.ireturn, 1) := by decide +kernel
theorem dX9_isShopRun_0 : decode cX9_isShopRun 0 = .ok (.iload_n 0, 1) := by decide +kernel
theorem dX9_isShopRun_1 : decode cX9_isShopRun 1 = .ok (.iconst 1, 1) := by decide +kernel
theorem dX9_isShopRun_2 : decode cX9_isShopRun 2 = .ok (.bipush 50, 2) := by decide +kernel
theorem dX9_isShopRun_4 : decode cX9_isShopRun 4 = .ok (.invokestatic 74, 3) := by decide +kernel
theorem dX9_isShopRun_7 : decode cX9_isShopRun 7 = .ok (.ireturn, 1) := by decide +kernel
theorem dX9_isMoney_0 : decode cX9_isMoney 0 = .ok (.iload_n 0, 1) := by decide +kernel
theorem dX9_isMoney_1 : decode cX9_isMoney 1 = .ok (.iconst 1, 1) := by decide +kernel
theorem dX9_isMoney_2 : decode cX9_isMoney 2 = .ok (.bipush 99, 2) := by decide +kernel
theorem dX9_isMoney_4 : decode cX9_isMoney 4 = .ok (.invokestatic 74, 3) := by decide +kernel
theorem dX9_isMoney_7 : decode cX9_isMoney 7 = .ok (.ireturn, 1) := by decide +kernel
