theorem dX10_in_0 : decode cX10_in 0 = .ok (.lload_n 0, 1) := by decide +kernel
theorem dX10_in_1 : decode cX10_in 1 = .ok (.lload_n 2, 1) := by decide +kernel
theorem dX10_in_2 : decode cX10_in 2 = .ok (.lcmp, 1) := by decide +kernel
theorem dX10_in_3 : decode cX10_in 3 = .ok (.ifCond .lt 14, 3) := by decide +kernel
theorem dX10_in_6 : decode cX10_in 6 = .ok (.lload_n 0, 1) := by decide +kernel
theorem dX10_in_7 : decode cX10_in 7 = .ok (.lload 4, 2) := by decide +kernel
theorem dX10_in_9 : decode cX10_in 9 = .ok (.lcmp, 1) := by decide +kernel
theorem dX10_in_10 : decode cX10_in 10 = .ok (.ifCond .gt 7, 3) := by decide +kernel
theorem dX10_in_13 : decode cX10_in 13 = .ok (.iconst 1, 1) := by decide +kernel
theorem dX10_in_14 : decode cX10_in 14 = .ok (.goto 4, 3) := by decide +kernel
theorem dX10_in_17 : decode cX10_in 17 = .ok (.iconst 0, 1) := by decide +kernel
theorem dX10_in_18 : decode cX10_in 18 = .ok (.ireturn, 1) := by decide +kernel
theorem dX10_ones_0 : decode cX10_ones 0 = .ok (.iconst 0, 1) := by decide +kernel
theorem dX10_ones_1 : decode cX10_ones 1 = .ok (.istore_n 1, 1) := by decide +kernel
theorem dX10_ones_2 : decode cX10_ones 2 = .ok (.iconst 0, 1) := by decide +kernel
theorem dX10_ones_3 : decode cX10_ones 3 = .ok (.istore_n 2, 1) := by decide +kernel
theorem dX10_ones_4 : decode cX10_ones 4 = .ok (.iload_n 2, 1) := by decide +kernel
theorem dX10_ones_5 : decode cX10_ones 5 = .ok (.bipush 10, 2) := by decide +kernel
theorem dX10_ones_7 : decode cX10_ones 7 = .ok (.if_icmp .ge 17, 3) := by decide +kernel
theorem dX10_ones_10 : decode cX10_ones 10 = .ok (.iload_n 1, 1) := by decide +kernel
theorem dX10_ones_11 : decode cX10_ones 11 = .ok (.iload_n 0, 1) := by decide +kernel
theorem dX10_ones_12 : decode cX10_ones 12 = .ok (.iload_n 2, 1) := by decide +kernel
theorem dX10_ones_13 : decode cX10_ones 13 = .ok (.ishr, 1) := by decide +kernel
theorem dX10_ones_14 : decode cX10_ones 14 = .ok (.iconst 1, 1) := by decide +kernel
theorem dX10_ones_15 : decode cX10_ones 15 = .ok (.iand, 1) := by decide +kernel
theorem dX10_ones_16 : decode cX10_ones 16 = .ok (.iadd, 1) := by decide +kernel
theorem dX10_ones_17 : decode cX10_ones 17 = .ok (.istore_n 1, 1) := by decide +kernel
theorem dX10_ones_18 : decode cX10_ones 18 = .ok (.iinc 2 1, 3) := by decide +kernel
theorem dX10_ones_21 : decode cX10_ones 21 = .ok (.goto (-17), 3) := by decide +kernel
theorem dX10_ones_24 : decode cX10_ones 24 = .ok (.iload_n 1, 1) := by decide +kernel
theorem dX10_ones_25 : decode cX10_ones 25 = .ok (.ireturn, 1) := by decide +kernel
theorem dX10_isPerson_0 : decode cX10_isPerson 0 = .ok (.iload_n 1, 1) := by decide +kernel
theorem dX10_isPerson_1 : decode cX10_isPerson 1 = .ok (.i2l, 1) := by decide +kernel
theorem dX10_isPerson_2 : decode cX10_isPerson 2 = .ok (.lconst 0, 1) := by decide +kernel
theorem dX10_isPerson_3 : decode cX10_isPerson 3 = .ok (.aload_n 0, 1) := by decide +kernel
theorem dX10_isPerson_4 : decode cX10_isPerson 4 = .ok (.getfield 7, 3) := by decide +kernel
theorem dX10_isPerson_7 : decode cX10_isPerson 7 = .ok (.iconst 1, 1) := by decide +kernel
theorem dX10_isPerson_8 : decode cX10_isPerson 8 = .ok (.isub, 1) := by decide +kernel
theorem dX10_isPerson_9 : decode cX10_isPerson 9 = .ok (.i2l, 1) := by decide +kernel
theorem dX10_isPerson_10 : decode cX10_isPerson 10 = .ok (.invokestatic 60, 3) := by decide +kernel
theorem dX10_isPerson_13 : decode cX10_isPerson 13 = .ok (.ireturn, 1) := by decide +kernel
theorem dX10_isDress_0 : decode cX10_isDress 0 = .ok (.iload_n 1, 1) := by decide +kernel
theorem dX10_isDress_1 : decode cX10_isDress 1 = .ok (.i2l, 1) := by decide +kernel
theorem dX10_isDress_2 : decode cX10_isDress 2 = .ok (.lconst 0, 1) := by decide +kernel
theorem dX10_isDress_3 : decode cX10_isDress 3 = .ok (.iconst 1, 1) := by decide +kernel
theorem dX10_isDress_4 : decode cX10_isDress 4 = .ok (.aload_n 0, 1) := by decide +kernel
theorem dX10_isDress_5 : decode cX10_isDress 5 = .ok (.getfield 7, 3) := by decide +kernel
theorem dX10_isDress_8 : decode cX10_isDress 8 = .ok (.ishl, 1) := by decide +kernel
theorem dX10_isDress_9 : decode cX10_isDress 9 = .ok (.iconst 1, 1) := by decide +kernel
theorem dX10_isDress_10 : decode cX10_isDress 10 = .ok (.isub, 1) := by decide +kernel
theorem dX10_isDress_11 : decode cX10_isDress 11 = .ok (.i2l, 1) := by decide +kernel
theorem dX10_isDress_12 : decode cX10_isDress 12 = .ok (.invokestatic 60, 3) := by decide +kernel
theorem dX10_isDress_15 : decode cX10_isDress 15 = .ok (.ireturn, 1) := by decide +kernel
theorem dX10_isWay_0 : decode cX10_isWay 0 = .ok (.iload_n 0, 1) := by decide +kernel
theorem dX10_isWay_1 : decode cX10_isWay 1 = .ok (.i2l, 1) := by decide +kernel
theorem dX10_isWay_2 : decode cX10_isWay 2 = .ok (.lconst 0, 1) := by decide +kernel
theorem dX10_isWay_3 : decode cX10_isWay 3 = .ok (.lconst 1, 1) := by decide +kernel
theorem dX10_isWay_4 : decode cX10_isWay 4 = .ok (.invokestatic 60, 3) := by decide +kernel
theorem dX10_isWay_7 : decode cX10_isWay 7 = .ok (.ireturn, 1) := by decide +kernel
theorem dX10_people_0 : decode cX10_people 0 = .ok (.iload_n 1, 1) := by decide +kernel
theorem dX10_people_1 : decode cX10_people 1 = .ok (.i2l, 1) := by decide +kernel
theorem dX10_people_2 : decode cX10_people 2 = .ok (.lconst 1, 1) := by decide +kernel
theorem dX10_people_3 : decode cX10_people 3 = .ok (.ldc2_w 64, 3) := by decide +kernel
theorem dX10_people_6 : decode cX10_people 6 = .ok (.invokestatic 60, 3) := by decide +kernel
theorem dX10_people_9 : decode cX10_people 9 = .ok (.ifCond .ne 6, 3) := by decide +kernel
theorem dX10_people_12 : decode cX10_people 12 = .ok (.bipush (-2), 2) := by decide +kernel
theorem dX10_people_14 : decode cX10_people 14 = .ok (.ireturn, 1) := by decide +kernel
theorem dX10_people_15 : decode cX10_people 15 = .ok (.aload_n 0, 1) := by decide +kernel
theorem dX10_people_16 : decode cX10_people 16 = .ok (.getfield 7, 3) := by decide +kernel
theorem dX10_people_19 : decode cX10_people 19 = .ok (.istore_n 2, 1) := by decide +kernel
theorem dX10_people_20 : decode cX10_people 20 = .ok (.aload_n 0, 1) := by decide +kernel
theorem dX10_people_21 : decode cX10_people 21 = .ok (.iload_n 1, 1) := by decide +kernel
theorem dX10_people_22 : decode cX10_people 22 = .ok (.putfield 7, 3) := by decide +kernel
theorem dX10_people_25 : decode cX10_people 25 = .ok (.aload_n 0, 1) := by decide +kernel
theorem dX10_people_26 : decode cX10_people 26 = .ok (.iconst 0, 1) := by decide +kernel
theorem dX10_people_27 : decode cX10_people 27 = .ok (.putfield 66, 3) := by decide +kernel
theorem dX10_people_30 : decode cX10_people 30 = .ok (.iconst 0, 1) := by decide +kernel
theorem dX10_people_31 : decode cX10_people 31 = .ok (.istore_n 3, 1) := by decide +kernel
theorem dX10_people_32 : decode cX10_people 32 = .ok (.iload_n 3, 1) := by decide +kernel
theorem dX10_people_33 : decode cX10_people 33 = .ok (.bipush 100, 2) := by decide +kernel
theorem dX10_people_35 : decode cX10_people 35 = .ok (.if_icmp .ge 16, 3) := by decide +kernel
theorem dX10_people_38 : decode cX10_people 38 = .ok (.aload_n 0, 1) := by decide +kernel
theorem dX10_people_39 : decode cX10_people 39 = .ok (.getfield 13, 3) := by decide +kernel
theorem dX10_people_42 : decode cX10_people 42 = .ok (.iload_n 3, 1) := by decide +kernel
theorem dX10_people_43 : decode cX10_people 43 = .ok (.iconst 0, 1) := by decide +kernel
theorem dX10_people_44 : decode cX10_people 44 = .ok (.iastore, 1) := by decide +kernel
theorem dX10_people_45 : decode cX10_people 45 = .ok (.iinc 3 1, 3) := by decide +kernel
theorem dX10_people_48 : decode cX10_people 48 = .ok (.goto (-16), 3) := by decide +kernel
theorem dX10_people_51 : decode cX10_people 51 = .ok (.iconst 0, 1) := by decide +kernel
theorem dX10_people_52 : decode cX10_people 52 = .ok (.istore_n 3, 1) := by decide +kernel
theorem dX10_people_53 : decode cX10_people 53 = .ok (.iload_n 3, 1) := by decide +kernel
theorem dX10_people_54 : decode cX10_people 54 = .ok (.bipush 10, 2) := by decide +kernel
theorem dX10_people_56 : decode cX10_people 56 = .ok (.if_icmp .ge 23, 3) := by decide +kernel
theorem dX10_people_59 : decode cX10_people 59 = .ok (.aload_n 0, 1) := by decide +kernel
theorem dX10_people_60 : decode cX10_people 60 = .ok (.getfield 17, 3) := by decide +kernel
theorem dX10_people_63 : decode cX10_people 63 = .ok (.iload_n 3, 1) := by decide +kernel
theorem dX10_people_64 : decode cX10_people 64 = .ok (.iconst 0, 1) := by decide +kernel
theorem dX10_people_65 : decode cX10_people 65 = .ok (.iastore, 1) := by decide +kernel
theorem dX10_people_66 : decode cX10_people 66 = .ok (.aload_n 0, 1) := by decide +kernel
theorem dX10_people_67 : decode cX10_people 67 = .ok (.getfield 20, 3) := by decide +kernel
theorem dX10_people_70 : decode cX10_people 70 = .ok (.iload_n 3, 1) := by decide +kernel
theorem dX10_people_71 : decode cX10_people 71 = .ok (.iconst 0, 1) := by decide +kernel
theorem dX10_people_72 : decode cX10_people 72 = .ok (.iastore, 1) := by decide +kernel
theorem dX10_people_73 : decode cX10_people 73 = .ok (.iinc 3 1, 3) := by decide +kernel
theorem dX10_people_76 : decode cX10_people 76 = .ok (.goto (-23), 3) := by decide +kernel
theorem dX10_people_79 : decode cX10_people 79 = .ok (.iload_n 2, 1) := by decide +kernel
theorem dX10_people_80 : decode cX10_people 80 = .ok (.ireturn, 1) := by decide +kernel
theorem dX10_tie_0 : decode cX10_tie 0 = .ok (.aload_n 0, 1) := by decide +kernel
theorem dX10_tie_1 : decode cX10_tie 1 = .ok (.iload_n 1, 1) := by decide +kernel
theorem dX10_tie_2 : decode cX10_tie 2 = .ok (.invokevirtual 69, 3) := by decide +kernel
theorem dX10_tie_5 : decode cX10_tie 5 = .ok (.ifCond .eq 11, 3) := by decide +kernel
theorem dX10_tie_8 : decode cX10_tie 8 = .ok (.aload_n 0, 1) := by decide +kernel
theorem dX10_tie_9 : decode cX10_tie 9 = .ok (.iload_n 2, 1) := by decide +kernel
theorem dX10_tie_10 : decode cX10_tie 10 = .ok (.invokevirtual 69, 3) := by decide +kernel
theorem dX10_tie_13 : decode cX10_tie 13 = .ok (.ifCond .ne 5, 3) := by decide +kernel
theorem dX10_tie_16 : decode cX10_tie 16 = .ok (.iconst (-1), 1) := by decide +kernel
theorem dX10_tie_17 : decode cX10_tie 17 = .ok (.ireturn, 1) := by decide +kernel
theorem dX10_tie_18 : decode cX10_tie 18 = .ok (.iload_n 3, 1) := by decide +kernel
theorem dX10_tie_19 : decode cX10_tie 19 = .ok (.i2l, 1) := by decide +kernel
theorem dX10_tie_20 : decode cX10_tie 20 = .ok (.lconst 0, 1) := by decide +kernel
theorem dX10_tie_21 : decode cX10_tie 21 = .ok (.ldc2_w 73, 3) := by decide +kernel
theorem dX10_tie_24 : decode cX10_tie 24 = .ok (.invokestatic 60, 3) := by decide +kernel
theorem dX10_tie_27 : decode cX10_tie 27 = .ok (.ifCond .ne 6, 3) := by decide +kernel
theorem dX10_tie_30 : decode cX10_tie 30 = .ok (.bipush (-2), 2) := by decide +kernel
theorem dX10_tie_32 : decode cX10_tie 32 = .ok (.ireturn, 1) := by decide +kernel
theorem dX10_tie_33 : decode cX10_tie 33 = .ok (.iload_n 1, 1) := by decide +kernel
theorem dX10_tie_34 : decode cX10_tie 34 = .ok (.iload_n 2, 1) := by decide +kernel
theorem dX10_tie_35 : decode cX10_tie 35 = .ok (.if_icmp .ne 6, 3) := by decide +kernel
theorem dX10_tie_38 : decode cX10_tie 38 = .ok (.bipush (-3), 2) := by decide +kernel
theorem dX10_tie_40 : decode cX10_tie 40 = .ok (.ireturn, 1) := by decide +kernel
theorem dX10_tie_41 : decode cX10_tie 41 = .ok (.aload_n 0, 1) := by decide +kernel
theorem dX10_tie_42 : decode cX10_tie 42 = .ok (.getfield 13, 3) := by decide +kernel
theorem dX10_tie_45 : decode cX10_tie 45 = .ok (.bipush 10, 2) := by decide +kernel
theorem dX10_tie_47 : decode cX10_tie 47 = .ok (.iload_n 1, 1) := by decide +kernel
theorem dX10_tie_48 : decode cX10_tie 48 = .ok (.imul, 1) := by decide +kernel
theorem dX10_tie_49 : decode cX10_tie 49 = .ok (.iload_n 2, 1) := by decide +kernel
theorem dX10_tie_50 : decode cX10_tie 50 = .ok (.iadd, 1) := by decide +kernel
theorem dX10_tie_51 : decode cX10_tie 51 = .ok (.iaload, 1) := by decide +kernel
theorem dX10_tie_52 : decode cX10_tie 52 = .ok (.istore 4, 2) := by decide +kernel
theorem dX10_tie_54 : decode cX10_tie 54 = .ok (.aload_n 0, 1) := by decide +kernel
theorem dX10_tie_55 : decode cX10_tie 55 = .ok (.getfield 13, 3) := by decide +kernel
theorem dX10_tie_58 : decode cX10_tie 58 = .ok (.bipush 10, 2) := by decide +kernel
theorem dX10_tie_60 : decode cX10_tie 60 = .ok (.iload_n 1, 1) := by decide +kernel
theorem dX10_tie_61 : decode cX10_tie 61 = .ok (.imul, 1) := by decide +kernel
theorem dX10_tie_62 : decode cX10_tie 62 = .ok (.iload_n 2, 1) := by decide +kernel
theorem dX10_tie_63 : decode cX10_tie 63 = .ok (.iadd, 1) := by decide +kernel
theorem dX10_tie_64 : decode cX10_tie 64 = .ok (.iload_n 3, 1) := by decide +kernel
theorem dX10_tie_65 : decode cX10_tie 65 = .ok (.iastore, 1) := by decide +kernel
theorem dX10_tie_66 : decode cX10_tie 66 = .ok (.iload 4, 2) := by decide +kernel
theorem dX10_tie_68 : decode cX10_tie 68 = .ok (.ireturn, 1) := by decide +kernel
theorem dX10_set_0 : decode cX10_set 0 = .ok (.aload_n 0, 1) := by decide +kernel
theorem dX10_set_1 : decode cX10_set 1 = .ok (.iload_n 1, 1) := by decide +kernel
theorem dX10_set_2 : decode cX10_set 2 = .ok (.invokevirtual 69, 3) := by decide +kernel
theorem dX10_set_5 : decode cX10_set 5 = .ok (.ifCond .ne 5, 3) := by decide +kernel
theorem dX10_set_8 : decode cX10_set 8 = .ok (.iconst (-1), 1) := by decide +kernel
theorem dX10_set_9 : decode cX10_set 9 = .ok (.ireturn, 1) := by decide +kernel
theorem dX10_set_10 : decode cX10_set 10 = .ok (.iload_n 2, 1) := by decide +kernel
theorem dX10_set_11 : decode cX10_set 11 = .ok (.ifCond .ne 15, 3) := by decide +kernel
theorem dX10_set_14 : decode cX10_set 14 = .ok (.iload_n 3, 1) := by decide +kernel
theorem dX10_set_15 : decode cX10_set 15 = .ok (.i2l, 1) := by decide +kernel
theorem dX10_set_16 : decode cX10_set 16 = .ok (.lconst 0, 1) := by decide +kernel
theorem dX10_set_17 : decode cX10_set 17 = .ok (.ldc2_w 75, 3) := by decide +kernel
theorem dX10_set_20 : decode cX10_set 20 = .ok (.invokestatic 60, 3) := by decide +kernel
theorem dX10_set_23 : decode cX10_set 23 = .ok (.ifCond .ne 25, 3) := by decide +kernel
theorem dX10_set_26 : decode cX10_set 26 = .ok (.iload_n 2, 1) := by decide +kernel
theorem dX10_set_27 : decode cX10_set 27 = .ok (.iconst 1, 1) := by decide +kernel
theorem dX10_set_28 : decode cX10_set 28 = .ok (.if_icmp .ne 17, 3) := by decide +kernel
theorem dX10_set_31 : decode cX10_set 31 = .ok (.iload_n 3, 1) := by decide +kernel
theorem dX10_set_32 : decode cX10_set 32 = .ok (.i2l, 1) := by decide +kernel
theorem dX10_set_33 : decode cX10_set 33 = .ok (.ldc2_w 77, 3) := by decide +kernel
theorem dX10_set_36 : decode cX10_set 36 = .ok (.ldc2_w 73, 3) := by decide +kernel
theorem dX10_set_39 : decode cX10_set 39 = .ok (.invokestatic 60, 3) := by decide +kernel
theorem dX10_set_42 : decode cX10_set 42 = .ok (.ifCond .ne 6, 3) := by decide +kernel
theorem dX10_set_45 : decode cX10_set 45 = .ok (.bipush (-2), 2) := by decide +kernel
theorem dX10_set_47 : decode cX10_set 47 = .ok (.ireturn, 1) := by decide +kernel
theorem dX10_set_48 : decode cX10_set 48 = .ok (.iload_n 2, 1) := by decide +kernel
theorem dX10_set_49 : decode cX10_set 49 = .ok (.ifCond .ne 12, 3) := by decide +kernel
theorem dX10_set_52 : decode cX10_set 52 = .ok (.aload_n 0, 1) := by decide +kernel
theorem dX10_set_53 : decode cX10_set 53 = .ok (.getfield 17, 3) := by decide +kernel
theorem dX10_set_56 : decode cX10_set 56 = .ok (.iload_n 1, 1) := by decide +kernel
theorem dX10_set_57 : decode cX10_set 57 = .ok (.iaload, 1) := by decide +kernel
theorem dX10_set_58 : decode cX10_set 58 = .ok (.goto 9, 3) := by decide +kernel
theorem dX10_set_61 : decode cX10_set 61 = .ok (.aload_n 0, 1) := by decide +kernel
theorem dX10_set_62 : decode cX10_set 62 = .ok (.getfield 20, 3) := by decide +kernel
theorem dX10_set_65 : decode cX10_set 65 = .ok (.iload_n 1, 1) := by decide +kernel
theorem dX10_set_66 : decode cX10_set 66 = .ok (.iaload, 1) := by decide +kernel
theorem dX10_set_67 : decode cX10_set 67 = .ok (.istore 4, 2) := by decide +kernel
theorem dX10_set_69 : decode cX10_set 69 = .ok (.aload_n 0, 1) := by decide +kernel
theorem dX10_set_70 : decode cX10_set 70 = .ok (.getfield 17, 3) := by decide +kernel
theorem dX10_set_73 : decode cX10_set 73 = .ok (.iload_n 1, 1) := by decide +kernel
theorem dX10_set_74 : decode cX10_set 74 = .ok (.iload_n 2, 1) := by decide +kernel
theorem dX10_set_75 : decode cX10_set 75 = .ok (.ifCond .ne 7, 3) := by decide +kernel
theorem dX10_set_78 : decode cX10_set 78 = .ok (.iload_n 3, 1) := by decide +kernel
theorem dX10_set_79 : decode cX10_set 79 = .ok (.goto 9, 3) := by decide +kernel
theorem dX10_set_82 : decode cX10_set 82 = .ok (.aload_n 0, 1) := by decide +kernel
theorem dX10_set_83 : decode cX10_set 83 = .ok (.getfield 17, 3) := by decide +kernel
theorem dX10_set_86 : decode cX10_set 86 = .ok (.iload_n 1, 1) := by decide +kernel
theorem dX10_set_87 : decode cX10_set 87 = .ok (.iaload, 1) := by decide +kernel
theorem dX10_set_88 : decode cX10_set 88 = .ok (.iastore, 1) := by decide +kernel
theorem dX10_set_89 : decode cX10_set 89 = .ok (.aload_n 0, 1) := by decide +kernel
theorem dX10_set_90 : decode cX10_set 90 = .ok (.getfield 20, 3) := by decide +kernel
theorem dX10_set_93 : decode cX10_set 93 = .ok (.iload_n 1, 1) := by decide +kernel
theorem dX10_set_94 : decode cX10_set 94 = .ok (.iload_n 2, 1) := by decide +kernel
theorem dX10_set_95 : decode cX10_set 95 = .ok (.iconst 1, 1) := by decide +kernel
theorem dX10_set_96 : decode cX10_set 96 = .ok (.if_icmp .ne 7, 3) := by decide +kernel
theorem dX10_set_99 : decode cX10_set 99 = .ok (.iload_n 3, 1) := by decide +kernel
theorem dX10_set_100 : decode cX10_set 100 = .ok (.goto 9, 3) := by decide +kernel
theorem dX10_set_103 : decode cX10_set 103 = .ok (.aload_n 0, 1) := by decide +kernel
theorem dX10_set_104 : decode cX10_set 104 = .ok (.getfield 20, 3) := by decide +kernel
theorem dX10_set_107 : decode cX10_set 107 = .ok (.iload_n 1, 1) := by decide +kernel
theorem dX10_set_108 : decode cX10_set 108 = .ok (.iaload, 1) := by decide +kernel
theorem dX10_set_109 : decode cX10_set 109 = .ok (.iastore, 1) := by decide +kernel
theorem dX10_set_110 : decode cX10_set 110 = .ok (.iload 4, 2) := by decide +kernel
theorem dX10_set_112 : decode cX10_set 112 = .ok (.ireturn, 1) := by decide +kernel
theorem dX10_about_0 : decode cX10_about 0 = .ok (.aload_n 0, 1) := by decide +kernel
theorem dX10_about_1 : decode cX10_about 1 = .ok (.iload_n 1, 1) := by decide +kernel
theorem dX10_about_2 : decode cX10_about 2 = .ok (.invokevirtual 69, 3) := by decide +kernel
theorem dX10_about_5 : decode cX10_about 5 = .ok (.ifCond .ne 5, 3) := by decide +kernel
theorem dX10_about_8 : decode cX10_about 8 = .ok (.iconst (-1), 1) := by decide +kernel
theorem dX10_about_9 : decode cX10_about 9 = .ok (.ireturn, 1) := by decide +kernel
theorem dX10_about_10 : decode cX10_about 10 = .ok (.iconst 0, 1) := by decide +kernel
theorem dX10_about_11 : decode cX10_about 11 = .ok (.istore_n 3, 1) := by decide +kernel
theorem dX10_about_12 : decode cX10_about 12 = .ok (.iconst 0, 1) := by decide +kernel
theorem dX10_about_13 : decode cX10_about 13 = .ok (.istore 4, 2) := by decide +kernel
theorem dX10_about_15 : decode cX10_about 15 = .ok (.iconst 0, 1) := by decide +kernel
theorem dX10_about_16 : decode cX10_about 16 = .ok (.istore 5, 2) := by decide +kernel
theorem dX10_about_18 : decode cX10_about 18 = .ok (.iload 5, 2) := by decide +kernel
theorem dX10_about_20 : decode cX10_about 20 = .ok (.aload_n 0, 1) := by decide +kernel
theorem dX10_about_21 : decode cX10_about 21 = .ok (.getfield 7, 3) := by decide +kernel
theorem dX10_about_24 : decode cX10_about 24 = .ok (.if_icmp .ge 57, 3) := by decide +kernel
theorem dX10_about_27 : decode cX10_about 27 = .ok (.iload_n 3, 1) := by decide +kernel
theorem dX10_about_28 : decode cX10_about 28 = .ok (.aload_n 0, 1) := by decide +kernel
theorem dX10_about_29 : decode cX10_about 29 = .ok (.getfield 13, 3) := by decide +kernel
theorem dX10_about_32 : decode cX10_about 32 = .ok (.bipush 10, 2) := by decide +kernel
theorem dX10_about_34 : decode cX10_about 34 = .ok (.iload_n 1, 1) := by decide +kernel
theorem dX10_about_35 : decode cX10_about 35 = .ok (.imul, 1) := by decide +kernel
theorem dX10_about_36 : decode cX10_about 36 = .ok (.iload 5, 2) := by decide +kernel
theorem dX10_about_38 : decode cX10_about 38 = .ok (.iadd, 1) := by decide +kernel
theorem dX10_about_39 : decode cX10_about 39 = .ok (.iaload, 1) := by decide +kernel
theorem dX10_about_40 : decode cX10_about 40 = .ok (.ifCond .le 7, 3) := by decide +kernel
theorem dX10_about_43 : decode cX10_about 43 = .ok (.iconst 1, 1) := by decide +kernel
theorem dX10_about_44 : decode cX10_about 44 = .ok (.goto 4, 3) := by decide +kernel
theorem dX10_about_47 : decode cX10_about 47 = .ok (.iconst 0, 1) := by decide +kernel
theorem dX10_about_48 : decode cX10_about 48 = .ok (.iadd, 1) := by decide +kernel
theorem dX10_about_49 : decode cX10_about 49 = .ok (.istore_n 3, 1) := by decide +kernel
theorem dX10_about_50 : decode cX10_about 50 = .ok (.iload 4, 2) := by decide +kernel
theorem dX10_about_52 : decode cX10_about 52 = .ok (.aload_n 0, 1) := by decide +kernel
theorem dX10_about_53 : decode cX10_about 53 = .ok (.getfield 13, 3) := by decide +kernel
theorem dX10_about_56 : decode cX10_about 56 = .ok (.bipush 10, 2) := by decide +kernel
theorem dX10_about_58 : decode cX10_about 58 = .ok (.iload 5, 2) := by decide +kernel
theorem dX10_about_60 : decode cX10_about 60 = .ok (.imul, 1) := by decide +kernel
theorem dX10_about_61 : decode cX10_about 61 = .ok (.iload_n 1, 1) := by decide +kernel
theorem dX10_about_62 : decode cX10_about 62 = .ok (.iadd, 1) := by decide +kernel
theorem dX10_about_63 : decode cX10_about 63 = .ok (.iaload, 1) := by decide +kernel
theorem dX10_about_64 : decode cX10_about 64 = .ok (.ifCond .le 7, 3) := by decide +kernel
theorem dX10_about_67 : decode cX10_about 67 = .ok (.iconst 1, 1) := by decide +kernel
theorem dX10_about_68 : decode cX10_about 68 = .ok (.goto 4, 3) := by decide +kernel
theorem dX10_about_71 : decode cX10_about 71 = .ok (.iconst 0, 1) := by decide +kernel
theorem dX10_about_72 : decode cX10_about 72 = .ok (.iadd, 1) := by decide +kernel
theorem dX10_about_73 : decode cX10_about 73 = .ok (.istore 4, 2) := by decide +kernel
theorem dX10_about_75 : decode cX10_about 75 = .ok (.iinc 5 1, 3) := by decide +kernel
theorem dX10_about_78 : decode cX10_about 78 = .ok (.goto (-60), 3) := by decide +kernel
theorem dX10_about_81 : decode cX10_about 81 = .ok (.iload_n 2, 1) := by decide +kernel
theorem dX10_about_82 : decode cX10_about 82 = .ok (.tableswitch 49 0 3 #[30, 37, 44, 46], 30) := by decide +kernel
theorem dX10_about_112 : decode cX10_about 112 = .ok (.aload_n 0, 1) := by decide +kernel
theorem dX10_about_113 : decode cX10_about 113 = .ok (.getfield 17, 3) := by decide +kernel
theorem dX10_about_116 : decode cX10_about 116 = .ok (.iload_n 1, 1) := by decide +kernel
theorem dX10_about_117 : decode cX10_about 117 = .ok (.iaload, 1) := by decide +kernel
theorem dX10_about_118 : decode cX10_about 118 = .ok (.ireturn, 1) := by decide +kernel
theorem dX10_about_119 : decode cX10_about 119 = .ok (.aload_n 0, 1) := by decide +kernel
theorem dX10_about_120 : decode cX10_about 120 = .ok (.getfield 20, 3) := by decide +kernel
theorem dX10_about_123 : decode cX10_about 123 = .ok (.iload_n 1, 1) := by decide +kernel
theorem dX10_about_124 : decode cX10_about 124 = .ok (.iaload, 1) := by decide +kernel
theorem dX10_about_125 : decode cX10_about 125 = .ok (.ireturn, 1) := by decide +kernel
theorem dX10_about_126 : decode cX10_about 126 = .ok (.iload_n 3, 1) := by decide +kernel
theorem dX10_about_127 : decode cX10_about 127 = .ok (.ireturn, 1) := by decide +kernel
theorem dX10_about_128 : decode cX10_about 128 = .ok (.iload 4, 2) := by decide +kernel
theorem dX10_about_130 : decode cX10_about 130 = .ok (.ireturn, 1) := by decide +kernel
theorem dX10_about_131 : decode cX10_about 131 = .ok (.bipush (-2), 2) := by decide +kernel
theorem dX10_about_133 : decode cX10_about 133 = .ok (.ireturn, 1) := by decide +kernel
theorem dX10_sees_0 : decode cX10_sees 0 = .ok (.aload_n 0, 1) := by decide +kernel
theorem dX10_sees_1 : decode cX10_sees 1 = .ok (.iload_n 1, 1) := by decide +kernel
theorem dX10_sees_2 : decode cX10_sees 2 = .ok (.invokevirtual 69, 3) := by decide +kernel
theorem dX10_sees_5 : decode cX10_sees 5 = .ok (.ifCond .eq 11, 3) := by decide +kernel
theorem dX10_sees_8 : decode cX10_sees 8 = .ok (.aload_n 0, 1) := by decide +kernel
theorem dX10_sees_9 : decode cX10_sees 9 = .ok (.iload_n 2, 1) := by decide +kernel
theorem dX10_sees_10 : decode cX10_sees 10 = .ok (.invokevirtual 69, 3) := by decide +kernel
theorem dX10_sees_13 : decode cX10_sees 13 = .ok (.ifCond .ne 5, 3) := by decide +kernel
theorem dX10_sees_16 : decode cX10_sees 16 = .ok (.iconst (-1), 1) := by decide +kernel
theorem dX10_sees_17 : decode cX10_sees 17 = .ok (.ireturn, 1) := by decide +kernel
theorem dX10_sees_18 : decode cX10_sees 18 = .ok (.iload_n 1, 1) := by decide +kernel
theorem dX10_sees_19 : decode cX10_sees 19 = .ok (.iload_n 2, 1) := by decide +kernel
theorem dX10_sees_20 : decode cX10_sees 20 = .ok (.if_icmp .ne 8, 3) := by decide +kernel
theorem dX10_sees_23 : decode cX10_sees 23 = .ok (.bipush (-3), 2) := by decide +kernel
theorem dX10_sees_25 : decode cX10_sees 25 = .ok (.goto 14, 3) := by decide +kernel
theorem dX10_sees_28 : decode cX10_sees 28 = .ok (.aload_n 0, 1) := by decide +kernel
theorem dX10_sees_29 : decode cX10_sees 29 = .ok (.getfield 13, 3) := by decide +kernel
theorem dX10_sees_32 : decode cX10_sees 32 = .ok (.bipush 10, 2) := by decide +kernel
theorem dX10_sees_34 : decode cX10_sees 34 = .ok (.iload_n 1, 1) := by decide +kernel
theorem dX10_sees_35 : decode cX10_sees 35 = .ok (.imul, 1) := by decide +kernel
theorem dX10_sees_36 : decode cX10_sees 36 = .ok (.iload_n 2, 1) := by decide +kernel
theorem dX10_sees_37 : decode cX10_sees 37 = .ok (.iadd, 1) := by decide +kernel
theorem dX10_sees_38 : decode cX10_sees 38 = .ok (.iaload, 1) := by decide +kernel
theorem dX10_sees_39 : decode cX10_sees 39 = .ok (.ireturn, 1) := by decide +kernel
theorem dX10_sumOf_0 : decode cX10_sumOf 0 = .ok (.aload_n 0, 1) := by decide +kernel
theorem dX10_sumOf_1 : decode cX10_sumOf 1 = .ok (.getfield 20, 3) := by decide +kernel
theorem dX10_sumOf_4 : decode cX10_sumOf 4 = .ok (.iload_n 1, 1) := by decide +kernel
theorem dX10_sumOf_5 : decode cX10_sumOf 5 = .ok (.iaload, 1) := by decide +kernel
theorem dX10_sumOf_6 : decode cX10_sumOf 6 = .ok (.istore_n 3, 1) := by decide +kernel
theorem dX10_sumOf_7 : decode cX10_sumOf 7 = .ok (.iconst 0, 1) := by decide +kernel
theorem dX10_sumOf_8 : decode cX10_sumOf 8 = .ok (.istore 4, 2) := by decide +kernel
theorem dX10_sumOf_10 : decode cX10_sumOf 10 = .ok (.iload 4, 2) := by decide +kernel
theorem dX10_sumOf_12 : decode cX10_sumOf 12 = .ok (.aload_n 0, 1) := by decide +kernel
theorem dX10_sumOf_13 : decode cX10_sumOf 13 = .ok (.getfield 7, 3) := by decide +kernel
theorem dX10_sumOf_16 : decode cX10_sumOf 16 = .ok (.if_icmp .ge 50, 3) := by decide +kernel
theorem dX10_sumOf_19 : decode cX10_sumOf 19 = .ok (.iload_n 3, 1) := by decide +kernel
theorem dX10_sumOf_20 : decode cX10_sumOf 20 = .ok (.iload_n 2, 1) := by decide +kernel
theorem dX10_sumOf_21 : decode cX10_sumOf 21 = .ok (.iload 4, 2) := by decide +kernel
theorem dX10_sumOf_23 : decode cX10_sumOf 23 = .ok (.ishr, 1) := by decide +kernel
theorem dX10_sumOf_24 : decode cX10_sumOf 24 = .ok (.iconst 1, 1) := by decide +kernel
theorem dX10_sumOf_25 : decode cX10_sumOf 25 = .ok (.iand, 1) := by decide +kernel
theorem dX10_sumOf_26 : decode cX10_sumOf 26 = .ok (.iconst 1, 1) := by decide +kernel
theorem dX10_sumOf_27 : decode cX10_sumOf 27 = .ok (.if_icmp .ne 18, 3) := by decide +kernel
theorem dX10_sumOf_30 : decode cX10_sumOf 30 = .ok (.aload_n 0, 1) := by decide +kernel
theorem dX10_sumOf_31 : decode cX10_sumOf 31 = .ok (.getfield 13, 3) := by decide +kernel
theorem dX10_sumOf_34 : decode cX10_sumOf 34 = .ok (.bipush 10, 2) := by decide +kernel
theorem dX10_sumOf_36 : decode cX10_sumOf 36 = .ok (.iload_n 1, 1) := by decide +kernel
theorem dX10_sumOf_37 : decode cX10_sumOf 37 = .ok (.imul, 1) := by decide +kernel
theorem dX10_sumOf_38 : decode cX10_sumOf 38 = .ok (.iload 4, 2) := by decide +kernel
theorem dX10_sumOf_40 : decode cX10_sumOf 40 = .ok (.iadd, 1) := by decide +kernel
theorem dX10_sumOf_41 : decode cX10_sumOf 41 = .ok (.iaload, 1) := by decide +kernel
theorem dX10_sumOf_42 : decode cX10_sumOf 42 = .ok (.goto 16, 3) := by decide +kernel
theorem dX10_sumOf_45 : decode cX10_sumOf 45 = .ok (.aload_n 0, 1) := by decide +kernel
theorem dX10_sumOf_46 : decode cX10_sumOf 46 = .ok (.getfield 13, 3) := by decide +kernel
theorem dX10_sumOf_49 : decode cX10_sumOf 49 = .ok (.bipush 10, 2) := by decide +kernel
theorem dX10_sumOf_51 : decode cX10_sumOf 51 = .ok (.iload_n 1, 1) := by decide +kernel
theorem dX10_sumOf_52 : decode cX10_sumOf 52 = .ok (.imul, 1) := by decide +kernel
theorem dX10_sumOf_53 : decode cX10_sumOf 53 = .ok (.iload 4, 2) := by decide +kernel
theorem dX10_sumOf_55 : decode cX10_sumOf 55 = .ok (.iadd, 1) := by decide +kernel
theorem dX10_sumOf_56 : decode cX10_sumOf 56 = .ok (.iaload, 1) := by decide +kernel
theorem dX10_sumOf_57 : decode cX10_sumOf 57 = .ok (.ineg, 1) := by decide +kernel
theorem dX10_sumOf_58 : decode cX10_sumOf 58 = .ok (.iadd, 1) := by decide +kernel
theorem dX10_sumOf_59 : decode cX10_sumOf 59 = .ok (.istore_n 3, 1) := by decide +kernel
theorem dX10_sumOf_60 : decode cX10_sumOf 60 = .ok (.iinc 4 1, 3) := by decide +kernel
theorem dX10_sumOf_63 : decode cX10_sumOf 63 = .ok (.goto (-53), 3) := by decide +kernel
theorem dX10_sumOf_66 : decode cX10_sumOf 66 = .ok (.iload_n 3, 1) := by decide +kernel
theorem dX10_sumOf_67 : decode cX10_sumOf 67 = .ok (.ireturn, 1) := by decide +kernel
theorem dX10_nextOf_0 : decode cX10_nextOf 0 = .ok (.iload_n 3, 1) := by decide +kernel
theorem dX10_nextOf_1 : decode cX10_nextOf 1 = .ok (.iload_n 1, 1) := by decide +kernel
theorem dX10_nextOf_2 : decode cX10_nextOf 2 = .ok (.ishr, 1) := by decide +kernel
theorem dX10_nextOf_3 : decode cX10_nextOf 3 = .ok (.iconst 1, 1) := by decide +kernel
theorem dX10_nextOf_4 : decode cX10_nextOf 4 = .ok (.iand, 1) := by decide +kernel
theorem dX10_nextOf_5 : decode cX10_nextOf 5 = .ok (.istore 4, 2) := by decide +kernel
theorem dX10_nextOf_7 : decode cX10_nextOf 7 = .ok (.aload_n 0, 1) := by decide +kernel
theorem dX10_nextOf_8 : decode cX10_nextOf 8 = .ok (.iload_n 1, 1) := by decide +kernel
theorem dX10_nextOf_9 : decode cX10_nextOf 9 = .ok (.iload_n 3, 1) := by decide +kernel
theorem dX10_nextOf_10 : decode cX10_nextOf 10 = .ok (.invokevirtual 79, 3) := by decide +kernel
theorem dX10_nextOf_13 : decode cX10_nextOf 13 = .ok (.istore 5, 2) := by decide +kernel
theorem dX10_nextOf_15 : decode cX10_nextOf 15 = .ok (.iload_n 2, 1) := by decide +kernel
theorem dX10_nextOf_16 : decode cX10_nextOf 16 = .ok (.tableswitch 73 0 2 #[28, 49, 70], 28) := by decide +kernel
theorem dX10_nextOf_44 : decode cX10_nextOf 44 = .ok (.iload 5, 2) := by decide +kernel
theorem dX10_nextOf_46 : decode cX10_nextOf 46 = .ok (.ifCond .le 7, 3) := by decide +kernel
theorem dX10_nextOf_49 : decode cX10_nextOf 49 = .ok (.iconst 1, 1) := by decide +kernel
theorem dX10_nextOf_50 : decode cX10_nextOf 50 = .ok (.goto 14, 3) := by decide +kernel
theorem dX10_nextOf_53 : decode cX10_nextOf 53 = .ok (.iload 5, 2) := by decide +kernel
theorem dX10_nextOf_55 : decode cX10_nextOf 55 = .ok (.ifCond .ge 7, 3) := by decide +kernel
theorem dX10_nextOf_58 : decode cX10_nextOf 58 = .ok (.iconst 0, 1) := by decide +kernel
theorem dX10_nextOf_59 : decode cX10_nextOf 59 = .ok (.goto 5, 3) := by decide +kernel
theorem dX10_nextOf_62 : decode cX10_nextOf 62 = .ok (.iload 4, 2) := by decide +kernel
theorem dX10_nextOf_64 : decode cX10_nextOf 64 = .ok (.ireturn, 1) := by decide +kernel
theorem dX10_nextOf_65 : decode cX10_nextOf 65 = .ok (.iload 5, 2) := by decide +kernel
theorem dX10_nextOf_67 : decode cX10_nextOf 67 = .ok (.ifCond .le 7, 3) := by decide +kernel
theorem dX10_nextOf_70 : decode cX10_nextOf 70 = .ok (.iconst 0, 1) := by decide +kernel
theorem dX10_nextOf_71 : decode cX10_nextOf 71 = .ok (.goto 14, 3) := by decide +kernel
theorem dX10_nextOf_74 : decode cX10_nextOf 74 = .ok (.iload 5, 2) := by decide +kernel
theorem dX10_nextOf_76 : decode cX10_nextOf 76 = .ok (.ifCond .ge 7, 3) := by decide +kernel
theorem dX10_nextOf_79 : decode cX10_nextOf 79 = .ok (.iconst 1, 1) := by decide +kernel
theorem dX10_nextOf_80 : decode cX10_nextOf 80 = .ok (.goto 5, 3) := by decide +kernel
theorem dX10_nextOf_83 : decode cX10_nextOf 83 = .ok (.iload 4, 2) := by decide +kernel
theorem dX10_nextOf_85 : decode cX10_nextOf 85 = .ok (.ireturn, 1) := by decide +kernel
theorem dX10_nextOf_86 : decode cX10_nextOf 86 = .ok (.iload 4, 2) := by decide +kernel
theorem dX10_nextOf_88 : decode cX10_nextOf 88 = .ok (.ireturn, 1) := by decide +kernel
theorem dX10_nextOf_89 : decode cX10_nextOf 89 = .ok (.iconst 1, 1) := by decide +kernel
theorem dX10_nextOf_90 : decode cX10_nextOf 90 = .ok (.iload 4, 2) := by decide +kernel
theorem dX10_nextOf_92 : decode cX10_nextOf 92 = .ok (.isub, 1) := by decide +kernel
theorem dX10_nextOf_93 : decode cX10_nextOf 93 = .ok (.ireturn, 1) := by decide +kernel
theorem dX10_with_0 : decode cX10_with 0 = .ok (.iload_n 3, 1) := by decide +kernel
theorem dX10_with_1 : decode cX10_with 1 = .ok (.iconst 1, 1) := by decide +kernel
theorem dX10_with_2 : decode cX10_with 2 = .ok (.if_icmp .ne 11, 3) := by decide +kernel
theorem dX10_with_5 : decode cX10_with 5 = .ok (.iload_n 1, 1) := by decide +kernel
theorem dX10_with_6 : decode cX10_with 6 = .ok (.iconst 1, 1) := by decide +kernel
theorem dX10_with_7 : decode cX10_with 7 = .ok (.iload_n 2, 1) := by decide +kernel
theorem dX10_with_8 : decode cX10_with 8 = .ok (.ishl, 1) := by decide +kernel
theorem dX10_with_9 : decode cX10_with 9 = .ok (.ior, 1) := by decide +kernel
theorem dX10_with_10 : decode cX10_with 10 = .ok (.goto 10, 3) := by decide +kernel
theorem dX10_with_13 : decode cX10_with 13 = .ok (.iload_n 1, 1) := by decide +kernel
theorem dX10_with_14 : decode cX10_with 14 = .ok (.iconst 1, 1) := by decide +kernel
theorem dX10_with_15 : decode cX10_with 15 = .ok (.iload_n 2, 1) := by decide +kernel
theorem dX10_with_16 : decode cX10_with 16 = .ok (.ishl, 1) := by decide +kernel
theorem dX10_with_17 : decode cX10_with 17 = .ok (.iconst (-1), 1) := by decide +kernel
theorem dX10_with_18 : decode cX10_with 18 = .ok (.ixor, 1) := by decide +kernel
theorem dX10_with_19 : decode cX10_with 19 = .ok (.iand, 1) := by decide +kernel
theorem dX10_with_20 : decode cX10_with 20 = .ok (.ireturn, 1) := by decide +kernel
theorem dX10_calmOf_0 : decode cX10_calmOf 0 = .ok (.iconst 0, 1) := by decide +kernel
theorem dX10_calmOf_1 : decode cX10_calmOf 1 = .ok (.istore_n 2, 1) := by decide +kernel
theorem dX10_calmOf_2 : decode cX10_calmOf 2 = .ok (.iconst 0, 1) := by decide +kernel
theorem dX10_calmOf_3 : decode cX10_calmOf 3 = .ok (.istore_n 3, 1) := by decide +kernel
theorem dX10_calmOf_4 : decode cX10_calmOf 4 = .ok (.iload_n 3, 1) := by decide +kernel
theorem dX10_calmOf_5 : decode cX10_calmOf 5 = .ok (.aload_n 0, 1) := by decide +kernel
theorem dX10_calmOf_6 : decode cX10_calmOf 6 = .ok (.getfield 7, 3) := by decide +kernel
theorem dX10_calmOf_9 : decode cX10_calmOf 9 = .ok (.if_icmp .ge 39, 3) := by decide +kernel
theorem dX10_calmOf_12 : decode cX10_calmOf 12 = .ok (.iload_n 2, 1) := by decide +kernel
theorem dX10_calmOf_13 : decode cX10_calmOf 13 = .ok (.aload_n 0, 1) := by decide +kernel
theorem dX10_calmOf_14 : decode cX10_calmOf 14 = .ok (.iload_n 3, 1) := by decide +kernel
theorem dX10_calmOf_15 : decode cX10_calmOf 15 = .ok (.aload_n 0, 1) := by decide +kernel
theorem dX10_calmOf_16 : decode cX10_calmOf 16 = .ok (.getfield 17, 3) := by decide +kernel
theorem dX10_calmOf_19 : decode cX10_calmOf 19 = .ok (.iload_n 3, 1) := by decide +kernel
theorem dX10_calmOf_20 : decode cX10_calmOf 20 = .ok (.iaload, 1) := by decide +kernel
theorem dX10_calmOf_21 : decode cX10_calmOf 21 = .ok (.iload_n 1, 1) := by decide +kernel
theorem dX10_calmOf_22 : decode cX10_calmOf 22 = .ok (.invokevirtual 83, 3) := by decide +kernel
theorem dX10_calmOf_25 : decode cX10_calmOf 25 = .ok (.iload_n 1, 1) := by decide +kernel
theorem dX10_calmOf_26 : decode cX10_calmOf 26 = .ok (.iload_n 3, 1) := by decide +kernel
theorem dX10_calmOf_27 : decode cX10_calmOf 27 = .ok (.ishr, 1) := by decide +kernel
theorem dX10_calmOf_28 : decode cX10_calmOf 28 = .ok (.iconst 1, 1) := by decide +kernel
theorem dX10_calmOf_29 : decode cX10_calmOf 29 = .ok (.iand, 1) := by decide +kernel
theorem dX10_calmOf_30 : decode cX10_calmOf 30 = .ok (.if_icmp .ne 9, 3) := by decide +kernel
theorem dX10_calmOf_33 : decode cX10_calmOf 33 = .ok (.iconst 1, 1) := by decide +kernel
theorem dX10_calmOf_34 : decode cX10_calmOf 34 = .ok (.iload_n 3, 1) := by decide +kernel
theorem dX10_calmOf_35 : decode cX10_calmOf 35 = .ok (.ishl, 1) := by decide +kernel
theorem dX10_calmOf_36 : decode cX10_calmOf 36 = .ok (.goto 4, 3) := by decide +kernel
theorem dX10_calmOf_39 : decode cX10_calmOf 39 = .ok (.iconst 0, 1) := by decide +kernel
theorem dX10_calmOf_40 : decode cX10_calmOf 40 = .ok (.ior, 1) := by decide +kernel
theorem dX10_calmOf_41 : decode cX10_calmOf 41 = .ok (.istore_n 2, 1) := by decide +kernel
theorem dX10_calmOf_42 : decode cX10_calmOf 42 = .ok (.iinc 3 1, 3) := by decide +kernel
theorem dX10_calmOf_45 : decode cX10_calmOf 45 = .ok (.goto (-41), 3) := by decide +kernel
theorem dX10_calmOf_48 : decode cX10_calmOf 48 = .ok (.iload_n 2, 1) := by decide +kernel
theorem dX10_calmOf_49 : decode cX10_calmOf 49 = .ok (.ireturn, 1) := by decide +kernel
theorem dX10_all_0 : decode cX10_all 0 = .ok (.iconst 1, 1) := by decide +kernel
theorem dX10_all_1 : decode cX10_all 1 = .ok (.aload_n 0, 1) := by decide +kernel
theorem dX10_all_2 : decode cX10_all 2 = .ok (.getfield 7, 3) := by decide +kernel
theorem dX10_all_5 : decode cX10_all 5 = .ok (.ishl, 1) := by decide +kernel
theorem dX10_all_6 : decode cX10_all 6 = .ok (.iconst 1, 1) := by decide +kernel
theorem dX10_all_7 : decode cX10_all 7 = .ok (.isub, 1) := by decide +kernel
theorem dX10_all_8 : decode cX10_all 8 = .ok (.ireturn, 1) := by decide +kernel
theorem dX10_stepFrom_0 : decode cX10_stepFrom 0 = .ok (.iload_n 1, 1) := by decide +kernel
theorem dX10_stepFrom_1 : decode cX10_stepFrom 1 = .ok (.istore_n 3, 1) := by decide +kernel
theorem dX10_stepFrom_2 : decode cX10_stepFrom 2 = .ok (.iconst 0, 1) := by decide +kernel
theorem dX10_stepFrom_3 : decode cX10_stepFrom 3 = .ok (.istore 4, 2) := by decide +kernel
theorem dX10_stepFrom_5 : decode cX10_stepFrom 5 = .ok (.iload 4, 2) := by decide +kernel
theorem dX10_stepFrom_7 : decode cX10_stepFrom 7 = .ok (.aload_n 0, 1) := by decide +kernel
theorem dX10_stepFrom_8 : decode cX10_stepFrom 8 = .ok (.getfield 7, 3) := by decide +kernel
theorem dX10_stepFrom_11 : decode cX10_stepFrom 11 = .ok (.if_icmp .ge 39, 3) := by decide +kernel
theorem dX10_stepFrom_14 : decode cX10_stepFrom 14 = .ok (.aload_n 0, 1) := by decide +kernel
theorem dX10_stepFrom_15 : decode cX10_stepFrom 15 = .ok (.iload_n 3, 1) := by decide +kernel
theorem dX10_stepFrom_16 : decode cX10_stepFrom 16 = .ok (.iload 4, 2) := by decide +kernel
theorem dX10_stepFrom_18 : decode cX10_stepFrom 18 = .ok (.aload_n 0, 1) := by decide +kernel
theorem dX10_stepFrom_19 : decode cX10_stepFrom 19 = .ok (.iload 4, 2) := by decide +kernel
theorem dX10_stepFrom_21 : decode cX10_stepFrom 21 = .ok (.aload_n 0, 1) := by decide +kernel
theorem dX10_stepFrom_22 : decode cX10_stepFrom 22 = .ok (.getfield 17, 3) := by decide +kernel
theorem dX10_stepFrom_25 : decode cX10_stepFrom 25 = .ok (.iload 4, 2) := by decide +kernel
theorem dX10_stepFrom_27 : decode cX10_stepFrom 27 = .ok (.iaload, 1) := by decide +kernel
theorem dX10_stepFrom_28 : decode cX10_stepFrom 28 = .ok (.iload_n 2, 1) := by decide +kernel
theorem dX10_stepFrom_29 : decode cX10_stepFrom 29 = .ok (.ifCond .ne 7, 3) := by decide +kernel
theorem dX10_stepFrom_32 : decode cX10_stepFrom 32 = .ok (.iload_n 1, 1) := by decide +kernel
theorem dX10_stepFrom_33 : decode cX10_stepFrom 33 = .ok (.goto 4, 3) := by decide +kernel
theorem dX10_stepFrom_36 : decode cX10_stepFrom 36 = .ok (.iload_n 3, 1) := by decide +kernel
theorem dX10_stepFrom_37 : decode cX10_stepFrom 37 = .ok (.invokevirtual 83, 3) := by decide +kernel
theorem dX10_stepFrom_40 : decode cX10_stepFrom 40 = .ok (.invokevirtual 87, 3) := by decide +kernel
theorem dX10_stepFrom_43 : decode cX10_stepFrom 43 = .ok (.istore_n 3, 1) := by decide +kernel
theorem dX10_stepFrom_44 : decode cX10_stepFrom 44 = .ok (.iinc 4 1, 3) := by decide +kernel
theorem dX10_stepFrom_47 : decode cX10_stepFrom 47 = .ok (.goto (-42), 3) := by decide +kernel
theorem dX10_stepFrom_50 : decode cX10_stepFrom 50 = .ok (.iload_n 3, 1) := by decide +kernel
theorem dX10_stepFrom_51 : decode cX10_stepFrom 51 = .ok (.ireturn, 1) := by decide +kernel
theorem dX10_sum_0 : decode cX10_sum 0 = .ok (.aload_n 0, 1) := by decide +kernel
theorem dX10_sum_1 : decode cX10_sum 1 = .ok (.iload_n 1, 1) := by decide +kernel
theorem dX10_sum_2 : decode cX10_sum 2 = .ok (.invokevirtual 69, 3) := by decide +kernel
theorem dX10_sum_5 : decode cX10_sum 5 = .ok (.ifCond .ne 5, 3) := by decide +kernel
theorem dX10_sum_8 : decode cX10_sum 8 = .ok (.iconst (-1), 1) := by decide +kernel
theorem dX10_sum_9 : decode cX10_sum 9 = .ok (.ireturn, 1) := by decide +kernel
theorem dX10_sum_10 : decode cX10_sum 10 = .ok (.aload_n 0, 1) := by decide +kernel
theorem dX10_sum_11 : decode cX10_sum 11 = .ok (.iload_n 2, 1) := by decide +kernel
theorem dX10_sum_12 : decode cX10_sum 12 = .ok (.invokevirtual 90, 3) := by decide +kernel
theorem dX10_sum_15 : decode cX10_sum 15 = .ok (.ifCond .eq 12, 3) := by decide +kernel
theorem dX10_sum_18 : decode cX10_sum 18 = .ok (.aload_n 0, 1) := by decide +kernel
theorem dX10_sum_19 : decode cX10_sum 19 = .ok (.iload_n 1, 1) := by decide +kernel
theorem dX10_sum_20 : decode cX10_sum 20 = .ok (.iload_n 2, 1) := by decide +kernel
theorem dX10_sum_21 : decode cX10_sum 21 = .ok (.invokevirtual 79, 3) := by decide +kernel
theorem dX10_sum_24 : decode cX10_sum 24 = .ok (.goto 5, 3) := by decide +kernel
theorem dX10_sum_27 : decode cX10_sum 27 = .ok (.bipush (-2), 2) := by decide +kernel
theorem dX10_sum_29 : decode cX10_sum 29 = .ok (.ireturn, 1) := by decide +kernel
theorem dX10_calm_0 : decode cX10_calm 0 = .ok (.aload_n 0, 1) := by decide +kernel
theorem dX10_calm_1 : decode cX10_calm 1 = .ok (.iload_n 1, 1) := by decide +kernel
theorem dX10_calm_2 : decode cX10_calm 2 = .ok (.invokevirtual 90, 3) := by decide +kernel
theorem dX10_calm_5 : decode cX10_calm 5 = .ok (.ifCond .eq 11, 3) := by decide +kernel
theorem dX10_calm_8 : decode cX10_calm 8 = .ok (.aload_n 0, 1) := by decide +kernel
theorem dX10_calm_9 : decode cX10_calm 9 = .ok (.iload_n 1, 1) := by decide +kernel
theorem dX10_calm_10 : decode cX10_calm 10 = .ok (.invokevirtual 93, 3) := by decide +kernel
theorem dX10_calm_13 : decode cX10_calm 13 = .ok (.goto 5, 3) := by decide +kernel
theorem dX10_calm_16 : decode cX10_calm 16 = .ok (.bipush (-2), 2) := by decide +kernel
theorem dX10_calm_18 : decode cX10_calm 18 = .ok (.ireturn, 1) := by decide +kernel
theorem dX10_after_0 : decode cX10_after 0 = .ok (.aload_n 0, 1) := by decide +kernel
theorem dX10_after_1 : decode cX10_after 1 = .ok (.iload_n 1, 1) := by decide +kernel
theorem dX10_after_2 : decode cX10_after 2 = .ok (.invokevirtual 90, 3) := by decide +kernel
theorem dX10_after_5 : decode cX10_after 5 = .ok (.ifCond .eq 22, 3) := by decide +kernel
theorem dX10_after_8 : decode cX10_after 8 = .ok (.iload_n 2, 1) := by decide +kernel
theorem dX10_after_9 : decode cX10_after 9 = .ok (.invokestatic 97, 3) := by decide +kernel
theorem dX10_after_12 : decode cX10_after 12 = .ok (.ifCond .eq 15, 3) := by decide +kernel
theorem dX10_after_15 : decode cX10_after 15 = .ok (.iload_n 3, 1) := by decide +kernel
theorem dX10_after_16 : decode cX10_after 16 = .ok (.i2l, 1) := by decide +kernel
theorem dX10_after_17 : decode cX10_after 17 = .ok (.lconst 0, 1) := by decide +kernel
theorem dX10_after_18 : decode cX10_after 18 = .ok (.ldc2_w 100, 3) := by decide +kernel
theorem dX10_after_21 : decode cX10_after 21 = .ok (.invokestatic 60, 3) := by decide +kernel
theorem dX10_after_24 : decode cX10_after 24 = .ok (.ifCond .ne 6, 3) := by decide +kernel
theorem dX10_after_27 : decode cX10_after 27 = .ok (.bipush (-2), 2) := by decide +kernel
theorem dX10_after_29 : decode cX10_after 29 = .ok (.ireturn, 1) := by decide +kernel
theorem dX10_after_30 : decode cX10_after 30 = .ok (.iload_n 1, 1) := by decide +kernel
theorem dX10_after_31 : decode cX10_after 31 = .ok (.istore 4, 2) := by decide +kernel
theorem dX10_after_33 : decode cX10_after 33 = .ok (.iconst 0, 1) := by decide +kernel
theorem dX10_after_34 : decode cX10_after 34 = .ok (.istore 5, 2) := by decide +kernel
theorem dX10_after_36 : decode cX10_after 36 = .ok (.iload 5, 2) := by decide +kernel
theorem dX10_after_38 : decode cX10_after 38 = .ok (.iload_n 3, 1) := by decide +kernel
theorem dX10_after_39 : decode cX10_after 39 = .ok (.if_icmp .ge 18, 3) := by decide +kernel
theorem dX10_after_42 : decode cX10_after 42 = .ok (.aload_n 0, 1) := by decide +kernel
theorem dX10_after_43 : decode cX10_after 43 = .ok (.iload 4, 2) := by decide +kernel
theorem dX10_after_45 : decode cX10_after 45 = .ok (.iload_n 2, 1) := by decide +kernel
theorem dX10_after_46 : decode cX10_after 46 = .ok (.invokevirtual 102, 3) := by decide +kernel
theorem dX10_after_49 : decode cX10_after 49 = .ok (.istore 4, 2) := by decide +kernel
theorem dX10_after_51 : decode cX10_after 51 = .ok (.iinc 5 1, 3) := by decide +kernel
theorem dX10_after_54 : decode cX10_after 54 = .ok (.goto (-18), 3) := by decide +kernel
theorem dX10_after_57 : decode cX10_after 57 = .ok (.iload 4, 2) := by decide +kernel
theorem dX10_after_59 : decode cX10_after 59 = .ok (.ireturn, 1) := by decide +kernel
theorem dX10_layLeads_0 : decode cX10_layLeads 0 = .ok (.iconst 0, 1) := by decide +kernel
theorem dX10_layLeads_1 : decode cX10_layLeads 1 = .ok (.istore_n 2, 1) := by decide +kernel
theorem dX10_layLeads_2 : decode cX10_layLeads 2 = .ok (.iload_n 2, 1) := by decide +kernel
theorem dX10_layLeads_3 : decode cX10_layLeads 3 = .ok (.aload_n 0, 1) := by decide +kernel
theorem dX10_layLeads_4 : decode cX10_layLeads 4 = .ok (.invokevirtual 105, 3) := by decide +kernel
theorem dX10_layLeads_7 : decode cX10_layLeads 7 = .ok (.if_icmp .gt 21, 3) := by decide +kernel
theorem dX10_layLeads_10 : decode cX10_layLeads 10 = .ok (.aload_n 0, 1) := by decide +kernel
theorem dX10_layLeads_11 : decode cX10_layLeads 11 = .ok (.getfield 23, 3) := by decide +kernel
theorem dX10_layLeads_14 : decode cX10_layLeads 14 = .ok (.iload_n 2, 1) := by decide +kernel
theorem dX10_layLeads_15 : decode cX10_layLeads 15 = .ok (.aload_n 0, 1) := by decide +kernel
theorem dX10_layLeads_16 : decode cX10_layLeads 16 = .ok (.iload_n 2, 1) := by decide +kernel
theorem dX10_layLeads_17 : decode cX10_layLeads 17 = .ok (.iload_n 1, 1) := by decide +kernel
theorem dX10_layLeads_18 : decode cX10_layLeads 18 = .ok (.invokevirtual 102, 3) := by decide +kernel
theorem dX10_layLeads_21 : decode cX10_layLeads 21 = .ok (.iastore, 1) := by decide +kernel
theorem dX10_layLeads_22 : decode cX10_layLeads 22 = .ok (.iinc 2 1, 3) := by decide +kernel
theorem dX10_layLeads_25 : decode cX10_layLeads 25 = .ok (.goto (-23), 3) := by decide +kernel
theorem dX10_layLeads_28 : decode cX10_layLeads 28 = .ok (.return_, 1) := by decide +kernel
theorem dX10_layRun_0 : decode cX10_layRun 0 = .ok (.iconst 0, 1) := by decide +kernel
theorem dX10_layRun_1 : decode cX10_layRun 1 = .ok (.istore_n 2, 1) := by decide +kernel
theorem dX10_layRun_2 : decode cX10_layRun 2 = .ok (.iload_n 2, 1) := by decide +kernel
theorem dX10_layRun_3 : decode cX10_layRun 3 = .ok (.aload_n 0, 1) := by decide +kernel
theorem dX10_layRun_4 : decode cX10_layRun 4 = .ok (.invokevirtual 105, 3) := by decide +kernel
theorem dX10_layRun_7 : decode cX10_layRun 7 = .ok (.if_icmp .gt 17, 3) := by decide +kernel
theorem dX10_layRun_10 : decode cX10_layRun 10 = .ok (.aload_n 0, 1) := by decide +kernel
theorem dX10_layRun_11 : decode cX10_layRun 11 = .ok (.getfield 26, 3) := by decide +kernel
theorem dX10_layRun_14 : decode cX10_layRun 14 = .ok (.iload_n 2, 1) := by decide +kernel
theorem dX10_layRun_15 : decode cX10_layRun 15 = .ok (.bipush (-9), 2) := by decide +kernel
theorem dX10_layRun_17 : decode cX10_layRun 17 = .ok (.iastore, 1) := by decide +kernel
theorem dX10_layRun_18 : decode cX10_layRun 18 = .ok (.iinc 2 1, 3) := by decide +kernel
theorem dX10_layRun_21 : decode cX10_layRun 21 = .ok (.goto (-19), 3) := by decide +kernel
theorem dX10_layRun_24 : decode cX10_layRun 24 = .ok (.iload_n 1, 1) := by decide +kernel
theorem dX10_layRun_25 : decode cX10_layRun 25 = .ok (.istore_n 2, 1) := by decide +kernel
theorem dX10_layRun_26 : decode cX10_layRun 26 = .ok (.iconst 0, 1) := by decide +kernel
theorem dX10_layRun_27 : decode cX10_layRun 27 = .ok (.istore_n 3, 1) := by decide +kernel
theorem dX10_layRun_28 : decode cX10_layRun 28 = .ok (.aload_n 0, 1) := by decide +kernel
theorem dX10_layRun_29 : decode cX10_layRun 29 = .ok (.getfield 26, 3) := by decide +kernel
theorem dX10_layRun_32 : decode cX10_layRun 32 = .ok (.iload_n 2, 1) := by decide +kernel
theorem dX10_layRun_33 : decode cX10_layRun 33 = .ok (.iaload, 1) := by decide +kernel
theorem dX10_layRun_34 : decode cX10_layRun 34 = .ok (.bipush (-9), 2) := by decide +kernel
theorem dX10_layRun_36 : decode cX10_layRun 36 = .ok (.if_icmp .ne 23, 3) := by decide +kernel
theorem dX10_layRun_39 : decode cX10_layRun 39 = .ok (.aload_n 0, 1) := by decide +kernel
theorem dX10_layRun_40 : decode cX10_layRun 40 = .ok (.getfield 26, 3) := by decide +kernel
theorem dX10_layRun_43 : decode cX10_layRun 43 = .ok (.iload_n 2, 1) := by decide +kernel
theorem dX10_layRun_44 : decode cX10_layRun 44 = .ok (.iload_n 3, 1) := by decide +kernel
theorem dX10_layRun_45 : decode cX10_layRun 45 = .ok (.iastore, 1) := by decide +kernel
theorem dX10_layRun_46 : decode cX10_layRun 46 = .ok (.aload_n 0, 1) := by decide +kernel
theorem dX10_layRun_47 : decode cX10_layRun 47 = .ok (.getfield 23, 3) := by decide +kernel
theorem dX10_layRun_50 : decode cX10_layRun 50 = .ok (.iload_n 2, 1) := by decide +kernel
theorem dX10_layRun_51 : decode cX10_layRun 51 = .ok (.iaload, 1) := by decide +kernel
theorem dX10_layRun_52 : decode cX10_layRun 52 = .ok (.istore_n 2, 1) := by decide +kernel
theorem dX10_layRun_53 : decode cX10_layRun 53 = .ok (.iinc 3 1, 3) := by decide +kernel
theorem dX10_layRun_56 : decode cX10_layRun 56 = .ok (.goto (-28), 3) := by decide +kernel
theorem dX10_layRun_59 : decode cX10_layRun 59 = .ok (.aload_n 0, 1) := by decide +kernel
theorem dX10_layRun_60 : decode cX10_layRun 60 = .ok (.iload_n 2, 1) := by decide +kernel
theorem dX10_layRun_61 : decode cX10_layRun 61 = .ok (.putfield 109, 3) := by decide +kernel
theorem dX10_layRun_64 : decode cX10_layRun 64 = .ok (.aload_n 0, 1) := by decide +kernel
theorem dX10_layRun_65 : decode cX10_layRun 65 = .ok (.aload_n 0, 1) := by decide +kernel
theorem dX10_layRun_66 : decode cX10_layRun 66 = .ok (.getfield 26, 3) := by decide +kernel
theorem dX10_layRun_69 : decode cX10_layRun 69 = .ok (.iload_n 2, 1) := by decide +kernel
theorem dX10_layRun_70 : decode cX10_layRun 70 = .ok (.iaload, 1) := by decide +kernel
theorem dX10_layRun_71 : decode cX10_layRun 71 = .ok (.putfield 112, 3) := by decide +kernel
theorem dX10_layRun_74 : decode cX10_layRun 74 = .ok (.aload_n 0, 1) := by decide +kernel
theorem dX10_layRun_75 : decode cX10_layRun 75 = .ok (.iload_n 3, 1) := by decide +kernel
theorem dX10_layRun_76 : decode cX10_layRun 76 = .ok (.aload_n 0, 1) := by decide +kernel
theorem dX10_layRun_77 : decode cX10_layRun 77 = .ok (.getfield 112, 3) := by decide +kernel
theorem dX10_layRun_80 : decode cX10_layRun 80 = .ok (.isub, 1) := by decide +kernel
theorem dX10_layRun_81 : decode cX10_layRun 81 = .ok (.putfield 115, 3) := by decide +kernel
theorem dX10_layRun_84 : decode cX10_layRun 84 = .ok (.return_, 1) := by decide +kernel
theorem dX10_run_0 : decode cX10_run 0 = .ok (.aload_n 0, 1) := by decide +kernel
theorem dX10_run_1 : decode cX10_run 1 = .ok (.iload_n 1, 1) := by decide +kernel
theorem dX10_run_2 : decode cX10_run 2 = .ok (.invokevirtual 90, 3) := by decide +kernel
theorem dX10_run_5 : decode cX10_run 5 = .ok (.ifCond .eq 22, 3) := by decide +kernel
theorem dX10_run_8 : decode cX10_run 8 = .ok (.iload_n 2, 1) := by decide +kernel
theorem dX10_run_9 : decode cX10_run 9 = .ok (.invokestatic 97, 3) := by decide +kernel
theorem dX10_run_12 : decode cX10_run 12 = .ok (.ifCond .eq 15, 3) := by decide +kernel
theorem dX10_run_15 : decode cX10_run 15 = .ok (.iload_n 3, 1) := by decide +kernel
theorem dX10_run_16 : decode cX10_run 16 = .ok (.i2l, 1) := by decide +kernel
theorem dX10_run_17 : decode cX10_run 17 = .ok (.lconst 0, 1) := by decide +kernel
theorem dX10_run_18 : decode cX10_run 18 = .ok (.ldc2_w 118, 3) := by decide +kernel
theorem dX10_run_21 : decode cX10_run 21 = .ok (.invokestatic 60, 3) := by decide +kernel
theorem dX10_run_24 : decode cX10_run 24 = .ok (.ifCond .ne 6, 3) := by decide +kernel
theorem dX10_run_27 : decode cX10_run 27 = .ok (.bipush (-2), 2) := by decide +kernel
theorem dX10_run_29 : decode cX10_run 29 = .ok (.ireturn, 1) := by decide +kernel
theorem dX10_run_30 : decode cX10_run 30 = .ok (.aload_n 0, 1) := by decide +kernel
theorem dX10_run_31 : decode cX10_run 31 = .ok (.iload_n 2, 1) := by decide +kernel
theorem dX10_run_32 : decode cX10_run 32 = .ok (.invokevirtual 120, 3) := by decide +kernel
theorem dX10_run_35 : decode cX10_run 35 = .ok (.aload_n 0, 1) := by decide +kernel
theorem dX10_run_36 : decode cX10_run 36 = .ok (.iload_n 1, 1) := by decide +kernel
theorem dX10_run_37 : decode cX10_run 37 = .ok (.invokevirtual 124, 3) := by decide +kernel
theorem dX10_run_40 : decode cX10_run 40 = .ok (.iload_n 3, 1) := by decide +kernel
theorem dX10_run_41 : decode cX10_run 41 = .ok (.ifCond .ne 10, 3) := by decide +kernel
theorem dX10_run_44 : decode cX10_run 44 = .ok (.aload_n 0, 1) := by decide +kernel
theorem dX10_run_45 : decode cX10_run 45 = .ok (.getfield 112, 3) := by decide +kernel
theorem dX10_run_48 : decode cX10_run 48 = .ok (.goto 19, 3) := by decide +kernel
theorem dX10_run_51 : decode cX10_run 51 = .ok (.iload_n 3, 1) := by decide +kernel
theorem dX10_run_52 : decode cX10_run 52 = .ok (.iconst 1, 1) := by decide +kernel
theorem dX10_run_53 : decode cX10_run 53 = .ok (.if_icmp .ne 10, 3) := by decide +kernel
theorem dX10_run_56 : decode cX10_run 56 = .ok (.aload_n 0, 1) := by decide +kernel
theorem dX10_run_57 : decode cX10_run 57 = .ok (.getfield 109, 3) := by decide +kernel
theorem dX10_run_60 : decode cX10_run 60 = .ok (.goto 7, 3) := by decide +kernel
theorem dX10_run_63 : decode cX10_run 63 = .ok (.aload_n 0, 1) := by decide +kernel
theorem dX10_run_64 : decode cX10_run 64 = .ok (.getfield 115, 3) := by decide +kernel
theorem dX10_run_67 : decode cX10_run 67 = .ok (.ireturn, 1) := by decide +kernel
theorem dX10_leastOfRing_0 : decode cX10_leastOfRing 0 = .ok (.aload_n 0, 1) := by decide +kernel
theorem dX10_leastOfRing_1 : decode cX10_leastOfRing 1 = .ok (.getfield 109, 3) := by decide +kernel
theorem dX10_leastOfRing_4 : decode cX10_leastOfRing 4 = .ok (.istore_n 1, 1) := by decide +kernel
theorem dX10_leastOfRing_5 : decode cX10_leastOfRing 5 = .ok (.aload_n 0, 1) := by decide +kernel
theorem dX10_leastOfRing_6 : decode cX10_leastOfRing 6 = .ok (.getfield 23, 3) := by decide +kernel
theorem dX10_leastOfRing_9 : decode cX10_leastOfRing 9 = .ok (.aload_n 0, 1) := by decide +kernel
theorem dX10_leastOfRing_10 : decode cX10_leastOfRing 10 = .ok (.getfield 109, 3) := by decide +kernel
theorem dX10_leastOfRing_13 : decode cX10_leastOfRing 13 = .ok (.iaload, 1) := by decide +kernel
theorem dX10_leastOfRing_14 : decode cX10_leastOfRing 14 = .ok (.istore_n 2, 1) := by decide +kernel
theorem dX10_leastOfRing_15 : decode cX10_leastOfRing 15 = .ok (.iload_n 2, 1) := by decide +kernel
theorem dX10_leastOfRing_16 : decode cX10_leastOfRing 16 = .ok (.aload_n 0, 1) := by decide +kernel
theorem dX10_leastOfRing_17 : decode cX10_leastOfRing 17 = .ok (.getfield 109, 3) := by decide +kernel
theorem dX10_leastOfRing_20 : decode cX10_leastOfRing 20 = .ok (.if_icmp .eq 24, 3) := by decide +kernel
theorem dX10_leastOfRing_23 : decode cX10_leastOfRing 23 = .ok (.iload_n 2, 1) := by decide +kernel
theorem dX10_leastOfRing_24 : decode cX10_leastOfRing 24 = .ok (.iload_n 1, 1) := by decide +kernel
theorem dX10_leastOfRing_25 : decode cX10_leastOfRing 25 = .ok (.if_icmp .ge 7, 3) := by decide +kernel
theorem dX10_leastOfRing_28 : decode cX10_leastOfRing 28 = .ok (.iload_n 2, 1) := by decide +kernel
theorem dX10_leastOfRing_29 : decode cX10_leastOfRing 29 = .ok (.goto 4, 3) := by decide +kernel
theorem dX10_leastOfRing_32 : decode cX10_leastOfRing 32 = .ok (.iload_n 1, 1) := by decide +kernel
theorem dX10_leastOfRing_33 : decode cX10_leastOfRing 33 = .ok (.istore_n 1, 1) := by decide +kernel
theorem dX10_leastOfRing_34 : decode cX10_leastOfRing 34 = .ok (.aload_n 0, 1) := by decide +kernel
theorem dX10_leastOfRing_35 : decode cX10_leastOfRing 35 = .ok (.getfield 23, 3) := by decide +kernel
theorem dX10_leastOfRing_38 : decode cX10_leastOfRing 38 = .ok (.iload_n 2, 1) := by decide +kernel
theorem dX10_leastOfRing_39 : decode cX10_leastOfRing 39 = .ok (.iaload, 1) := by decide +kernel
theorem dX10_leastOfRing_40 : decode cX10_leastOfRing 40 = .ok (.istore_n 2, 1) := by decide +kernel
theorem dX10_leastOfRing_41 : decode cX10_leastOfRing 41 = .ok (.goto (-26), 3) := by decide +kernel
theorem dX10_leastOfRing_44 : decode cX10_leastOfRing 44 = .ok (.iload_n 1, 1) := by decide +kernel
theorem dX10_leastOfRing_45 : decode cX10_leastOfRing 45 = .ok (.ireturn, 1) := by decide +kernel
theorem dX10_layRings_0 : decode cX10_layRings 0 = .ok (.aload_n 0, 1) := by decide +kernel
theorem dX10_layRings_1 : decode cX10_layRings 1 = .ok (.iload_n 1, 1) := by decide +kernel
theorem dX10_layRings_2 : decode cX10_layRings 2 = .ok (.invokevirtual 120, 3) := by decide +kernel
theorem dX10_layRings_5 : decode cX10_layRings 5 = .ok (.iconst 0, 1) := by decide +kernel
theorem dX10_layRings_6 : decode cX10_layRings 6 = .ok (.istore_n 2, 1) := by decide +kernel
theorem dX10_layRings_7 : decode cX10_layRings 7 = .ok (.iload_n 2, 1) := by decide +kernel
theorem dX10_layRings_8 : decode cX10_layRings 8 = .ok (.aload_n 0, 1) := by decide +kernel
theorem dX10_layRings_9 : decode cX10_layRings 9 = .ok (.invokevirtual 105, 3) := by decide +kernel
theorem dX10_layRings_12 : decode cX10_layRings 12 = .ok (.if_icmp .gt 23, 3) := by decide +kernel
theorem dX10_layRings_15 : decode cX10_layRings 15 = .ok (.aload_n 0, 1) := by decide +kernel
theorem dX10_layRings_16 : decode cX10_layRings 16 = .ok (.getfield 29, 3) := by decide +kernel
theorem dX10_layRings_19 : decode cX10_layRings 19 = .ok (.iload_n 2, 1) := by decide +kernel
theorem dX10_layRings_20 : decode cX10_layRings 20 = .ok (.iconst 0, 1) := by decide +kernel
theorem dX10_layRings_21 : decode cX10_layRings 21 = .ok (.iastore, 1) := by decide +kernel
theorem dX10_layRings_22 : decode cX10_layRings 22 = .ok (.aload_n 0, 1) := by decide +kernel
theorem dX10_layRings_23 : decode cX10_layRings 23 = .ok (.getfield 35, 3) := by decide +kernel
theorem dX10_layRings_26 : decode cX10_layRings 26 = .ok (.iload_n 2, 1) := by decide +kernel
theorem dX10_layRings_27 : decode cX10_layRings 27 = .ok (.iconst 0, 1) := by decide +kernel
theorem dX10_layRings_28 : decode cX10_layRings 28 = .ok (.iastore, 1) := by decide +kernel
theorem dX10_layRings_29 : decode cX10_layRings 29 = .ok (.iinc 2 1, 3) := by decide +kernel
theorem dX10_layRings_32 : decode cX10_layRings 32 = .ok (.goto (-25), 3) := by decide +kernel
theorem dX10_layRings_35 : decode cX10_layRings 35 = .ok (.iconst 0, 1) := by decide +kernel
theorem dX10_layRings_36 : decode cX10_layRings 36 = .ok (.istore_n 2, 1) := by decide +kernel
theorem dX10_layRings_37 : decode cX10_layRings 37 = .ok (.iload_n 2, 1) := by decide +kernel
theorem dX10_layRings_38 : decode cX10_layRings 38 = .ok (.aload_n 0, 1) := by decide +kernel
theorem dX10_layRings_39 : decode cX10_layRings 39 = .ok (.invokevirtual 105, 3) := by decide +kernel
theorem dX10_layRings_42 : decode cX10_layRings 42 = .ok (.if_icmp .gt 71, 3) := by decide +kernel
theorem dX10_layRings_45 : decode cX10_layRings 45 = .ok (.aload_n 0, 1) := by decide +kernel
theorem dX10_layRings_46 : decode cX10_layRings 46 = .ok (.iload_n 2, 1) := by decide +kernel
theorem dX10_layRings_47 : decode cX10_layRings 47 = .ok (.invokevirtual 124, 3) := by decide +kernel
theorem dX10_layRings_50 : decode cX10_layRings 50 = .ok (.aload_n 0, 1) := by decide +kernel
theorem dX10_layRings_51 : decode cX10_layRings 51 = .ok (.invokevirtual 127, 3) := by decide +kernel
theorem dX10_layRings_54 : decode cX10_layRings 54 = .ok (.istore_n 3, 1) := by decide +kernel
theorem dX10_layRings_55 : decode cX10_layRings 55 = .ok (.aload_n 0, 1) := by decide +kernel
theorem dX10_layRings_56 : decode cX10_layRings 56 = .ok (.getfield 29, 3) := by decide +kernel
theorem dX10_layRings_59 : decode cX10_layRings 59 = .ok (.iload_n 3, 1) := by decide +kernel
theorem dX10_layRings_60 : decode cX10_layRings 60 = .ok (.dup2, 1) := by decide +kernel
theorem dX10_layRings_61 : decode cX10_layRings 61 = .ok (.iaload, 1) := by decide +kernel
theorem dX10_layRings_62 : decode cX10_layRings 62 = .ok (.iconst 1, 1) := by decide +kernel
theorem dX10_layRings_63 : decode cX10_layRings 63 = .ok (.iadd, 1) := by decide +kernel
theorem dX10_layRings_64 : decode cX10_layRings 64 = .ok (.iastore, 1) := by decide +kernel
theorem dX10_layRings_65 : decode cX10_layRings 65 = .ok (.aload_n 0, 1) := by decide +kernel
theorem dX10_layRings_66 : decode cX10_layRings 66 = .ok (.getfield 32, 3) := by decide +kernel
theorem dX10_layRings_69 : decode cX10_layRings 69 = .ok (.iload_n 3, 1) := by decide +kernel
theorem dX10_layRings_70 : decode cX10_layRings 70 = .ok (.aload_n 0, 1) := by decide +kernel
theorem dX10_layRings_71 : decode cX10_layRings 71 = .ok (.getfield 115, 3) := by decide +kernel
theorem dX10_layRings_74 : decode cX10_layRings 74 = .ok (.iastore, 1) := by decide +kernel
theorem dX10_layRings_75 : decode cX10_layRings 75 = .ok (.aload_n 0, 1) := by decide +kernel
theorem dX10_layRings_76 : decode cX10_layRings 76 = .ok (.getfield 35, 3) := by decide +kernel
theorem dX10_layRings_79 : decode cX10_layRings 79 = .ok (.iload_n 3, 1) := by decide +kernel
theorem dX10_layRings_80 : decode cX10_layRings 80 = .ok (.aload_n 0, 1) := by decide +kernel
theorem dX10_layRings_81 : decode cX10_layRings 81 = .ok (.getfield 112, 3) := by decide +kernel
theorem dX10_layRings_84 : decode cX10_layRings 84 = .ok (.aload_n 0, 1) := by decide +kernel
theorem dX10_layRings_85 : decode cX10_layRings 85 = .ok (.getfield 35, 3) := by decide +kernel
theorem dX10_layRings_88 : decode cX10_layRings 88 = .ok (.iload_n 3, 1) := by decide +kernel
theorem dX10_layRings_89 : decode cX10_layRings 89 = .ok (.iaload, 1) := by decide +kernel
theorem dX10_layRings_90 : decode cX10_layRings 90 = .ok (.if_icmp .le 10, 3) := by decide +kernel
theorem dX10_layRings_93 : decode cX10_layRings 93 = .ok (.aload_n 0, 1) := by decide +kernel
theorem dX10_layRings_94 : decode cX10_layRings 94 = .ok (.getfield 112, 3) := by decide +kernel
theorem dX10_layRings_97 : decode cX10_layRings 97 = .ok (.goto 9, 3) := by decide +kernel
theorem dX10_layRings_100 : decode cX10_layRings 100 = .ok (.aload_n 0, 1) := by decide +kernel
theorem dX10_layRings_101 : decode cX10_layRings 101 = .ok (.getfield 35, 3) := by decide +kernel
theorem dX10_layRings_104 : decode cX10_layRings 104 = .ok (.iload_n 3, 1) := by decide +kernel
theorem dX10_layRings_105 : decode cX10_layRings 105 = .ok (.iaload, 1) := by decide +kernel
theorem dX10_layRings_106 : decode cX10_layRings 106 = .ok (.iastore, 1) := by decide +kernel
theorem dX10_layRings_107 : decode cX10_layRings 107 = .ok (.iinc 2 1, 3) := by decide +kernel
theorem dX10_layRings_110 : decode cX10_layRings 110 = .ok (.goto (-73), 3) := by decide +kernel
theorem dX10_layRings_113 : decode cX10_layRings 113 = .ok (.return_, 1) := by decide +kernel
theorem dX10_rings_0 : decode cX10_rings 0 = .ok (.iload_n 1, 1) := by decide +kernel
theorem dX10_rings_1 : decode cX10_rings 1 = .ok (.invokestatic 97, 3) := by decide +kernel
theorem dX10_rings_4 : decode cX10_rings 4 = .ok (.ifCond .ne 6, 3) := by decide +kernel
theorem dX10_rings_7 : decode cX10_rings 7 = .ok (.bipush (-2), 2) := by decide +kernel
theorem dX10_rings_9 : decode cX10_rings 9 = .ok (.ireturn, 1) := by decide +kernel
theorem dX10_rings_10 : decode cX10_rings 10 = .ok (.aload_n 0, 1) := by decide +kernel
theorem dX10_rings_11 : decode cX10_rings 11 = .ok (.iload_n 1, 1) := by decide +kernel
theorem dX10_rings_12 : decode cX10_rings 12 = .ok (.invokevirtual 130, 3) := by decide +kernel
theorem dX10_rings_15 : decode cX10_rings 15 = .ok (.iconst 0, 1) := by decide +kernel
theorem dX10_rings_16 : decode cX10_rings 16 = .ok (.istore_n 2, 1) := by decide +kernel
theorem dX10_rings_17 : decode cX10_rings 17 = .ok (.iconst 0, 1) := by decide +kernel
theorem dX10_rings_18 : decode cX10_rings 18 = .ok (.istore_n 3, 1) := by decide +kernel
theorem dX10_rings_19 : decode cX10_rings 19 = .ok (.iload_n 3, 1) := by decide +kernel
theorem dX10_rings_20 : decode cX10_rings 20 = .ok (.aload_n 0, 1) := by decide +kernel
theorem dX10_rings_21 : decode cX10_rings 21 = .ok (.invokevirtual 105, 3) := by decide +kernel
theorem dX10_rings_24 : decode cX10_rings 24 = .ok (.if_icmp .gt 26, 3) := by decide +kernel
theorem dX10_rings_27 : decode cX10_rings 27 = .ok (.iload_n 2, 1) := by decide +kernel
theorem dX10_rings_28 : decode cX10_rings 28 = .ok (.aload_n 0, 1) := by decide +kernel
theorem dX10_rings_29 : decode cX10_rings 29 = .ok (.getfield 29, 3) := by decide +kernel
theorem dX10_rings_32 : decode cX10_rings 32 = .ok (.iload_n 3, 1) := by decide +kernel
theorem dX10_rings_33 : decode cX10_rings 33 = .ok (.iaload, 1) := by decide +kernel
theorem dX10_rings_34 : decode cX10_rings 34 = .ok (.ifCond .le 7, 3) := by decide +kernel
theorem dX10_rings_37 : decode cX10_rings 37 = .ok (.iconst 1, 1) := by decide +kernel
theorem dX10_rings_38 : decode cX10_rings 38 = .ok (.goto 4, 3) := by decide +kernel
theorem dX10_rings_41 : decode cX10_rings 41 = .ok (.iconst 0, 1) := by decide +kernel
theorem dX10_rings_42 : decode cX10_rings 42 = .ok (.iadd, 1) := by decide +kernel
theorem dX10_rings_43 : decode cX10_rings 43 = .ok (.istore_n 2, 1) := by decide +kernel
theorem dX10_rings_44 : decode cX10_rings 44 = .ok (.iinc 3 1, 3) := by decide +kernel
theorem dX10_rings_47 : decode cX10_rings 47 = .ok (.goto (-28), 3) := by decide +kernel
theorem dX10_rings_50 : decode cX10_rings 50 = .ok (.iload_n 2, 1) := by decide +kernel
theorem dX10_rings_51 : decode cX10_rings 51 = .ok (.ireturn, 1) := by decide +kernel
theorem dX10_ring_0 : decode cX10_ring 0 = .ok (.iload_n 1, 1) := by decide +kernel
theorem dX10_ring_1 : decode cX10_ring 1 = .ok (.invokestatic 97, 3) := by decide +kernel
theorem dX10_ring_4 : decode cX10_ring 4 = .ok (.ifCond .ne 6, 3) := by decide +kernel
theorem dX10_ring_7 : decode cX10_ring 7 = .ok (.bipush (-2), 2) := by decide +kernel
theorem dX10_ring_9 : decode cX10_ring 9 = .ok (.ireturn, 1) := by decide +kernel
theorem dX10_ring_10 : decode cX10_ring 10 = .ok (.aload_n 0, 1) := by decide +kernel
theorem dX10_ring_11 : decode cX10_ring 11 = .ok (.iload_n 1, 1) := by decide +kernel
theorem dX10_ring_12 : decode cX10_ring 12 = .ok (.invokevirtual 130, 3) := by decide +kernel
theorem dX10_ring_15 : decode cX10_ring 15 = .ok (.iconst 0, 1) := by decide +kernel
theorem dX10_ring_16 : decode cX10_ring 16 = .ok (.istore 4, 2) := by decide +kernel
theorem dX10_ring_18 : decode cX10_ring 18 = .ok (.iconst 0, 1) := by decide +kernel
theorem dX10_ring_19 : decode cX10_ring 19 = .ok (.istore 5, 2) := by decide +kernel
theorem dX10_ring_21 : decode cX10_ring 21 = .ok (.iload 5, 2) := by decide +kernel
theorem dX10_ring_23 : decode cX10_ring 23 = .ok (.aload_n 0, 1) := by decide +kernel
theorem dX10_ring_24 : decode cX10_ring 24 = .ok (.invokevirtual 105, 3) := by decide +kernel
theorem dX10_ring_27 : decode cX10_ring 27 = .ok (.if_icmp .gt 102, 3) := by decide +kernel
theorem dX10_ring_30 : decode cX10_ring 30 = .ok (.aload_n 0, 1) := by decide +kernel
theorem dX10_ring_31 : decode cX10_ring 31 = .ok (.getfield 29, 3) := by decide +kernel
theorem dX10_ring_34 : decode cX10_ring 34 = .ok (.iload 5, 2) := by decide +kernel
theorem dX10_ring_36 : decode cX10_ring 36 = .ok (.iaload, 1) := by decide +kernel
theorem dX10_ring_37 : decode cX10_ring 37 = .ok (.ifCond .le 66, 3) := by decide +kernel
theorem dX10_ring_40 : decode cX10_ring 40 = .ok (.iload 4, 2) := by decide +kernel
theorem dX10_ring_42 : decode cX10_ring 42 = .ok (.iload_n 2, 1) := by decide +kernel
theorem dX10_ring_43 : decode cX10_ring 43 = .ok (.if_icmp .ne 60, 3) := by decide +kernel
theorem dX10_ring_46 : decode cX10_ring 46 = .ok (.iload_n 3, 1) := by decide +kernel
theorem dX10_ring_47 : decode cX10_ring 47 = .ok (.ifCond .ne 8, 3) := by decide +kernel
theorem dX10_ring_50 : decode cX10_ring 50 = .ok (.iload 5, 2) := by decide +kernel
theorem dX10_ring_52 : decode cX10_ring 52 = .ok (.goto 50, 3) := by decide +kernel
theorem dX10_ring_55 : decode cX10_ring 55 = .ok (.iload_n 3, 1) := by decide +kernel
theorem dX10_ring_56 : decode cX10_ring 56 = .ok (.iconst 1, 1) := by decide +kernel
theorem dX10_ring_57 : decode cX10_ring 57 = .ok (.if_icmp .ne 13, 3) := by decide +kernel
theorem dX10_ring_60 : decode cX10_ring 60 = .ok (.aload_n 0, 1) := by decide +kernel
theorem dX10_ring_61 : decode cX10_ring 61 = .ok (.getfield 32, 3) := by decide +kernel
theorem dX10_ring_64 : decode cX10_ring 64 = .ok (.iload 5, 2) := by decide +kernel
theorem dX10_ring_66 : decode cX10_ring 66 = .ok (.iaload, 1) := by decide +kernel
theorem dX10_ring_67 : decode cX10_ring 67 = .ok (.goto 35, 3) := by decide +kernel
theorem dX10_ring_70 : decode cX10_ring 70 = .ok (.iload_n 3, 1) := by decide +kernel
theorem dX10_ring_71 : decode cX10_ring 71 = .ok (.iconst 2, 1) := by decide +kernel
theorem dX10_ring_72 : decode cX10_ring 72 = .ok (.if_icmp .ne 13, 3) := by decide +kernel
theorem dX10_ring_75 : decode cX10_ring 75 = .ok (.aload_n 0, 1) := by decide +kernel
theorem dX10_ring_76 : decode cX10_ring 76 = .ok (.getfield 29, 3) := by decide +kernel
theorem dX10_ring_79 : decode cX10_ring 79 = .ok (.iload 5, 2) := by decide +kernel
theorem dX10_ring_81 : decode cX10_ring 81 = .ok (.iaload, 1) := by decide +kernel
theorem dX10_ring_82 : decode cX10_ring 82 = .ok (.goto 20, 3) := by decide +kernel
theorem dX10_ring_85 : decode cX10_ring 85 = .ok (.iload_n 3, 1) := by decide +kernel
theorem dX10_ring_86 : decode cX10_ring 86 = .ok (.iconst 3, 1) := by decide +kernel
theorem dX10_ring_87 : decode cX10_ring 87 = .ok (.if_icmp .ne 13, 3) := by decide +kernel
theorem dX10_ring_90 : decode cX10_ring 90 = .ok (.aload_n 0, 1) := by decide +kernel
theorem dX10_ring_91 : decode cX10_ring 91 = .ok (.getfield 35, 3) := by decide +kernel
theorem dX10_ring_94 : decode cX10_ring 94 = .ok (.iload 5, 2) := by decide +kernel
theorem dX10_ring_96 : decode cX10_ring 96 = .ok (.iaload, 1) := by decide +kernel
theorem dX10_ring_97 : decode cX10_ring 97 = .ok (.goto 5, 3) := by decide +kernel
theorem dX10_ring_100 : decode cX10_ring 100 = .ok (.bipush (-2), 2) := by decide +kernel
theorem dX10_ring_102 : decode cX10_ring 102 = .ok (.ireturn, 1) := by decide +kernel
theorem dX10_ring_103 : decode cX10_ring 103 = .ok (.iload 4, 2) := by decide +kernel
theorem dX10_ring_105 : decode cX10_ring 105 = .ok (.aload_n 0, 1) := by decide +kernel
theorem dX10_ring_106 : decode cX10_ring 106 = .ok (.getfield 29, 3) := by decide +kernel
theorem dX10_ring_109 : decode cX10_ring 109 = .ok (.iload 5, 2) := by decide +kernel
theorem dX10_ring_111 : decode cX10_ring 111 = .ok (.iaload, 1) := by decide +kernel
theorem dX10_ring_112 : decode cX10_ring 112 = .ok (.ifCond .le 7, 3) := by decide +kernel
theorem dX10_ring_115 : decode cX10_ring 115 = .ok (.iconst 1, 1) := by decide +kernel
theorem dX10_ring_116 : decode cX10_ring 116 = .ok (.goto 4, 3) := by decide +kernel
theorem dX10_ring_119 : decode cX10_ring 119 = .ok (.iconst 0, 1) := by decide +kernel
theorem dX10_ring_120 : decode cX10_ring 120 = .ok (.iadd, 1) := by decide +kernel
theorem dX10_ring_121 : decode cX10_ring 121 = .ok (.istore 4, 2) := by decide +kernel
theorem dX10_ring_123 : decode cX10_ring 123 = .ok (.iinc 5 1, 3) := by decide +kernel
theorem dX10_ring_126 : decode cX10_ring 126 = .ok (.goto (-105), 3) := by decide +kernel
theorem dX10_ring_129 : decode cX10_ring 129 = .ok (.iconst (-1), 1) := by decide +kernel
theorem dX10_ring_130 : decode cX10_ring 130 = .ok (.ireturn, 1) := by decide +kernel
theorem dX10_longest_0 : decode cX10_longest 0 = .ok (.iload_n 1, 1) := by decide +kernel
theorem dX10_longest_1 : decode cX10_longest 1 = .ok (.invokestatic 97, 3) := by decide +kernel
theorem dX10_longest_4 : decode cX10_longest 4 = .ok (.ifCond .ne 6, 3) := by decide +kernel
theorem dX10_longest_7 : decode cX10_longest 7 = .ok (.bipush (-2), 2) := by decide +kernel
theorem dX10_longest_9 : decode cX10_longest 9 = .ok (.ireturn, 1) := by decide +kernel
theorem dX10_longest_10 : decode cX10_longest 10 = .ok (.aload_n 0, 1) := by decide +kernel
theorem dX10_longest_11 : decode cX10_longest 11 = .ok (.iload_n 1, 1) := by decide +kernel
theorem dX10_longest_12 : decode cX10_longest 12 = .ok (.invokevirtual 130, 3) := by decide +kernel
theorem dX10_longest_15 : decode cX10_longest 15 = .ok (.iconst 0, 1) := by decide +kernel
theorem dX10_longest_16 : decode cX10_longest 16 = .ok (.istore_n 2, 1) := by decide +kernel
theorem dX10_longest_17 : decode cX10_longest 17 = .ok (.iconst 0, 1) := by decide +kernel
theorem dX10_longest_18 : decode cX10_longest 18 = .ok (.istore_n 3, 1) := by decide +kernel
theorem dX10_longest_19 : decode cX10_longest 19 = .ok (.iload_n 3, 1) := by decide +kernel
theorem dX10_longest_20 : decode cX10_longest 20 = .ok (.aload_n 0, 1) := by decide +kernel
theorem dX10_longest_21 : decode cX10_longest 21 = .ok (.invokevirtual 105, 3) := by decide +kernel
theorem dX10_longest_24 : decode cX10_longest 24 = .ok (.if_icmp .gt 39, 3) := by decide +kernel
theorem dX10_longest_27 : decode cX10_longest 27 = .ok (.aload_n 0, 1) := by decide +kernel
theorem dX10_longest_28 : decode cX10_longest 28 = .ok (.getfield 29, 3) := by decide +kernel
theorem dX10_longest_31 : decode cX10_longest 31 = .ok (.iload_n 3, 1) := by decide +kernel
theorem dX10_longest_32 : decode cX10_longest 32 = .ok (.iaload, 1) := by decide +kernel
theorem dX10_longest_33 : decode cX10_longest 33 = .ok (.ifCond .le 22, 3) := by decide +kernel
theorem dX10_longest_36 : decode cX10_longest 36 = .ok (.aload_n 0, 1) := by decide +kernel
theorem dX10_longest_37 : decode cX10_longest 37 = .ok (.getfield 32, 3) := by decide +kernel
theorem dX10_longest_40 : decode cX10_longest 40 = .ok (.iload_n 3, 1) := by decide +kernel
theorem dX10_longest_41 : decode cX10_longest 41 = .ok (.iaload, 1) := by decide +kernel
theorem dX10_longest_42 : decode cX10_longest 42 = .ok (.iload_n 2, 1) := by decide +kernel
theorem dX10_longest_43 : decode cX10_longest 43 = .ok (.if_icmp .le 12, 3) := by decide +kernel
theorem dX10_longest_46 : decode cX10_longest 46 = .ok (.aload_n 0, 1) := by decide +kernel
theorem dX10_longest_47 : decode cX10_longest 47 = .ok (.getfield 32, 3) := by decide +kernel
theorem dX10_longest_50 : decode cX10_longest 50 = .ok (.iload_n 3, 1) := by decide +kernel
theorem dX10_longest_51 : decode cX10_longest 51 = .ok (.iaload, 1) := by decide +kernel
theorem dX10_longest_52 : decode cX10_longest 52 = .ok (.goto 4, 3) := by decide +kernel
theorem dX10_longest_55 : decode cX10_longest 55 = .ok (.iload_n 2, 1) := by decide +kernel
theorem dX10_longest_56 : decode cX10_longest 56 = .ok (.istore_n 2, 1) := by decide +kernel
theorem dX10_longest_57 : decode cX10_longest 57 = .ok (.iinc 3 1, 3) := by decide +kernel
theorem dX10_longest_60 : decode cX10_longest 60 = .ok (.goto (-41), 3) := by decide +kernel
theorem dX10_longest_63 : decode cX10_longest 63 = .ok (.iload_n 2, 1) := by decide +kernel
theorem dX10_longest_64 : decode cX10_longest 64 = .ok (.ireturn, 1) := by decide +kernel
theorem dX10_isRest_0 : decode cX10_isRest 0 = .ok (.aload_n 0, 1) := by decide +kernel
theorem dX10_isRest_1 : decode cX10_isRest 1 = .ok (.iload_n 1, 1) := by decide +kernel
theorem dX10_isRest_2 : decode cX10_isRest 2 = .ok (.invokevirtual 93, 3) := by decide +kernel
theorem dX10_isRest_5 : decode cX10_isRest 5 = .ok (.aload_n 0, 1) := by decide +kernel
theorem dX10_isRest_6 : decode cX10_isRest 6 = .ok (.invokevirtual 105, 3) := by decide +kernel
theorem dX10_isRest_9 : decode cX10_isRest 9 = .ok (.if_icmp .ne 7, 3) := by decide +kernel
theorem dX10_isRest_12 : decode cX10_isRest 12 = .ok (.iconst 1, 1) := by decide +kernel
theorem dX10_isRest_13 : decode cX10_isRest 13 = .ok (.goto 4, 3) := by decide +kernel
theorem dX10_isRest_16 : decode cX10_isRest 16 = .ok (.iconst 0, 1) := by decide +kernel
theorem dX10_isRest_17 : decode cX10_isRest 17 = .ok (.ireturn, 1) := by decide +kernel
theorem dX10_rests_0 : decode cX10_rests 0 = .ok (.iconst 0, 1) := by decide +kernel
theorem dX10_rests_1 : decode cX10_rests 1 = .ok (.istore_n 1, 1) := by decide +kernel
theorem dX10_rests_2 : decode cX10_rests 2 = .ok (.iconst 0, 1) := by decide +kernel
theorem dX10_rests_3 : decode cX10_rests 3 = .ok (.istore_n 2, 1) := by decide +kernel
theorem dX10_rests_4 : decode cX10_rests 4 = .ok (.iload_n 2, 1) := by decide +kernel
theorem dX10_rests_5 : decode cX10_rests 5 = .ok (.aload_n 0, 1) := by decide +kernel
theorem dX10_rests_6 : decode cX10_rests 6 = .ok (.invokevirtual 105, 3) := by decide +kernel
theorem dX10_rests_9 : decode cX10_rests 9 = .ok (.if_icmp .gt 25, 3) := by decide +kernel
theorem dX10_rests_12 : decode cX10_rests 12 = .ok (.iload_n 1, 1) := by decide +kernel
theorem dX10_rests_13 : decode cX10_rests 13 = .ok (.aload_n 0, 1) := by decide +kernel
theorem dX10_rests_14 : decode cX10_rests 14 = .ok (.iload_n 2, 1) := by decide +kernel
theorem dX10_rests_15 : decode cX10_rests 15 = .ok (.invokevirtual 133, 3) := by decide +kernel
theorem dX10_rests_18 : decode cX10_rests 18 = .ok (.ifCond .eq 7, 3) := by decide +kernel
theorem dX10_rests_21 : decode cX10_rests 21 = .ok (.iconst 1, 1) := by decide +kernel
theorem dX10_rests_22 : decode cX10_rests 22 = .ok (.goto 4, 3) := by decide +kernel
theorem dX10_rests_25 : decode cX10_rests 25 = .ok (.iconst 0, 1) := by decide +kernel
theorem dX10_rests_26 : decode cX10_rests 26 = .ok (.iadd, 1) := by decide +kernel
theorem dX10_rests_27 : decode cX10_rests 27 = .ok (.istore_n 1, 1) := by decide +kernel
theorem dX10_rests_28 : decode cX10_rests 28 = .ok (.iinc 2 1, 3) := by decide +kernel
theorem dX10_rests_31 : decode cX10_rests 31 = .ok (.goto (-27), 3) := by decide +kernel
theorem dX10_rests_34 : decode cX10_rests 34 = .ok (.iload_n 1, 1) := by decide +kernel
theorem dX10_rests_35 : decode cX10_rests 35 = .ok (.ireturn, 1) := by decide +kernel
theorem dX10_restOf_0 : decode cX10_restOf 0 = .ok (.iconst 0, 1) := by decide +kernel
theorem dX10_restOf_1 : decode cX10_restOf 1 = .ok (.istore_n 2, 1) := by decide +kernel
theorem dX10_restOf_2 : decode cX10_restOf 2 = .ok (.iconst 0, 1) := by decide +kernel
theorem dX10_restOf_3 : decode cX10_restOf 3 = .ok (.istore_n 3, 1) := by decide +kernel
theorem dX10_restOf_4 : decode cX10_restOf 4 = .ok (.iload_n 3, 1) := by decide +kernel
theorem dX10_restOf_5 : decode cX10_restOf 5 = .ok (.aload_n 0, 1) := by decide +kernel
theorem dX10_restOf_6 : decode cX10_restOf 6 = .ok (.invokevirtual 105, 3) := by decide +kernel
theorem dX10_restOf_9 : decode cX10_restOf 9 = .ok (.if_icmp .gt 31, 3) := by decide +kernel
theorem dX10_restOf_12 : decode cX10_restOf 12 = .ok (.iload_n 1, 1) := by decide +kernel
theorem dX10_restOf_13 : decode cX10_restOf 13 = .ok (.ifCond .lt 27, 3) := by decide +kernel
theorem dX10_restOf_16 : decode cX10_restOf 16 = .ok (.aload_n 0, 1) := by decide +kernel
theorem dX10_restOf_17 : decode cX10_restOf 17 = .ok (.iload_n 3, 1) := by decide +kernel
theorem dX10_restOf_18 : decode cX10_restOf 18 = .ok (.invokevirtual 133, 3) := by decide +kernel
theorem dX10_restOf_21 : decode cX10_restOf 21 = .ok (.ifCond .eq 13, 3) := by decide +kernel
theorem dX10_restOf_24 : decode cX10_restOf 24 = .ok (.iload_n 2, 1) := by decide +kernel
theorem dX10_restOf_25 : decode cX10_restOf 25 = .ok (.iload_n 1, 1) := by decide +kernel
theorem dX10_restOf_26 : decode cX10_restOf 26 = .ok (.if_icmp .ne 5, 3) := by decide +kernel
theorem dX10_restOf_29 : decode cX10_restOf 29 = .ok (.iload_n 3, 1) := by decide +kernel
theorem dX10_restOf_30 : decode cX10_restOf 30 = .ok (.ireturn, 1) := by decide +kernel
theorem dX10_restOf_31 : decode cX10_restOf 31 = .ok (.iinc 2 1, 3) := by decide +kernel
theorem dX10_restOf_34 : decode cX10_restOf 34 = .ok (.iinc 3 1, 3) := by decide +kernel
theorem dX10_restOf_37 : decode cX10_restOf 37 = .ok (.goto (-33), 3) := by decide +kernel
theorem dX10_restOf_40 : decode cX10_restOf 40 = .ok (.iconst (-1), 1) := by decide +kernel
theorem dX10_restOf_41 : decode cX10_restOf 41 = .ok (.ireturn, 1) := by decide +kernel
theorem dX10_rest_0 : decode cX10_rest 0 = .ok (.aload_n 0, 1) := by decide +kernel
theorem dX10_rest_1 : decode cX10_rest 1 = .ok (.iload_n 1, 1) := by decide +kernel
theorem dX10_rest_2 : decode cX10_rest 2 = .ok (.invokevirtual 136, 3) := by decide +kernel
theorem dX10_rest_5 : decode cX10_rest 5 = .ok (.ireturn, 1) := by decide +kernel
theorem dX10_isEven_0 : decode cX10_isEven 0 = .ok (.iconst 1, 1) := by decide +kernel
theorem dX10_isEven_1 : decode cX10_isEven 1 = .ok (.istore_n 1, 1) := by decide +kernel
theorem dX10_isEven_2 : decode cX10_isEven 2 = .ok (.iconst 0, 1) := by decide +kernel
theorem dX10_isEven_3 : decode cX10_isEven 3 = .ok (.istore_n 2, 1) := by decide +kernel
theorem dX10_isEven_4 : decode cX10_isEven 4 = .ok (.iload_n 2, 1) := by decide +kernel
theorem dX10_isEven_5 : decode cX10_isEven 5 = .ok (.aload_n 0, 1) := by decide +kernel
theorem dX10_isEven_6 : decode cX10_isEven 6 = .ok (.getfield 7, 3) := by decide +kernel
theorem dX10_isEven_9 : decode cX10_isEven 9 = .ok (.if_icmp .ge 139, 3) := by decide +kernel
theorem dX10_isEven_12 : decode cX10_isEven 12 = .ok (.iload_n 1, 1) := by decide +kernel
theorem dX10_isEven_13 : decode cX10_isEven 13 = .ok (.ifCond .eq 17, 3) := by decide +kernel
theorem dX10_isEven_16 : decode cX10_isEven 16 = .ok (.aload_n 0, 1) := by decide +kernel
theorem dX10_isEven_17 : decode cX10_isEven 17 = .ok (.getfield 17, 3) := by decide +kernel
theorem dX10_isEven_20 : decode cX10_isEven 20 = .ok (.iload_n 2, 1) := by decide +kernel
theorem dX10_isEven_21 : decode cX10_isEven 21 = .ok (.iaload, 1) := by decide +kernel
theorem dX10_isEven_22 : decode cX10_isEven 22 = .ok (.iconst 3, 1) := by decide +kernel
theorem dX10_isEven_23 : decode cX10_isEven 23 = .ok (.if_icmp .eq 7, 3) := by decide +kernel
theorem dX10_isEven_26 : decode cX10_isEven 26 = .ok (.iconst 1, 1) := by decide +kernel
theorem dX10_isEven_27 : decode cX10_isEven 27 = .ok (.goto 4, 3) := by decide +kernel
theorem dX10_isEven_30 : decode cX10_isEven 30 = .ok (.iconst 0, 1) := by decide +kernel
theorem dX10_isEven_31 : decode cX10_isEven 31 = .ok (.istore_n 1, 1) := by decide +kernel
theorem dX10_isEven_32 : decode cX10_isEven 32 = .ok (.iconst 0, 1) := by decide +kernel
theorem dX10_isEven_33 : decode cX10_isEven 33 = .ok (.istore_n 3, 1) := by decide +kernel
theorem dX10_isEven_34 : decode cX10_isEven 34 = .ok (.iload_n 3, 1) := by decide +kernel
theorem dX10_isEven_35 : decode cX10_isEven 35 = .ok (.aload_n 0, 1) := by decide +kernel
theorem dX10_isEven_36 : decode cX10_isEven 36 = .ok (.getfield 7, 3) := by decide +kernel
theorem dX10_isEven_39 : decode cX10_isEven 39 = .ok (.if_icmp .ge 103, 3) := by decide +kernel
theorem dX10_isEven_42 : decode cX10_isEven 42 = .ok (.aload_n 0, 1) := by decide +kernel
theorem dX10_isEven_43 : decode cX10_isEven 43 = .ok (.getfield 17, 3) := by decide +kernel
theorem dX10_isEven_46 : decode cX10_isEven 46 = .ok (.iload_n 2, 1) := by decide +kernel
theorem dX10_isEven_47 : decode cX10_isEven 47 = .ok (.iaload, 1) := by decide +kernel
theorem dX10_isEven_48 : decode cX10_isEven 48 = .ok (.ifCond .ne 45, 3) := by decide +kernel
theorem dX10_isEven_51 : decode cX10_isEven 51 = .ok (.aload_n 0, 1) := by decide +kernel
theorem dX10_isEven_52 : decode cX10_isEven 52 = .ok (.getfield 17, 3) := by decide +kernel
theorem dX10_isEven_55 : decode cX10_isEven 55 = .ok (.iload_n 3, 1) := by decide +kernel
theorem dX10_isEven_56 : decode cX10_isEven 56 = .ok (.iaload, 1) := by decide +kernel
theorem dX10_isEven_57 : decode cX10_isEven 57 = .ok (.iconst 1, 1) := by decide +kernel
theorem dX10_isEven_58 : decode cX10_isEven 58 = .ok (.if_icmp .ne 35, 3) := by decide +kernel
theorem dX10_isEven_61 : decode cX10_isEven 61 = .ok (.aload_n 0, 1) := by decide +kernel
theorem dX10_isEven_62 : decode cX10_isEven 62 = .ok (.getfield 13, 3) := by decide +kernel
theorem dX10_isEven_65 : decode cX10_isEven 65 = .ok (.bipush 10, 2) := by decide +kernel
theorem dX10_isEven_67 : decode cX10_isEven 67 = .ok (.iload_n 2, 1) := by decide +kernel
theorem dX10_isEven_68 : decode cX10_isEven 68 = .ok (.imul, 1) := by decide +kernel
theorem dX10_isEven_69 : decode cX10_isEven 69 = .ok (.iload_n 3, 1) := by decide +kernel
theorem dX10_isEven_70 : decode cX10_isEven 70 = .ok (.iadd, 1) := by decide +kernel
theorem dX10_isEven_71 : decode cX10_isEven 71 = .ok (.iaload, 1) := by decide +kernel
theorem dX10_isEven_72 : decode cX10_isEven 72 = .ok (.ifCond .gt 17, 3) := by decide +kernel
theorem dX10_isEven_75 : decode cX10_isEven 75 = .ok (.aload_n 0, 1) := by decide +kernel
theorem dX10_isEven_76 : decode cX10_isEven 76 = .ok (.getfield 13, 3) := by decide +kernel
theorem dX10_isEven_79 : decode cX10_isEven 79 = .ok (.bipush 10, 2) := by decide +kernel
theorem dX10_isEven_81 : decode cX10_isEven 81 = .ok (.iload_n 3, 1) := by decide +kernel
theorem dX10_isEven_82 : decode cX10_isEven 82 = .ok (.imul, 1) := by decide +kernel
theorem dX10_isEven_83 : decode cX10_isEven 83 = .ok (.iload_n 2, 1) := by decide +kernel
theorem dX10_isEven_84 : decode cX10_isEven 84 = .ok (.iadd, 1) := by decide +kernel
theorem dX10_isEven_85 : decode cX10_isEven 85 = .ok (.iaload, 1) := by decide +kernel
theorem dX10_isEven_86 : decode cX10_isEven 86 = .ok (.ifCond .le 7, 3) := by decide +kernel
theorem dX10_isEven_89 : decode cX10_isEven 89 = .ok (.iconst 1, 1) := by decide +kernel
theorem dX10_isEven_90 : decode cX10_isEven 90 = .ok (.goto 4, 3) := by decide +kernel
theorem dX10_isEven_93 : decode cX10_isEven 93 = .ok (.iconst 0, 1) := by decide +kernel
theorem dX10_isEven_94 : decode cX10_isEven 94 = .ok (.istore 4, 2) := by decide +kernel
theorem dX10_isEven_96 : decode cX10_isEven 96 = .ok (.iload_n 1, 1) := by decide +kernel
theorem dX10_isEven_97 : decode cX10_isEven 97 = .ok (.ifCond .eq 37, 3) := by decide +kernel
theorem dX10_isEven_100 : decode cX10_isEven 100 = .ok (.aload_n 0, 1) := by decide +kernel
theorem dX10_isEven_101 : decode cX10_isEven 101 = .ok (.getfield 13, 3) := by decide +kernel
theorem dX10_isEven_104 : decode cX10_isEven 104 = .ok (.bipush 10, 2) := by decide +kernel
theorem dX10_isEven_106 : decode cX10_isEven 106 = .ok (.iload_n 2, 1) := by decide +kernel
theorem dX10_isEven_107 : decode cX10_isEven 107 = .ok (.imul, 1) := by decide +kernel
theorem dX10_isEven_108 : decode cX10_isEven 108 = .ok (.iload_n 3, 1) := by decide +kernel
theorem dX10_isEven_109 : decode cX10_isEven 109 = .ok (.iadd, 1) := by decide +kernel
theorem dX10_isEven_110 : decode cX10_isEven 110 = .ok (.iaload, 1) := by decide +kernel
theorem dX10_isEven_111 : decode cX10_isEven 111 = .ok (.aload_n 0, 1) := by decide +kernel
theorem dX10_isEven_112 : decode cX10_isEven 112 = .ok (.getfield 13, 3) := by decide +kernel
theorem dX10_isEven_115 : decode cX10_isEven 115 = .ok (.bipush 10, 2) := by decide +kernel
theorem dX10_isEven_117 : decode cX10_isEven 117 = .ok (.iload_n 3, 1) := by decide +kernel
theorem dX10_isEven_118 : decode cX10_isEven 118 = .ok (.imul, 1) := by decide +kernel
theorem dX10_isEven_119 : decode cX10_isEven 119 = .ok (.iload_n 2, 1) := by decide +kernel
theorem dX10_isEven_120 : decode cX10_isEven 120 = .ok (.iadd, 1) := by decide +kernel
theorem dX10_isEven_121 : decode cX10_isEven 121 = .ok (.iaload, 1) := by decide +kernel
theorem dX10_isEven_122 : decode cX10_isEven 122 = .ok (.if_icmp .ne 12, 3) := by decide +kernel
theorem dX10_isEven_125 : decode cX10_isEven 125 = .ok (.iload 4, 2) := by decide +kernel
theorem dX10_isEven_127 : decode cX10_isEven 127 = .ok (.ifCond .ne 7, 3) := by decide +kernel
theorem dX10_isEven_130 : decode cX10_isEven 130 = .ok (.iconst 1, 1) := by decide +kernel
theorem dX10_isEven_131 : decode cX10_isEven 131 = .ok (.goto 4, 3) := by decide +kernel
theorem dX10_isEven_134 : decode cX10_isEven 134 = .ok (.iconst 0, 1) := by decide +kernel
theorem dX10_isEven_135 : decode cX10_isEven 135 = .ok (.istore_n 1, 1) := by decide +kernel
theorem dX10_isEven_136 : decode cX10_isEven 136 = .ok (.iinc 3 1, 3) := by decide +kernel
theorem dX10_isEven_139 : decode cX10_isEven 139 = .ok (.goto (-105), 3) := by decide +kernel
theorem dX10_isEven_142 : decode cX10_isEven 142 = .ok (.iinc 2 1, 3) := by decide +kernel
theorem dX10_isEven_145 : decode cX10_isEven 145 = .ok (.goto (-141), 3) := by decide +kernel
theorem dX10_isEven_148 : decode cX10_isEven 148 = .ok (.iload_n 1, 1) := by decide +kernel
theorem dX10_isEven_149 : decode cX10_isEven 149 = .ok (.ireturn, 1) := by decide +kernel
theorem dX10_even_0 : decode cX10_even 0 = .ok (.aload_n 0, 1) := by decide +kernel
theorem dX10_even_1 : decode cX10_even 1 = .ok (.invokevirtual 139, 3) := by decide +kernel
theorem dX10_even_4 : decode cX10_even 4 = .ok (.ifCond .eq 7, 3) := by decide +kernel
theorem dX10_even_7 : decode cX10_even 7 = .ok (.iconst 1, 1) := by decide +kernel
theorem dX10_even_8 : decode cX10_even 8 = .ok (.goto 4, 3) := by decide +kernel
theorem dX10_even_11 : decode cX10_even 11 = .ok (.iconst 0, 1) := by decide +kernel
theorem dX10_even_12 : decode cX10_even 12 = .ok (.ireturn, 1) := by decide +kernel
theorem dX10_heat_0 : decode cX10_heat 0 = .ok (.aload_n 0, 1) := by decide +kernel
theorem dX10_heat_1 : decode cX10_heat 1 = .ok (.iload_n 1, 1) := by decide +kernel
theorem dX10_heat_2 : decode cX10_heat 2 = .ok (.invokevirtual 90, 3) := by decide +kernel
theorem dX10_heat_5 : decode cX10_heat 5 = .ok (.ifCond .ne 6, 3) := by decide +kernel
theorem dX10_heat_8 : decode cX10_heat 8 = .ok (.bipush (-2), 2) := by decide +kernel
theorem dX10_heat_10 : decode cX10_heat 10 = .ok (.ireturn, 1) := by decide +kernel
theorem dX10_heat_11 : decode cX10_heat 11 = .ok (.aload_n 0, 1) := by decide +kernel
theorem dX10_heat_12 : decode cX10_heat 12 = .ok (.invokevirtual 139, 3) := by decide +kernel
theorem dX10_heat_15 : decode cX10_heat 15 = .ok (.ifCond .ne 6, 3) := by decide +kernel
theorem dX10_heat_18 : decode cX10_heat 18 = .ok (.bipush (-3), 2) := by decide +kernel
theorem dX10_heat_20 : decode cX10_heat 20 = .ok (.ireturn, 1) := by decide +kernel
theorem dX10_heat_21 : decode cX10_heat 21 = .ok (.sipush 10000, 3) := by decide +kernel
theorem dX10_heat_24 : decode cX10_heat 24 = .ok (.istore_n 2, 1) := by decide +kernel
theorem dX10_heat_25 : decode cX10_heat 25 = .ok (.iconst 0, 1) := by decide +kernel
theorem dX10_heat_26 : decode cX10_heat 26 = .ok (.istore_n 3, 1) := by decide +kernel
theorem dX10_heat_27 : decode cX10_heat 27 = .ok (.iload_n 3, 1) := by decide +kernel
theorem dX10_heat_28 : decode cX10_heat 28 = .ok (.aload_n 0, 1) := by decide +kernel
theorem dX10_heat_29 : decode cX10_heat 29 = .ok (.getfield 7, 3) := by decide +kernel
theorem dX10_heat_32 : decode cX10_heat 32 = .ok (.if_icmp .ge 199, 3) := by decide +kernel
theorem dX10_heat_35 : decode cX10_heat 35 = .ok (.iload_n 1, 1) := by decide +kernel
theorem dX10_heat_36 : decode cX10_heat 36 = .ok (.iload_n 3, 1) := by decide +kernel
theorem dX10_heat_37 : decode cX10_heat 37 = .ok (.ishr, 1) := by decide +kernel
theorem dX10_heat_38 : decode cX10_heat 38 = .ok (.iconst 1, 1) := by decide +kernel
theorem dX10_heat_39 : decode cX10_heat 39 = .ok (.iand, 1) := by decide +kernel
theorem dX10_heat_40 : decode cX10_heat 40 = .ok (.istore 4, 2) := by decide +kernel
theorem dX10_heat_42 : decode cX10_heat 42 = .ok (.iload 4, 2) := by decide +kernel
theorem dX10_heat_44 : decode cX10_heat 44 = .ok (.iconst 1, 1) := by decide +kernel
theorem dX10_heat_45 : decode cX10_heat 45 = .ok (.if_icmp .ne 12, 3) := by decide +kernel
theorem dX10_heat_48 : decode cX10_heat 48 = .ok (.aload_n 0, 1) := by decide +kernel
theorem dX10_heat_49 : decode cX10_heat 49 = .ok (.getfield 20, 3) := by decide +kernel
theorem dX10_heat_52 : decode cX10_heat 52 = .ok (.iload_n 3, 1) := by decide +kernel
theorem dX10_heat_53 : decode cX10_heat 53 = .ok (.iaload, 1) := by decide +kernel
theorem dX10_heat_54 : decode cX10_heat 54 = .ok (.goto 10, 3) := by decide +kernel
theorem dX10_heat_57 : decode cX10_heat 57 = .ok (.aload_n 0, 1) := by decide +kernel
theorem dX10_heat_58 : decode cX10_heat 58 = .ok (.getfield 20, 3) := by decide +kernel
theorem dX10_heat_61 : decode cX10_heat 61 = .ok (.iload_n 3, 1) := by decide +kernel
theorem dX10_heat_62 : decode cX10_heat 62 = .ok (.iaload, 1) := by decide +kernel
theorem dX10_heat_63 : decode cX10_heat 63 = .ok (.ineg, 1) := by decide +kernel
theorem dX10_heat_64 : decode cX10_heat 64 = .ok (.istore 5, 2) := by decide +kernel
theorem dX10_heat_66 : decode cX10_heat 66 = .ok (.iload_n 2, 1) := by decide +kernel
theorem dX10_heat_67 : decode cX10_heat 67 = .ok (.aload_n 0, 1) := by decide +kernel
theorem dX10_heat_68 : decode cX10_heat 68 = .ok (.getfield 17, 3) := by decide +kernel
theorem dX10_heat_71 : decode cX10_heat 71 = .ok (.iload_n 3, 1) := by decide +kernel
theorem dX10_heat_72 : decode cX10_heat 72 = .ok (.iaload, 1) := by decide +kernel
theorem dX10_heat_73 : decode cX10_heat 73 = .ok (.ifCond .ne 8, 3) := by decide +kernel
theorem dX10_heat_76 : decode cX10_heat 76 = .ok (.iload 5, 2) := by decide +kernel
theorem dX10_heat_78 : decode cX10_heat 78 = .ok (.goto 20, 3) := by decide +kernel
theorem dX10_heat_81 : decode cX10_heat 81 = .ok (.aload_n 0, 1) := by decide +kernel
theorem dX10_heat_82 : decode cX10_heat 82 = .ok (.getfield 17, 3) := by decide +kernel
theorem dX10_heat_85 : decode cX10_heat 85 = .ok (.iload_n 3, 1) := by decide +kernel
theorem dX10_heat_86 : decode cX10_heat 86 = .ok (.iaload, 1) := by decide +kernel
theorem dX10_heat_87 : decode cX10_heat 87 = .ok (.iconst 1, 1) := by decide +kernel
theorem dX10_heat_88 : decode cX10_heat 88 = .ok (.if_icmp .ne 9, 3) := by decide +kernel
theorem dX10_heat_91 : decode cX10_heat 91 = .ok (.iload 5, 2) := by decide +kernel
theorem dX10_heat_93 : decode cX10_heat 93 = .ok (.ineg, 1) := by decide +kernel
theorem dX10_heat_94 : decode cX10_heat 94 = .ok (.goto 4, 3) := by decide +kernel
theorem dX10_heat_97 : decode cX10_heat 97 = .ok (.iconst 0, 1) := by decide +kernel
theorem dX10_heat_98 : decode cX10_heat 98 = .ok (.iadd, 1) := by decide +kernel
theorem dX10_heat_99 : decode cX10_heat 99 = .ok (.istore_n 2, 1) := by decide +kernel
theorem dX10_heat_100 : decode cX10_heat 100 = .ok (.iconst 0, 1) := by decide +kernel
theorem dX10_heat_101 : decode cX10_heat 101 = .ok (.istore 6, 2) := by decide +kernel
theorem dX10_heat_103 : decode cX10_heat 103 = .ok (.iload 6, 2) := by decide +kernel
theorem dX10_heat_105 : decode cX10_heat 105 = .ok (.iload_n 3, 1) := by decide +kernel
theorem dX10_heat_106 : decode cX10_heat 106 = .ok (.if_icmp .ge 119, 3) := by decide +kernel
theorem dX10_heat_109 : decode cX10_heat 109 = .ok (.iload_n 1, 1) := by decide +kernel
theorem dX10_heat_110 : decode cX10_heat 110 = .ok (.iload 6, 2) := by decide +kernel
theorem dX10_heat_112 : decode cX10_heat 112 = .ok (.ishr, 1) := by decide +kernel
theorem dX10_heat_113 : decode cX10_heat 113 = .ok (.iconst 1, 1) := by decide +kernel
theorem dX10_heat_114 : decode cX10_heat 114 = .ok (.iand, 1) := by decide +kernel
theorem dX10_heat_115 : decode cX10_heat 115 = .ok (.iload 4, 2) := by decide +kernel
theorem dX10_heat_117 : decode cX10_heat 117 = .ok (.if_icmp .ne 18, 3) := by decide +kernel
theorem dX10_heat_120 : decode cX10_heat 120 = .ok (.aload_n 0, 1) := by decide +kernel
theorem dX10_heat_121 : decode cX10_heat 121 = .ok (.getfield 13, 3) := by decide +kernel
theorem dX10_heat_124 : decode cX10_heat 124 = .ok (.bipush 10, 2) := by decide +kernel
theorem dX10_heat_126 : decode cX10_heat 126 = .ok (.iload_n 3, 1) := by decide +kernel
theorem dX10_heat_127 : decode cX10_heat 127 = .ok (.imul, 1) := by decide +kernel
theorem dX10_heat_128 : decode cX10_heat 128 = .ok (.iload 6, 2) := by decide +kernel
theorem dX10_heat_130 : decode cX10_heat 130 = .ok (.iadd, 1) := by decide +kernel
theorem dX10_heat_131 : decode cX10_heat 131 = .ok (.iaload, 1) := by decide +kernel
theorem dX10_heat_132 : decode cX10_heat 132 = .ok (.goto 16, 3) := by decide +kernel
theorem dX10_heat_135 : decode cX10_heat 135 = .ok (.aload_n 0, 1) := by decide +kernel
theorem dX10_heat_136 : decode cX10_heat 136 = .ok (.getfield 13, 3) := by decide +kernel
theorem dX10_heat_139 : decode cX10_heat 139 = .ok (.bipush 10, 2) := by decide +kernel
theorem dX10_heat_141 : decode cX10_heat 141 = .ok (.iload_n 3, 1) := by decide +kernel
theorem dX10_heat_142 : decode cX10_heat 142 = .ok (.imul, 1) := by decide +kernel
theorem dX10_heat_143 : decode cX10_heat 143 = .ok (.iload 6, 2) := by decide +kernel
theorem dX10_heat_145 : decode cX10_heat 145 = .ok (.iadd, 1) := by decide +kernel
theorem dX10_heat_146 : decode cX10_heat 146 = .ok (.iaload, 1) := by decide +kernel
theorem dX10_heat_147 : decode cX10_heat 147 = .ok (.ineg, 1) := by decide +kernel
theorem dX10_heat_148 : decode cX10_heat 148 = .ok (.istore 7, 2) := by decide +kernel
theorem dX10_heat_150 : decode cX10_heat 150 = .ok (.aload_n 0, 1) := by decide +kernel
theorem dX10_heat_151 : decode cX10_heat 151 = .ok (.getfield 17, 3) := by decide +kernel
theorem dX10_heat_154 : decode cX10_heat 154 = .ok (.iload_n 3, 1) := by decide +kernel
theorem dX10_heat_155 : decode cX10_heat 155 = .ok (.iaload, 1) := by decide +kernel
theorem dX10_heat_156 : decode cX10_heat 156 = .ok (.iconst 1, 1) := by decide +kernel
theorem dX10_heat_157 : decode cX10_heat 157 = .ok (.if_icmp .eq 14, 3) := by decide +kernel
theorem dX10_heat_160 : decode cX10_heat 160 = .ok (.aload_n 0, 1) := by decide +kernel
theorem dX10_heat_161 : decode cX10_heat 161 = .ok (.getfield 17, 3) := by decide +kernel
theorem dX10_heat_164 : decode cX10_heat 164 = .ok (.iload 6, 2) := by decide +kernel
theorem dX10_heat_166 : decode cX10_heat 166 = .ok (.iaload, 1) := by decide +kernel
theorem dX10_heat_167 : decode cX10_heat 167 = .ok (.iconst 1, 1) := by decide +kernel
theorem dX10_heat_168 : decode cX10_heat 168 = .ok (.if_icmp .ne 7, 3) := by decide +kernel
theorem dX10_heat_171 : decode cX10_heat 171 = .ok (.iconst 1, 1) := by decide +kernel
theorem dX10_heat_172 : decode cX10_heat 172 = .ok (.goto 4, 3) := by decide +kernel
theorem dX10_heat_175 : decode cX10_heat 175 = .ok (.iconst 0, 1) := by decide +kernel
theorem dX10_heat_176 : decode cX10_heat 176 = .ok (.istore 8, 2) := by decide +kernel
theorem dX10_heat_178 : decode cX10_heat 178 = .ok (.iload_n 2, 1) := by decide +kernel
theorem dX10_heat_179 : decode cX10_heat 179 = .ok (.aload_n 0, 1) := by decide +kernel
theorem dX10_heat_180 : decode cX10_heat 180 = .ok (.getfield 17, 3) := by decide +kernel
theorem dX10_heat_183 : decode cX10_heat 183 = .ok (.iload_n 3, 1) := by decide +kernel
theorem dX10_heat_184 : decode cX10_heat 184 = .ok (.iaload, 1) := by decide +kernel
theorem dX10_heat_185 : decode cX10_heat 185 = .ok (.iconst 2, 1) := by decide +kernel
theorem dX10_heat_186 : decode cX10_heat 186 = .ok (.if_icmp .ne 18, 3) := by decide +kernel
theorem dX10_heat_189 : decode cX10_heat 189 = .ok (.aload_n 0, 1) := by decide +kernel
theorem dX10_heat_190 : decode cX10_heat 190 = .ok (.getfield 17, 3) := by decide +kernel
theorem dX10_heat_193 : decode cX10_heat 193 = .ok (.iload 6, 2) := by decide +kernel
theorem dX10_heat_195 : decode cX10_heat 195 = .ok (.iaload, 1) := by decide +kernel
theorem dX10_heat_196 : decode cX10_heat 196 = .ok (.iconst 2, 1) := by decide +kernel
theorem dX10_heat_197 : decode cX10_heat 197 = .ok (.if_icmp .ne 7, 3) := by decide +kernel
theorem dX10_heat_200 : decode cX10_heat 200 = .ok (.iconst 0, 1) := by decide +kernel
theorem dX10_heat_201 : decode cX10_heat 201 = .ok (.goto 16, 3) := by decide +kernel
theorem dX10_heat_204 : decode cX10_heat 204 = .ok (.iload 8, 2) := by decide +kernel
theorem dX10_heat_206 : decode cX10_heat 206 = .ok (.ifCond .eq 9, 3) := by decide +kernel
theorem dX10_heat_209 : decode cX10_heat 209 = .ok (.iload 7, 2) := by decide +kernel
theorem dX10_heat_211 : decode cX10_heat 211 = .ok (.ineg, 1) := by decide +kernel
theorem dX10_heat_212 : decode cX10_heat 212 = .ok (.goto 5, 3) := by decide +kernel
theorem dX10_heat_215 : decode cX10_heat 215 = .ok (.iload 7, 2) := by decide +kernel
theorem dX10_heat_217 : decode cX10_heat 217 = .ok (.iadd, 1) := by decide +kernel
theorem dX10_heat_218 : decode cX10_heat 218 = .ok (.istore_n 2, 1) := by decide +kernel
theorem dX10_heat_219 : decode cX10_heat 219 = .ok (.iinc 6 1, 3) := by decide +kernel
theorem dX10_heat_222 : decode cX10_heat 222 = .ok (.goto (-119), 3) := by decide +kernel
theorem dX10_heat_225 : decode cX10_heat 225 = .ok (.iinc 3 1, 3) := by decide +kernel
theorem dX10_heat_228 : decode cX10_heat 228 = .ok (.goto (-201), 3) := by decide +kernel
theorem dX10_heat_231 : decode cX10_heat 231 = .ok (.iload_n 2, 1) := by decide +kernel
theorem dX10_heat_232 : decode cX10_heat 232 = .ok (.ireturn, 1) := by decide +kernel
theorem dX10_loneOf_0 : decode cX10_loneOf 0 = .ok (.iload_n 2, 1) := by decide +kernel
theorem dX10_loneOf_1 : decode cX10_loneOf 1 = .ok (.iconst 1, 1) := by decide +kernel
theorem dX10_loneOf_2 : decode cX10_loneOf 2 = .ok (.iload_n 1, 1) := by decide +kernel
theorem dX10_loneOf_3 : decode cX10_loneOf 3 = .ok (.ishl, 1) := by decide +kernel
theorem dX10_loneOf_4 : decode cX10_loneOf 4 = .ok (.ixor, 1) := by decide +kernel
theorem dX10_loneOf_5 : decode cX10_loneOf 5 = .ok (.ireturn, 1) := by decide +kernel
theorem dX10_lone_0 : decode cX10_lone 0 = .ok (.aload_n 0, 1) := by decide +kernel
theorem dX10_lone_1 : decode cX10_lone 1 = .ok (.iload_n 1, 1) := by decide +kernel
theorem dX10_lone_2 : decode cX10_lone 2 = .ok (.invokevirtual 69, 3) := by decide +kernel
theorem dX10_lone_5 : decode cX10_lone 5 = .ok (.ifCond .ne 5, 3) := by decide +kernel
theorem dX10_lone_8 : decode cX10_lone 8 = .ok (.iconst (-1), 1) := by decide +kernel
theorem dX10_lone_9 : decode cX10_lone 9 = .ok (.ireturn, 1) := by decide +kernel
theorem dX10_lone_10 : decode cX10_lone 10 = .ok (.aload_n 0, 1) := by decide +kernel
theorem dX10_lone_11 : decode cX10_lone 11 = .ok (.iload_n 2, 1) := by decide +kernel
theorem dX10_lone_12 : decode cX10_lone 12 = .ok (.invokevirtual 90, 3) := by decide +kernel
theorem dX10_lone_15 : decode cX10_lone 15 = .ok (.ifCond .ne 6, 3) := by decide +kernel
theorem dX10_lone_18 : decode cX10_lone 18 = .ok (.bipush (-2), 2) := by decide +kernel
theorem dX10_lone_20 : decode cX10_lone 20 = .ok (.ireturn, 1) := by decide +kernel
theorem dX10_lone_21 : decode cX10_lone 21 = .ok (.aload_n 0, 1) := by decide +kernel
theorem dX10_lone_22 : decode cX10_lone 22 = .ok (.iload_n 2, 1) := by decide +kernel
theorem dX10_lone_23 : decode cX10_lone 23 = .ok (.invokevirtual 93, 3) := by decide +kernel
theorem dX10_lone_26 : decode cX10_lone 26 = .ok (.iload_n 1, 1) := by decide +kernel
theorem dX10_lone_27 : decode cX10_lone 27 = .ok (.ishr, 1) := by decide +kernel
theorem dX10_lone_28 : decode cX10_lone 28 = .ok (.iconst 1, 1) := by decide +kernel
theorem dX10_lone_29 : decode cX10_lone 29 = .ok (.iand, 1) := by decide +kernel
theorem dX10_lone_30 : decode cX10_lone 30 = .ok (.iconst 1, 1) := by decide +kernel
theorem dX10_lone_31 : decode cX10_lone 31 = .ok (.if_icmp .ne 8, 3) := by decide +kernel
theorem dX10_lone_34 : decode cX10_lone 34 = .ok (.bipush (-3), 2) := by decide +kernel
theorem dX10_lone_36 : decode cX10_lone 36 = .ok (.goto 9, 3) := by decide +kernel
theorem dX10_lone_39 : decode cX10_lone 39 = .ok (.aload_n 0, 1) := by decide +kernel
theorem dX10_lone_40 : decode cX10_lone 40 = .ok (.iload_n 1, 1) := by decide +kernel
theorem dX10_lone_41 : decode cX10_lone 41 = .ok (.iload_n 2, 1) := by decide +kernel
theorem dX10_lone_42 : decode cX10_lone 42 = .ok (.invokevirtual 143, 3) := by decide +kernel
theorem dX10_lone_45 : decode cX10_lone 45 = .ok (.ireturn, 1) := by decide +kernel
theorem dX10_layCalms_0 : decode cX10_layCalms 0 = .ok (.iconst 0, 1) := by decide +kernel
theorem dX10_layCalms_1 : decode cX10_layCalms 1 = .ok (.istore_n 1, 1) := by decide +kernel
theorem dX10_layCalms_2 : decode cX10_layCalms 2 = .ok (.iload_n 1, 1) := by decide +kernel
theorem dX10_layCalms_3 : decode cX10_layCalms 3 = .ok (.aload_n 0, 1) := by decide +kernel
theorem dX10_layCalms_4 : decode cX10_layCalms 4 = .ok (.invokevirtual 105, 3) := by decide +kernel
theorem dX10_layCalms_7 : decode cX10_layCalms 7 = .ok (.if_icmp .gt 20, 3) := by decide +kernel
theorem dX10_layCalms_10 : decode cX10_layCalms 10 = .ok (.aload_n 0, 1) := by decide +kernel
theorem dX10_layCalms_11 : decode cX10_layCalms 11 = .ok (.getfield 44, 3) := by decide +kernel
theorem dX10_layCalms_14 : decode cX10_layCalms 14 = .ok (.iload_n 1, 1) := by decide +kernel
theorem dX10_layCalms_15 : decode cX10_layCalms 15 = .ok (.aload_n 0, 1) := by decide +kernel
theorem dX10_layCalms_16 : decode cX10_layCalms 16 = .ok (.iload_n 1, 1) := by decide +kernel
theorem dX10_layCalms_17 : decode cX10_layCalms 17 = .ok (.invokevirtual 93, 3) := by decide +kernel
theorem dX10_layCalms_20 : decode cX10_layCalms 20 = .ok (.iastore, 1) := by decide +kernel
theorem dX10_layCalms_21 : decode cX10_layCalms 21 = .ok (.iinc 1 1, 3) := by decide +kernel
theorem dX10_layCalms_24 : decode cX10_layCalms 24 = .ok (.goto (-22), 3) := by decide +kernel
theorem dX10_layCalms_27 : decode cX10_layCalms 27 = .ok (.return_, 1) := by decide +kernel
theorem dX10_layFar_0 : decode cX10_layFar 0 = .ok (.iconst 0, 1) := by decide +kernel
theorem dX10_layFar_1 : decode cX10_layFar 1 = .ok (.istore_n 2, 1) := by decide +kernel
theorem dX10_layFar_2 : decode cX10_layFar 2 = .ok (.iload_n 2, 1) := by decide +kernel
theorem dX10_layFar_3 : decode cX10_layFar 3 = .ok (.aload_n 0, 1) := by decide +kernel
theorem dX10_layFar_4 : decode cX10_layFar 4 = .ok (.invokevirtual 105, 3) := by decide +kernel
theorem dX10_layFar_7 : decode cX10_layFar 7 = .ok (.if_icmp .gt 17, 3) := by decide +kernel
theorem dX10_layFar_10 : decode cX10_layFar 10 = .ok (.aload_n 0, 1) := by decide +kernel
theorem dX10_layFar_11 : decode cX10_layFar 11 = .ok (.getfield 38, 3) := by decide +kernel
theorem dX10_layFar_14 : decode cX10_layFar 14 = .ok (.iload_n 2, 1) := by decide +kernel
theorem dX10_layFar_15 : decode cX10_layFar 15 = .ok (.bipush (-9), 2) := by decide +kernel
theorem dX10_layFar_17 : decode cX10_layFar 17 = .ok (.iastore, 1) := by decide +kernel
theorem dX10_layFar_18 : decode cX10_layFar 18 = .ok (.iinc 2 1, 3) := by decide +kernel
theorem dX10_layFar_21 : decode cX10_layFar 21 = .ok (.goto (-19), 3) := by decide +kernel
theorem dX10_layFar_24 : decode cX10_layFar 24 = .ok (.aload_n 0, 1) := by decide +kernel
theorem dX10_layFar_25 : decode cX10_layFar 25 = .ok (.getfield 38, 3) := by decide +kernel
theorem dX10_layFar_28 : decode cX10_layFar 28 = .ok (.iload_n 1, 1) := by decide +kernel
theorem dX10_layFar_29 : decode cX10_layFar 29 = .ok (.iconst 0, 1) := by decide +kernel
theorem dX10_layFar_30 : decode cX10_layFar 30 = .ok (.iastore, 1) := by decide +kernel
theorem dX10_layFar_31 : decode cX10_layFar 31 = .ok (.aload_n 0, 1) := by decide +kernel
theorem dX10_layFar_32 : decode cX10_layFar 32 = .ok (.getfield 41, 3) := by decide +kernel
theorem dX10_layFar_35 : decode cX10_layFar 35 = .ok (.iconst 0, 1) := by decide +kernel
theorem dX10_layFar_36 : decode cX10_layFar 36 = .ok (.iload_n 1, 1) := by decide +kernel
theorem dX10_layFar_37 : decode cX10_layFar 37 = .ok (.iastore, 1) := by decide +kernel
theorem dX10_layFar_38 : decode cX10_layFar 38 = .ok (.aload_n 0, 1) := by decide +kernel
theorem dX10_layFar_39 : decode cX10_layFar 39 = .ok (.iconst 1, 1) := by decide +kernel
theorem dX10_layFar_40 : decode cX10_layFar 40 = .ok (.putfield 146, 3) := by decide +kernel
theorem dX10_layFar_43 : decode cX10_layFar 43 = .ok (.iconst 0, 1) := by decide +kernel
theorem dX10_layFar_44 : decode cX10_layFar 44 = .ok (.istore_n 2, 1) := by decide +kernel
theorem dX10_layFar_45 : decode cX10_layFar 45 = .ok (.iload_n 2, 1) := by decide +kernel
theorem dX10_layFar_46 : decode cX10_layFar 46 = .ok (.aload_n 0, 1) := by decide +kernel
theorem dX10_layFar_47 : decode cX10_layFar 47 = .ok (.getfield 146, 3) := by decide +kernel
theorem dX10_layFar_50 : decode cX10_layFar 50 = .ok (.if_icmp .ge 115, 3) := by decide +kernel
theorem dX10_layFar_53 : decode cX10_layFar 53 = .ok (.aload_n 0, 1) := by decide +kernel
theorem dX10_layFar_54 : decode cX10_layFar 54 = .ok (.getfield 44, 3) := by decide +kernel
theorem dX10_layFar_57 : decode cX10_layFar 57 = .ok (.aload_n 0, 1) := by decide +kernel
theorem dX10_layFar_58 : decode cX10_layFar 58 = .ok (.getfield 41, 3) := by decide +kernel
theorem dX10_layFar_61 : decode cX10_layFar 61 = .ok (.iload_n 2, 1) := by decide +kernel
theorem dX10_layFar_62 : decode cX10_layFar 62 = .ok (.iaload, 1) := by decide +kernel
theorem dX10_layFar_63 : decode cX10_layFar 63 = .ok (.iaload, 1) := by decide +kernel
theorem dX10_layFar_64 : decode cX10_layFar 64 = .ok (.istore_n 3, 1) := by decide +kernel
theorem dX10_layFar_65 : decode cX10_layFar 65 = .ok (.iconst 0, 1) := by decide +kernel
theorem dX10_layFar_66 : decode cX10_layFar 66 = .ok (.istore 4, 2) := by decide +kernel
theorem dX10_layFar_68 : decode cX10_layFar 68 = .ok (.iload 4, 2) := by decide +kernel
theorem dX10_layFar_70 : decode cX10_layFar 70 = .ok (.aload_n 0, 1) := by decide +kernel
theorem dX10_layFar_71 : decode cX10_layFar 71 = .ok (.getfield 7, 3) := by decide +kernel
theorem dX10_layFar_74 : decode cX10_layFar 74 = .ok (.if_icmp .ge 85, 3) := by decide +kernel
theorem dX10_layFar_77 : decode cX10_layFar 77 = .ok (.aload_n 0, 1) := by decide +kernel
theorem dX10_layFar_78 : decode cX10_layFar 78 = .ok (.iload 4, 2) := by decide +kernel
theorem dX10_layFar_80 : decode cX10_layFar 80 = .ok (.aload_n 0, 1) := by decide +kernel
theorem dX10_layFar_81 : decode cX10_layFar 81 = .ok (.getfield 41, 3) := by decide +kernel
theorem dX10_layFar_84 : decode cX10_layFar 84 = .ok (.iload_n 2, 1) := by decide +kernel
theorem dX10_layFar_85 : decode cX10_layFar 85 = .ok (.iaload, 1) := by decide +kernel
theorem dX10_layFar_86 : decode cX10_layFar 86 = .ok (.invokevirtual 143, 3) := by decide +kernel
theorem dX10_layFar_89 : decode cX10_layFar 89 = .ok (.istore 5, 2) := by decide +kernel
theorem dX10_layFar_91 : decode cX10_layFar 91 = .ok (.iload_n 3, 1) := by decide +kernel
theorem dX10_layFar_92 : decode cX10_layFar 92 = .ok (.iload 4, 2) := by decide +kernel
theorem dX10_layFar_94 : decode cX10_layFar 94 = .ok (.ishr, 1) := by decide +kernel
theorem dX10_layFar_95 : decode cX10_layFar 95 = .ok (.iconst 1, 1) := by decide +kernel
theorem dX10_layFar_96 : decode cX10_layFar 96 = .ok (.iand, 1) := by decide +kernel
theorem dX10_layFar_97 : decode cX10_layFar 97 = .ok (.ifCond .ne 56, 3) := by decide +kernel
theorem dX10_layFar_100 : decode cX10_layFar 100 = .ok (.aload_n 0, 1) := by decide +kernel
theorem dX10_layFar_101 : decode cX10_layFar 101 = .ok (.getfield 38, 3) := by decide +kernel
theorem dX10_layFar_104 : decode cX10_layFar 104 = .ok (.iload 5, 2) := by decide +kernel
theorem dX10_layFar_106 : decode cX10_layFar 106 = .ok (.iaload, 1) := by decide +kernel
theorem dX10_layFar_107 : decode cX10_layFar 107 = .ok (.bipush (-9), 2) := by decide +kernel
theorem dX10_layFar_109 : decode cX10_layFar 109 = .ok (.if_icmp .ne 44, 3) := by decide +kernel
theorem dX10_layFar_112 : decode cX10_layFar 112 = .ok (.aload_n 0, 1) := by decide +kernel
theorem dX10_layFar_113 : decode cX10_layFar 113 = .ok (.getfield 38, 3) := by decide +kernel
theorem dX10_layFar_116 : decode cX10_layFar 116 = .ok (.iload 5, 2) := by decide +kernel
theorem dX10_layFar_118 : decode cX10_layFar 118 = .ok (.aload_n 0, 1) := by decide +kernel
theorem dX10_layFar_119 : decode cX10_layFar 119 = .ok (.getfield 38, 3) := by decide +kernel
theorem dX10_layFar_122 : decode cX10_layFar 122 = .ok (.aload_n 0, 1) := by decide +kernel
theorem dX10_layFar_123 : decode cX10_layFar 123 = .ok (.getfield 41, 3) := by decide +kernel
theorem dX10_layFar_126 : decode cX10_layFar 126 = .ok (.iload_n 2, 1) := by decide +kernel
theorem dX10_layFar_127 : decode cX10_layFar 127 = .ok (.iaload, 1) := by decide +kernel
theorem dX10_layFar_128 : decode cX10_layFar 128 = .ok (.iaload, 1) := by decide +kernel
theorem dX10_layFar_129 : decode cX10_layFar 129 = .ok (.iconst 1, 1) := by decide +kernel
theorem dX10_layFar_130 : decode cX10_layFar 130 = .ok (.iadd, 1) := by decide +kernel
theorem dX10_layFar_131 : decode cX10_layFar 131 = .ok (.iastore, 1) := by decide +kernel
theorem dX10_layFar_132 : decode cX10_layFar 132 = .ok (.aload_n 0, 1) := by decide +kernel
theorem dX10_layFar_133 : decode cX10_layFar 133 = .ok (.getfield 41, 3) := by decide +kernel
theorem dX10_layFar_136 : decode cX10_layFar 136 = .ok (.aload_n 0, 1) := by decide +kernel
theorem dX10_layFar_137 : decode cX10_layFar 137 = .ok (.getfield 146, 3) := by decide +kernel
theorem dX10_layFar_140 : decode cX10_layFar 140 = .ok (.iload 5, 2) := by decide +kernel
theorem dX10_layFar_142 : decode cX10_layFar 142 = .ok (.iastore, 1) := by decide +kernel
theorem dX10_layFar_143 : decode cX10_layFar 143 = .ok (.aload_n 0, 1) := by decide +kernel
theorem dX10_layFar_144 : decode cX10_layFar 144 = .ok (.dup, 1) := by decide +kernel
theorem dX10_layFar_145 : decode cX10_layFar 145 = .ok (.getfield 146, 3) := by decide +kernel
theorem dX10_layFar_148 : decode cX10_layFar 148 = .ok (.iconst 1, 1) := by decide +kernel
theorem dX10_layFar_149 : decode cX10_layFar 149 = .ok (.iadd, 1) := by decide +kernel
theorem dX10_layFar_150 : decode cX10_layFar 150 = .ok (.putfield 146, 3) := by decide +kernel
theorem dX10_layFar_153 : decode cX10_layFar 153 = .ok (.iinc 4 1, 3) := by decide +kernel
theorem dX10_layFar_156 : decode cX10_layFar 156 = .ok (.goto (-88), 3) := by decide +kernel
theorem dX10_layFar_159 : decode cX10_layFar 159 = .ok (.iinc 2 1, 3) := by decide +kernel
theorem dX10_layFar_162 : decode cX10_layFar 162 = .ok (.goto (-117), 3) := by decide +kernel
theorem dX10_layFar_165 : decode cX10_layFar 165 = .ok (.return_, 1) := by decide +kernel
theorem dX10_comesBack_0 : decode cX10_comesBack 0 = .ok (.aload_n 0, 1) := by decide +kernel
theorem dX10_comesBack_1 : decode cX10_comesBack 1 = .ok (.iload_n 1, 1) := by decide +kernel
theorem dX10_comesBack_2 : decode cX10_comesBack 2 = .ok (.invokevirtual 149, 3) := by decide +kernel
theorem dX10_comesBack_5 : decode cX10_comesBack 5 = .ok (.iconst 0, 1) := by decide +kernel
theorem dX10_comesBack_6 : decode cX10_comesBack 6 = .ok (.istore_n 2, 1) := by decide +kernel
theorem dX10_comesBack_7 : decode cX10_comesBack 7 = .ok (.iload_n 2, 1) := by decide +kernel
theorem dX10_comesBack_8 : decode cX10_comesBack 8 = .ok (.aload_n 0, 1) := by decide +kernel
theorem dX10_comesBack_9 : decode cX10_comesBack 9 = .ok (.getfield 146, 3) := by decide +kernel
theorem dX10_comesBack_12 : decode cX10_comesBack 12 = .ok (.if_icmp .ge 66, 3) := by decide +kernel
theorem dX10_comesBack_15 : decode cX10_comesBack 15 = .ok (.aload_n 0, 1) := by decide +kernel
theorem dX10_comesBack_16 : decode cX10_comesBack 16 = .ok (.getfield 44, 3) := by decide +kernel
theorem dX10_comesBack_19 : decode cX10_comesBack 19 = .ok (.aload_n 0, 1) := by decide +kernel
theorem dX10_comesBack_20 : decode cX10_comesBack 20 = .ok (.getfield 41, 3) := by decide +kernel
theorem dX10_comesBack_23 : decode cX10_comesBack 23 = .ok (.iload_n 2, 1) := by decide +kernel
theorem dX10_comesBack_24 : decode cX10_comesBack 24 = .ok (.iaload, 1) := by decide +kernel
theorem dX10_comesBack_25 : decode cX10_comesBack 25 = .ok (.iaload, 1) := by decide +kernel
theorem dX10_comesBack_26 : decode cX10_comesBack 26 = .ok (.istore_n 3, 1) := by decide +kernel
theorem dX10_comesBack_27 : decode cX10_comesBack 27 = .ok (.iconst 0, 1) := by decide +kernel
theorem dX10_comesBack_28 : decode cX10_comesBack 28 = .ok (.istore 4, 2) := by decide +kernel
theorem dX10_comesBack_30 : decode cX10_comesBack 30 = .ok (.iload 4, 2) := by decide +kernel
theorem dX10_comesBack_32 : decode cX10_comesBack 32 = .ok (.aload_n 0, 1) := by decide +kernel
theorem dX10_comesBack_33 : decode cX10_comesBack 33 = .ok (.getfield 7, 3) := by decide +kernel
theorem dX10_comesBack_36 : decode cX10_comesBack 36 = .ok (.if_icmp .ge 36, 3) := by decide +kernel
theorem dX10_comesBack_39 : decode cX10_comesBack 39 = .ok (.iload_n 3, 1) := by decide +kernel
theorem dX10_comesBack_40 : decode cX10_comesBack 40 = .ok (.iload 4, 2) := by decide +kernel
theorem dX10_comesBack_42 : decode cX10_comesBack 42 = .ok (.ishr, 1) := by decide +kernel
theorem dX10_comesBack_43 : decode cX10_comesBack 43 = .ok (.iconst 1, 1) := by decide +kernel
theorem dX10_comesBack_44 : decode cX10_comesBack 44 = .ok (.iand, 1) := by decide +kernel
theorem dX10_comesBack_45 : decode cX10_comesBack 45 = .ok (.ifCond .ne 21, 3) := by decide +kernel
theorem dX10_comesBack_48 : decode cX10_comesBack 48 = .ok (.aload_n 0, 1) := by decide +kernel
theorem dX10_comesBack_49 : decode cX10_comesBack 49 = .ok (.iload 4, 2) := by decide +kernel
theorem dX10_comesBack_51 : decode cX10_comesBack 51 = .ok (.aload_n 0, 1) := by decide +kernel
theorem dX10_comesBack_52 : decode cX10_comesBack 52 = .ok (.getfield 41, 3) := by decide +kernel
theorem dX10_comesBack_55 : decode cX10_comesBack 55 = .ok (.iload_n 2, 1) := by decide +kernel
theorem dX10_comesBack_56 : decode cX10_comesBack 56 = .ok (.iaload, 1) := by decide +kernel
theorem dX10_comesBack_57 : decode cX10_comesBack 57 = .ok (.invokevirtual 143, 3) := by decide +kernel
theorem dX10_comesBack_60 : decode cX10_comesBack 60 = .ok (.iload_n 1, 1) := by decide +kernel
theorem dX10_comesBack_61 : decode cX10_comesBack 61 = .ok (.if_icmp .ne 5, 3) := by decide +kernel
theorem dX10_comesBack_64 : decode cX10_comesBack 64 = .ok (.iconst 1, 1) := by decide +kernel
theorem dX10_comesBack_65 : decode cX10_comesBack 65 = .ok (.ireturn, 1) := by decide +kernel
theorem dX10_comesBack_66 : decode cX10_comesBack 66 = .ok (.iinc 4 1, 3) := by decide +kernel
theorem dX10_comesBack_69 : decode cX10_comesBack 69 = .ok (.goto (-39), 3) := by decide +kernel
theorem dX10_comesBack_72 : decode cX10_comesBack 72 = .ok (.iinc 2 1, 3) := by decide +kernel
theorem dX10_comesBack_75 : decode cX10_comesBack 75 = .ok (.goto (-68), 3) := by decide +kernel
theorem dX10_comesBack_78 : decode cX10_comesBack 78 = .ok (.iconst 0, 1) := by decide +kernel
theorem dX10_comesBack_79 : decode cX10_comesBack 79 = .ok (.ireturn, 1) := by decide +kernel
theorem dX10_witnessNow_0 : decode cX10_witnessNow 0 = .ok (.aload_n 0, 1) := by decide +kernel
theorem dX10_witnessNow_1 : decode cX10_witnessNow 1 = .ok (.invokevirtual 152, 3) := by decide +kernel
theorem dX10_witnessNow_4 : decode cX10_witnessNow 4 = .ok (.iconst 0, 1) := by decide +kernel
theorem dX10_witnessNow_5 : decode cX10_witnessNow 5 = .ok (.istore_n 1, 1) := by decide +kernel
theorem dX10_witnessNow_6 : decode cX10_witnessNow 6 = .ok (.iload_n 1, 1) := by decide +kernel
theorem dX10_witnessNow_7 : decode cX10_witnessNow 7 = .ok (.aload_n 0, 1) := by decide +kernel
theorem dX10_witnessNow_8 : decode cX10_witnessNow 8 = .ok (.invokevirtual 105, 3) := by decide +kernel
theorem dX10_witnessNow_11 : decode cX10_witnessNow 11 = .ok (.if_icmp .gt 19, 3) := by decide +kernel
theorem dX10_witnessNow_14 : decode cX10_witnessNow 14 = .ok (.aload_n 0, 1) := by decide +kernel
theorem dX10_witnessNow_15 : decode cX10_witnessNow 15 = .ok (.iload_n 1, 1) := by decide +kernel
theorem dX10_witnessNow_16 : decode cX10_witnessNow 16 = .ok (.invokevirtual 155, 3) := by decide +kernel
theorem dX10_witnessNow_19 : decode cX10_witnessNow 19 = .ok (.ifCond .eq 5, 3) := by decide +kernel
theorem dX10_witnessNow_22 : decode cX10_witnessNow 22 = .ok (.iload_n 1, 1) := by decide +kernel
theorem dX10_witnessNow_23 : decode cX10_witnessNow 23 = .ok (.ireturn, 1) := by decide +kernel
theorem dX10_witnessNow_24 : decode cX10_witnessNow 24 = .ok (.iinc 1 1, 3) := by decide +kernel
theorem dX10_witnessNow_27 : decode cX10_witnessNow 27 = .ok (.goto (-21), 3) := by decide +kernel
theorem dX10_witnessNow_30 : decode cX10_witnessNow 30 = .ok (.bipush (-9), 2) := by decide +kernel
theorem dX10_witnessNow_32 : decode cX10_witnessNow 32 = .ok (.ireturn, 1) := by decide +kernel
theorem dX10_settled_0 : decode cX10_settled 0 = .ok (.aload_n 0, 1) := by decide +kernel
theorem dX10_settled_1 : decode cX10_settled 1 = .ok (.invokevirtual 158, 3) := by decide +kernel
theorem dX10_settled_4 : decode cX10_settled 4 = .ok (.bipush (-9), 2) := by decide +kernel
theorem dX10_settled_6 : decode cX10_settled 6 = .ok (.if_icmp .ne 7, 3) := by decide +kernel
theorem dX10_settled_9 : decode cX10_settled 9 = .ok (.iconst 1, 1) := by decide +kernel
theorem dX10_settled_10 : decode cX10_settled 10 = .ok (.goto 4, 3) := by decide +kernel
theorem dX10_settled_13 : decode cX10_settled 13 = .ok (.iconst 0, 1) := by decide +kernel
theorem dX10_settled_14 : decode cX10_settled 14 = .ok (.ireturn, 1) := by decide +kernel
theorem dX10_witness_0 : decode cX10_witness 0 = .ok (.aload_n 0, 1) := by decide +kernel
theorem dX10_witness_1 : decode cX10_witness 1 = .ok (.invokevirtual 158, 3) := by decide +kernel
theorem dX10_witness_4 : decode cX10_witness 4 = .ok (.ireturn, 1) := by decide +kernel
theorem dX10_turnedNow_0 : decode cX10_turnedNow 0 = .ok (.iconst 0, 1) := by decide +kernel
theorem dX10_turnedNow_1 : decode cX10_turnedNow 1 = .ok (.istore_n 1, 1) := by decide +kernel
theorem dX10_turnedNow_2 : decode cX10_turnedNow 2 = .ok (.iload_n 1, 1) := by decide +kernel
theorem dX10_turnedNow_3 : decode cX10_turnedNow 3 = .ok (.aload_n 0, 1) := by decide +kernel
theorem dX10_turnedNow_4 : decode cX10_turnedNow 4 = .ok (.getfield 7, 3) := by decide +kernel
theorem dX10_turnedNow_7 : decode cX10_turnedNow 7 = .ok (.if_icmp .ge 22, 3) := by decide +kernel
theorem dX10_turnedNow_10 : decode cX10_turnedNow 10 = .ok (.aload_n 0, 1) := by decide +kernel
theorem dX10_turnedNow_11 : decode cX10_turnedNow 11 = .ok (.getfield 17, 3) := by decide +kernel
theorem dX10_turnedNow_14 : decode cX10_turnedNow 14 = .ok (.iload_n 1, 1) := by decide +kernel
theorem dX10_turnedNow_15 : decode cX10_turnedNow 15 = .ok (.iaload, 1) := by decide +kernel
theorem dX10_turnedNow_16 : decode cX10_turnedNow 16 = .ok (.iconst 3, 1) := by decide +kernel
theorem dX10_turnedNow_17 : decode cX10_turnedNow 17 = .ok (.if_icmp .ne 6, 3) := by decide +kernel
theorem dX10_turnedNow_20 : decode cX10_turnedNow 20 = .ok (.bipush (-9), 2) := by decide +kernel
theorem dX10_turnedNow_22 : decode cX10_turnedNow 22 = .ok (.ireturn, 1) := by decide +kernel
theorem dX10_turnedNow_23 : decode cX10_turnedNow 23 = .ok (.iinc 1 1, 3) := by decide +kernel
theorem dX10_turnedNow_26 : decode cX10_turnedNow 26 = .ok (.goto (-24), 3) := by decide +kernel
theorem dX10_turnedNow_29 : decode cX10_turnedNow 29 = .ok (.aload_n 0, 1) := by decide +kernel
theorem dX10_turnedNow_30 : decode cX10_turnedNow 30 = .ok (.invokevirtual 105, 3) := by decide +kernel
theorem dX10_turnedNow_33 : decode cX10_turnedNow 33 = .ok (.istore_n 1, 1) := by decide +kernel
theorem dX10_turnedNow_34 : decode cX10_turnedNow 34 = .ok (.iconst 0, 1) := by decide +kernel
theorem dX10_turnedNow_35 : decode cX10_turnedNow 35 = .ok (.istore_n 2, 1) := by decide +kernel
theorem dX10_turnedNow_36 : decode cX10_turnedNow 36 = .ok (.iload_n 2, 1) := by decide +kernel
theorem dX10_turnedNow_37 : decode cX10_turnedNow 37 = .ok (.aload_n 0, 1) := by decide +kernel
theorem dX10_turnedNow_38 : decode cX10_turnedNow 38 = .ok (.invokevirtual 105, 3) := by decide +kernel
theorem dX10_turnedNow_41 : decode cX10_turnedNow 41 = .ok (.if_icmp .gt 55, 3) := by decide +kernel
theorem dX10_turnedNow_44 : decode cX10_turnedNow 44 = .ok (.aload_n 0, 1) := by decide +kernel
theorem dX10_turnedNow_45 : decode cX10_turnedNow 45 = .ok (.invokevirtual 105, 3) := by decide +kernel
theorem dX10_turnedNow_48 : decode cX10_turnedNow 48 = .ok (.aload_n 0, 1) := by decide +kernel
theorem dX10_turnedNow_49 : decode cX10_turnedNow 49 = .ok (.iload_n 2, 1) := by decide +kernel
theorem dX10_turnedNow_50 : decode cX10_turnedNow 50 = .ok (.invokevirtual 93, 3) := by decide +kernel
theorem dX10_turnedNow_53 : decode cX10_turnedNow 53 = .ok (.iconst (-1), 1) := by decide +kernel
theorem dX10_turnedNow_54 : decode cX10_turnedNow 54 = .ok (.ixor, 1) := by decide +kernel
theorem dX10_turnedNow_55 : decode cX10_turnedNow 55 = .ok (.iand, 1) := by decide +kernel
theorem dX10_turnedNow_56 : decode cX10_turnedNow 56 = .ok (.istore_n 3, 1) := by decide +kernel
theorem dX10_turnedNow_57 : decode cX10_turnedNow 57 = .ok (.iload_n 3, 1) := by decide +kernel
theorem dX10_turnedNow_58 : decode cX10_turnedNow 58 = .ok (.invokestatic 161, 3) := by decide +kernel
theorem dX10_turnedNow_61 : decode cX10_turnedNow 61 = .ok (.iload_n 1, 1) := by decide +kernel
theorem dX10_turnedNow_62 : decode cX10_turnedNow 62 = .ok (.invokestatic 161, 3) := by decide +kernel
theorem dX10_turnedNow_65 : decode cX10_turnedNow 65 = .ok (.if_icmp .lt 19, 3) := by decide +kernel
theorem dX10_turnedNow_68 : decode cX10_turnedNow 68 = .ok (.iload_n 3, 1) := by decide +kernel
theorem dX10_turnedNow_69 : decode cX10_turnedNow 69 = .ok (.invokestatic 161, 3) := by decide +kernel
theorem dX10_turnedNow_72 : decode cX10_turnedNow 72 = .ok (.iload_n 1, 1) := by decide +kernel
theorem dX10_turnedNow_73 : decode cX10_turnedNow 73 = .ok (.invokestatic 161, 3) := by decide +kernel
theorem dX10_turnedNow_76 : decode cX10_turnedNow 76 = .ok (.if_icmp .ne 12, 3) := by decide +kernel
theorem dX10_turnedNow_79 : decode cX10_turnedNow 79 = .ok (.iload_n 3, 1) := by decide +kernel
theorem dX10_turnedNow_80 : decode cX10_turnedNow 80 = .ok (.iload_n 1, 1) := by decide +kernel
theorem dX10_turnedNow_81 : decode cX10_turnedNow 81 = .ok (.if_icmp .ge 7, 3) := by decide +kernel
theorem dX10_turnedNow_84 : decode cX10_turnedNow 84 = .ok (.iload_n 3, 1) := by decide +kernel
theorem dX10_turnedNow_85 : decode cX10_turnedNow 85 = .ok (.goto 4, 3) := by decide +kernel
theorem dX10_turnedNow_88 : decode cX10_turnedNow 88 = .ok (.iload_n 1, 1) := by decide +kernel
theorem dX10_turnedNow_89 : decode cX10_turnedNow 89 = .ok (.istore_n 1, 1) := by decide +kernel
theorem dX10_turnedNow_90 : decode cX10_turnedNow 90 = .ok (.iinc 2 1, 3) := by decide +kernel
theorem dX10_turnedNow_93 : decode cX10_turnedNow 93 = .ok (.goto (-57), 3) := by decide +kernel
theorem dX10_turnedNow_96 : decode cX10_turnedNow 96 = .ok (.iload_n 1, 1) := by decide +kernel
theorem dX10_turnedNow_97 : decode cX10_turnedNow 97 = .ok (.ireturn, 1) := by decide +kernel
theorem dX10_turn_0 : decode cX10_turn 0 = .ok (.aload_n 0, 1) := by decide +kernel
theorem dX10_turn_1 : decode cX10_turn 1 = .ok (.invokevirtual 164, 3) := by decide +kernel
theorem dX10_turn_4 : decode cX10_turn 4 = .ok (.istore_n 1, 1) := by decide +kernel
theorem dX10_turn_5 : decode cX10_turn 5 = .ok (.iload_n 1, 1) := by decide +kernel
theorem dX10_turn_6 : decode cX10_turn 6 = .ok (.bipush (-9), 2) := by decide +kernel
theorem dX10_turn_8 : decode cX10_turn 8 = .ok (.if_icmp .ne 8, 3) := by decide +kernel
theorem dX10_turn_11 : decode cX10_turn 11 = .ok (.bipush (-9), 2) := by decide +kernel
theorem dX10_turn_13 : decode cX10_turn 13 = .ok (.goto 7, 3) := by decide +kernel
theorem dX10_turn_16 : decode cX10_turn 16 = .ok (.iload_n 1, 1) := by decide +kernel
theorem dX10_turn_17 : decode cX10_turn 17 = .ok (.invokestatic 161, 3) := by decide +kernel
theorem dX10_turn_20 : decode cX10_turn 20 = .ok (.ireturn, 1) := by decide +kernel
theorem dX10_turned_0 : decode cX10_turned 0 = .ok (.aload_n 0, 1) := by decide +kernel
theorem dX10_turned_1 : decode cX10_turned 1 = .ok (.invokevirtual 164, 3) := by decide +kernel
theorem dX10_turned_4 : decode cX10_turned 4 = .ok (.ireturn, 1) := by decide +kernel
theorem dX10_hold_0 : decode cX10_hold 0 = .ok (.iconst 0, 1) := by decide +kernel
theorem dX10_hold_1 : decode cX10_hold 1 = .ok (.istore_n 2, 1) := by decide +kernel
theorem dX10_hold_2 : decode cX10_hold 2 = .ok (.iconst 1, 1) := by decide +kernel
theorem dX10_hold_3 : decode cX10_hold 3 = .ok (.istore_n 3, 1) := by decide +kernel
theorem dX10_hold_4 : decode cX10_hold 4 = .ok (.iload_n 3, 1) := by decide +kernel
theorem dX10_hold_5 : decode cX10_hold 5 = .ok (.aload_n 0, 1) := by decide +kernel
theorem dX10_hold_6 : decode cX10_hold 6 = .ok (.invokevirtual 105, 3) := by decide +kernel
theorem dX10_hold_9 : decode cX10_hold 9 = .ok (.if_icmp .gt 34, 3) := by decide +kernel
theorem dX10_hold_12 : decode cX10_hold 12 = .ok (.aload_n 0, 1) := by decide +kernel
theorem dX10_hold_13 : decode cX10_hold 13 = .ok (.iload_n 3, 1) := by decide +kernel
theorem dX10_hold_14 : decode cX10_hold 14 = .ok (.invokevirtual 93, 3) := by decide +kernel
theorem dX10_hold_17 : decode cX10_hold 17 = .ok (.invokestatic 161, 3) := by decide +kernel
theorem dX10_hold_20 : decode cX10_hold 20 = .ok (.aload_n 0, 1) := by decide +kernel
theorem dX10_hold_21 : decode cX10_hold 21 = .ok (.iload_n 2, 1) := by decide +kernel
theorem dX10_hold_22 : decode cX10_hold 22 = .ok (.invokevirtual 93, 3) := by decide +kernel
theorem dX10_hold_25 : decode cX10_hold 25 = .ok (.invokestatic 161, 3) := by decide +kernel
theorem dX10_hold_28 : decode cX10_hold 28 = .ok (.if_icmp .le 7, 3) := by decide +kernel
theorem dX10_hold_31 : decode cX10_hold 31 = .ok (.iload_n 3, 1) := by decide +kernel
theorem dX10_hold_32 : decode cX10_hold 32 = .ok (.goto 4, 3) := by decide +kernel
theorem dX10_hold_35 : decode cX10_hold 35 = .ok (.iload_n 2, 1) := by decide +kernel
theorem dX10_hold_36 : decode cX10_hold 36 = .ok (.istore_n 2, 1) := by decide +kernel
theorem dX10_hold_37 : decode cX10_hold 37 = .ok (.iinc 3 1, 3) := by decide +kernel
theorem dX10_hold_40 : decode cX10_hold 40 = .ok (.goto (-36), 3) := by decide +kernel
theorem dX10_hold_43 : decode cX10_hold 43 = .ok (.iload_n 1, 1) := by decide +kernel
theorem dX10_hold_44 : decode cX10_hold 44 = .ok (.ifCond .eq 7, 3) := by decide +kernel
theorem dX10_hold_47 : decode cX10_hold 47 = .ok (.iload_n 2, 1) := by decide +kernel
theorem dX10_hold_48 : decode cX10_hold 48 = .ok (.goto 16, 3) := by decide +kernel
theorem dX10_hold_51 : decode cX10_hold 51 = .ok (.aload_n 0, 1) := by decide +kernel
theorem dX10_hold_52 : decode cX10_hold 52 = .ok (.getfield 7, 3) := by decide +kernel
theorem dX10_hold_55 : decode cX10_hold 55 = .ok (.aload_n 0, 1) := by decide +kernel
theorem dX10_hold_56 : decode cX10_hold 56 = .ok (.iload_n 2, 1) := by decide +kernel
theorem dX10_hold_57 : decode cX10_hold 57 = .ok (.invokevirtual 93, 3) := by decide +kernel
theorem dX10_hold_60 : decode cX10_hold 60 = .ok (.invokestatic 161, 3) := by decide +kernel
theorem dX10_hold_63 : decode cX10_hold 63 = .ok (.isub, 1) := by decide +kernel
theorem dX10_hold_64 : decode cX10_hold 64 = .ok (.ireturn, 1) := by decide +kernel
theorem dX10_may_0 : decode cX10_may 0 = .ok (.aload_n 0, 1) := by decide +kernel
theorem dX10_may_1 : decode cX10_may 1 = .ok (.iload_n 1, 1) := by decide +kernel
theorem dX10_may_2 : decode cX10_may 2 = .ok (.invokevirtual 90, 3) := by decide +kernel
theorem dX10_may_5 : decode cX10_may 5 = .ok (.ifCond .ne 6, 3) := by decide +kernel
theorem dX10_may_8 : decode cX10_may 8 = .ok (.bipush (-2), 2) := by decide +kernel
theorem dX10_may_10 : decode cX10_may 10 = .ok (.ireturn, 1) := by decide +kernel
theorem dX10_may_11 : decode cX10_may 11 = .ok (.aload_n 0, 1) := by decide +kernel
theorem dX10_may_12 : decode cX10_may 12 = .ok (.iload_n 2, 1) := by decide +kernel
theorem dX10_may_13 : decode cX10_may 13 = .ok (.invokevirtual 136, 3) := by decide +kernel
theorem dX10_may_16 : decode cX10_may 16 = .ok (.istore_n 3, 1) := by decide +kernel
theorem dX10_may_17 : decode cX10_may 17 = .ok (.iload_n 3, 1) := by decide +kernel
theorem dX10_may_18 : decode cX10_may 18 = .ok (.iconst (-1), 1) := by decide +kernel
theorem dX10_may_19 : decode cX10_may 19 = .ok (.if_icmp .ne 5, 3) := by decide +kernel
theorem dX10_may_22 : decode cX10_may 22 = .ok (.iconst (-1), 1) := by decide +kernel
theorem dX10_may_23 : decode cX10_may 23 = .ok (.ireturn, 1) := by decide +kernel
theorem dX10_may_24 : decode cX10_may 24 = .ok (.aload_n 0, 1) := by decide +kernel
theorem dX10_may_25 : decode cX10_may 25 = .ok (.invokevirtual 152, 3) := by decide +kernel
theorem dX10_may_28 : decode cX10_may 28 = .ok (.aload_n 0, 1) := by decide +kernel
theorem dX10_may_29 : decode cX10_may 29 = .ok (.iload_n 1, 1) := by decide +kernel
theorem dX10_may_30 : decode cX10_may 30 = .ok (.invokevirtual 149, 3) := by decide +kernel
theorem dX10_may_33 : decode cX10_may 33 = .ok (.aload_n 0, 1) := by decide +kernel
theorem dX10_may_34 : decode cX10_may 34 = .ok (.getfield 38, 3) := by decide +kernel
theorem dX10_may_37 : decode cX10_may 37 = .ok (.iload_n 3, 1) := by decide +kernel
theorem dX10_may_38 : decode cX10_may 38 = .ok (.iaload, 1) := by decide +kernel
theorem dX10_may_39 : decode cX10_may 39 = .ok (.bipush (-9), 2) := by decide +kernel
theorem dX10_may_41 : decode cX10_may 41 = .ok (.if_icmp .ne 7, 3) := by decide +kernel
theorem dX10_may_44 : decode cX10_may 44 = .ok (.iconst 0, 1) := by decide +kernel
theorem dX10_may_45 : decode cX10_may 45 = .ok (.goto 4, 3) := by decide +kernel
theorem dX10_may_48 : decode cX10_may 48 = .ok (.iconst 1, 1) := by decide +kernel
theorem dX10_may_49 : decode cX10_may 49 = .ok (.ireturn, 1) := by decide +kernel
theorem dX10_mays_0 : decode cX10_mays 0 = .ok (.aload_n 0, 1) := by decide +kernel
theorem dX10_mays_1 : decode cX10_mays 1 = .ok (.iload_n 1, 1) := by decide +kernel
theorem dX10_mays_2 : decode cX10_mays 2 = .ok (.invokevirtual 90, 3) := by decide +kernel
theorem dX10_mays_5 : decode cX10_mays 5 = .ok (.ifCond .ne 6, 3) := by decide +kernel
theorem dX10_mays_8 : decode cX10_mays 8 = .ok (.bipush (-2), 2) := by decide +kernel
theorem dX10_mays_10 : decode cX10_mays 10 = .ok (.ireturn, 1) := by decide +kernel
theorem dX10_mays_11 : decode cX10_mays 11 = .ok (.aload_n 0, 1) := by decide +kernel
theorem dX10_mays_12 : decode cX10_mays 12 = .ok (.invokevirtual 152, 3) := by decide +kernel
theorem dX10_mays_15 : decode cX10_mays 15 = .ok (.aload_n 0, 1) := by decide +kernel
theorem dX10_mays_16 : decode cX10_mays 16 = .ok (.iload_n 1, 1) := by decide +kernel
theorem dX10_mays_17 : decode cX10_mays 17 = .ok (.invokevirtual 149, 3) := by decide +kernel
theorem dX10_mays_20 : decode cX10_mays 20 = .ok (.iconst 0, 1) := by decide +kernel
theorem dX10_mays_21 : decode cX10_mays 21 = .ok (.istore_n 2, 1) := by decide +kernel
theorem dX10_mays_22 : decode cX10_mays 22 = .ok (.iconst 0, 1) := by decide +kernel
theorem dX10_mays_23 : decode cX10_mays 23 = .ok (.istore_n 3, 1) := by decide +kernel
theorem dX10_mays_24 : decode cX10_mays 24 = .ok (.iload_n 3, 1) := by decide +kernel
theorem dX10_mays_25 : decode cX10_mays 25 = .ok (.aload_n 0, 1) := by decide +kernel
theorem dX10_mays_26 : decode cX10_mays 26 = .ok (.invokevirtual 105, 3) := by decide +kernel
theorem dX10_mays_29 : decode cX10_mays 29 = .ok (.if_icmp .gt 36, 3) := by decide +kernel
theorem dX10_mays_32 : decode cX10_mays 32 = .ok (.iload_n 2, 1) := by decide +kernel
theorem dX10_mays_33 : decode cX10_mays 33 = .ok (.aload_n 0, 1) := by decide +kernel
theorem dX10_mays_34 : decode cX10_mays 34 = .ok (.getfield 38, 3) := by decide +kernel
theorem dX10_mays_37 : decode cX10_mays 37 = .ok (.iload_n 3, 1) := by decide +kernel
theorem dX10_mays_38 : decode cX10_mays 38 = .ok (.iaload, 1) := by decide +kernel
theorem dX10_mays_39 : decode cX10_mays 39 = .ok (.bipush (-9), 2) := by decide +kernel
theorem dX10_mays_41 : decode cX10_mays 41 = .ok (.if_icmp .eq 15, 3) := by decide +kernel
theorem dX10_mays_44 : decode cX10_mays 44 = .ok (.aload_n 0, 1) := by decide +kernel
theorem dX10_mays_45 : decode cX10_mays 45 = .ok (.iload_n 3, 1) := by decide +kernel
theorem dX10_mays_46 : decode cX10_mays 46 = .ok (.invokevirtual 133, 3) := by decide +kernel
theorem dX10_mays_49 : decode cX10_mays 49 = .ok (.ifCond .eq 7, 3) := by decide +kernel
theorem dX10_mays_52 : decode cX10_mays 52 = .ok (.iconst 1, 1) := by decide +kernel
theorem dX10_mays_53 : decode cX10_mays 53 = .ok (.goto 4, 3) := by decide +kernel
theorem dX10_mays_56 : decode cX10_mays 56 = .ok (.iconst 0, 1) := by decide +kernel
theorem dX10_mays_57 : decode cX10_mays 57 = .ok (.iadd, 1) := by decide +kernel
theorem dX10_mays_58 : decode cX10_mays 58 = .ok (.istore_n 2, 1) := by decide +kernel
theorem dX10_mays_59 : decode cX10_mays 59 = .ok (.iinc 3 1, 3) := by decide +kernel
theorem dX10_mays_62 : decode cX10_mays 62 = .ok (.goto (-38), 3) := by decide +kernel
theorem dX10_mays_65 : decode cX10_mays 65 = .ok (.iload_n 2, 1) := by decide +kernel
theorem dX10_mays_66 : decode cX10_mays 66 = .ok (.ireturn, 1) := by decide +kernel
theorem dX10_soon_0 : decode cX10_soon 0 = .ok (.aload_n 0, 1) := by decide +kernel
theorem dX10_soon_1 : decode cX10_soon 1 = .ok (.iload_n 1, 1) := by decide +kernel
theorem dX10_soon_2 : decode cX10_soon 2 = .ok (.invokevirtual 90, 3) := by decide +kernel
theorem dX10_soon_5 : decode cX10_soon 5 = .ok (.ifCond .ne 6, 3) := by decide +kernel
theorem dX10_soon_8 : decode cX10_soon 8 = .ok (.bipush (-2), 2) := by decide +kernel
theorem dX10_soon_10 : decode cX10_soon 10 = .ok (.ireturn, 1) := by decide +kernel
theorem dX10_soon_11 : decode cX10_soon 11 = .ok (.aload_n 0, 1) := by decide +kernel
theorem dX10_soon_12 : decode cX10_soon 12 = .ok (.invokevirtual 152, 3) := by decide +kernel
theorem dX10_soon_15 : decode cX10_soon 15 = .ok (.aload_n 0, 1) := by decide +kernel
theorem dX10_soon_16 : decode cX10_soon 16 = .ok (.iload_n 1, 1) := by decide +kernel
theorem dX10_soon_17 : decode cX10_soon 17 = .ok (.invokevirtual 149, 3) := by decide +kernel
theorem dX10_soon_20 : decode cX10_soon 20 = .ok (.iconst 0, 1) := by decide +kernel
theorem dX10_soon_21 : decode cX10_soon 21 = .ok (.istore_n 2, 1) := by decide +kernel
theorem dX10_soon_22 : decode cX10_soon 22 = .ok (.iload_n 2, 1) := by decide +kernel
theorem dX10_soon_23 : decode cX10_soon 23 = .ok (.aload_n 0, 1) := by decide +kernel
theorem dX10_soon_24 : decode cX10_soon 24 = .ok (.getfield 146, 3) := by decide +kernel
theorem dX10_soon_27 : decode cX10_soon 27 = .ok (.if_icmp .ge 34, 3) := by decide +kernel
theorem dX10_soon_30 : decode cX10_soon 30 = .ok (.aload_n 0, 1) := by decide +kernel
theorem dX10_soon_31 : decode cX10_soon 31 = .ok (.aload_n 0, 1) := by decide +kernel
theorem dX10_soon_32 : decode cX10_soon 32 = .ok (.getfield 41, 3) := by decide +kernel
theorem dX10_soon_35 : decode cX10_soon 35 = .ok (.iload_n 2, 1) := by decide +kernel
theorem dX10_soon_36 : decode cX10_soon 36 = .ok (.iaload, 1) := by decide +kernel
theorem dX10_soon_37 : decode cX10_soon 37 = .ok (.invokevirtual 133, 3) := by decide +kernel
theorem dX10_soon_40 : decode cX10_soon 40 = .ok (.ifCond .eq 15, 3) := by decide +kernel
theorem dX10_soon_43 : decode cX10_soon 43 = .ok (.aload_n 0, 1) := by decide +kernel
theorem dX10_soon_44 : decode cX10_soon 44 = .ok (.getfield 38, 3) := by decide +kernel
theorem dX10_soon_47 : decode cX10_soon 47 = .ok (.aload_n 0, 1) := by decide +kernel
theorem dX10_soon_48 : decode cX10_soon 48 = .ok (.getfield 41, 3) := by decide +kernel
theorem dX10_soon_51 : decode cX10_soon 51 = .ok (.iload_n 2, 1) := by decide +kernel
theorem dX10_soon_52 : decode cX10_soon 52 = .ok (.iaload, 1) := by decide +kernel
theorem dX10_soon_53 : decode cX10_soon 53 = .ok (.iaload, 1) := by decide +kernel
theorem dX10_soon_54 : decode cX10_soon 54 = .ok (.ireturn, 1) := by decide +kernel
theorem dX10_soon_55 : decode cX10_soon 55 = .ok (.iinc 2 1, 3) := by decide +kernel
theorem dX10_soon_58 : decode cX10_soon 58 = .ok (.goto (-36), 3) := by decide +kernel
theorem dX10_soon_61 : decode cX10_soon 61 = .ok (.bipush (-9), 2) := by decide +kernel
theorem dX10_soon_63 : decode cX10_soon 63 = .ok (.ireturn, 1) := by decide +kernel
theorem dX10_draw_0 : decode cX10_draw 0 = .ok (.iconst 0, 1) := by decide +kernel
theorem dX10_draw_1 : decode cX10_draw 1 = .ok (.istore_n 1, 1) := by decide +kernel
theorem dX10_draw_2 : decode cX10_draw 2 = .ok (.iload_n 1, 1) := by decide +kernel
theorem dX10_draw_3 : decode cX10_draw 3 = .ok (.aload_n 0, 1) := by decide +kernel
theorem dX10_draw_4 : decode cX10_draw 4 = .ok (.invokevirtual 105, 3) := by decide +kernel
theorem dX10_draw_7 : decode cX10_draw 7 = .ok (.if_icmp .gt 16, 3) := by decide +kernel
theorem dX10_draw_10 : decode cX10_draw 10 = .ok (.aload_n 0, 1) := by decide +kernel
theorem dX10_draw_11 : decode cX10_draw 11 = .ok (.getfield 51, 3) := by decide +kernel
theorem dX10_draw_14 : decode cX10_draw 14 = .ok (.iload_n 1, 1) := by decide +kernel
theorem dX10_draw_15 : decode cX10_draw 15 = .ok (.lconst 0, 1) := by decide +kernel
theorem dX10_draw_16 : decode cX10_draw 16 = .ok (.lastore, 1) := by decide +kernel
theorem dX10_draw_17 : decode cX10_draw 17 = .ok (.iinc 1 1, 3) := by decide +kernel
theorem dX10_draw_20 : decode cX10_draw 20 = .ok (.goto (-18), 3) := by decide +kernel
theorem dX10_draw_23 : decode cX10_draw 23 = .ok (.iconst 0, 1) := by decide +kernel
theorem dX10_draw_24 : decode cX10_draw 24 = .ok (.istore_n 1, 1) := by decide +kernel
theorem dX10_draw_25 : decode cX10_draw 25 = .ok (.iload_n 1, 1) := by decide +kernel
theorem dX10_draw_26 : decode cX10_draw 26 = .ok (.aload_n 0, 1) := by decide +kernel
theorem dX10_draw_27 : decode cX10_draw 27 = .ok (.invokevirtual 105, 3) := by decide +kernel
theorem dX10_draw_30 : decode cX10_draw 30 = .ok (.if_icmp .gt 115, 3) := by decide +kernel
theorem dX10_draw_33 : decode cX10_draw 33 = .ok (.aload_n 0, 1) := by decide +kernel
theorem dX10_draw_34 : decode cX10_draw 34 = .ok (.getfield 47, 3) := by decide +kernel
theorem dX10_draw_37 : decode cX10_draw 37 = .ok (.iload_n 1, 1) := by decide +kernel
theorem dX10_draw_38 : decode cX10_draw 38 = .ok (.laload, 1) := by decide +kernel
theorem dX10_draw_39 : decode cX10_draw 39 = .ok (.lconst 0, 1) := by decide +kernel
theorem dX10_draw_40 : decode cX10_draw 40 = .ok (.lcmp, 1) := by decide +kernel
theorem dX10_draw_41 : decode cX10_draw 41 = .ok (.ifCond .le 98, 3) := by decide +kernel
theorem dX10_draw_44 : decode cX10_draw 44 = .ok (.aload_n 0, 1) := by decide +kernel
theorem dX10_draw_45 : decode cX10_draw 45 = .ok (.invokevirtual 105, 3) := by decide +kernel
theorem dX10_draw_48 : decode cX10_draw 48 = .ok (.aload_n 0, 1) := by decide +kernel
theorem dX10_draw_49 : decode cX10_draw 49 = .ok (.iload_n 1, 1) := by decide +kernel
theorem dX10_draw_50 : decode cX10_draw 50 = .ok (.invokevirtual 93, 3) := by decide +kernel
theorem dX10_draw_53 : decode cX10_draw 53 = .ok (.iconst (-1), 1) := by decide +kernel
theorem dX10_draw_54 : decode cX10_draw 54 = .ok (.ixor, 1) := by decide +kernel
theorem dX10_draw_55 : decode cX10_draw 55 = .ok (.iand, 1) := by decide +kernel
theorem dX10_draw_56 : decode cX10_draw 56 = .ok (.istore_n 2, 1) := by decide +kernel
theorem dX10_draw_57 : decode cX10_draw 57 = .ok (.aload_n 0, 1) := by decide +kernel
theorem dX10_draw_58 : decode cX10_draw 58 = .ok (.getfield 51, 3) := by decide +kernel
theorem dX10_draw_61 : decode cX10_draw 61 = .ok (.iload_n 1, 1) := by decide +kernel
theorem dX10_draw_62 : decode cX10_draw 62 = .ok (.dup2, 1) := by decide +kernel
theorem dX10_draw_63 : decode cX10_draw 63 = .ok (.laload, 1) := by decide +kernel
theorem dX10_draw_64 : decode cX10_draw 64 = .ok (.iload_n 2, 1) := by decide +kernel
theorem dX10_draw_65 : decode cX10_draw 65 = .ok (.ifCond .ne 16, 3) := by decide +kernel
theorem dX10_draw_68 : decode cX10_draw 68 = .ok (.ldc2_w 167, 3) := by decide +kernel
theorem dX10_draw_71 : decode cX10_draw 71 = .ok (.aload_n 0, 1) := by decide +kernel
theorem dX10_draw_72 : decode cX10_draw 72 = .ok (.getfield 47, 3) := by decide +kernel
theorem dX10_draw_75 : decode cX10_draw 75 = .ok (.iload_n 1, 1) := by decide +kernel
theorem dX10_draw_76 : decode cX10_draw 76 = .ok (.laload, 1) := by decide +kernel
theorem dX10_draw_77 : decode cX10_draw 77 = .ok (.lmul, 1) := by decide +kernel
theorem dX10_draw_78 : decode cX10_draw 78 = .ok (.goto 4, 3) := by decide +kernel
theorem dX10_draw_81 : decode cX10_draw 81 = .ok (.lconst 0, 1) := by decide +kernel
theorem dX10_draw_82 : decode cX10_draw 82 = .ok (.ladd, 1) := by decide +kernel
theorem dX10_draw_83 : decode cX10_draw 83 = .ok (.lastore, 1) := by decide +kernel
theorem dX10_draw_84 : decode cX10_draw 84 = .ok (.iconst 0, 1) := by decide +kernel
theorem dX10_draw_85 : decode cX10_draw 85 = .ok (.istore_n 3, 1) := by decide +kernel
theorem dX10_draw_86 : decode cX10_draw 86 = .ok (.iload_n 3, 1) := by decide +kernel
theorem dX10_draw_87 : decode cX10_draw 87 = .ok (.aload_n 0, 1) := by decide +kernel
theorem dX10_draw_88 : decode cX10_draw 88 = .ok (.getfield 7, 3) := by decide +kernel
theorem dX10_draw_91 : decode cX10_draw 91 = .ok (.if_icmp .ge 48, 3) := by decide +kernel
theorem dX10_draw_94 : decode cX10_draw 94 = .ok (.iload_n 2, 1) := by decide +kernel
theorem dX10_draw_95 : decode cX10_draw 95 = .ok (.iload_n 3, 1) := by decide +kernel
theorem dX10_draw_96 : decode cX10_draw 96 = .ok (.ishr, 1) := by decide +kernel
theorem dX10_draw_97 : decode cX10_draw 97 = .ok (.iconst 1, 1) := by decide +kernel
theorem dX10_draw_98 : decode cX10_draw 98 = .ok (.iand, 1) := by decide +kernel
theorem dX10_draw_99 : decode cX10_draw 99 = .ok (.iconst 1, 1) := by decide +kernel
theorem dX10_draw_100 : decode cX10_draw 100 = .ok (.if_icmp .ne 33, 3) := by decide +kernel
theorem dX10_draw_103 : decode cX10_draw 103 = .ok (.aload_n 0, 1) := by decide +kernel
theorem dX10_draw_104 : decode cX10_draw 104 = .ok (.getfield 51, 3) := by decide +kernel
theorem dX10_draw_107 : decode cX10_draw 107 = .ok (.aload_n 0, 1) := by decide +kernel
theorem dX10_draw_108 : decode cX10_draw 108 = .ok (.iload_n 3, 1) := by decide +kernel
theorem dX10_draw_109 : decode cX10_draw 109 = .ok (.iload_n 1, 1) := by decide +kernel
theorem dX10_draw_110 : decode cX10_draw 110 = .ok (.invokevirtual 143, 3) := by decide +kernel
theorem dX10_draw_113 : decode cX10_draw 113 = .ok (.dup2, 1) := by decide +kernel
theorem dX10_draw_114 : decode cX10_draw 114 = .ok (.laload, 1) := by decide +kernel
theorem dX10_draw_115 : decode cX10_draw 115 = .ok (.aload_n 0, 1) := by decide +kernel
theorem dX10_draw_116 : decode cX10_draw 116 = .ok (.getfield 47, 3) := by decide +kernel
theorem dX10_draw_119 : decode cX10_draw 119 = .ok (.iload_n 1, 1) := by decide +kernel
theorem dX10_draw_120 : decode cX10_draw 120 = .ok (.laload, 1) := by decide +kernel
theorem dX10_draw_121 : decode cX10_draw 121 = .ok (.sipush 2520, 3) := by decide +kernel
theorem dX10_draw_124 : decode cX10_draw 124 = .ok (.iload_n 2, 1) := by decide +kernel
theorem dX10_draw_125 : decode cX10_draw 125 = .ok (.invokestatic 161, 3) := by decide +kernel
theorem dX10_draw_128 : decode cX10_draw 128 = .ok (.idiv, 1) := by decide +kernel
theorem dX10_draw_129 : decode cX10_draw 129 = .ok (.i2l, 1) := by decide +kernel
theorem dX10_draw_130 : decode cX10_draw 130 = .ok (.lmul, 1) := by decide +kernel
theorem dX10_draw_131 : decode cX10_draw 131 = .ok (.ladd, 1) := by decide +kernel
theorem dX10_draw_132 : decode cX10_draw 132 = .ok (.lastore, 1) := by decide +kernel
theorem dX10_draw_133 : decode cX10_draw 133 = .ok (.iinc 3 1, 3) := by decide +kernel
theorem dX10_draw_136 : decode cX10_draw 136 = .ok (.goto (-50), 3) := by decide +kernel
theorem dX10_draw_139 : decode cX10_draw 139 = .ok (.iinc 1 1, 3) := by decide +kernel
theorem dX10_draw_142 : decode cX10_draw 142 = .ok (.goto (-117), 3) := by decide +kernel
theorem dX10_draw_145 : decode cX10_draw 145 = .ok (.iconst 0, 1) := by decide +kernel
theorem dX10_draw_146 : decode cX10_draw 146 = .ok (.istore_n 1, 1) := by decide +kernel
theorem dX10_draw_147 : decode cX10_draw 147 = .ok (.iload_n 1, 1) := by decide +kernel
theorem dX10_draw_148 : decode cX10_draw 148 = .ok (.aload_n 0, 1) := by decide +kernel
theorem dX10_draw_149 : decode cX10_draw 149 = .ok (.invokevirtual 105, 3) := by decide +kernel
theorem dX10_draw_152 : decode cX10_draw 152 = .ok (.if_icmp .gt 21, 3) := by decide +kernel
theorem dX10_draw_155 : decode cX10_draw 155 = .ok (.aload_n 0, 1) := by decide +kernel
theorem dX10_draw_156 : decode cX10_draw 156 = .ok (.getfield 47, 3) := by decide +kernel
theorem dX10_draw_159 : decode cX10_draw 159 = .ok (.iload_n 1, 1) := by decide +kernel
theorem dX10_draw_160 : decode cX10_draw 160 = .ok (.aload_n 0, 1) := by decide +kernel
theorem dX10_draw_161 : decode cX10_draw 161 = .ok (.getfield 51, 3) := by decide +kernel
theorem dX10_draw_164 : decode cX10_draw 164 = .ok (.iload_n 1, 1) := by decide +kernel
theorem dX10_draw_165 : decode cX10_draw 165 = .ok (.laload, 1) := by decide +kernel
theorem dX10_draw_166 : decode cX10_draw 166 = .ok (.lastore, 1) := by decide +kernel
theorem dX10_draw_167 : decode cX10_draw 167 = .ok (.iinc 1 1, 3) := by decide +kernel
theorem dX10_draw_170 : decode cX10_draw 170 = .ok (.goto (-23), 3) := by decide +kernel
theorem dX10_draw_173 : decode cX10_draw 173 = .ok (.return_, 1) := by decide +kernel
theorem dX10_likely_0 : decode cX10_likely 0 = .ok (.aload_n 0, 1) := by decide +kernel
theorem dX10_likely_1 : decode cX10_likely 1 = .ok (.iload_n 1, 1) := by decide +kernel
theorem dX10_likely_2 : decode cX10_likely 2 = .ok (.invokevirtual 90, 3) := by decide +kernel
theorem dX10_likely_5 : decode cX10_likely 5 = .ok (.ifCond .eq 15, 3) := by decide +kernel
theorem dX10_likely_8 : decode cX10_likely 8 = .ok (.iload_n 2, 1) := by decide +kernel
theorem dX10_likely_9 : decode cX10_likely 9 = .ok (.i2l, 1) := by decide +kernel
theorem dX10_likely_10 : decode cX10_likely 10 = .ok (.lconst 0, 1) := by decide +kernel
theorem dX10_likely_11 : decode cX10_likely 11 = .ok (.ldc2_w 169, 3) := by decide +kernel
theorem dX10_likely_14 : decode cX10_likely 14 = .ok (.invokestatic 60, 3) := by decide +kernel
theorem dX10_likely_17 : decode cX10_likely 17 = .ok (.ifCond .ne 7, 3) := by decide +kernel
theorem dX10_likely_20 : decode cX10_likely 20 = .ok (.ldc2_w 171, 3) := by decide +kernel
theorem dX10_likely_23 : decode cX10_likely 23 = .ok (.lreturn, 1) := by decide +kernel
theorem dX10_likely_24 : decode cX10_likely 24 = .ok (.iconst 0, 1) := by decide +kernel
theorem dX10_likely_25 : decode cX10_likely 25 = .ok (.istore 4, 2) := by decide +kernel
theorem dX10_likely_27 : decode cX10_likely 27 = .ok (.iload 4, 2) := by decide +kernel
theorem dX10_likely_29 : decode cX10_likely 29 = .ok (.aload_n 0, 1) := by decide +kernel
theorem dX10_likely_30 : decode cX10_likely 30 = .ok (.invokevirtual 105, 3) := by decide +kernel
theorem dX10_likely_33 : decode cX10_likely 33 = .ok (.if_icmp .gt 27, 3) := by decide +kernel
theorem dX10_likely_36 : decode cX10_likely 36 = .ok (.aload_n 0, 1) := by decide +kernel
theorem dX10_likely_37 : decode cX10_likely 37 = .ok (.getfield 47, 3) := by decide +kernel
theorem dX10_likely_40 : decode cX10_likely 40 = .ok (.iload 4, 2) := by decide +kernel
theorem dX10_likely_42 : decode cX10_likely 42 = .ok (.iload 4, 2) := by decide +kernel
theorem dX10_likely_44 : decode cX10_likely 44 = .ok (.iload_n 1, 1) := by decide +kernel
theorem dX10_likely_45 : decode cX10_likely 45 = .ok (.if_icmp .ne 7, 3) := by decide +kernel
theorem dX10_likely_48 : decode cX10_likely 48 = .ok (.lconst 1, 1) := by decide +kernel
theorem dX10_likely_49 : decode cX10_likely 49 = .ok (.goto 4, 3) := by decide +kernel
theorem dX10_likely_52 : decode cX10_likely 52 = .ok (.lconst 0, 1) := by decide +kernel
theorem dX10_likely_53 : decode cX10_likely 53 = .ok (.lastore, 1) := by decide +kernel
theorem dX10_likely_54 : decode cX10_likely 54 = .ok (.iinc 4 1, 3) := by decide +kernel
theorem dX10_likely_57 : decode cX10_likely 57 = .ok (.goto (-30), 3) := by decide +kernel
theorem dX10_likely_60 : decode cX10_likely 60 = .ok (.lconst 1, 1) := by decide +kernel
theorem dX10_likely_61 : decode cX10_likely 61 = .ok (.lstore 4, 2) := by decide +kernel
theorem dX10_likely_63 : decode cX10_likely 63 = .ok (.iconst 0, 1) := by decide +kernel
theorem dX10_likely_64 : decode cX10_likely 64 = .ok (.istore 6, 2) := by decide +kernel
theorem dX10_likely_66 : decode cX10_likely 66 = .ok (.iload 6, 2) := by decide +kernel
theorem dX10_likely_68 : decode cX10_likely 68 = .ok (.iload_n 2, 1) := by decide +kernel
theorem dX10_likely_69 : decode cX10_likely 69 = .ok (.if_icmp .ge 21, 3) := by decide +kernel
theorem dX10_likely_72 : decode cX10_likely 72 = .ok (.aload_n 0, 1) := by decide +kernel
theorem dX10_likely_73 : decode cX10_likely 73 = .ok (.invokevirtual 173, 3) := by decide +kernel
theorem dX10_likely_76 : decode cX10_likely 76 = .ok (.lload 4, 2) := by decide +kernel
theorem dX10_likely_78 : decode cX10_likely 78 = .ok (.ldc2_w 167, 3) := by decide +kernel
theorem dX10_likely_81 : decode cX10_likely 81 = .ok (.lmul, 1) := by decide +kernel
theorem dX10_likely_82 : decode cX10_likely 82 = .ok (.lstore 4, 2) := by decide +kernel
theorem dX10_likely_84 : decode cX10_likely 84 = .ok (.iinc 6 1, 3) := by decide +kernel
theorem dX10_likely_87 : decode cX10_likely 87 = .ok (.goto (-21), 3) := by decide +kernel
theorem dX10_likely_90 : decode cX10_likely 90 = .ok (.lconst 0, 1) := by decide +kernel
theorem dX10_likely_91 : decode cX10_likely 91 = .ok (.lstore 6, 2) := by decide +kernel
theorem dX10_likely_93 : decode cX10_likely 93 = .ok (.iconst 0, 1) := by decide +kernel
theorem dX10_likely_94 : decode cX10_likely 94 = .ok (.istore 8, 2) := by decide +kernel
theorem dX10_likely_96 : decode cX10_likely 96 = .ok (.iload 8, 2) := by decide +kernel
theorem dX10_likely_98 : decode cX10_likely 98 = .ok (.aload_n 0, 1) := by decide +kernel
theorem dX10_likely_99 : decode cX10_likely 99 = .ok (.invokevirtual 105, 3) := by decide +kernel
theorem dX10_likely_102 : decode cX10_likely 102 = .ok (.if_icmp .gt 46, 3) := by decide +kernel
theorem dX10_likely_105 : decode cX10_likely 105 = .ok (.lload 6, 2) := by decide +kernel
theorem dX10_likely_107 : decode cX10_likely 107 = .ok (.aload_n 0, 1) := by decide +kernel
theorem dX10_likely_108 : decode cX10_likely 108 = .ok (.getfield 47, 3) := by decide +kernel
theorem dX10_likely_111 : decode cX10_likely 111 = .ok (.iload 8, 2) := by decide +kernel
theorem dX10_likely_113 : decode cX10_likely 113 = .ok (.laload, 1) := by decide +kernel
theorem dX10_likely_114 : decode cX10_likely 114 = .ok (.lconst 0, 1) := by decide +kernel
theorem dX10_likely_115 : decode cX10_likely 115 = .ok (.lcmp, 1) := by decide +kernel
theorem dX10_likely_116 : decode cX10_likely 116 = .ok (.ifCond .le 22, 3) := by decide +kernel
theorem dX10_likely_119 : decode cX10_likely 119 = .ok (.aload_n 0, 1) := by decide +kernel
theorem dX10_likely_120 : decode cX10_likely 120 = .ok (.iload 8, 2) := by decide +kernel
theorem dX10_likely_122 : decode cX10_likely 122 = .ok (.invokevirtual 133, 3) := by decide +kernel
theorem dX10_likely_125 : decode cX10_likely 125 = .ok (.ifCond .eq 13, 3) := by decide +kernel
theorem dX10_likely_128 : decode cX10_likely 128 = .ok (.aload_n 0, 1) := by decide +kernel
theorem dX10_likely_129 : decode cX10_likely 129 = .ok (.getfield 47, 3) := by decide +kernel
theorem dX10_likely_132 : decode cX10_likely 132 = .ok (.iload 8, 2) := by decide +kernel
theorem dX10_likely_134 : decode cX10_likely 134 = .ok (.laload, 1) := by decide +kernel
theorem dX10_likely_135 : decode cX10_likely 135 = .ok (.goto 4, 3) := by decide +kernel
theorem dX10_likely_138 : decode cX10_likely 138 = .ok (.lconst 0, 1) := by decide +kernel
theorem dX10_likely_139 : decode cX10_likely 139 = .ok (.ladd, 1) := by decide +kernel
theorem dX10_likely_140 : decode cX10_likely 140 = .ok (.lstore 6, 2) := by decide +kernel
theorem dX10_likely_142 : decode cX10_likely 142 = .ok (.iinc 8 1, 3) := by decide +kernel
theorem dX10_likely_145 : decode cX10_likely 145 = .ok (.goto (-49), 3) := by decide +kernel
theorem dX10_likely_148 : decode cX10_likely 148 = .ok (.lload 6, 2) := by decide +kernel
theorem dX10_likely_150 : decode cX10_likely 150 = .ok (.lstore 8, 2) := by decide +kernel
theorem dX10_likely_152 : decode cX10_likely 152 = .ok (.lload 4, 2) := by decide +kernel
theorem dX10_likely_154 : decode cX10_likely 154 = .ok (.lstore 10, 2) := by decide +kernel
theorem dX10_likely_156 : decode cX10_likely 156 = .ok (.lload 10, 2) := by decide +kernel
theorem dX10_likely_158 : decode cX10_likely 158 = .ok (.lconst 0, 1) := by decide +kernel
theorem dX10_likely_159 : decode cX10_likely 159 = .ok (.lcmp, 1) := by decide +kernel
theorem dX10_likely_160 : decode cX10_likely 160 = .ok (.ifCond .eq 21, 3) := by decide +kernel
theorem dX10_likely_163 : decode cX10_likely 163 = .ok (.lload 8, 2) := by decide +kernel
theorem dX10_likely_165 : decode cX10_likely 165 = .ok (.lload 10, 2) := by decide +kernel
theorem dX10_likely_167 : decode cX10_likely 167 = .ok (.lrem, 1) := by decide +kernel
theorem dX10_likely_168 : decode cX10_likely 168 = .ok (.lstore 12, 2) := by decide +kernel
theorem dX10_likely_170 : decode cX10_likely 170 = .ok (.lload 10, 2) := by decide +kernel
theorem dX10_likely_172 : decode cX10_likely 172 = .ok (.lstore 8, 2) := by decide +kernel
theorem dX10_likely_174 : decode cX10_likely 174 = .ok (.lload 12, 2) := by decide +kernel
theorem dX10_likely_176 : decode cX10_likely 176 = .ok (.lstore 10, 2) := by decide +kernel
theorem dX10_likely_178 : decode cX10_likely 178 = .ok (.goto (-22), 3) := by decide +kernel
theorem dX10_likely_181 : decode cX10_likely 181 = .ok (.iload_n 3, 1) := by decide +kernel
theorem dX10_likely_182 : decode cX10_likely 182 = .ok (.ifCond .eq 11, 3) := by decide +kernel
theorem dX10_likely_185 : decode cX10_likely 185 = .ok (.lload 6, 2) := by decide +kernel
theorem dX10_likely_187 : decode cX10_likely 187 = .ok (.lload 8, 2) := by decide +kernel
theorem dX10_likely_189 : decode cX10_likely 189 = .ok (.ldiv, 1) := by decide +kernel
theorem dX10_likely_190 : decode cX10_likely 190 = .ok (.goto 8, 3) := by decide +kernel
theorem dX10_likely_193 : decode cX10_likely 193 = .ok (.lload 4, 2) := by decide +kernel
theorem dX10_likely_195 : decode cX10_likely 195 = .ok (.lload 8, 2) := by decide +kernel
theorem dX10_likely_197 : decode cX10_likely 197 = .ok (.ldiv, 1) := by decide +kernel
theorem dX10_likely_198 : decode cX10_likely 198 = .ok (.lreturn, 1) := by decide +kernel
theorem dX10_week_0 : decode cX10_week 0 = .ok (.aload_n 0, 1) := by decide +kernel
theorem dX10_week_1 : decode cX10_week 1 = .ok (.iload_n 1, 1) := by decide +kernel
theorem dX10_week_2 : decode cX10_week 2 = .ok (.invokevirtual 90, 3) := by decide +kernel
theorem dX10_week_5 : decode cX10_week 5 = .ok (.ifCond .ne 6, 3) := by decide +kernel
theorem dX10_week_8 : decode cX10_week 8 = .ok (.bipush (-2), 2) := by decide +kernel
theorem dX10_week_10 : decode cX10_week 10 = .ok (.ireturn, 1) := by decide +kernel
theorem dX10_week_11 : decode cX10_week 11 = .ok (.aload_n 0, 1) := by decide +kernel
theorem dX10_week_12 : decode cX10_week 12 = .ok (.getfield 66, 3) := by decide +kernel
theorem dX10_week_15 : decode cX10_week 15 = .ok (.bipush 8, 2) := by decide +kernel
theorem dX10_week_17 : decode cX10_week 17 = .ok (.if_icmp .ne 6, 3) := by decide +kernel
theorem dX10_week_20 : decode cX10_week 20 = .ok (.bipush (-4), 2) := by decide +kernel
theorem dX10_week_22 : decode cX10_week 22 = .ok (.ireturn, 1) := by decide +kernel
theorem dX10_week_23 : decode cX10_week 23 = .ok (.aload_n 0, 1) := by decide +kernel
theorem dX10_week_24 : decode cX10_week 24 = .ok (.getfield 54, 3) := by decide +kernel
theorem dX10_week_27 : decode cX10_week 27 = .ok (.aload_n 0, 1) := by decide +kernel
theorem dX10_week_28 : decode cX10_week 28 = .ok (.getfield 66, 3) := by decide +kernel
theorem dX10_week_31 : decode cX10_week 31 = .ok (.iload_n 1, 1) := by decide +kernel
theorem dX10_week_32 : decode cX10_week 32 = .ok (.iastore, 1) := by decide +kernel
theorem dX10_week_33 : decode cX10_week 33 = .ok (.aload_n 0, 1) := by decide +kernel
theorem dX10_week_34 : decode cX10_week 34 = .ok (.dup, 1) := by decide +kernel
theorem dX10_week_35 : decode cX10_week 35 = .ok (.getfield 66, 3) := by decide +kernel
theorem dX10_week_38 : decode cX10_week 38 = .ok (.iconst 1, 1) := by decide +kernel
theorem dX10_week_39 : decode cX10_week 39 = .ok (.iadd, 1) := by decide +kernel
theorem dX10_week_40 : decode cX10_week 40 = .ok (.putfield 66, 3) := by decide +kernel
theorem dX10_week_43 : decode cX10_week 43 = .ok (.aload_n 0, 1) := by decide +kernel
theorem dX10_week_44 : decode cX10_week 44 = .ok (.getfield 66, 3) := by decide +kernel
theorem dX10_week_47 : decode cX10_week 47 = .ok (.ireturn, 1) := by decide +kernel
theorem dX10_wipe_0 : decode cX10_wipe 0 = .ok (.aload_n 0, 1) := by decide +kernel
theorem dX10_wipe_1 : decode cX10_wipe 1 = .ok (.getfield 66, 3) := by decide +kernel
theorem dX10_wipe_4 : decode cX10_wipe 4 = .ok (.istore_n 1, 1) := by decide +kernel
theorem dX10_wipe_5 : decode cX10_wipe 5 = .ok (.aload_n 0, 1) := by decide +kernel
theorem dX10_wipe_6 : decode cX10_wipe 6 = .ok (.iconst 0, 1) := by decide +kernel
theorem dX10_wipe_7 : decode cX10_wipe 7 = .ok (.putfield 66, 3) := by decide +kernel
theorem dX10_wipe_10 : decode cX10_wipe 10 = .ok (.iload_n 1, 1) := by decide +kernel
theorem dX10_wipe_11 : decode cX10_wipe 11 = .ok (.ireturn, 1) := by decide +kernel
theorem dX10_maybeOf_0 : decode cX10_maybeOf 0 = .ok (.iconst 0, 1) := by decide +kernel
theorem dX10_maybeOf_1 : decode cX10_maybeOf 1 = .ok (.istore_n 2, 1) := by decide +kernel
theorem dX10_maybeOf_2 : decode cX10_maybeOf 2 = .ok (.iconst 0, 1) := by decide +kernel
theorem dX10_maybeOf_3 : decode cX10_maybeOf 3 = .ok (.istore_n 3, 1) := by decide +kernel
theorem dX10_maybeOf_4 : decode cX10_maybeOf 4 = .ok (.iload_n 3, 1) := by decide +kernel
theorem dX10_maybeOf_5 : decode cX10_maybeOf 5 = .ok (.iconst 4, 1) := by decide +kernel
theorem dX10_maybeOf_6 : decode cX10_maybeOf 6 = .ok (.if_icmp .ge 88, 3) := by decide +kernel
theorem dX10_maybeOf_9 : decode cX10_maybeOf 9 = .ok (.iconst 1, 1) := by decide +kernel
theorem dX10_maybeOf_10 : decode cX10_maybeOf 10 = .ok (.istore 4, 2) := by decide +kernel
theorem dX10_maybeOf_12 : decode cX10_maybeOf 12 = .ok (.iconst 0, 1) := by decide +kernel
theorem dX10_maybeOf_13 : decode cX10_maybeOf 13 = .ok (.istore 5, 2) := by decide +kernel
theorem dX10_maybeOf_15 : decode cX10_maybeOf 15 = .ok (.iload 5, 2) := by decide +kernel
theorem dX10_maybeOf_17 : decode cX10_maybeOf 17 = .ok (.iconst 1, 1) := by decide +kernel
theorem dX10_maybeOf_18 : decode cX10_maybeOf 18 = .ok (.iadd, 1) := by decide +kernel
theorem dX10_maybeOf_19 : decode cX10_maybeOf 19 = .ok (.aload_n 0, 1) := by decide +kernel
theorem dX10_maybeOf_20 : decode cX10_maybeOf 20 = .ok (.getfield 66, 3) := by decide +kernel
theorem dX10_maybeOf_23 : decode cX10_maybeOf 23 = .ok (.if_icmp .ge 50, 3) := by decide +kernel
theorem dX10_maybeOf_26 : decode cX10_maybeOf 26 = .ok (.iload 4, 2) := by decide +kernel
theorem dX10_maybeOf_28 : decode cX10_maybeOf 28 = .ok (.ifCond .eq 36, 3) := by decide +kernel
theorem dX10_maybeOf_31 : decode cX10_maybeOf 31 = .ok (.aload_n 0, 1) := by decide +kernel
theorem dX10_maybeOf_32 : decode cX10_maybeOf 32 = .ok (.iload_n 1, 1) := by decide +kernel
theorem dX10_maybeOf_33 : decode cX10_maybeOf 33 = .ok (.iload_n 3, 1) := by decide +kernel
theorem dX10_maybeOf_34 : decode cX10_maybeOf 34 = .ok (.aload_n 0, 1) := by decide +kernel
theorem dX10_maybeOf_35 : decode cX10_maybeOf 35 = .ok (.getfield 54, 3) := by decide +kernel
theorem dX10_maybeOf_38 : decode cX10_maybeOf 38 = .ok (.iload 5, 2) := by decide +kernel
theorem dX10_maybeOf_40 : decode cX10_maybeOf 40 = .ok (.iaload, 1) := by decide +kernel
theorem dX10_maybeOf_41 : decode cX10_maybeOf 41 = .ok (.invokevirtual 83, 3) := by decide +kernel
theorem dX10_maybeOf_44 : decode cX10_maybeOf 44 = .ok (.aload_n 0, 1) := by decide +kernel
theorem dX10_maybeOf_45 : decode cX10_maybeOf 45 = .ok (.getfield 54, 3) := by decide +kernel
theorem dX10_maybeOf_48 : decode cX10_maybeOf 48 = .ok (.iload 5, 2) := by decide +kernel
theorem dX10_maybeOf_50 : decode cX10_maybeOf 50 = .ok (.iconst 1, 1) := by decide +kernel
theorem dX10_maybeOf_51 : decode cX10_maybeOf 51 = .ok (.iadd, 1) := by decide +kernel
theorem dX10_maybeOf_52 : decode cX10_maybeOf 52 = .ok (.iaload, 1) := by decide +kernel
theorem dX10_maybeOf_53 : decode cX10_maybeOf 53 = .ok (.iload_n 1, 1) := by decide +kernel
theorem dX10_maybeOf_54 : decode cX10_maybeOf 54 = .ok (.ishr, 1) := by decide +kernel
theorem dX10_maybeOf_55 : decode cX10_maybeOf 55 = .ok (.iconst 1, 1) := by decide +kernel
theorem dX10_maybeOf_56 : decode cX10_maybeOf 56 = .ok (.iand, 1) := by decide +kernel
theorem dX10_maybeOf_57 : decode cX10_maybeOf 57 = .ok (.if_icmp .ne 7, 3) := by decide +kernel
theorem dX10_maybeOf_60 : decode cX10_maybeOf 60 = .ok (.iconst 1, 1) := by decide +kernel
theorem dX10_maybeOf_61 : decode cX10_maybeOf 61 = .ok (.goto 4, 3) := by decide +kernel
theorem dX10_maybeOf_64 : decode cX10_maybeOf 64 = .ok (.iconst 0, 1) := by decide +kernel
theorem dX10_maybeOf_65 : decode cX10_maybeOf 65 = .ok (.istore 4, 2) := by decide +kernel
theorem dX10_maybeOf_67 : decode cX10_maybeOf 67 = .ok (.iinc 5 1, 3) := by decide +kernel
theorem dX10_maybeOf_70 : decode cX10_maybeOf 70 = .ok (.goto (-55), 3) := by decide +kernel
theorem dX10_maybeOf_73 : decode cX10_maybeOf 73 = .ok (.iload_n 2, 1) := by decide +kernel
theorem dX10_maybeOf_74 : decode cX10_maybeOf 74 = .ok (.iload 4, 2) := by decide +kernel
theorem dX10_maybeOf_76 : decode cX10_maybeOf 76 = .ok (.ifCond .eq 9, 3) := by decide +kernel
theorem dX10_maybeOf_79 : decode cX10_maybeOf 79 = .ok (.iconst 1, 1) := by decide +kernel
theorem dX10_maybeOf_80 : decode cX10_maybeOf 80 = .ok (.iload_n 3, 1) := by decide +kernel
theorem dX10_maybeOf_81 : decode cX10_maybeOf 81 = .ok (.ishl, 1) := by decide +kernel
theorem dX10_maybeOf_82 : decode cX10_maybeOf 82 = .ok (.goto 4, 3) := by decide +kernel
theorem dX10_maybeOf_85 : decode cX10_maybeOf 85 = .ok (.iconst 0, 1) := by decide +kernel
theorem dX10_maybeOf_86 : decode cX10_maybeOf 86 = .ok (.ior, 1) := by decide +kernel
theorem dX10_maybeOf_87 : decode cX10_maybeOf 87 = .ok (.istore_n 2, 1) := by decide +kernel
theorem dX10_maybeOf_88 : decode cX10_maybeOf 88 = .ok (.iinc 3 1, 3) := by decide +kernel
theorem dX10_maybeOf_91 : decode cX10_maybeOf 91 = .ok (.goto (-87), 3) := by decide +kernel
theorem dX10_maybeOf_94 : decode cX10_maybeOf 94 = .ok (.iload_n 2, 1) := by decide +kernel
theorem dX10_maybeOf_95 : decode cX10_maybeOf 95 = .ok (.ireturn, 1) := by decide +kernel
theorem dX10_maybe_0 : decode cX10_maybe 0 = .ok (.aload_n 0, 1) := by decide +kernel
theorem dX10_maybe_1 : decode cX10_maybe 1 = .ok (.iload_n 1, 1) := by decide +kernel
theorem dX10_maybe_2 : decode cX10_maybe 2 = .ok (.invokevirtual 69, 3) := by decide +kernel
theorem dX10_maybe_5 : decode cX10_maybe 5 = .ok (.ifCond .eq 11, 3) := by decide +kernel
theorem dX10_maybe_8 : decode cX10_maybe 8 = .ok (.aload_n 0, 1) := by decide +kernel
theorem dX10_maybe_9 : decode cX10_maybe 9 = .ok (.iload_n 1, 1) := by decide +kernel
theorem dX10_maybe_10 : decode cX10_maybe 10 = .ok (.invokevirtual 176, 3) := by decide +kernel
theorem dX10_maybe_13 : decode cX10_maybe 13 = .ok (.goto 4, 3) := by decide +kernel
theorem dX10_maybe_16 : decode cX10_maybe 16 = .ok (.iconst (-1), 1) := by decide +kernel
theorem dX10_maybe_17 : decode cX10_maybe 17 = .ok (.ireturn, 1) := by decide +kernel
theorem dX10_ways_0 : decode cX10_ways 0 = .ok (.lconst 1, 1) := by decide +kernel
theorem dX10_ways_1 : decode cX10_ways 1 = .ok (.lstore_n 1, 1) := by decide +kernel
theorem dX10_ways_2 : decode cX10_ways 2 = .ok (.iconst 0, 1) := by decide +kernel
theorem dX10_ways_3 : decode cX10_ways 3 = .ok (.istore_n 3, 1) := by decide +kernel
theorem dX10_ways_4 : decode cX10_ways 4 = .ok (.iload_n 3, 1) := by decide +kernel
theorem dX10_ways_5 : decode cX10_ways 5 = .ok (.aload_n 0, 1) := by decide +kernel
theorem dX10_ways_6 : decode cX10_ways 6 = .ok (.getfield 7, 3) := by decide +kernel
theorem dX10_ways_9 : decode cX10_ways 9 = .ok (.if_icmp .ge 21, 3) := by decide +kernel
theorem dX10_ways_12 : decode cX10_ways 12 = .ok (.lload_n 1, 1) := by decide +kernel
theorem dX10_ways_13 : decode cX10_ways 13 = .ok (.aload_n 0, 1) := by decide +kernel
theorem dX10_ways_14 : decode cX10_ways 14 = .ok (.iload_n 3, 1) := by decide +kernel
theorem dX10_ways_15 : decode cX10_ways 15 = .ok (.invokevirtual 176, 3) := by decide +kernel
theorem dX10_ways_18 : decode cX10_ways 18 = .ok (.invokestatic 161, 3) := by decide +kernel
theorem dX10_ways_21 : decode cX10_ways 21 = .ok (.i2l, 1) := by decide +kernel
theorem dX10_ways_22 : decode cX10_ways 22 = .ok (.lmul, 1) := by decide +kernel
theorem dX10_ways_23 : decode cX10_ways 23 = .ok (.lstore_n 1, 1) := by decide +kernel
theorem dX10_ways_24 : decode cX10_ways 24 = .ok (.iinc 3 1, 3) := by decide +kernel
theorem dX10_ways_27 : decode cX10_ways 27 = .ok (.goto (-23), 3) := by decide +kernel
theorem dX10_ways_30 : decode cX10_ways 30 = .ok (.lload_n 1, 1) := by decide +kernel
theorem dX10_ways_31 : decode cX10_ways 31 = .ok (.lreturn, 1) := by decide +kernel
theorem dX10_take_0 : decode cX10_take 0 = .ok (.aload_n 0, 1) := by decide +kernel
theorem dX10_take_1 : decode cX10_take 1 = .ok (.invokevirtual 179, 3) := by decide +kernel
theorem dX10_take_4 : decode cX10_take 4 = .ok (.lconst 0, 1) := by decide +kernel
theorem dX10_take_5 : decode cX10_take 5 = .ok (.lcmp, 1) := by decide +kernel
theorem dX10_take_6 : decode cX10_take 6 = .ok (.ifCond .ne 6, 3) := by decide +kernel
theorem dX10_take_9 : decode cX10_take 9 = .ok (.bipush (-3), 2) := by decide +kernel
theorem dX10_take_11 : decode cX10_take 11 = .ok (.ireturn, 1) := by decide +kernel
theorem dX10_take_12 : decode cX10_take 12 = .ok (.iconst 0, 1) := by decide +kernel
theorem dX10_take_13 : decode cX10_take 13 = .ok (.istore_n 1, 1) := by decide +kernel
theorem dX10_take_14 : decode cX10_take 14 = .ok (.iconst 0, 1) := by decide +kernel
theorem dX10_take_15 : decode cX10_take 15 = .ok (.istore_n 2, 1) := by decide +kernel
theorem dX10_take_16 : decode cX10_take 16 = .ok (.iload_n 2, 1) := by decide +kernel
theorem dX10_take_17 : decode cX10_take 17 = .ok (.aload_n 0, 1) := by decide +kernel
theorem dX10_take_18 : decode cX10_take 18 = .ok (.getfield 7, 3) := by decide +kernel
theorem dX10_take_21 : decode cX10_take 21 = .ok (.if_icmp .ge 60, 3) := by decide +kernel
theorem dX10_take_24 : decode cX10_take 24 = .ok (.aload_n 0, 1) := by decide +kernel
theorem dX10_take_25 : decode cX10_take 25 = .ok (.iload_n 2, 1) := by decide +kernel
theorem dX10_take_26 : decode cX10_take 26 = .ok (.invokevirtual 176, 3) := by decide +kernel
theorem dX10_take_29 : decode cX10_take 29 = .ok (.istore_n 3, 1) := by decide +kernel
theorem dX10_take_30 : decode cX10_take 30 = .ok (.iconst 0, 1) := by decide +kernel
theorem dX10_take_31 : decode cX10_take 31 = .ok (.istore 4, 2) := by decide +kernel
theorem dX10_take_33 : decode cX10_take 33 = .ok (.iload_n 3, 1) := by decide +kernel
theorem dX10_take_34 : decode cX10_take 34 = .ok (.iload 4, 2) := by decide +kernel
theorem dX10_take_36 : decode cX10_take 36 = .ok (.ishr, 1) := by decide +kernel
theorem dX10_take_37 : decode cX10_take 37 = .ok (.iconst 1, 1) := by decide +kernel
theorem dX10_take_38 : decode cX10_take 38 = .ok (.iand, 1) := by decide +kernel
theorem dX10_take_39 : decode cX10_take 39 = .ok (.ifCond .ne 9, 3) := by decide +kernel
theorem dX10_take_42 : decode cX10_take 42 = .ok (.iinc 4 1, 3) := by decide +kernel
theorem dX10_take_45 : decode cX10_take 45 = .ok (.goto (-12), 3) := by decide +kernel
theorem dX10_take_48 : decode cX10_take 48 = .ok (.iload_n 1, 1) := by decide +kernel
theorem dX10_take_49 : decode cX10_take 49 = .ok (.aload_n 0, 1) := by decide +kernel
theorem dX10_take_50 : decode cX10_take 50 = .ok (.getfield 17, 3) := by decide +kernel
theorem dX10_take_53 : decode cX10_take 53 = .ok (.iload_n 2, 1) := by decide +kernel
theorem dX10_take_54 : decode cX10_take 54 = .ok (.iaload, 1) := by decide +kernel
theorem dX10_take_55 : decode cX10_take 55 = .ok (.iload 4, 2) := by decide +kernel
theorem dX10_take_57 : decode cX10_take 57 = .ok (.if_icmp .ne 7, 3) := by decide +kernel
theorem dX10_take_60 : decode cX10_take 60 = .ok (.iconst 0, 1) := by decide +kernel
theorem dX10_take_61 : decode cX10_take 61 = .ok (.goto 4, 3) := by decide +kernel
theorem dX10_take_64 : decode cX10_take 64 = .ok (.iconst 1, 1) := by decide +kernel
theorem dX10_take_65 : decode cX10_take 65 = .ok (.iadd, 1) := by decide +kernel
theorem dX10_take_66 : decode cX10_take 66 = .ok (.istore_n 1, 1) := by decide +kernel
theorem dX10_take_67 : decode cX10_take 67 = .ok (.aload_n 0, 1) := by decide +kernel
theorem dX10_take_68 : decode cX10_take 68 = .ok (.getfield 17, 3) := by decide +kernel
theorem dX10_take_71 : decode cX10_take 71 = .ok (.iload_n 2, 1) := by decide +kernel
theorem dX10_take_72 : decode cX10_take 72 = .ok (.iload 4, 2) := by decide +kernel
theorem dX10_take_74 : decode cX10_take 74 = .ok (.iastore, 1) := by decide +kernel
theorem dX10_take_75 : decode cX10_take 75 = .ok (.iinc 2 1, 3) := by decide +kernel
theorem dX10_take_78 : decode cX10_take 78 = .ok (.goto (-62), 3) := by decide +kernel
theorem dX10_take_81 : decode cX10_take 81 = .ok (.iload_n 1, 1) := by decide +kernel
theorem dX10_take_82 : decode cX10_take 82 = .ok (.ireturn, 1) := by decide +kernel
theorem dX10_askedOf_0 : decode cX10_askedOf 0 = .ok (.iload_n 1, 1) := by decide +kernel
theorem dX10_askedOf_1 : decode cX10_askedOf 1 = .ok (.istore_n 3, 1) := by decide +kernel
theorem dX10_askedOf_2 : decode cX10_askedOf 2 = .ok (.iconst 0, 1) := by decide +kernel
theorem dX10_askedOf_3 : decode cX10_askedOf 3 = .ok (.istore 4, 2) := by decide +kernel
theorem dX10_askedOf_5 : decode cX10_askedOf 5 = .ok (.iconst 0, 1) := by decide +kernel
theorem dX10_askedOf_6 : decode cX10_askedOf 6 = .ok (.istore 5, 2) := by decide +kernel
theorem dX10_askedOf_8 : decode cX10_askedOf 8 = .ok (.iload 5, 2) := by decide +kernel
theorem dX10_askedOf_10 : decode cX10_askedOf 10 = .ok (.iload_n 2, 1) := by decide +kernel
theorem dX10_askedOf_11 : decode cX10_askedOf 11 = .ok (.if_icmp .ge 34, 3) := by decide +kernel
theorem dX10_askedOf_14 : decode cX10_askedOf 14 = .ok (.aload_n 0, 1) := by decide +kernel
theorem dX10_askedOf_15 : decode cX10_askedOf 15 = .ok (.getfield 23, 3) := by decide +kernel
theorem dX10_askedOf_18 : decode cX10_askedOf 18 = .ok (.iload_n 3, 1) := by decide +kernel
theorem dX10_askedOf_19 : decode cX10_askedOf 19 = .ok (.iaload, 1) := by decide +kernel
theorem dX10_askedOf_20 : decode cX10_askedOf 20 = .ok (.istore 6, 2) := by decide +kernel
theorem dX10_askedOf_22 : decode cX10_askedOf 22 = .ok (.iload 4, 2) := by decide +kernel
theorem dX10_askedOf_24 : decode cX10_askedOf 24 = .ok (.iload 6, 2) := by decide +kernel
theorem dX10_askedOf_26 : decode cX10_askedOf 26 = .ok (.iload_n 3, 1) := by decide +kernel
theorem dX10_askedOf_27 : decode cX10_askedOf 27 = .ok (.iconst (-1), 1) := by decide +kernel
theorem dX10_askedOf_28 : decode cX10_askedOf 28 = .ok (.ixor, 1) := by decide +kernel
theorem dX10_askedOf_29 : decode cX10_askedOf 29 = .ok (.iand, 1) := by decide +kernel
theorem dX10_askedOf_30 : decode cX10_askedOf 30 = .ok (.invokestatic 161, 3) := by decide +kernel
theorem dX10_askedOf_33 : decode cX10_askedOf 33 = .ok (.iadd, 1) := by decide +kernel
theorem dX10_askedOf_34 : decode cX10_askedOf 34 = .ok (.istore 4, 2) := by decide +kernel
theorem dX10_askedOf_36 : decode cX10_askedOf 36 = .ok (.iload 6, 2) := by decide +kernel
theorem dX10_askedOf_38 : decode cX10_askedOf 38 = .ok (.istore_n 3, 1) := by decide +kernel
theorem dX10_askedOf_39 : decode cX10_askedOf 39 = .ok (.iinc 5 1, 3) := by decide +kernel
theorem dX10_askedOf_42 : decode cX10_askedOf 42 = .ok (.goto (-34), 3) := by decide +kernel
theorem dX10_askedOf_45 : decode cX10_askedOf 45 = .ok (.iload 4, 2) := by decide +kernel
theorem dX10_askedOf_47 : decode cX10_askedOf 47 = .ok (.ireturn, 1) := by decide +kernel
theorem dX10_asked_0 : decode cX10_asked 0 = .ok (.aload_n 0, 1) := by decide +kernel
theorem dX10_asked_1 : decode cX10_asked 1 = .ok (.iload_n 1, 1) := by decide +kernel
theorem dX10_asked_2 : decode cX10_asked 2 = .ok (.invokevirtual 90, 3) := by decide +kernel
theorem dX10_asked_5 : decode cX10_asked 5 = .ok (.ifCond .eq 22, 3) := by decide +kernel
theorem dX10_asked_8 : decode cX10_asked 8 = .ok (.iload_n 2, 1) := by decide +kernel
theorem dX10_asked_9 : decode cX10_asked 9 = .ok (.invokestatic 97, 3) := by decide +kernel
theorem dX10_asked_12 : decode cX10_asked 12 = .ok (.ifCond .eq 15, 3) := by decide +kernel
theorem dX10_asked_15 : decode cX10_asked 15 = .ok (.iload_n 3, 1) := by decide +kernel
theorem dX10_asked_16 : decode cX10_asked 16 = .ok (.i2l, 1) := by decide +kernel
theorem dX10_asked_17 : decode cX10_asked 17 = .ok (.lconst 1, 1) := by decide +kernel
theorem dX10_asked_18 : decode cX10_asked 18 = .ok (.ldc2_w 183, 3) := by decide +kernel
theorem dX10_asked_21 : decode cX10_asked 21 = .ok (.invokestatic 60, 3) := by decide +kernel
theorem dX10_asked_24 : decode cX10_asked 24 = .ok (.ifCond .ne 6, 3) := by decide +kernel
theorem dX10_asked_27 : decode cX10_asked 27 = .ok (.bipush (-2), 2) := by decide +kernel
theorem dX10_asked_29 : decode cX10_asked 29 = .ok (.ireturn, 1) := by decide +kernel
theorem dX10_asked_30 : decode cX10_asked 30 = .ok (.aload_n 0, 1) := by decide +kernel
theorem dX10_asked_31 : decode cX10_asked 31 = .ok (.iload_n 2, 1) := by decide +kernel
theorem dX10_asked_32 : decode cX10_asked 32 = .ok (.invokevirtual 120, 3) := by decide +kernel
theorem dX10_asked_35 : decode cX10_asked 35 = .ok (.aload_n 0, 1) := by decide +kernel
theorem dX10_asked_36 : decode cX10_asked 36 = .ok (.iload_n 1, 1) := by decide +kernel
theorem dX10_asked_37 : decode cX10_asked 37 = .ok (.iload_n 3, 1) := by decide +kernel
theorem dX10_asked_38 : decode cX10_asked 38 = .ok (.invokevirtual 185, 3) := by decide +kernel
theorem dX10_asked_41 : decode cX10_asked 41 = .ok (.ireturn, 1) := by decide +kernel
theorem dX10_layAsks_0 : decode cX10_layAsks 0 = .ok (.aload_n 0, 1) := by decide +kernel
theorem dX10_layAsks_1 : decode cX10_layAsks 1 = .ok (.iload_n 1, 1) := by decide +kernel
theorem dX10_layAsks_2 : decode cX10_layAsks 2 = .ok (.invokevirtual 120, 3) := by decide +kernel
theorem dX10_layAsks_5 : decode cX10_layAsks 5 = .ok (.iconst 0, 1) := by decide +kernel
theorem dX10_layAsks_6 : decode cX10_layAsks 6 = .ok (.istore_n 3, 1) := by decide +kernel
theorem dX10_layAsks_7 : decode cX10_layAsks 7 = .ok (.iload_n 3, 1) := by decide +kernel
theorem dX10_layAsks_8 : decode cX10_layAsks 8 = .ok (.aload_n 0, 1) := by decide +kernel
theorem dX10_layAsks_9 : decode cX10_layAsks 9 = .ok (.invokevirtual 105, 3) := by decide +kernel
theorem dX10_layAsks_12 : decode cX10_layAsks 12 = .ok (.if_icmp .gt 21, 3) := by decide +kernel
theorem dX10_layAsks_15 : decode cX10_layAsks 15 = .ok (.aload_n 0, 1) := by decide +kernel
theorem dX10_layAsks_16 : decode cX10_layAsks 16 = .ok (.getfield 57, 3) := by decide +kernel
theorem dX10_layAsks_19 : decode cX10_layAsks 19 = .ok (.iload_n 3, 1) := by decide +kernel
theorem dX10_layAsks_20 : decode cX10_layAsks 20 = .ok (.aload_n 0, 1) := by decide +kernel
theorem dX10_layAsks_21 : decode cX10_layAsks 21 = .ok (.iload_n 3, 1) := by decide +kernel
theorem dX10_layAsks_22 : decode cX10_layAsks 22 = .ok (.iload_n 2, 1) := by decide +kernel
theorem dX10_layAsks_23 : decode cX10_layAsks 23 = .ok (.invokevirtual 185, 3) := by decide +kernel
theorem dX10_layAsks_26 : decode cX10_layAsks 26 = .ok (.iastore, 1) := by decide +kernel
theorem dX10_layAsks_27 : decode cX10_layAsks 27 = .ok (.iinc 3 1, 3) := by decide +kernel
theorem dX10_layAsks_30 : decode cX10_layAsks 30 = .ok (.goto (-23), 3) := by decide +kernel
theorem dX10_layAsks_33 : decode cX10_layAsks 33 = .ok (.return_, 1) := by decide +kernel
theorem dX10_gainOf_0 : decode cX10_gainOf 0 = .ok (.iconst 0, 1) := by decide +kernel
theorem dX10_gainOf_1 : decode cX10_gainOf 1 = .ok (.istore 4, 2) := by decide +kernel
theorem dX10_gainOf_3 : decode cX10_gainOf 3 = .ok (.iconst 0, 1) := by decide +kernel
theorem dX10_gainOf_4 : decode cX10_gainOf 4 = .ok (.istore 5, 2) := by decide +kernel
theorem dX10_gainOf_6 : decode cX10_gainOf 6 = .ok (.iload 5, 2) := by decide +kernel
theorem dX10_gainOf_8 : decode cX10_gainOf 8 = .ok (.aload_n 0, 1) := by decide +kernel
theorem dX10_gainOf_9 : decode cX10_gainOf 9 = .ok (.invokevirtual 105, 3) := by decide +kernel
theorem dX10_gainOf_12 : decode cX10_gainOf 12 = .ok (.if_icmp .gt 42, 3) := by decide +kernel
theorem dX10_gainOf_15 : decode cX10_gainOf 15 = .ok (.iload 4, 2) := by decide +kernel
theorem dX10_gainOf_17 : decode cX10_gainOf 17 = .ok (.iload_n 3, 1) := by decide +kernel
theorem dX10_gainOf_18 : decode cX10_gainOf 18 = .ok (.aload_n 0, 1) := by decide +kernel
theorem dX10_gainOf_19 : decode cX10_gainOf 19 = .ok (.getfield 57, 3) := by decide +kernel
theorem dX10_gainOf_22 : decode cX10_gainOf 22 = .ok (.iload 5, 2) := by decide +kernel
theorem dX10_gainOf_24 : decode cX10_gainOf 24 = .ok (.iaload, 1) := by decide +kernel
theorem dX10_gainOf_25 : decode cX10_gainOf 25 = .ok (.iload_n 1, 1) := by decide +kernel
theorem dX10_gainOf_26 : decode cX10_gainOf 26 = .ok (.if_icmp .ge 13, 3) := by decide +kernel
theorem dX10_gainOf_29 : decode cX10_gainOf 29 = .ok (.aload_n 0, 1) := by decide +kernel
theorem dX10_gainOf_30 : decode cX10_gainOf 30 = .ok (.getfield 57, 3) := by decide +kernel
theorem dX10_gainOf_33 : decode cX10_gainOf 33 = .ok (.iload 5, 2) := by decide +kernel
theorem dX10_gainOf_35 : decode cX10_gainOf 35 = .ok (.iaload, 1) := by decide +kernel
theorem dX10_gainOf_36 : decode cX10_gainOf 36 = .ok (.goto 4, 3) := by decide +kernel
theorem dX10_gainOf_39 : decode cX10_gainOf 39 = .ok (.iload_n 1, 1) := by decide +kernel
theorem dX10_gainOf_40 : decode cX10_gainOf 40 = .ok (.imul, 1) := by decide +kernel
theorem dX10_gainOf_41 : decode cX10_gainOf 41 = .ok (.iload_n 2, 1) := by decide +kernel
theorem dX10_gainOf_42 : decode cX10_gainOf 42 = .ok (.iload_n 1, 1) := by decide +kernel
theorem dX10_gainOf_43 : decode cX10_gainOf 43 = .ok (.imul, 1) := by decide +kernel
theorem dX10_gainOf_44 : decode cX10_gainOf 44 = .ok (.isub, 1) := by decide +kernel
theorem dX10_gainOf_45 : decode cX10_gainOf 45 = .ok (.iadd, 1) := by decide +kernel
theorem dX10_gainOf_46 : decode cX10_gainOf 46 = .ok (.istore 4, 2) := by decide +kernel
theorem dX10_gainOf_48 : decode cX10_gainOf 48 = .ok (.iinc 5 1, 3) := by decide +kernel
theorem dX10_gainOf_51 : decode cX10_gainOf 51 = .ok (.goto (-45), 3) := by decide +kernel
theorem dX10_gainOf_54 : decode cX10_gainOf 54 = .ok (.iload 4, 2) := by decide +kernel
theorem dX10_gainOf_56 : decode cX10_gainOf 56 = .ok (.ireturn, 1) := by decide +kernel
theorem dX10_isShop_0 : decode cX10_isShop 0 = .ok (.iload_n 0, 1) := by decide +kernel
theorem dX10_isShop_1 : decode cX10_isShop 1 = .ok (.invokestatic 97, 3) := by decide +kernel
theorem dX10_isShop_4 : decode cX10_isShop 4 = .ok (.ifCond .eq 43, 3) := by decide +kernel
theorem dX10_isShop_7 : decode cX10_isShop 7 = .ok (.iload_n 1, 1) := by decide +kernel
theorem dX10_isShop_8 : decode cX10_isShop 8 = .ok (.i2l, 1) := by decide +kernel
theorem dX10_isShop_9 : decode cX10_isShop 9 = .ok (.lconst 1, 1) := by decide +kernel
theorem dX10_isShop_10 : decode cX10_isShop 10 = .ok (.ldc2_w 183, 3) := by decide +kernel
theorem dX10_isShop_13 : decode cX10_isShop 13 = .ok (.invokestatic 60, 3) := by decide +kernel
theorem dX10_isShop_16 : decode cX10_isShop 16 = .ok (.ifCond .eq 31, 3) := by decide +kernel
theorem dX10_isShop_19 : decode cX10_isShop 19 = .ok (.iload_n 2, 1) := by decide +kernel
theorem dX10_isShop_20 : decode cX10_isShop 20 = .ok (.i2l, 1) := by decide +kernel
theorem dX10_isShop_21 : decode cX10_isShop 21 = .ok (.lconst 1, 1) := by decide +kernel
theorem dX10_isShop_22 : decode cX10_isShop 22 = .ok (.ldc2_w 188, 3) := by decide +kernel
theorem dX10_isShop_25 : decode cX10_isShop 25 = .ok (.invokestatic 60, 3) := by decide +kernel
theorem dX10_isShop_28 : decode cX10_isShop 28 = .ok (.ifCond .eq 19, 3) := by decide +kernel
theorem dX10_isShop_31 : decode cX10_isShop 31 = .ok (.iload_n 3, 1) := by decide +kernel
theorem dX10_isShop_32 : decode cX10_isShop 32 = .ok (.i2l, 1) := by decide +kernel
theorem dX10_isShop_33 : decode cX10_isShop 33 = .ok (.lconst 1, 1) := by decide +kernel
theorem dX10_isShop_34 : decode cX10_isShop 34 = .ok (.ldc2_w 188, 3) := by decide +kernel
theorem dX10_isShop_37 : decode cX10_isShop 37 = .ok (.invokestatic 60, 3) := by decide +kernel
theorem dX10_isShop_40 : decode cX10_isShop 40 = .ok (.ifCond .eq 7, 3) := by decide +kernel
theorem dX10_isShop_43 : decode cX10_isShop 43 = .ok (.iconst 1, 1) := by decide +kernel
theorem dX10_isShop_44 : decode cX10_isShop 44 = .ok (.goto 4, 3) := by decide +kernel
theorem dX10_isShop_47 : decode cX10_isShop 47 = .ok (.iconst 0, 1) := by decide +kernel
theorem dX10_isShop_48 : decode cX10_isShop 48 = .ok (.ireturn, 1) := by decide +kernel
theorem dX10_gain_0 : decode cX10_gain 0 = .ok (.iload_n 1, 1) := by decide +kernel
theorem dX10_gain_1 : decode cX10_gain 1 = .ok (.iload_n 2, 1) := by decide +kernel
theorem dX10_gain_2 : decode cX10_gain 2 = .ok (.iload 4, 2) := by decide +kernel
theorem dX10_gain_4 : decode cX10_gain 4 = .ok (.iload 5, 2) := by decide +kernel
theorem dX10_gain_6 : decode cX10_gain 6 = .ok (.invokestatic 190, 3) := by decide +kernel
theorem dX10_gain_9 : decode cX10_gain 9 = .ok (.ifCond .eq 15, 3) := by decide +kernel
theorem dX10_gain_12 : decode cX10_gain 12 = .ok (.iload_n 3, 1) := by decide +kernel
theorem dX10_gain_13 : decode cX10_gain 13 = .ok (.i2l, 1) := by decide +kernel
theorem dX10_gain_14 : decode cX10_gain 14 = .ok (.lconst 0, 1) := by decide +kernel
theorem dX10_gain_15 : decode cX10_gain 15 = .ok (.ldc2_w 194, 3) := by decide +kernel
theorem dX10_gain_18 : decode cX10_gain 18 = .ok (.invokestatic 60, 3) := by decide +kernel
theorem dX10_gain_21 : decode cX10_gain 21 = .ok (.ifCond .ne 6, 3) := by decide +kernel
theorem dX10_gain_24 : decode cX10_gain 24 = .ok (.bipush (-2), 2) := by decide +kernel
theorem dX10_gain_26 : decode cX10_gain 26 = .ok (.ireturn, 1) := by decide +kernel
theorem dX10_gain_27 : decode cX10_gain 27 = .ok (.aload_n 0, 1) := by decide +kernel
theorem dX10_gain_28 : decode cX10_gain 28 = .ok (.iload_n 1, 1) := by decide +kernel
theorem dX10_gain_29 : decode cX10_gain 29 = .ok (.iload_n 2, 1) := by decide +kernel
theorem dX10_gain_30 : decode cX10_gain 30 = .ok (.invokevirtual 196, 3) := by decide +kernel
theorem dX10_gain_33 : decode cX10_gain 33 = .ok (.aload_n 0, 1) := by decide +kernel
theorem dX10_gain_34 : decode cX10_gain 34 = .ok (.iload_n 3, 1) := by decide +kernel
theorem dX10_gain_35 : decode cX10_gain 35 = .ok (.iload 4, 2) := by decide +kernel
theorem dX10_gain_37 : decode cX10_gain 37 = .ok (.iload 5, 2) := by decide +kernel
theorem dX10_gain_39 : decode cX10_gain 39 = .ok (.invokevirtual 200, 3) := by decide +kernel
theorem dX10_gain_42 : decode cX10_gain 42 = .ok (.ireturn, 1) := by decide +kernel
theorem dX10_order_0 : decode cX10_order 0 = .ok (.iload_n 1, 1) := by decide +kernel
theorem dX10_order_1 : decode cX10_order 1 = .ok (.iload_n 2, 1) := by decide +kernel
theorem dX10_order_2 : decode cX10_order 2 = .ok (.iload_n 3, 1) := by decide +kernel
theorem dX10_order_3 : decode cX10_order 3 = .ok (.iload 4, 2) := by decide +kernel
theorem dX10_order_5 : decode cX10_order 5 = .ok (.invokestatic 190, 3) := by decide +kernel
theorem dX10_order_8 : decode cX10_order 8 = .ok (.ifCond .ne 6, 3) := by decide +kernel
theorem dX10_order_11 : decode cX10_order 11 = .ok (.bipush (-2), 2) := by decide +kernel
theorem dX10_order_13 : decode cX10_order 13 = .ok (.ireturn, 1) := by decide +kernel
theorem dX10_order_14 : decode cX10_order 14 = .ok (.aload_n 0, 1) := by decide +kernel
theorem dX10_order_15 : decode cX10_order 15 = .ok (.iload_n 1, 1) := by decide +kernel
theorem dX10_order_16 : decode cX10_order 16 = .ok (.iload_n 2, 1) := by decide +kernel
theorem dX10_order_17 : decode cX10_order 17 = .ok (.invokevirtual 196, 3) := by decide +kernel
theorem dX10_order_20 : decode cX10_order 20 = .ok (.iconst 0, 1) := by decide +kernel
theorem dX10_order_21 : decode cX10_order 21 = .ok (.istore 5, 2) := by decide +kernel
theorem dX10_order_23 : decode cX10_order 23 = .ok (.iconst 0, 1) := by decide +kernel
theorem dX10_order_24 : decode cX10_order 24 = .ok (.istore 6, 2) := by decide +kernel
theorem dX10_order_26 : decode cX10_order 26 = .ok (.iconst 1, 1) := by decide +kernel
theorem dX10_order_27 : decode cX10_order 27 = .ok (.istore 7, 2) := by decide +kernel
theorem dX10_order_29 : decode cX10_order 29 = .ok (.iload 7, 2) := by decide +kernel
theorem dX10_order_31 : decode cX10_order 31 = .ok (.sipush 501, 3) := by decide +kernel
theorem dX10_order_34 : decode cX10_order 34 = .ok (.if_icmp .ge 52, 3) := by decide +kernel
theorem dX10_order_37 : decode cX10_order 37 = .ok (.aload_n 0, 1) := by decide +kernel
theorem dX10_order_38 : decode cX10_order 38 = .ok (.iload 7, 2) := by decide +kernel
theorem dX10_order_40 : decode cX10_order 40 = .ok (.iload_n 3, 1) := by decide +kernel
theorem dX10_order_41 : decode cX10_order 41 = .ok (.iload 4, 2) := by decide +kernel
theorem dX10_order_43 : decode cX10_order 43 = .ok (.invokevirtual 200, 3) := by decide +kernel
theorem dX10_order_46 : decode cX10_order 46 = .ok (.istore 8, 2) := by decide +kernel
theorem dX10_order_48 : decode cX10_order 48 = .ok (.iload 8, 2) := by decide +kernel
theorem dX10_order_50 : decode cX10_order 50 = .ok (.iload 6, 2) := by decide +kernel
theorem dX10_order_52 : decode cX10_order 52 = .ok (.if_icmp .le 8, 3) := by decide +kernel
theorem dX10_order_55 : decode cX10_order 55 = .ok (.iload 7, 2) := by decide +kernel
theorem dX10_order_57 : decode cX10_order 57 = .ok (.goto 5, 3) := by decide +kernel
theorem dX10_order_60 : decode cX10_order 60 = .ok (.iload 5, 2) := by decide +kernel
theorem dX10_order_62 : decode cX10_order 62 = .ok (.istore 5, 2) := by decide +kernel
theorem dX10_order_64 : decode cX10_order 64 = .ok (.iload 8, 2) := by decide +kernel
theorem dX10_order_66 : decode cX10_order 66 = .ok (.iload 6, 2) := by decide +kernel
theorem dX10_order_68 : decode cX10_order 68 = .ok (.if_icmp .le 8, 3) := by decide +kernel
theorem dX10_order_71 : decode cX10_order 71 = .ok (.iload 8, 2) := by decide +kernel
theorem dX10_order_73 : decode cX10_order 73 = .ok (.goto 5, 3) := by decide +kernel
theorem dX10_order_76 : decode cX10_order 76 = .ok (.iload 6, 2) := by decide +kernel
theorem dX10_order_78 : decode cX10_order 78 = .ok (.istore 6, 2) := by decide +kernel
theorem dX10_order_80 : decode cX10_order 80 = .ok (.iinc 7 1, 3) := by decide +kernel
theorem dX10_order_83 : decode cX10_order 83 = .ok (.goto (-54), 3) := by decide +kernel
theorem dX10_order_86 : decode cX10_order 86 = .ok (.iload 5, 2) := by decide +kernel
theorem dX10_order_88 : decode cX10_order 88 = .ok (.ireturn, 1) := by decide +kernel
theorem dX10_count_0 : decode cX10_count 0 = .ok (.iconst 0, 1) := by decide +kernel
theorem dX10_count_1 : decode cX10_count 1 = .ok (.istore_n 2, 1) := by decide +kernel
theorem dX10_count_2 : decode cX10_count 2 = .ok (.iconst 0, 1) := by decide +kernel
theorem dX10_count_3 : decode cX10_count 3 = .ok (.istore_n 3, 1) := by decide +kernel
theorem dX10_count_4 : decode cX10_count 4 = .ok (.iconst 0, 1) := by decide +kernel
theorem dX10_count_5 : decode cX10_count 5 = .ok (.istore 4, 2) := by decide +kernel
theorem dX10_count_7 : decode cX10_count 7 = .ok (.iconst 0, 1) := by decide +kernel
theorem dX10_count_8 : decode cX10_count 8 = .ok (.istore 5, 2) := by decide +kernel
theorem dX10_count_10 : decode cX10_count 10 = .ok (.iload 5, 2) := by decide +kernel
theorem dX10_count_12 : decode cX10_count 12 = .ok (.bipush 100, 2) := by decide +kernel
theorem dX10_count_14 : decode cX10_count 14 = .ok (.if_icmp .ge 27, 3) := by decide +kernel
theorem dX10_count_17 : decode cX10_count 17 = .ok (.iload_n 2, 1) := by decide +kernel
theorem dX10_count_18 : decode cX10_count 18 = .ok (.aload_n 0, 1) := by decide +kernel
theorem dX10_count_19 : decode cX10_count 19 = .ok (.getfield 13, 3) := by decide +kernel
theorem dX10_count_22 : decode cX10_count 22 = .ok (.iload 5, 2) := by decide +kernel
theorem dX10_count_24 : decode cX10_count 24 = .ok (.iaload, 1) := by decide +kernel
theorem dX10_count_25 : decode cX10_count 25 = .ok (.ifCond .le 7, 3) := by decide +kernel
theorem dX10_count_28 : decode cX10_count 28 = .ok (.iconst 1, 1) := by decide +kernel
theorem dX10_count_29 : decode cX10_count 29 = .ok (.goto 4, 3) := by decide +kernel
theorem dX10_count_32 : decode cX10_count 32 = .ok (.iconst 0, 1) := by decide +kernel
theorem dX10_count_33 : decode cX10_count 33 = .ok (.iadd, 1) := by decide +kernel
theorem dX10_count_34 : decode cX10_count 34 = .ok (.istore_n 2, 1) := by decide +kernel
theorem dX10_count_35 : decode cX10_count 35 = .ok (.iinc 5 1, 3) := by decide +kernel
theorem dX10_count_38 : decode cX10_count 38 = .ok (.goto (-28), 3) := by decide +kernel
theorem dX10_count_41 : decode cX10_count 41 = .ok (.iconst 0, 1) := by decide +kernel
theorem dX10_count_42 : decode cX10_count 42 = .ok (.istore 5, 2) := by decide +kernel
theorem dX10_count_44 : decode cX10_count 44 = .ok (.iload 5, 2) := by decide +kernel
theorem dX10_count_46 : decode cX10_count 46 = .ok (.aload_n 0, 1) := by decide +kernel
theorem dX10_count_47 : decode cX10_count 47 = .ok (.getfield 7, 3) := by decide +kernel
theorem dX10_count_50 : decode cX10_count 50 = .ok (.if_icmp .ge 48, 3) := by decide +kernel
theorem dX10_count_53 : decode cX10_count 53 = .ok (.iload_n 3, 1) := by decide +kernel
theorem dX10_count_54 : decode cX10_count 54 = .ok (.aload_n 0, 1) := by decide +kernel
theorem dX10_count_55 : decode cX10_count 55 = .ok (.getfield 17, 3) := by decide +kernel
theorem dX10_count_58 : decode cX10_count 58 = .ok (.iload 5, 2) := by decide +kernel
theorem dX10_count_60 : decode cX10_count 60 = .ok (.iaload, 1) := by decide +kernel
theorem dX10_count_61 : decode cX10_count 61 = .ok (.ifCond .ne 7, 3) := by decide +kernel
theorem dX10_count_64 : decode cX10_count 64 = .ok (.iconst 1, 1) := by decide +kernel
theorem dX10_count_65 : decode cX10_count 65 = .ok (.goto 4, 3) := by decide +kernel
theorem dX10_count_68 : decode cX10_count 68 = .ok (.iconst 0, 1) := by decide +kernel
theorem dX10_count_69 : decode cX10_count 69 = .ok (.iadd, 1) := by decide +kernel
theorem dX10_count_70 : decode cX10_count 70 = .ok (.istore_n 3, 1) := by decide +kernel
theorem dX10_count_71 : decode cX10_count 71 = .ok (.iload 4, 2) := by decide +kernel
theorem dX10_count_73 : decode cX10_count 73 = .ok (.aload_n 0, 1) := by decide +kernel
theorem dX10_count_74 : decode cX10_count 74 = .ok (.getfield 17, 3) := by decide +kernel
theorem dX10_count_77 : decode cX10_count 77 = .ok (.iload 5, 2) := by decide +kernel
theorem dX10_count_79 : decode cX10_count 79 = .ok (.iaload, 1) := by decide +kernel
theorem dX10_count_80 : decode cX10_count 80 = .ok (.iconst 1, 1) := by decide +kernel
theorem dX10_count_81 : decode cX10_count 81 = .ok (.if_icmp .ne 7, 3) := by decide +kernel
theorem dX10_count_84 : decode cX10_count 84 = .ok (.iconst 1, 1) := by decide +kernel
theorem dX10_count_85 : decode cX10_count 85 = .ok (.goto 4, 3) := by decide +kernel
theorem dX10_count_88 : decode cX10_count 88 = .ok (.iconst 0, 1) := by decide +kernel
theorem dX10_count_89 : decode cX10_count 89 = .ok (.iadd, 1) := by decide +kernel
theorem dX10_count_90 : decode cX10_count 90 = .ok (.istore 4, 2) := by decide +kernel
theorem dX10_count_92 : decode cX10_count 92 = .ok (.iinc 5 1, 3) := by decide +kernel
theorem dX10_count_95 : decode cX10_count 95 = .ok (.goto (-51), 3) := by decide +kernel
theorem dX10_count_98 : decode cX10_count 98 = .ok (.iload_n 1, 1) := by decide +kernel
theorem dX10_count_99 : decode cX10_count 99 = .ok (.tableswitch 50 0 4 #[33, 38, 40, 45, 47], 33) := by decide +kernel
theorem dX10_count_132 : decode cX10_count 132 = .ok (.aload_n 0, 1) := by decide +kernel
theorem dX10_count_133 : decode cX10_count 133 = .ok (.getfield 7, 3) := by decide +kernel
theorem dX10_count_136 : decode cX10_count 136 = .ok (.ireturn, 1) := by decide +kernel
theorem dX10_count_137 : decode cX10_count 137 = .ok (.iload_n 2, 1) := by decide +kernel
theorem dX10_count_138 : decode cX10_count 138 = .ok (.ireturn, 1) := by decide +kernel
theorem dX10_count_139 : decode cX10_count 139 = .ok (.aload_n 0, 1) := by decide +kernel
theorem dX10_count_140 : decode cX10_count 140 = .ok (.getfield 66, 3) := by decide +kernel
theorem dX10_count_143 : decode cX10_count 143 = .ok (.ireturn, 1) := by decide +kernel
theorem dX10_count_144 : decode cX10_count 144 = .ok (.iload_n 3, 1) := by decide +kernel
theorem dX10_count_145 : decode cX10_count 145 = .ok (.ireturn, 1) := by decide +kernel
theorem dX10_count_146 : decode cX10_count 146 = .ok (.iload 4, 2) := by decide +kernel
theorem dX10_count_148 : decode cX10_count 148 = .ok (.ireturn, 1) := by decide +kernel
theorem dX10_count_149 : decode cX10_count 149 = .ok (.bipush (-2), 2) := by decide +kernel
theorem dX10_count_151 : decode cX10_count 151 = .ok (.ireturn, 1) := by decide +kernel
