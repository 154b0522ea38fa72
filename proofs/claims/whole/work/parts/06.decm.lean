theorem dX7_init_0 : decode cX7_init 0 = .ok (.aload_n 0, 1) := by decide +kernel
theorem dX7_init_1 : decode cX7_init 1 = .ok (.invokespecial 1, 3) := by decide +kernel
theorem dX7_init_4 : decode cX7_init 4 = .ok (.aload_n 0, 1) := by decide +kernel
theorem dX7_init_5 : decode cX7_init 5 = .ok (.bipush 8, 2) := by decide +kernel
theorem dX7_init_7 : decode cX7_init 7 = .ok (.newarray .int, 2) := by decide +kernel
theorem dX7_init_9 : decode cX7_init 9 = .ok (.putfield 7, 3) := by decide +kernel
theorem dX7_init_12 : decode cX7_init 12 = .ok (.aload_n 0, 1) := by decide +kernel
theorem dX7_init_13 : decode cX7_init 13 = .ok (.bipush 8, 2) := by decide +kernel
theorem dX7_init_15 : decode cX7_init 15 = .ok (.newarray .int, 2) := by decide +kernel
theorem dX7_init_17 : decode cX7_init 17 = .ok (.putfield 13, 3) := by decide +kernel
theorem dX7_init_20 : decode cX7_init 20 = .ok (.aload_n 0, 1) := by decide +kernel
theorem dX7_init_21 : decode cX7_init 21 = .ok (.sipush 320, 3) := by decide +kernel
theorem dX7_init_24 : decode cX7_init 24 = .ok (.newarray .int, 2) := by decide +kernel
theorem dX7_init_26 : decode cX7_init 26 = .ok (.putfield 16, 3) := by decide +kernel
theorem dX7_init_29 : decode cX7_init 29 = .ok (.aload_n 0, 1) := by decide +kernel
theorem dX7_init_30 : decode cX7_init 30 = .ok (.bipush 40, 2) := by decide +kernel
theorem dX7_init_32 : decode cX7_init 32 = .ok (.newarray .int, 2) := by decide +kernel
theorem dX7_init_34 : decode cX7_init 34 = .ok (.putfield 19, 3) := by decide +kernel
theorem dX7_init_37 : decode cX7_init 37 = .ok (.aload_n 0, 1) := by decide +kernel
theorem dX7_init_38 : decode cX7_init 38 = .ok (.sipush 140, 3) := by decide +kernel
theorem dX7_init_41 : decode cX7_init 41 = .ok (.newarray .int, 2) := by decide +kernel
theorem dX7_init_43 : decode cX7_init 43 = .ok (.putfield 22, 3) := by decide +kernel
theorem dX7_init_46 : decode cX7_init 46 = .ok (.aload_n 0, 1) := by decide +kernel
theorem dX7_init_47 : decode cX7_init 47 = .ok (.bipush 48, 2) := by decide +kernel
theorem dX7_init_49 : decode cX7_init 49 = .ok (.newarray .int, 2) := by decide +kernel
theorem dX7_init_51 : decode cX7_init 51 = .ok (.putfield 25, 3) := by decide +kernel
theorem dX7_init_54 : decode cX7_init 54 = .ok (.aload_n 0, 1) := by decide +kernel
theorem dX7_init_55 : decode cX7_init 55 = .ok (.bipush 48, 2) := by decide +kernel
theorem dX7_init_57 : decode cX7_init 57 = .ok (.newarray .int, 2) := by decide +kernel
theorem dX7_init_59 : decode cX7_init 59 = .ok (.putfield 28, 3) := by decide +kernel
theorem dX7_init_62 : decode cX7_init 62 = .ok (.aload_n 0, 1) := by decide +kernel
theorem dX7_init_63 : decode cX7_init 63 = .ok (.sipush 1152, 3) := by decide +kernel
theorem dX7_init_66 : decode cX7_init 66 = .ok (.newarray .int, 2) := by decide +kernel
theorem dX7_init_68 : decode cX7_init 68 = .ok (.putfield 31, 3) := by decide +kernel
theorem dX7_init_71 : decode cX7_init 71 = .ok (.aload_n 0, 1) := by decide +kernel
theorem dX7_init_72 : decode cX7_init 72 = .ok (.bipush 96, 2) := by decide +kernel
theorem dX7_init_74 : decode cX7_init 74 = .ok (.newarray .int, 2) := by decide +kernel
theorem dX7_init_76 : decode cX7_init 76 = .ok (.putfield 34, 3) := by decide +kernel
theorem dX7_init_79 : decode cX7_init 79 = .ok (.aload_n 0, 1) := by decide +kernel
theorem dX7_init_80 : decode cX7_init 80 = .ok (.iconst 2, 1) := by decide +kernel
theorem dX7_init_81 : decode cX7_init 81 = .ok (.newarray .boolean, 2) := by decide +kernel
theorem dX7_init_83 : decode cX7_init 83 = .ok (.putfield 37, 3) := by decide +kernel
theorem dX7_init_86 : decode cX7_init 86 = .ok (.aload_n 0, 1) := by decide +kernel
theorem dX7_init_87 : decode cX7_init 87 = .ok (.bipush 48, 2) := by decide +kernel
theorem dX7_init_89 : decode cX7_init 89 = .ok (.newarray .int, 2) := by decide +kernel
theorem dX7_init_91 : decode cX7_init 91 = .ok (.putfield 41, 3) := by decide +kernel
theorem dX7_init_94 : decode cX7_init 94 = .ok (.aload_n 0, 1) := by decide +kernel
theorem dX7_init_95 : decode cX7_init 95 = .ok (.bipush 16, 2) := by decide +kernel
theorem dX7_init_97 : decode cX7_init 97 = .ok (.newarray .int, 2) := by decide +kernel
theorem dX7_init_99 : decode cX7_init 99 = .ok (.putfield 44, 3) := by decide +kernel
theorem dX7_init_102 : decode cX7_init 102 = .ok (.iconst 0, 1) := by decide +kernel
theorem dX7_init_103 : decode cX7_init 103 = .ok (.istore_n 1, 1) := by decide +kernel
theorem dX7_init_104 : decode cX7_init 104 = .ok (.iload_n 1, 1) := by decide +kernel
theorem dX7_init_105 : decode cX7_init 105 = .ok (.bipush 8, 2) := by decide +kernel
theorem dX7_init_107 : decode cX7_init 107 = .ok (.if_icmp .ge 17, 3) := by decide +kernel
theorem dX7_init_110 : decode cX7_init 110 = .ok (.aload_n 0, 1) := by decide +kernel
theorem dX7_init_111 : decode cX7_init 111 = .ok (.getfield 7, 3) := by decide +kernel
theorem dX7_init_114 : decode cX7_init 114 = .ok (.iload_n 1, 1) := by decide +kernel
theorem dX7_init_115 : decode cX7_init 115 = .ok (.ldc 47, 2) := by decide +kernel
theorem dX7_init_117 : decode cX7_init 117 = .ok (.iastore, 1) := by decide +kernel
theorem dX7_init_118 : decode cX7_init 118 = .ok (.iinc 1 1, 3) := by decide +kernel
theorem dX7_init_121 : decode cX7_init 121 = .ok (.goto (-17), 3) := by decide +kernel
theorem dX7_init_124 : decode cX7_init 124 = .ok (.return_, 1) := by decide +kernel
theorem dX7_in_0 : decode cX7_in 0 = .ok (.iload_n 0, 1) := by decide +kernel
theorem dX7_in_1 : decode cX7_in 1 = .ok (.iload_n 1, 1) := by decide +kernel
theorem dX7_in_2 : decode cX7_in 2 = .ok (.if_icmp .lt 12, 3) := by decide +kernel
theorem dX7_in_5 : decode cX7_in 5 = .ok (.iload_n 0, 1) := by decide +kernel
theorem dX7_in_6 : decode cX7_in 6 = .ok (.iload_n 2, 1) := by decide +kernel
theorem dX7_in_7 : decode cX7_in 7 = .ok (.if_icmp .gt 7, 3) := by decide +kernel
theorem dX7_in_10 : decode cX7_in 10 = .ok (.iconst 1, 1) := by decide +kernel
theorem dX7_in_11 : decode cX7_in 11 = .ok (.goto 4, 3) := by decide +kernel
theorem dX7_in_14 : decode cX7_in 14 = .ok (.iconst 0, 1) := by decide +kernel
theorem dX7_in_15 : decode cX7_in 15 = .ok (.ireturn, 1) := by decide +kernel
theorem dX7_has_0 : decode cX7_has 0 = .ok (.iload_n 0, 1) := by decide +kernel
theorem dX7_has_1 : decode cX7_has 1 = .ok (.iload_n 1, 1) := by decide +kernel
theorem dX7_has_2 : decode cX7_has 2 = .ok (.ishr, 1) := by decide +kernel
theorem dX7_has_3 : decode cX7_has 3 = .ok (.iconst 1, 1) := by decide +kernel
theorem dX7_has_4 : decode cX7_has 4 = .ok (.iand, 1) := by decide +kernel
theorem dX7_has_5 : decode cX7_has 5 = .ok (.iconst 1, 1) := by decide +kernel
theorem dX7_has_6 : decode cX7_has 6 = .ok (.if_icmp .ne 7, 3) := by decide +kernel
theorem dX7_has_9 : decode cX7_has 9 = .ok (.iconst 1, 1) := by decide +kernel
theorem dX7_has_10 : decode cX7_has 10 = .ok (.goto 4, 3) := by decide +kernel
theorem dX7_has_13 : decode cX7_has 13 = .ok (.iconst 0, 1) := by decide +kernel
theorem dX7_has_14 : decode cX7_has 14 = .ok (.ireturn, 1) := by decide +kernel
theorem dX7_ones_0 : decode cX7_ones 0 = .ok (.iconst 0, 1) := by decide +kernel
theorem dX7_ones_1 : decode cX7_ones 1 = .ok (.istore_n 1, 1) := by decide +kernel
theorem dX7_ones_2 : decode cX7_ones 2 = .ok (.iconst 0, 1) := by decide +kernel
theorem dX7_ones_3 : decode cX7_ones 3 = .ok (.istore_n 2, 1) := by decide +kernel
theorem dX7_ones_4 : decode cX7_ones 4 = .ok (.iload_n 2, 1) := by decide +kernel
theorem dX7_ones_5 : decode cX7_ones 5 = .ok (.bipush 8, 2) := by decide +kernel
theorem dX7_ones_7 : decode cX7_ones 7 = .ok (.if_icmp .ge 17, 3) := by decide +kernel
theorem dX7_ones_10 : decode cX7_ones 10 = .ok (.iload_n 1, 1) := by decide +kernel
theorem dX7_ones_11 : decode cX7_ones 11 = .ok (.iload_n 0, 1) := by decide +kernel
theorem dX7_ones_12 : decode cX7_ones 12 = .ok (.iload_n 2, 1) := by decide +kernel
theorem dX7_ones_13 : decode cX7_ones 13 = .ok (.ishr, 1) := by decide +kernel
theorem dX7_ones_14 : decode cX7_ones 14 = .ok (.iconst 1, 1) := by decide +kernel
theorem dX7_ones_15 : decode cX7_ones 15 = .ok (.iand, 1) := by decide +kernel
theorem dX7_ones_16 : decode cX7_ones 16 = .ok (.iadd, 1) := by decide +kernel
theorem dX7_ones_17 : decode cX7_ones 17 = .ok (.istore_n 1, 1) := by decide +kernel
theorem dX7_ones_18 : decode cX7_ones 18 = .ok (.iinc 2 1, 3) := by decide +kernel
theorem dX7_ones_21 : decode cX7_ones 21 = .ok (.goto (-17), 3) := by decide +kernel
theorem dX7_ones_24 : decode cX7_ones 24 = .ok (.iload_n 1, 1) := by decide +kernel
theorem dX7_ones_25 : decode cX7_ones 25 = .ok (.ireturn, 1) := by decide +kernel
theorem dX7_found_0 : decode cX7_found 0 = .ok (.aload_n 0, 1) := by decide +kernel
theorem dX7_found_1 : decode cX7_found 1 = .ok (.iload_n 1, 1) := by decide +kernel
theorem dX7_found_2 : decode cX7_found 2 = .ok (.putfield 48, 3) := by decide +kernel
theorem dX7_found_5 : decode cX7_found 5 = .ok (.ldc 52, 2) := by decide +kernel
theorem dX7_found_7 : decode cX7_found 7 = .ok (.iload_n 1, 1) := by decide +kernel
theorem dX7_found_8 : decode cX7_found 8 = .ok (.isub, 1) := by decide +kernel
theorem dX7_found_9 : decode cX7_found 9 = .ok (.ireturn, 1) := by decide +kernel
theorem dX7_well_0 : decode cX7_well 0 = .ok (.aload_n 0, 1) := by decide +kernel
theorem dX7_well_1 : decode cX7_well 1 = .ok (.iconst 0, 1) := by decide +kernel
theorem dX7_well_2 : decode cX7_well 2 = .ok (.putfield 48, 3) := by decide +kernel
theorem dX7_well_5 : decode cX7_well 5 = .ok (.iload_n 1, 1) := by decide +kernel
theorem dX7_well_6 : decode cX7_well 6 = .ok (.ireturn, 1) := by decide +kernel
theorem dX7_copies_0 : decode cX7_copies 0 = .ok (.iconst 0, 1) := by decide +kernel
theorem dX7_copies_1 : decode cX7_copies 1 = .ok (.istore 4, 2) := by decide +kernel
theorem dX7_copies_3 : decode cX7_copies 3 = .ok (.iload 4, 2) := by decide +kernel
theorem dX7_copies_5 : decode cX7_copies 5 = .ok (.bipush 48, 2) := by decide +kernel
theorem dX7_copies_7 : decode cX7_copies 7 = .ok (.if_icmp .ge 21, 3) := by decide +kernel
theorem dX7_copies_10 : decode cX7_copies 10 = .ok (.aload_n 2, 1) := by decide +kernel
theorem dX7_copies_11 : decode cX7_copies 11 = .ok (.iload_n 3, 1) := by decide +kernel
theorem dX7_copies_12 : decode cX7_copies 12 = .ok (.iload 4, 2) := by decide +kernel
theorem dX7_copies_14 : decode cX7_copies 14 = .ok (.iadd, 1) := by decide +kernel
theorem dX7_copies_15 : decode cX7_copies 15 = .ok (.aload_n 0, 1) := by decide +kernel
theorem dX7_copies_16 : decode cX7_copies 16 = .ok (.iload_n 1, 1) := by decide +kernel
theorem dX7_copies_17 : decode cX7_copies 17 = .ok (.iload 4, 2) := by decide +kernel
theorem dX7_copies_19 : decode cX7_copies 19 = .ok (.iadd, 1) := by decide +kernel
theorem dX7_copies_20 : decode cX7_copies 20 = .ok (.iaload, 1) := by decide +kernel
theorem dX7_copies_21 : decode cX7_copies 21 = .ok (.iastore, 1) := by decide +kernel
theorem dX7_copies_22 : decode cX7_copies 22 = .ok (.iinc 4 1, 3) := by decide +kernel
theorem dX7_copies_25 : decode cX7_copies 25 = .ok (.goto (-22), 3) := by decide +kernel
theorem dX7_copies_28 : decode cX7_copies 28 = .ok (.return_, 1) := by decide +kernel
theorem dX7_isRow_0 : decode cX7_isRow 0 = .ok (.iload_n 0, 1) := by decide +kernel
theorem dX7_isRow_1 : decode cX7_isRow 1 = .ok (.iconst 0, 1) := by decide +kernel
theorem dX7_isRow_2 : decode cX7_isRow 2 = .ok (.bipush 7, 2) := by decide +kernel
theorem dX7_isRow_4 : decode cX7_isRow 4 = .ok (.invokestatic 53, 3) := by decide +kernel
theorem dX7_isRow_7 : decode cX7_isRow 7 = .ok (.ireturn, 1) := by decide +kernel
theorem dX7_isMissing_0 : decode cX7_isMissing 0 = .ok (.aload_n 0, 1) := by decide +kernel
theorem dX7_isMissing_1 : decode cX7_isMissing 1 = .ok (.getfield 7, 3) := by decide +kernel
theorem dX7_isMissing_4 : decode cX7_isMissing 4 = .ok (.iload_n 1, 1) := by decide +kernel
theorem dX7_isMissing_5 : decode cX7_isMissing 5 = .ok (.iaload, 1) := by decide +kernel
theorem dX7_isMissing_6 : decode cX7_isMissing 6 = .ok (.ldc 47, 2) := by decide +kernel
theorem dX7_isMissing_8 : decode cX7_isMissing 8 = .ok (.if_icmp .ne 7, 3) := by decide +kernel
theorem dX7_isMissing_11 : decode cX7_isMissing 11 = .ok (.iconst 1, 1) := by decide +kernel
theorem dX7_isMissing_12 : decode cX7_isMissing 12 = .ok (.goto 4, 3) := by decide +kernel
theorem dX7_isMissing_15 : decode cX7_isMissing 15 = .ok (.iconst 0, 1) := by decide +kernel
theorem dX7_isMissing_16 : decode cX7_isMissing 16 = .ok (.ireturn, 1) := by decide +kernel
theorem dX7_cut_0 : decode cX7_cut 0 = .ok (.iload_n 0, 1) := by decide +kernel
theorem dX7_cut_1 : decode cX7_cut 1 = .ok (.ifCond .ne 13, 3) := by decide +kernel
theorem dX7_cut_4 : decode cX7_cut 4 = .ok (.iload_n 1, 1) := by decide +kernel
theorem dX7_cut_5 : decode cX7_cut 5 = .ok (.bipush 24, 2) := by decide +kernel
theorem dX7_cut_7 : decode cX7_cut 7 = .ok (.ishl, 1) := by decide +kernel
theorem dX7_cut_8 : decode cX7_cut 8 = .ok (.bipush 24, 2) := by decide +kernel
theorem dX7_cut_10 : decode cX7_cut 10 = .ok (.ishr, 1) := by decide +kernel
theorem dX7_cut_11 : decode cX7_cut 11 = .ok (.goto 19, 3) := by decide +kernel
theorem dX7_cut_14 : decode cX7_cut 14 = .ok (.iload_n 0, 1) := by decide +kernel
theorem dX7_cut_15 : decode cX7_cut 15 = .ok (.iconst 1, 1) := by decide +kernel
theorem dX7_cut_16 : decode cX7_cut 16 = .ok (.if_icmp .ne 13, 3) := by decide +kernel
theorem dX7_cut_19 : decode cX7_cut 19 = .ok (.iload_n 1, 1) := by decide +kernel
theorem dX7_cut_20 : decode cX7_cut 20 = .ok (.bipush 16, 2) := by decide +kernel
theorem dX7_cut_22 : decode cX7_cut 22 = .ok (.ishl, 1) := by decide +kernel
theorem dX7_cut_23 : decode cX7_cut 23 = .ok (.bipush 16, 2) := by decide +kernel
theorem dX7_cut_25 : decode cX7_cut 25 = .ok (.ishr, 1) := by decide +kernel
theorem dX7_cut_26 : decode cX7_cut 26 = .ok (.goto 4, 3) := by decide +kernel
theorem dX7_cut_29 : decode cX7_cut 29 = .ok (.iload_n 1, 1) := by decide +kernel
theorem dX7_cut_30 : decode cX7_cut 30 = .ok (.ireturn, 1) := by decide +kernel
theorem dX7_row_0 : decode cX7_row 0 = .ok (.iload_n 1, 1) := by decide +kernel
theorem dX7_row_1 : decode cX7_row 1 = .ok (.invokestatic 57, 3) := by decide +kernel
theorem dX7_row_4 : decode cX7_row 4 = .ok (.ifCond .eq 18, 3) := by decide +kernel
theorem dX7_row_7 : decode cX7_row 7 = .ok (.iload_n 2, 1) := by decide +kernel
theorem dX7_row_8 : decode cX7_row 8 = .ok (.iconst 0, 1) := by decide +kernel
theorem dX7_row_9 : decode cX7_row 9 = .ok (.iconst 2, 1) := by decide +kernel
theorem dX7_row_10 : decode cX7_row 10 = .ok (.invokestatic 53, 3) := by decide +kernel
theorem dX7_row_13 : decode cX7_row 13 = .ok (.ifCond .eq 9, 3) := by decide +kernel
theorem dX7_row_16 : decode cX7_row 16 = .ok (.iload_n 3, 1) := by decide +kernel
theorem dX7_row_17 : decode cX7_row 17 = .ok (.bipush 40, 2) := by decide +kernel
theorem dX7_row_19 : decode cX7_row 19 = .ok (.if_icmp .le 6, 3) := by decide +kernel
theorem dX7_row_22 : decode cX7_row 22 = .ok (.ldc 61, 2) := by decide +kernel
theorem dX7_row_24 : decode cX7_row 24 = .ok (.ireturn, 1) := by decide +kernel
theorem dX7_row_25 : decode cX7_row 25 = .ok (.iload_n 3, 1) := by decide +kernel
theorem dX7_row_26 : decode cX7_row 26 = .ok (.ifCond .ge 9, 3) := by decide +kernel
theorem dX7_row_29 : decode cX7_row 29 = .ok (.aload_n 0, 1) := by decide +kernel
theorem dX7_row_30 : decode cX7_row 30 = .ok (.iconst 4, 1) := by decide +kernel
theorem dX7_row_31 : decode cX7_row 31 = .ok (.invokevirtual 62, 3) := by decide +kernel
theorem dX7_row_34 : decode cX7_row 34 = .ok (.ireturn, 1) := by decide +kernel
theorem dX7_row_35 : decode cX7_row 35 = .ok (.aload_n 0, 1) := by decide +kernel
theorem dX7_row_36 : decode cX7_row 36 = .ok (.getfield 7, 3) := by decide +kernel
theorem dX7_row_39 : decode cX7_row 39 = .ok (.iload_n 1, 1) := by decide +kernel
theorem dX7_row_40 : decode cX7_row 40 = .ok (.iload_n 2, 1) := by decide +kernel
theorem dX7_row_41 : decode cX7_row 41 = .ok (.iastore, 1) := by decide +kernel
theorem dX7_row_42 : decode cX7_row 42 = .ok (.aload_n 0, 1) := by decide +kernel
theorem dX7_row_43 : decode cX7_row 43 = .ok (.getfield 13, 3) := by decide +kernel
theorem dX7_row_46 : decode cX7_row 46 = .ok (.iload_n 1, 1) := by decide +kernel
theorem dX7_row_47 : decode cX7_row 47 = .ok (.iload_n 3, 1) := by decide +kernel
theorem dX7_row_48 : decode cX7_row 48 = .ok (.iastore, 1) := by decide +kernel
theorem dX7_row_49 : decode cX7_row 49 = .ok (.iconst 0, 1) := by decide +kernel
theorem dX7_row_50 : decode cX7_row 50 = .ok (.istore 4, 2) := by decide +kernel
theorem dX7_row_52 : decode cX7_row 52 = .ok (.iload 4, 2) := by decide +kernel
theorem dX7_row_54 : decode cX7_row 54 = .ok (.bipush 40, 2) := by decide +kernel
theorem dX7_row_56 : decode cX7_row 56 = .ok (.if_icmp .ge 22, 3) := by decide +kernel
theorem dX7_row_59 : decode cX7_row 59 = .ok (.aload_n 0, 1) := by decide +kernel
theorem dX7_row_60 : decode cX7_row 60 = .ok (.getfield 16, 3) := by decide +kernel
theorem dX7_row_63 : decode cX7_row 63 = .ok (.bipush 40, 2) := by decide +kernel
theorem dX7_row_65 : decode cX7_row 65 = .ok (.iload_n 1, 1) := by decide +kernel
theorem dX7_row_66 : decode cX7_row 66 = .ok (.imul, 1) := by decide +kernel
theorem dX7_row_67 : decode cX7_row 67 = .ok (.iload 4, 2) := by decide +kernel
theorem dX7_row_69 : decode cX7_row 69 = .ok (.iadd, 1) := by decide +kernel
theorem dX7_row_70 : decode cX7_row 70 = .ok (.iconst 0, 1) := by decide +kernel
theorem dX7_row_71 : decode cX7_row 71 = .ok (.iastore, 1) := by decide +kernel
theorem dX7_row_72 : decode cX7_row 72 = .ok (.iinc 4 1, 3) := by decide +kernel
theorem dX7_row_75 : decode cX7_row 75 = .ok (.goto (-23), 3) := by decide +kernel
theorem dX7_row_78 : decode cX7_row 78 = .ok (.aload_n 0, 1) := by decide +kernel
theorem dX7_row_79 : decode cX7_row 79 = .ok (.iload_n 3, 1) := by decide +kernel
theorem dX7_row_80 : decode cX7_row 80 = .ok (.invokevirtual 66, 3) := by decide +kernel
theorem dX7_row_83 : decode cX7_row 83 = .ok (.ireturn, 1) := by decide +kernel
theorem dX7_set_0 : decode cX7_set 0 = .ok (.iload_n 1, 1) := by decide +kernel
theorem dX7_set_1 : decode cX7_set 1 = .ok (.invokestatic 57, 3) := by decide +kernel
theorem dX7_set_4 : decode cX7_set 4 = .ok (.ifCond .ne 6, 3) := by decide +kernel
theorem dX7_set_7 : decode cX7_set 7 = .ok (.ldc 61, 2) := by decide +kernel
theorem dX7_set_9 : decode cX7_set 9 = .ok (.ireturn, 1) := by decide +kernel
theorem dX7_set_10 : decode cX7_set 10 = .ok (.aload_n 0, 1) := by decide +kernel
theorem dX7_set_11 : decode cX7_set 11 = .ok (.iload_n 1, 1) := by decide +kernel
theorem dX7_set_12 : decode cX7_set 12 = .ok (.invokevirtual 69, 3) := by decide +kernel
theorem dX7_set_15 : decode cX7_set 15 = .ok (.ifCond .eq 9, 3) := by decide +kernel
theorem dX7_set_18 : decode cX7_set 18 = .ok (.aload_n 0, 1) := by decide +kernel
theorem dX7_set_19 : decode cX7_set 19 = .ok (.iconst 1, 1) := by decide +kernel
theorem dX7_set_20 : decode cX7_set 20 = .ok (.invokevirtual 62, 3) := by decide +kernel
theorem dX7_set_23 : decode cX7_set 23 = .ok (.ireturn, 1) := by decide +kernel
theorem dX7_set_24 : decode cX7_set 24 = .ok (.iload_n 2, 1) := by decide +kernel
theorem dX7_set_25 : decode cX7_set 25 = .ok (.iconst 0, 1) := by decide +kernel
theorem dX7_set_26 : decode cX7_set 26 = .ok (.aload_n 0, 1) := by decide +kernel
theorem dX7_set_27 : decode cX7_set 27 = .ok (.getfield 13, 3) := by decide +kernel
theorem dX7_set_30 : decode cX7_set 30 = .ok (.iload_n 1, 1) := by decide +kernel
theorem dX7_set_31 : decode cX7_set 31 = .ok (.iaload, 1) := by decide +kernel
theorem dX7_set_32 : decode cX7_set 32 = .ok (.iconst 1, 1) := by decide +kernel
theorem dX7_set_33 : decode cX7_set 33 = .ok (.isub, 1) := by decide +kernel
theorem dX7_set_34 : decode cX7_set 34 = .ok (.invokestatic 53, 3) := by decide +kernel
theorem dX7_set_37 : decode cX7_set 37 = .ok (.ifCond .ne 9, 3) := by decide +kernel
theorem dX7_set_40 : decode cX7_set 40 = .ok (.aload_n 0, 1) := by decide +kernel
theorem dX7_set_41 : decode cX7_set 41 = .ok (.iconst 2, 1) := by decide +kernel
theorem dX7_set_42 : decode cX7_set 42 = .ok (.invokevirtual 62, 3) := by decide +kernel
theorem dX7_set_45 : decode cX7_set 45 = .ok (.ireturn, 1) := by decide +kernel
theorem dX7_set_46 : decode cX7_set 46 = .ok (.aload_n 0, 1) := by decide +kernel
theorem dX7_set_47 : decode cX7_set 47 = .ok (.getfield 16, 3) := by decide +kernel
theorem dX7_set_50 : decode cX7_set 50 = .ok (.bipush 40, 2) := by decide +kernel
theorem dX7_set_52 : decode cX7_set 52 = .ok (.iload_n 1, 1) := by decide +kernel
theorem dX7_set_53 : decode cX7_set 53 = .ok (.imul, 1) := by decide +kernel
theorem dX7_set_54 : decode cX7_set 54 = .ok (.iload_n 2, 1) := by decide +kernel
theorem dX7_set_55 : decode cX7_set 55 = .ok (.iadd, 1) := by decide +kernel
theorem dX7_set_56 : decode cX7_set 56 = .ok (.aload_n 0, 1) := by decide +kernel
theorem dX7_set_57 : decode cX7_set 57 = .ok (.getfield 7, 3) := by decide +kernel
theorem dX7_set_60 : decode cX7_set 60 = .ok (.iload_n 1, 1) := by decide +kernel
theorem dX7_set_61 : decode cX7_set 61 = .ok (.iaload, 1) := by decide +kernel
theorem dX7_set_62 : decode cX7_set 62 = .ok (.iload_n 3, 1) := by decide +kernel
theorem dX7_set_63 : decode cX7_set 63 = .ok (.invokestatic 72, 3) := by decide +kernel
theorem dX7_set_66 : decode cX7_set 66 = .ok (.iastore, 1) := by decide +kernel
theorem dX7_set_67 : decode cX7_set 67 = .ok (.aload_n 0, 1) := by decide +kernel
theorem dX7_set_68 : decode cX7_set 68 = .ok (.aload_n 0, 1) := by decide +kernel
theorem dX7_set_69 : decode cX7_set 69 = .ok (.getfield 16, 3) := by decide +kernel
theorem dX7_set_72 : decode cX7_set 72 = .ok (.bipush 40, 2) := by decide +kernel
theorem dX7_set_74 : decode cX7_set 74 = .ok (.iload_n 1, 1) := by decide +kernel
theorem dX7_set_75 : decode cX7_set 75 = .ok (.imul, 1) := by decide +kernel
theorem dX7_set_76 : decode cX7_set 76 = .ok (.iload_n 2, 1) := by decide +kernel
theorem dX7_set_77 : decode cX7_set 77 = .ok (.iadd, 1) := by decide +kernel
theorem dX7_set_78 : decode cX7_set 78 = .ok (.iaload, 1) := by decide +kernel
theorem dX7_set_79 : decode cX7_set 79 = .ok (.invokevirtual 66, 3) := by decide +kernel
theorem dX7_set_82 : decode cX7_set 82 = .ok (.ireturn, 1) := by decide +kernel
theorem dX7_isPart_0 : decode cX7_isPart 0 = .ok (.iload_n 2, 1) := by decide +kernel
theorem dX7_isPart_1 : decode cX7_isPart 1 = .ok (.ifCond .lt 33, 3) := by decide +kernel
theorem dX7_isPart_4 : decode cX7_isPart 4 = .ok (.iload_n 3, 1) := by decide +kernel
theorem dX7_isPart_5 : decode cX7_isPart 5 = .ok (.ifCond .lt 29, 3) := by decide +kernel
theorem dX7_isPart_8 : decode cX7_isPart 8 = .ok (.iload_n 2, 1) := by decide +kernel
theorem dX7_isPart_9 : decode cX7_isPart 9 = .ok (.aload_n 0, 1) := by decide +kernel
theorem dX7_isPart_10 : decode cX7_isPart 10 = .ok (.getfield 13, 3) := by decide +kernel
theorem dX7_isPart_13 : decode cX7_isPart 13 = .ok (.iload_n 1, 1) := by decide +kernel
theorem dX7_isPart_14 : decode cX7_isPart 14 = .ok (.iaload, 1) := by decide +kernel
theorem dX7_isPart_15 : decode cX7_isPart 15 = .ok (.if_icmp .gt 19, 3) := by decide +kernel
theorem dX7_isPart_18 : decode cX7_isPart 18 = .ok (.iload_n 3, 1) := by decide +kernel
theorem dX7_isPart_19 : decode cX7_isPart 19 = .ok (.aload_n 0, 1) := by decide +kernel
theorem dX7_isPart_20 : decode cX7_isPart 20 = .ok (.getfield 13, 3) := by decide +kernel
theorem dX7_isPart_23 : decode cX7_isPart 23 = .ok (.iload_n 1, 1) := by decide +kernel
theorem dX7_isPart_24 : decode cX7_isPart 24 = .ok (.iaload, 1) := by decide +kernel
theorem dX7_isPart_25 : decode cX7_isPart 25 = .ok (.iload_n 2, 1) := by decide +kernel
theorem dX7_isPart_26 : decode cX7_isPart 26 = .ok (.isub, 1) := by decide +kernel
theorem dX7_isPart_27 : decode cX7_isPart 27 = .ok (.if_icmp .gt 7, 3) := by decide +kernel
theorem dX7_isPart_30 : decode cX7_isPart 30 = .ok (.iconst 1, 1) := by decide +kernel
theorem dX7_isPart_31 : decode cX7_isPart 31 = .ok (.goto 4, 3) := by decide +kernel
theorem dX7_isPart_34 : decode cX7_isPart 34 = .ok (.iconst 0, 1) := by decide +kernel
theorem dX7_isPart_35 : decode cX7_isPart 35 = .ok (.ireturn, 1) := by decide +kernel
theorem dX7_copy_0 : decode cX7_copy 0 = .ok (.iload_n 1, 1) := by decide +kernel
theorem dX7_copy_1 : decode cX7_copy 1 = .ok (.invokestatic 57, 3) := by decide +kernel
theorem dX7_copy_4 : decode cX7_copy 4 = .ok (.ifCond .eq 10, 3) := by decide +kernel
theorem dX7_copy_7 : decode cX7_copy 7 = .ok (.iload_n 3, 1) := by decide +kernel
theorem dX7_copy_8 : decode cX7_copy 8 = .ok (.invokestatic 57, 3) := by decide +kernel
theorem dX7_copy_11 : decode cX7_copy 11 = .ok (.ifCond .ne 6, 3) := by decide +kernel
theorem dX7_copy_14 : decode cX7_copy 14 = .ok (.ldc 61, 2) := by decide +kernel
theorem dX7_copy_16 : decode cX7_copy 16 = .ok (.ireturn, 1) := by decide +kernel
theorem dX7_copy_17 : decode cX7_copy 17 = .ok (.aload_n 0, 1) := by decide +kernel
theorem dX7_copy_18 : decode cX7_copy 18 = .ok (.iload_n 1, 1) := by decide +kernel
theorem dX7_copy_19 : decode cX7_copy 19 = .ok (.invokevirtual 69, 3) := by decide +kernel
theorem dX7_copy_22 : decode cX7_copy 22 = .ok (.ifCond .ne 11, 3) := by decide +kernel
theorem dX7_copy_25 : decode cX7_copy 25 = .ok (.aload_n 0, 1) := by decide +kernel
theorem dX7_copy_26 : decode cX7_copy 26 = .ok (.iload_n 3, 1) := by decide +kernel
theorem dX7_copy_27 : decode cX7_copy 27 = .ok (.invokevirtual 69, 3) := by decide +kernel
theorem dX7_copy_30 : decode cX7_copy 30 = .ok (.ifCond .eq 9, 3) := by decide +kernel
theorem dX7_copy_33 : decode cX7_copy 33 = .ok (.aload_n 0, 1) := by decide +kernel
theorem dX7_copy_34 : decode cX7_copy 34 = .ok (.iconst 1, 1) := by decide +kernel
theorem dX7_copy_35 : decode cX7_copy 35 = .ok (.invokevirtual 62, 3) := by decide +kernel
theorem dX7_copy_38 : decode cX7_copy 38 = .ok (.ireturn, 1) := by decide +kernel
theorem dX7_copy_39 : decode cX7_copy 39 = .ok (.aload_n 0, 1) := by decide +kernel
theorem dX7_copy_40 : decode cX7_copy 40 = .ok (.getfield 7, 3) := by decide +kernel
theorem dX7_copy_43 : decode cX7_copy 43 = .ok (.iload_n 1, 1) := by decide +kernel
theorem dX7_copy_44 : decode cX7_copy 44 = .ok (.iaload, 1) := by decide +kernel
theorem dX7_copy_45 : decode cX7_copy 45 = .ok (.aload_n 0, 1) := by decide +kernel
theorem dX7_copy_46 : decode cX7_copy 46 = .ok (.getfield 7, 3) := by decide +kernel
theorem dX7_copy_49 : decode cX7_copy 49 = .ok (.iload_n 3, 1) := by decide +kernel
theorem dX7_copy_50 : decode cX7_copy 50 = .ok (.iaload, 1) := by decide +kernel
theorem dX7_copy_51 : decode cX7_copy 51 = .ok (.if_icmp .eq 9, 3) := by decide +kernel
theorem dX7_copy_54 : decode cX7_copy 54 = .ok (.aload_n 0, 1) := by decide +kernel
theorem dX7_copy_55 : decode cX7_copy 55 = .ok (.iconst 5, 1) := by decide +kernel
theorem dX7_copy_56 : decode cX7_copy 56 = .ok (.invokevirtual 62, 3) := by decide +kernel
theorem dX7_copy_59 : decode cX7_copy 59 = .ok (.ireturn, 1) := by decide +kernel
theorem dX7_copy_60 : decode cX7_copy 60 = .ok (.aload_n 0, 1) := by decide +kernel
theorem dX7_copy_61 : decode cX7_copy 61 = .ok (.iload_n 1, 1) := by decide +kernel
theorem dX7_copy_62 : decode cX7_copy 62 = .ok (.iload_n 2, 1) := by decide +kernel
theorem dX7_copy_63 : decode cX7_copy 63 = .ok (.iload 5, 2) := by decide +kernel
theorem dX7_copy_65 : decode cX7_copy 65 = .ok (.invokevirtual 76, 3) := by decide +kernel
theorem dX7_copy_68 : decode cX7_copy 68 = .ok (.ifCond .eq 15, 3) := by decide +kernel
theorem dX7_copy_71 : decode cX7_copy 71 = .ok (.aload_n 0, 1) := by decide +kernel
theorem dX7_copy_72 : decode cX7_copy 72 = .ok (.iload_n 3, 1) := by decide +kernel
theorem dX7_copy_73 : decode cX7_copy 73 = .ok (.iload 4, 2) := by decide +kernel
theorem dX7_copy_75 : decode cX7_copy 75 = .ok (.iload 5, 2) := by decide +kernel
theorem dX7_copy_77 : decode cX7_copy 77 = .ok (.invokevirtual 76, 3) := by decide +kernel
theorem dX7_copy_80 : decode cX7_copy 80 = .ok (.ifCond .ne 9, 3) := by decide +kernel
theorem dX7_copy_83 : decode cX7_copy 83 = .ok (.aload_n 0, 1) := by decide +kernel
theorem dX7_copy_84 : decode cX7_copy 84 = .ok (.iconst 2, 1) := by decide +kernel
theorem dX7_copy_85 : decode cX7_copy 85 = .ok (.invokevirtual 62, 3) := by decide +kernel
theorem dX7_copy_88 : decode cX7_copy 88 = .ok (.ireturn, 1) := by decide +kernel
theorem dX7_copy_89 : decode cX7_copy 89 = .ok (.iconst 0, 1) := by decide +kernel
theorem dX7_copy_90 : decode cX7_copy 90 = .ok (.istore 6, 2) := by decide +kernel
theorem dX7_copy_92 : decode cX7_copy 92 = .ok (.iload 6, 2) := by decide +kernel
theorem dX7_copy_94 : decode cX7_copy 94 = .ok (.iload 5, 2) := by decide +kernel
theorem dX7_copy_96 : decode cX7_copy 96 = .ok (.if_icmp .ge 30, 3) := by decide +kernel
theorem dX7_copy_99 : decode cX7_copy 99 = .ok (.aload_n 0, 1) := by decide +kernel
theorem dX7_copy_100 : decode cX7_copy 100 = .ok (.getfield 19, 3) := by decide +kernel
theorem dX7_copy_103 : decode cX7_copy 103 = .ok (.iload 6, 2) := by decide +kernel
theorem dX7_copy_105 : decode cX7_copy 105 = .ok (.aload_n 0, 1) := by decide +kernel
theorem dX7_copy_106 : decode cX7_copy 106 = .ok (.getfield 16, 3) := by decide +kernel
theorem dX7_copy_109 : decode cX7_copy 109 = .ok (.bipush 40, 2) := by decide +kernel
theorem dX7_copy_111 : decode cX7_copy 111 = .ok (.iload_n 1, 1) := by decide +kernel
theorem dX7_copy_112 : decode cX7_copy 112 = .ok (.imul, 1) := by decide +kernel
theorem dX7_copy_113 : decode cX7_copy 113 = .ok (.iload_n 2, 1) := by decide +kernel
theorem dX7_copy_114 : decode cX7_copy 114 = .ok (.iadd, 1) := by decide +kernel
theorem dX7_copy_115 : decode cX7_copy 115 = .ok (.iload 6, 2) := by decide +kernel
theorem dX7_copy_117 : decode cX7_copy 117 = .ok (.iadd, 1) := by decide +kernel
theorem dX7_copy_118 : decode cX7_copy 118 = .ok (.iaload, 1) := by decide +kernel
theorem dX7_copy_119 : decode cX7_copy 119 = .ok (.iastore, 1) := by decide +kernel
theorem dX7_copy_120 : decode cX7_copy 120 = .ok (.iinc 6 1, 3) := by decide +kernel
theorem dX7_copy_123 : decode cX7_copy 123 = .ok (.goto (-31), 3) := by decide +kernel
theorem dX7_copy_126 : decode cX7_copy 126 = .ok (.iconst 0, 1) := by decide +kernel
theorem dX7_copy_127 : decode cX7_copy 127 = .ok (.istore 6, 2) := by decide +kernel
theorem dX7_copy_129 : decode cX7_copy 129 = .ok (.iload 6, 2) := by decide +kernel
theorem dX7_copy_131 : decode cX7_copy 131 = .ok (.iload 5, 2) := by decide +kernel
theorem dX7_copy_133 : decode cX7_copy 133 = .ok (.if_icmp .ge 31, 3) := by decide +kernel
theorem dX7_copy_136 : decode cX7_copy 136 = .ok (.aload_n 0, 1) := by decide +kernel
theorem dX7_copy_137 : decode cX7_copy 137 = .ok (.getfield 16, 3) := by decide +kernel
theorem dX7_copy_140 : decode cX7_copy 140 = .ok (.bipush 40, 2) := by decide +kernel
theorem dX7_copy_142 : decode cX7_copy 142 = .ok (.iload_n 3, 1) := by decide +kernel
theorem dX7_copy_143 : decode cX7_copy 143 = .ok (.imul, 1) := by decide +kernel
theorem dX7_copy_144 : decode cX7_copy 144 = .ok (.iload 4, 2) := by decide +kernel
theorem dX7_copy_146 : decode cX7_copy 146 = .ok (.iadd, 1) := by decide +kernel
theorem dX7_copy_147 : decode cX7_copy 147 = .ok (.iload 6, 2) := by decide +kernel
theorem dX7_copy_149 : decode cX7_copy 149 = .ok (.iadd, 1) := by decide +kernel
theorem dX7_copy_150 : decode cX7_copy 150 = .ok (.aload_n 0, 1) := by decide +kernel
theorem dX7_copy_151 : decode cX7_copy 151 = .ok (.getfield 19, 3) := by decide +kernel
theorem dX7_copy_154 : decode cX7_copy 154 = .ok (.iload 6, 2) := by decide +kernel
theorem dX7_copy_156 : decode cX7_copy 156 = .ok (.iaload, 1) := by decide +kernel
theorem dX7_copy_157 : decode cX7_copy 157 = .ok (.iastore, 1) := by decide +kernel
theorem dX7_copy_158 : decode cX7_copy 158 = .ok (.iinc 6 1, 3) := by decide +kernel
theorem dX7_copy_161 : decode cX7_copy 161 = .ok (.goto (-32), 3) := by decide +kernel
theorem dX7_copy_164 : decode cX7_copy 164 = .ok (.aload_n 0, 1) := by decide +kernel
theorem dX7_copy_165 : decode cX7_copy 165 = .ok (.iload 5, 2) := by decide +kernel
theorem dX7_copy_167 : decode cX7_copy 167 = .ok (.invokevirtual 66, 3) := by decide +kernel
theorem dX7_copy_170 : decode cX7_copy 170 = .ok (.ireturn, 1) := by decide +kernel
theorem dX7_drop_0 : decode cX7_drop 0 = .ok (.iload_n 1, 1) := by decide +kernel
theorem dX7_drop_1 : decode cX7_drop 1 = .ok (.invokestatic 57, 3) := by decide +kernel
theorem dX7_drop_4 : decode cX7_drop 4 = .ok (.ifCond .ne 6, 3) := by decide +kernel
theorem dX7_drop_7 : decode cX7_drop 7 = .ok (.ldc 61, 2) := by decide +kernel
theorem dX7_drop_9 : decode cX7_drop 9 = .ok (.ireturn, 1) := by decide +kernel
theorem dX7_drop_10 : decode cX7_drop 10 = .ok (.aload_n 0, 1) := by decide +kernel
theorem dX7_drop_11 : decode cX7_drop 11 = .ok (.iload_n 1, 1) := by decide +kernel
theorem dX7_drop_12 : decode cX7_drop 12 = .ok (.invokevirtual 69, 3) := by decide +kernel
theorem dX7_drop_15 : decode cX7_drop 15 = .ok (.ifCond .eq 9, 3) := by decide +kernel
theorem dX7_drop_18 : decode cX7_drop 18 = .ok (.aload_n 0, 1) := by decide +kernel
theorem dX7_drop_19 : decode cX7_drop 19 = .ok (.iconst 1, 1) := by decide +kernel
theorem dX7_drop_20 : decode cX7_drop 20 = .ok (.invokevirtual 62, 3) := by decide +kernel
theorem dX7_drop_23 : decode cX7_drop 23 = .ok (.ireturn, 1) := by decide +kernel
theorem dX7_drop_24 : decode cX7_drop 24 = .ok (.aload_n 0, 1) := by decide +kernel
theorem dX7_drop_25 : decode cX7_drop 25 = .ok (.getfield 7, 3) := by decide +kernel
theorem dX7_drop_28 : decode cX7_drop 28 = .ok (.iload_n 1, 1) := by decide +kernel
theorem dX7_drop_29 : decode cX7_drop 29 = .ok (.ldc 47, 2) := by decide +kernel
theorem dX7_drop_31 : decode cX7_drop 31 = .ok (.iastore, 1) := by decide +kernel
theorem dX7_drop_32 : decode cX7_drop 32 = .ok (.aload_n 0, 1) := by decide +kernel
theorem dX7_drop_33 : decode cX7_drop 33 = .ok (.aload_n 0, 1) := by decide +kernel
theorem dX7_drop_34 : decode cX7_drop 34 = .ok (.getfield 13, 3) := by decide +kernel
theorem dX7_drop_37 : decode cX7_drop 37 = .ok (.iload_n 1, 1) := by decide +kernel
theorem dX7_drop_38 : decode cX7_drop 38 = .ok (.iaload, 1) := by decide +kernel
theorem dX7_drop_39 : decode cX7_drop 39 = .ok (.invokevirtual 66, 3) := by decide +kernel
theorem dX7_drop_42 : decode cX7_drop 42 = .ok (.ireturn, 1) := by decide +kernel
theorem dX7_feed_0 : decode cX7_feed 0 = .ok (.iload_n 1, 1) := by decide +kernel
theorem dX7_feed_1 : decode cX7_feed 1 = .ok (.iconst 0, 1) := by decide +kernel
theorem dX7_feed_2 : decode cX7_feed 2 = .ok (.sipush 255, 3) := by decide +kernel
theorem dX7_feed_5 : decode cX7_feed 5 = .ok (.invokestatic 53, 3) := by decide +kernel
theorem dX7_feed_8 : decode cX7_feed 8 = .ok (.ifCond .ne 6, 3) := by decide +kernel
theorem dX7_feed_11 : decode cX7_feed 11 = .ok (.ldc 61, 2) := by decide +kernel
theorem dX7_feed_13 : decode cX7_feed 13 = .ok (.ireturn, 1) := by decide +kernel
theorem dX7_feed_14 : decode cX7_feed 14 = .ok (.aload_n 0, 1) := by decide +kernel
theorem dX7_feed_15 : decode cX7_feed 15 = .ok (.getfield 79, 3) := by decide +kernel
theorem dX7_feed_18 : decode cX7_feed 18 = .ok (.sipush 140, 3) := by decide +kernel
theorem dX7_feed_21 : decode cX7_feed 21 = .ok (.if_icmp .ne 6, 3) := by decide +kernel
theorem dX7_feed_24 : decode cX7_feed 24 = .ok (.ldc 82, 2) := by decide +kernel
theorem dX7_feed_26 : decode cX7_feed 26 = .ok (.ireturn, 1) := by decide +kernel
theorem dX7_feed_27 : decode cX7_feed 27 = .ok (.aload_n 0, 1) := by decide +kernel
theorem dX7_feed_28 : decode cX7_feed 28 = .ok (.getfield 22, 3) := by decide +kernel
theorem dX7_feed_31 : decode cX7_feed 31 = .ok (.aload_n 0, 1) := by decide +kernel
theorem dX7_feed_32 : decode cX7_feed 32 = .ok (.getfield 79, 3) := by decide +kernel
theorem dX7_feed_35 : decode cX7_feed 35 = .ok (.iload_n 1, 1) := by decide +kernel
theorem dX7_feed_36 : decode cX7_feed 36 = .ok (.iastore, 1) := by decide +kernel
theorem dX7_feed_37 : decode cX7_feed 37 = .ok (.aload_n 0, 1) := by decide +kernel
theorem dX7_feed_38 : decode cX7_feed 38 = .ok (.dup, 1) := by decide +kernel
theorem dX7_feed_39 : decode cX7_feed 39 = .ok (.getfield 79, 3) := by decide +kernel
theorem dX7_feed_42 : decode cX7_feed 42 = .ok (.iconst 1, 1) := by decide +kernel
theorem dX7_feed_43 : decode cX7_feed 43 = .ok (.iadd, 1) := by decide +kernel
theorem dX7_feed_44 : decode cX7_feed 44 = .ok (.putfield 79, 3) := by decide +kernel
theorem dX7_feed_47 : decode cX7_feed 47 = .ok (.aload_n 0, 1) := by decide +kernel
theorem dX7_feed_48 : decode cX7_feed 48 = .ok (.getfield 79, 3) := by decide +kernel
theorem dX7_feed_51 : decode cX7_feed 51 = .ok (.ireturn, 1) := by decide +kernel
theorem dX7_byteAt_0 : decode cX7_byteAt 0 = .ok (.iload_n 1, 1) := by decide +kernel
theorem dX7_byteAt_1 : decode cX7_byteAt 1 = .ok (.aload_n 0, 1) := by decide +kernel
theorem dX7_byteAt_2 : decode cX7_byteAt 2 = .ok (.getfield 79, 3) := by decide +kernel
theorem dX7_byteAt_5 : decode cX7_byteAt 5 = .ok (.if_icmp .ge 12, 3) := by decide +kernel
theorem dX7_byteAt_8 : decode cX7_byteAt 8 = .ok (.aload_n 0, 1) := by decide +kernel
theorem dX7_byteAt_9 : decode cX7_byteAt 9 = .ok (.getfield 22, 3) := by decide +kernel
theorem dX7_byteAt_12 : decode cX7_byteAt 12 = .ok (.iload_n 1, 1) := by decide +kernel
theorem dX7_byteAt_13 : decode cX7_byteAt 13 = .ok (.iaload, 1) := by decide +kernel
theorem dX7_byteAt_14 : decode cX7_byteAt 14 = .ok (.goto 4, 3) := by decide +kernel
theorem dX7_byteAt_17 : decode cX7_byteAt 17 = .ok (.iconst (-1), 1) := by decide +kernel
theorem dX7_byteAt_18 : decode cX7_byteAt 18 = .ok (.ireturn, 1) := by decide +kernel
theorem dX7_advances_0 : decode cX7_advances 0 = .ok (.aload_n 0, 1) := by decide +kernel
theorem dX7_advances_1 : decode cX7_advances 1 = .ok (.aload_n 0, 1) := by decide +kernel
theorem dX7_advances_2 : decode cX7_advances 2 = .ok (.getfield 83, 3) := by decide +kernel
theorem dX7_advances_5 : decode cX7_advances 5 = .ok (.putfield 86, 3) := by decide +kernel
theorem dX7_advances_8 : decode cX7_advances 8 = .ok (.aload_n 0, 1) := by decide +kernel
theorem dX7_advances_9 : decode cX7_advances 9 = .ok (.aload_n 0, 1) := by decide +kernel
theorem dX7_advances_10 : decode cX7_advances 10 = .ok (.getfield 83, 3) := by decide +kernel
theorem dX7_advances_13 : decode cX7_advances 13 = .ok (.invokevirtual 89, 3) := by decide +kernel
theorem dX7_advances_16 : decode cX7_advances 16 = .ok (.istore_n 1, 1) := by decide +kernel
theorem dX7_advances_17 : decode cX7_advances 17 = .ok (.aload_n 0, 1) := by decide +kernel
theorem dX7_advances_18 : decode cX7_advances 18 = .ok (.iload_n 1, 1) := by decide +kernel
theorem dX7_advances_19 : decode cX7_advances 19 = .ok (.putfield 92, 3) := by decide +kernel
theorem dX7_advances_22 : decode cX7_advances 22 = .ok (.iload_n 1, 1) := by decide +kernel
theorem dX7_advances_23 : decode cX7_advances 23 = .ok (.bipush 48, 2) := by decide +kernel
theorem dX7_advances_25 : decode cX7_advances 25 = .ok (.bipush 57, 2) := by decide +kernel
theorem dX7_advances_27 : decode cX7_advances 27 = .ok (.invokestatic 53, 3) := by decide +kernel
theorem dX7_advances_30 : decode cX7_advances 30 = .ok (.ifCond .eq 105, 3) := by decide +kernel
theorem dX7_advances_33 : decode cX7_advances 33 = .ok (.aload_n 0, 1) := by decide +kernel
theorem dX7_advances_34 : decode cX7_advances 34 = .ok (.iconst 0, 1) := by decide +kernel
theorem dX7_advances_35 : decode cX7_advances 35 = .ok (.putfield 92, 3) := by decide +kernel
theorem dX7_advances_38 : decode cX7_advances 38 = .ok (.aload_n 0, 1) := by decide +kernel
theorem dX7_advances_39 : decode cX7_advances 39 = .ok (.aload_n 0, 1) := by decide +kernel
theorem dX7_advances_40 : decode cX7_advances 40 = .ok (.getfield 83, 3) := by decide +kernel
theorem dX7_advances_43 : decode cX7_advances 43 = .ok (.invokevirtual 89, 3) := by decide +kernel
theorem dX7_advances_46 : decode cX7_advances 46 = .ok (.bipush 48, 2) := by decide +kernel
theorem dX7_advances_48 : decode cX7_advances 48 = .ok (.bipush 57, 2) := by decide +kernel
theorem dX7_advances_50 : decode cX7_advances 50 = .ok (.invokestatic 53, 3) := by decide +kernel
theorem dX7_advances_53 : decode cX7_advances 53 = .ok (.ifCond .eq 59, 3) := by decide +kernel
theorem dX7_advances_56 : decode cX7_advances 56 = .ok (.aload_n 0, 1) := by decide +kernel
theorem dX7_advances_57 : decode cX7_advances 57 = .ok (.aload_n 0, 1) := by decide +kernel
theorem dX7_advances_58 : decode cX7_advances 58 = .ok (.getfield 83, 3) := by decide +kernel
theorem dX7_advances_61 : decode cX7_advances 61 = .ok (.aload_n 0, 1) := by decide +kernel
theorem dX7_advances_62 : decode cX7_advances 62 = .ok (.getfield 86, 3) := by decide +kernel
theorem dX7_advances_65 : decode cX7_advances 65 = .ok (.isub, 1) := by decide +kernel
theorem dX7_advances_66 : decode cX7_advances 66 = .ok (.iconst 2, 1) := by decide +kernel
theorem dX7_advances_67 : decode cX7_advances 67 = .ok (.if_icmp .ge 25, 3) := by decide +kernel
theorem dX7_advances_70 : decode cX7_advances 70 = .ok (.bipush 10, 2) := by decide +kernel
theorem dX7_advances_72 : decode cX7_advances 72 = .ok (.aload_n 0, 1) := by decide +kernel
theorem dX7_advances_73 : decode cX7_advances 73 = .ok (.getfield 92, 3) := by decide +kernel
theorem dX7_advances_76 : decode cX7_advances 76 = .ok (.imul, 1) := by decide +kernel
theorem dX7_advances_77 : decode cX7_advances 77 = .ok (.aload_n 0, 1) := by decide +kernel
theorem dX7_advances_78 : decode cX7_advances 78 = .ok (.aload_n 0, 1) := by decide +kernel
theorem dX7_advances_79 : decode cX7_advances 79 = .ok (.getfield 83, 3) := by decide +kernel
theorem dX7_advances_82 : decode cX7_advances 82 = .ok (.invokevirtual 89, 3) := by decide +kernel
theorem dX7_advances_85 : decode cX7_advances 85 = .ok (.iadd, 1) := by decide +kernel
theorem dX7_advances_86 : decode cX7_advances 86 = .ok (.bipush 48, 2) := by decide +kernel
theorem dX7_advances_88 : decode cX7_advances 88 = .ok (.isub, 1) := by decide +kernel
theorem dX7_advances_89 : decode cX7_advances 89 = .ok (.goto 7, 3) := by decide +kernel
theorem dX7_advances_92 : decode cX7_advances 92 = .ok (.aload_n 0, 1) := by decide +kernel
theorem dX7_advances_93 : decode cX7_advances 93 = .ok (.getfield 92, 3) := by decide +kernel
theorem dX7_advances_96 : decode cX7_advances 96 = .ok (.putfield 92, 3) := by decide +kernel
theorem dX7_advances_99 : decode cX7_advances 99 = .ok (.aload_n 0, 1) := by decide +kernel
theorem dX7_advances_100 : decode cX7_advances 100 = .ok (.dup, 1) := by decide +kernel
theorem dX7_advances_101 : decode cX7_advances 101 = .ok (.getfield 83, 3) := by decide +kernel
theorem dX7_advances_104 : decode cX7_advances 104 = .ok (.iconst 1, 1) := by decide +kernel
theorem dX7_advances_105 : decode cX7_advances 105 = .ok (.iadd, 1) := by decide +kernel
theorem dX7_advances_106 : decode cX7_advances 106 = .ok (.putfield 83, 3) := by decide +kernel
theorem dX7_advances_109 : decode cX7_advances 109 = .ok (.goto (-71), 3) := by decide +kernel
theorem dX7_advances_112 : decode cX7_advances 112 = .ok (.aload_n 0, 1) := by decide +kernel
theorem dX7_advances_113 : decode cX7_advances 113 = .ok (.aload_n 0, 1) := by decide +kernel
theorem dX7_advances_114 : decode cX7_advances 114 = .ok (.getfield 83, 3) := by decide +kernel
theorem dX7_advances_117 : decode cX7_advances 117 = .ok (.aload_n 0, 1) := by decide +kernel
theorem dX7_advances_118 : decode cX7_advances 118 = .ok (.getfield 86, 3) := by decide +kernel
theorem dX7_advances_121 : decode cX7_advances 121 = .ok (.isub, 1) := by decide +kernel
theorem dX7_advances_122 : decode cX7_advances 122 = .ok (.iconst 3, 1) := by decide +kernel
theorem dX7_advances_123 : decode cX7_advances 123 = .ok (.if_icmp .ge 7, 3) := by decide +kernel
theorem dX7_advances_126 : decode cX7_advances 126 = .ok (.iconst 2, 1) := by decide +kernel
theorem dX7_advances_127 : decode cX7_advances 127 = .ok (.goto 4, 3) := by decide +kernel
theorem dX7_advances_130 : decode cX7_advances 130 = .ok (.iconst 5, 1) := by decide +kernel
theorem dX7_advances_131 : decode cX7_advances 131 = .ok (.putfield 95, 3) := by decide +kernel
theorem dX7_advances_134 : decode cX7_advances 134 = .ok (.return_, 1) := by decide +kernel
theorem dX7_advances_135 : decode cX7_advances 135 = .ok (.aload_n 0, 1) := by decide +kernel
theorem dX7_advances_136 : decode cX7_advances 136 = .ok (.iload_n 1, 1) := by decide +kernel
theorem dX7_advances_137 : decode cX7_advances 137 = .ok (.ifCond .ge 7, 3) := by decide +kernel
theorem dX7_advances_140 : decode cX7_advances 140 = .ok (.iconst 0, 1) := by decide +kernel
theorem dX7_advances_141 : decode cX7_advances 141 = .ok (.goto 39, 3) := by decide +kernel
theorem dX7_advances_144 : decode cX7_advances 144 = .ok (.iload_n 1, 1) := by decide +kernel
theorem dX7_advances_145 : decode cX7_advances 145 = .ok (.bipush 97, 2) := by decide +kernel
theorem dX7_advances_147 : decode cX7_advances 147 = .ok (.bipush 122, 2) := by decide +kernel
theorem dX7_advances_149 : decode cX7_advances 149 = .ok (.invokestatic 53, 3) := by decide +kernel
theorem dX7_advances_152 : decode cX7_advances 152 = .ok (.ifCond .eq 7, 3) := by decide +kernel
theorem dX7_advances_155 : decode cX7_advances 155 = .ok (.iconst 1, 1) := by decide +kernel
theorem dX7_advances_156 : decode cX7_advances 156 = .ok (.goto 24, 3) := by decide +kernel
theorem dX7_advances_159 : decode cX7_advances 159 = .ok (.iload_n 1, 1) := by decide +kernel
theorem dX7_advances_160 : decode cX7_advances 160 = .ok (.bipush 44, 2) := by decide +kernel
theorem dX7_advances_162 : decode cX7_advances 162 = .ok (.if_icmp .ne 7, 3) := by decide +kernel
theorem dX7_advances_165 : decode cX7_advances 165 = .ok (.iconst 3, 1) := by decide +kernel
theorem dX7_advances_166 : decode cX7_advances 166 = .ok (.goto 14, 3) := by decide +kernel
theorem dX7_advances_169 : decode cX7_advances 169 = .ok (.iload_n 1, 1) := by decide +kernel
theorem dX7_advances_170 : decode cX7_advances 170 = .ok (.bipush 59, 2) := by decide +kernel
theorem dX7_advances_172 : decode cX7_advances 172 = .ok (.if_icmp .ne 7, 3) := by decide +kernel
theorem dX7_advances_175 : decode cX7_advances 175 = .ok (.iconst 4, 1) := by decide +kernel
theorem dX7_advances_176 : decode cX7_advances 176 = .ok (.goto 4, 3) := by decide +kernel
theorem dX7_advances_179 : decode cX7_advances 179 = .ok (.iconst 5, 1) := by decide +kernel
theorem dX7_advances_180 : decode cX7_advances 180 = .ok (.putfield 95, 3) := by decide +kernel
theorem dX7_advances_183 : decode cX7_advances 183 = .ok (.aload_n 0, 1) := by decide +kernel
theorem dX7_advances_184 : decode cX7_advances 184 = .ok (.dup, 1) := by decide +kernel
theorem dX7_advances_185 : decode cX7_advances 185 = .ok (.getfield 83, 3) := by decide +kernel
theorem dX7_advances_188 : decode cX7_advances 188 = .ok (.aload_n 0, 1) := by decide +kernel
theorem dX7_advances_189 : decode cX7_advances 189 = .ok (.getfield 95, 3) := by decide +kernel
theorem dX7_advances_192 : decode cX7_advances 192 = .ok (.ifCond .ne 7, 3) := by decide +kernel
theorem dX7_advances_195 : decode cX7_advances 195 = .ok (.iconst 0, 1) := by decide +kernel
theorem dX7_advances_196 : decode cX7_advances 196 = .ok (.goto 4, 3) := by decide +kernel
theorem dX7_advances_199 : decode cX7_advances 199 = .ok (.iconst 1, 1) := by decide +kernel
theorem dX7_advances_200 : decode cX7_advances 200 = .ok (.iadd, 1) := by decide +kernel
theorem dX7_advances_201 : decode cX7_advances 201 = .ok (.putfield 83, 3) := by decide +kernel
theorem dX7_advances_204 : decode cX7_advances 204 = .ok (.return_, 1) := by decide +kernel
theorem dX7_isWell_0 : decode cX7_isWell 0 = .ok (.aload_n 0, 1) := by decide +kernel
theorem dX7_isWell_1 : decode cX7_isWell 1 = .ok (.getfield 98, 3) := by decide +kernel
theorem dX7_isWell_4 : decode cX7_isWell 4 = .ok (.ifCond .ge 7, 3) := by decide +kernel
theorem dX7_isWell_7 : decode cX7_isWell 7 = .ok (.iconst 1, 1) := by decide +kernel
theorem dX7_isWell_8 : decode cX7_isWell 8 = .ok (.goto 4, 3) := by decide +kernel
theorem dX7_isWell_11 : decode cX7_isWell 11 = .ok (.iconst 0, 1) := by decide +kernel
theorem dX7_isWell_12 : decode cX7_isWell 12 = .ok (.ireturn, 1) := by decide +kernel
theorem dX7_takes_0 : decode cX7_takes 0 = .ok (.aload_n 0, 1) := by decide +kernel
theorem dX7_takes_1 : decode cX7_takes 1 = .ok (.invokevirtual 101, 3) := by decide +kernel
theorem dX7_takes_4 : decode cX7_takes 4 = .ok (.ifCond .ne 5, 3) := by decide +kernel
theorem dX7_takes_7 : decode cX7_takes 7 = .ok (.iconst 0, 1) := by decide +kernel
theorem dX7_takes_8 : decode cX7_takes 8 = .ok (.ireturn, 1) := by decide +kernel
theorem dX7_takes_9 : decode cX7_takes 9 = .ok (.iload_n 1, 1) := by decide +kernel
theorem dX7_takes_10 : decode cX7_takes 10 = .ok (.ifCond .ne 18, 3) := by decide +kernel
theorem dX7_takes_13 : decode cX7_takes 13 = .ok (.aload_n 0, 1) := by decide +kernel
theorem dX7_takes_14 : decode cX7_takes 14 = .ok (.aload_n 0, 1) := by decide +kernel
theorem dX7_takes_15 : decode cX7_takes 15 = .ok (.getfield 86, 3) := by decide +kernel
theorem dX7_takes_18 : decode cX7_takes 18 = .ok (.putfield 98, 3) := by decide +kernel
theorem dX7_takes_21 : decode cX7_takes 21 = .ok (.aload_n 0, 1) := by decide +kernel
theorem dX7_takes_22 : decode cX7_takes 22 = .ok (.iload_n 2, 1) := by decide +kernel
theorem dX7_takes_23 : decode cX7_takes 23 = .ok (.putfield 105, 3) := by decide +kernel
theorem dX7_takes_26 : decode cX7_takes 26 = .ok (.iconst 0, 1) := by decide +kernel
theorem dX7_takes_27 : decode cX7_takes 27 = .ok (.ireturn, 1) := by decide +kernel
theorem dX7_takes_28 : decode cX7_takes 28 = .ok (.aload_n 0, 1) := by decide +kernel
theorem dX7_takes_29 : decode cX7_takes 29 = .ok (.getfield 92, 3) := by decide +kernel
theorem dX7_takes_32 : decode cX7_takes 32 = .ok (.istore_n 3, 1) := by decide +kernel
theorem dX7_takes_33 : decode cX7_takes 33 = .ok (.aload_n 0, 1) := by decide +kernel
theorem dX7_takes_34 : decode cX7_takes 34 = .ok (.invokevirtual 108, 3) := by decide +kernel
theorem dX7_takes_37 : decode cX7_takes 37 = .ok (.iload_n 3, 1) := by decide +kernel
theorem dX7_takes_38 : decode cX7_takes 38 = .ok (.ireturn, 1) := by decide +kernel
theorem dX7_figure_0 : decode cX7_figure 0 = .ok (.aload_n 0, 1) := by decide +kernel
theorem dX7_figure_1 : decode cX7_figure 1 = .ok (.invokevirtual 101, 3) := by decide +kernel
theorem dX7_figure_4 : decode cX7_figure 4 = .ok (.ifCond .eq 18, 3) := by decide +kernel
theorem dX7_figure_7 : decode cX7_figure 7 = .ok (.aload_n 0, 1) := by decide +kernel
theorem dX7_figure_8 : decode cX7_figure 8 = .ok (.getfield 95, 3) := by decide +kernel
theorem dX7_figure_11 : decode cX7_figure 11 = .ok (.iconst 2, 1) := by decide +kernel
theorem dX7_figure_12 : decode cX7_figure 12 = .ok (.if_icmp .eq 10, 3) := by decide +kernel
theorem dX7_figure_15 : decode cX7_figure 15 = .ok (.aload_n 0, 1) := by decide +kernel
theorem dX7_figure_16 : decode cX7_figure 16 = .ok (.iconst 0, 1) := by decide +kernel
theorem dX7_figure_17 : decode cX7_figure 17 = .ok (.iconst 1, 1) := by decide +kernel
theorem dX7_figure_18 : decode cX7_figure 18 = .ok (.invokevirtual 111, 3) := by decide +kernel
theorem dX7_figure_21 : decode cX7_figure 21 = .ok (.ireturn, 1) := by decide +kernel
theorem dX7_figure_22 : decode cX7_figure 22 = .ok (.aload_n 0, 1) := by decide +kernel
theorem dX7_figure_23 : decode cX7_figure 23 = .ok (.aload_n 0, 1) := by decide +kernel
theorem dX7_figure_24 : decode cX7_figure 24 = .ok (.getfield 92, 3) := by decide +kernel
theorem dX7_figure_27 : decode cX7_figure 27 = .ok (.iload_n 1, 1) := by decide +kernel
theorem dX7_figure_28 : decode cX7_figure 28 = .ok (.iload_n 2, 1) := by decide +kernel
theorem dX7_figure_29 : decode cX7_figure 29 = .ok (.invokestatic 53, 3) := by decide +kernel
theorem dX7_figure_32 : decode cX7_figure 32 = .ok (.iconst 2, 1) := by decide +kernel
theorem dX7_figure_33 : decode cX7_figure 33 = .ok (.invokevirtual 111, 3) := by decide +kernel
theorem dX7_figure_36 : decode cX7_figure 36 = .ok (.ireturn, 1) := by decide +kernel
theorem dX7_kindOf_0 : decode cX7_kindOf 0 = .ok (.iload_n 0, 1) := by decide +kernel
theorem dX7_kindOf_1 : decode cX7_kindOf 1 = .ok (.bipush 98, 2) := by decide +kernel
theorem dX7_kindOf_3 : decode cX7_kindOf 3 = .ok (.if_icmp .ne 7, 3) := by decide +kernel
theorem dX7_kindOf_6 : decode cX7_kindOf 6 = .ok (.iconst 1, 1) := by decide +kernel
theorem dX7_kindOf_7 : decode cX7_kindOf 7 = .ok (.goto 44, 3) := by decide +kernel
theorem dX7_kindOf_10 : decode cX7_kindOf 10 = .ok (.iload_n 0, 1) := by decide +kernel
theorem dX7_kindOf_11 : decode cX7_kindOf 11 = .ok (.bipush 111, 2) := by decide +kernel
theorem dX7_kindOf_13 : decode cX7_kindOf 13 = .ok (.if_icmp .ne 7, 3) := by decide +kernel
theorem dX7_kindOf_16 : decode cX7_kindOf 16 = .ok (.iconst 2, 1) := by decide +kernel
theorem dX7_kindOf_17 : decode cX7_kindOf 17 = .ok (.goto 34, 3) := by decide +kernel
theorem dX7_kindOf_20 : decode cX7_kindOf 20 = .ok (.iload_n 0, 1) := by decide +kernel
theorem dX7_kindOf_21 : decode cX7_kindOf 21 = .ok (.bipush 121, 2) := by decide +kernel
theorem dX7_kindOf_23 : decode cX7_kindOf 23 = .ok (.if_icmp .ne 7, 3) := by decide +kernel
theorem dX7_kindOf_26 : decode cX7_kindOf 26 = .ok (.iconst 3, 1) := by decide +kernel
theorem dX7_kindOf_27 : decode cX7_kindOf 27 = .ok (.goto 24, 3) := by decide +kernel
theorem dX7_kindOf_30 : decode cX7_kindOf 30 = .ok (.iload_n 0, 1) := by decide +kernel
theorem dX7_kindOf_31 : decode cX7_kindOf 31 = .ok (.bipush 112, 2) := by decide +kernel
theorem dX7_kindOf_33 : decode cX7_kindOf 33 = .ok (.if_icmp .ne 7, 3) := by decide +kernel
theorem dX7_kindOf_36 : decode cX7_kindOf 36 = .ok (.iconst 4, 1) := by decide +kernel
theorem dX7_kindOf_37 : decode cX7_kindOf 37 = .ok (.goto 14, 3) := by decide +kernel
theorem dX7_kindOf_40 : decode cX7_kindOf 40 = .ok (.iload_n 0, 1) := by decide +kernel
theorem dX7_kindOf_41 : decode cX7_kindOf 41 = .ok (.bipush 100, 2) := by decide +kernel
theorem dX7_kindOf_43 : decode cX7_kindOf 43 = .ok (.if_icmp .ne 7, 3) := by decide +kernel
theorem dX7_kindOf_46 : decode cX7_kindOf 46 = .ok (.iconst 5, 1) := by decide +kernel
theorem dX7_kindOf_47 : decode cX7_kindOf 47 = .ok (.goto 4, 3) := by decide +kernel
theorem dX7_kindOf_50 : decode cX7_kindOf 50 = .ok (.iconst 0, 1) := by decide +kernel
theorem dX7_kindOf_51 : decode cX7_kindOf 51 = .ok (.ireturn, 1) := by decide +kernel
theorem dX7_next_0 : decode cX7_next 0 = .ok (.aload_n 0, 1) := by decide +kernel
theorem dX7_next_1 : decode cX7_next 1 = .ok (.aload_n 0, 1) := by decide +kernel
theorem dX7_next_2 : decode cX7_next 2 = .ok (.getfield 95, 3) := by decide +kernel
theorem dX7_next_5 : decode cX7_next 5 = .ok (.iconst 3, 1) := by decide +kernel
theorem dX7_next_6 : decode cX7_next 6 = .ok (.if_icmp .ne 7, 3) := by decide +kernel
theorem dX7_next_9 : decode cX7_next 9 = .ok (.iconst 1, 1) := by decide +kernel
theorem dX7_next_10 : decode cX7_next 10 = .ok (.goto 4, 3) := by decide +kernel
theorem dX7_next_13 : decode cX7_next 13 = .ok (.iconst 0, 1) := by decide +kernel
theorem dX7_next_14 : decode cX7_next 14 = .ok (.iconst 1, 1) := by decide +kernel
theorem dX7_next_15 : decode cX7_next 15 = .ok (.invokevirtual 111, 3) := by decide +kernel
theorem dX7_next_18 : decode cX7_next 18 = .ok (.pop, 1) := by decide +kernel
theorem dX7_next_19 : decode cX7_next 19 = .ok (.aload_n 0, 1) := by decide +kernel
theorem dX7_next_20 : decode cX7_next 20 = .ok (.iload_n 1, 1) := by decide +kernel
theorem dX7_next_21 : decode cX7_next 21 = .ok (.iload_n 2, 1) := by decide +kernel
theorem dX7_next_22 : decode cX7_next 22 = .ok (.invokevirtual 115, 3) := by decide +kernel
theorem dX7_next_25 : decode cX7_next 25 = .ok (.ireturn, 1) := by decide +kernel
theorem dX7_readsTree_0 : decode cX7_readsTree 0 = .ok (.aload_n 0, 1) := by decide +kernel
theorem dX7_readsTree_1 : decode cX7_readsTree 1 = .ok (.getfield 92, 3) := by decide +kernel
theorem dX7_readsTree_4 : decode cX7_readsTree 4 = .ok (.invokestatic 118, 3) := by decide +kernel
theorem dX7_readsTree_7 : decode cX7_readsTree 7 = .ok (.istore_n 1, 1) := by decide +kernel
theorem dX7_readsTree_8 : decode cX7_readsTree 8 = .ok (.aload_n 0, 1) := by decide +kernel
theorem dX7_readsTree_9 : decode cX7_readsTree 9 = .ok (.aload_n 0, 1) := by decide +kernel
theorem dX7_readsTree_10 : decode cX7_readsTree 10 = .ok (.getfield 28, 3) := by decide +kernel
theorem dX7_readsTree_13 : decode cX7_readsTree 13 = .ok (.iconst 2, 1) := by decide +kernel
theorem dX7_readsTree_14 : decode cX7_readsTree 14 = .ok (.iaload, 1) := by decide +kernel
theorem dX7_readsTree_15 : decode cX7_readsTree 15 = .ok (.iconst 4, 1) := by decide +kernel
theorem dX7_readsTree_16 : decode cX7_readsTree 16 = .ok (.if_icmp .ge 7, 3) := by decide +kernel
theorem dX7_readsTree_19 : decode cX7_readsTree 19 = .ok (.iconst 1, 1) := by decide +kernel
theorem dX7_readsTree_20 : decode cX7_readsTree 20 = .ok (.goto 4, 3) := by decide +kernel
theorem dX7_readsTree_23 : decode cX7_readsTree 23 = .ok (.iconst 0, 1) := by decide +kernel
theorem dX7_readsTree_24 : decode cX7_readsTree 24 = .ok (.iconst 3, 1) := by decide +kernel
theorem dX7_readsTree_25 : decode cX7_readsTree 25 = .ok (.invokevirtual 111, 3) := by decide +kernel
theorem dX7_readsTree_28 : decode cX7_readsTree 28 = .ok (.pop, 1) := by decide +kernel
theorem dX7_readsTree_29 : decode cX7_readsTree 29 = .ok (.iconst 4, 1) := by decide +kernel
theorem dX7_readsTree_30 : decode cX7_readsTree 30 = .ok (.iconst 3, 1) := by decide +kernel
theorem dX7_readsTree_31 : decode cX7_readsTree 31 = .ok (.aload_n 0, 1) := by decide +kernel
theorem dX7_readsTree_32 : decode cX7_readsTree 32 = .ok (.getfield 28, 3) := by decide +kernel
theorem dX7_readsTree_35 : decode cX7_readsTree 35 = .ok (.iconst 2, 1) := by decide +kernel
theorem dX7_readsTree_36 : decode cX7_readsTree 36 = .ok (.iaload, 1) := by decide +kernel
theorem dX7_readsTree_37 : decode cX7_readsTree 37 = .ok (.iconst 4, 1) := by decide +kernel
theorem dX7_readsTree_38 : decode cX7_readsTree 38 = .ok (.if_icmp .ge 12, 3) := by decide +kernel
theorem dX7_readsTree_41 : decode cX7_readsTree 41 = .ok (.aload_n 0, 1) := by decide +kernel
theorem dX7_readsTree_42 : decode cX7_readsTree 42 = .ok (.getfield 28, 3) := by decide +kernel
theorem dX7_readsTree_45 : decode cX7_readsTree 45 = .ok (.iconst 2, 1) := by decide +kernel
theorem dX7_readsTree_46 : decode cX7_readsTree 46 = .ok (.iaload, 1) := by decide +kernel
theorem dX7_readsTree_47 : decode cX7_readsTree 47 = .ok (.goto 4, 3) := by decide +kernel
theorem dX7_readsTree_50 : decode cX7_readsTree 50 = .ok (.iconst 0, 1) := by decide +kernel
theorem dX7_readsTree_51 : decode cX7_readsTree 51 = .ok (.imul, 1) := by decide +kernel
theorem dX7_readsTree_52 : decode cX7_readsTree 52 = .ok (.iadd, 1) := by decide +kernel
theorem dX7_readsTree_53 : decode cX7_readsTree 53 = .ok (.istore_n 2, 1) := by decide +kernel
theorem dX7_readsTree_54 : decode cX7_readsTree 54 = .ok (.aload_n 0, 1) := by decide +kernel
theorem dX7_readsTree_55 : decode cX7_readsTree 55 = .ok (.bipush 10, 2) := by decide +kernel
theorem dX7_readsTree_57 : decode cX7_readsTree 57 = .ok (.bipush 90, 2) := by decide +kernel
theorem dX7_readsTree_59 : decode cX7_readsTree 59 = .ok (.invokevirtual 115, 3) := by decide +kernel
theorem dX7_readsTree_62 : decode cX7_readsTree 62 = .ok (.istore_n 3, 1) := by decide +kernel
theorem dX7_readsTree_63 : decode cX7_readsTree 63 = .ok (.aload_n 0, 1) := by decide +kernel
theorem dX7_readsTree_64 : decode cX7_readsTree 64 = .ok (.iconst 0, 1) := by decide +kernel
theorem dX7_readsTree_65 : decode cX7_readsTree 65 = .ok (.bipush 9, 2) := by decide +kernel
theorem dX7_readsTree_67 : decode cX7_readsTree 67 = .ok (.invokevirtual 121, 3) := by decide +kernel
theorem dX7_readsTree_70 : decode cX7_readsTree 70 = .ok (.istore 4, 2) := by decide +kernel
theorem dX7_readsTree_72 : decode cX7_readsTree 72 = .ok (.aload_n 0, 1) := by decide +kernel
theorem dX7_readsTree_73 : decode cX7_readsTree 73 = .ok (.aload_n 0, 1) := by decide +kernel
theorem dX7_readsTree_74 : decode cX7_readsTree 74 = .ok (.getfield 95, 3) := by decide +kernel
theorem dX7_readsTree_77 : decode cX7_readsTree 77 = .ok (.iconst 4, 1) := by decide +kernel
theorem dX7_readsTree_78 : decode cX7_readsTree 78 = .ok (.if_icmp .ne 7, 3) := by decide +kernel
theorem dX7_readsTree_81 : decode cX7_readsTree 81 = .ok (.iconst 1, 1) := by decide +kernel
theorem dX7_readsTree_82 : decode cX7_readsTree 82 = .ok (.goto 4, 3) := by decide +kernel
theorem dX7_readsTree_85 : decode cX7_readsTree 85 = .ok (.iconst 0, 1) := by decide +kernel
theorem dX7_readsTree_86 : decode cX7_readsTree 86 = .ok (.iconst 1, 1) := by decide +kernel
theorem dX7_readsTree_87 : decode cX7_readsTree 87 = .ok (.invokevirtual 111, 3) := by decide +kernel
theorem dX7_readsTree_90 : decode cX7_readsTree 90 = .ok (.pop, 1) := by decide +kernel
theorem dX7_readsTree_91 : decode cX7_readsTree 91 = .ok (.aload_n 0, 1) := by decide +kernel
theorem dX7_readsTree_92 : decode cX7_readsTree 92 = .ok (.invokevirtual 101, 3) := by decide +kernel
theorem dX7_readsTree_95 : decode cX7_readsTree 95 = .ok (.ifCond .eq 39, 3) := by decide +kernel
theorem dX7_readsTree_98 : decode cX7_readsTree 98 = .ok (.aload_n 0, 1) := by decide +kernel
theorem dX7_readsTree_99 : decode cX7_readsTree 99 = .ok (.getfield 28, 3) := by decide +kernel
theorem dX7_readsTree_102 : decode cX7_readsTree 102 = .ok (.iload_n 2, 1) := by decide +kernel
theorem dX7_readsTree_103 : decode cX7_readsTree 103 = .ok (.iload_n 1, 1) := by decide +kernel
theorem dX7_readsTree_104 : decode cX7_readsTree 104 = .ok (.iastore, 1) := by decide +kernel
theorem dX7_readsTree_105 : decode cX7_readsTree 105 = .ok (.aload_n 0, 1) := by decide +kernel
theorem dX7_readsTree_106 : decode cX7_readsTree 106 = .ok (.getfield 28, 3) := by decide +kernel
theorem dX7_readsTree_109 : decode cX7_readsTree 109 = .ok (.iload_n 2, 1) := by decide +kernel
theorem dX7_readsTree_110 : decode cX7_readsTree 110 = .ok (.iconst 1, 1) := by decide +kernel
theorem dX7_readsTree_111 : decode cX7_readsTree 111 = .ok (.iadd, 1) := by decide +kernel
theorem dX7_readsTree_112 : decode cX7_readsTree 112 = .ok (.iload_n 3, 1) := by decide +kernel
theorem dX7_readsTree_113 : decode cX7_readsTree 113 = .ok (.iastore, 1) := by decide +kernel
theorem dX7_readsTree_114 : decode cX7_readsTree 114 = .ok (.aload_n 0, 1) := by decide +kernel
theorem dX7_readsTree_115 : decode cX7_readsTree 115 = .ok (.getfield 28, 3) := by decide +kernel
theorem dX7_readsTree_118 : decode cX7_readsTree 118 = .ok (.iload_n 2, 1) := by decide +kernel
theorem dX7_readsTree_119 : decode cX7_readsTree 119 = .ok (.iconst 2, 1) := by decide +kernel
theorem dX7_readsTree_120 : decode cX7_readsTree 120 = .ok (.iadd, 1) := by decide +kernel
theorem dX7_readsTree_121 : decode cX7_readsTree 121 = .ok (.iload 4, 2) := by decide +kernel
theorem dX7_readsTree_123 : decode cX7_readsTree 123 = .ok (.iastore, 1) := by decide +kernel
theorem dX7_readsTree_124 : decode cX7_readsTree 124 = .ok (.aload_n 0, 1) := by decide +kernel
theorem dX7_readsTree_125 : decode cX7_readsTree 125 = .ok (.getfield 28, 3) := by decide +kernel
theorem dX7_readsTree_128 : decode cX7_readsTree 128 = .ok (.iconst 2, 1) := by decide +kernel
theorem dX7_readsTree_129 : decode cX7_readsTree 129 = .ok (.dup2, 1) := by decide +kernel
theorem dX7_readsTree_130 : decode cX7_readsTree 130 = .ok (.iaload, 1) := by decide +kernel
theorem dX7_readsTree_131 : decode cX7_readsTree 131 = .ok (.iconst 1, 1) := by decide +kernel
theorem dX7_readsTree_132 : decode cX7_readsTree 132 = .ok (.iadd, 1) := by decide +kernel
theorem dX7_readsTree_133 : decode cX7_readsTree 133 = .ok (.iastore, 1) := by decide +kernel
theorem dX7_readsTree_134 : decode cX7_readsTree 134 = .ok (.return_, 1) := by decide +kernel
theorem dX7_isCutAt_0 : decode cX7_isCutAt 0 = .ok (.iconst 0, 1) := by decide +kernel
theorem dX7_isCutAt_1 : decode cX7_isCutAt 1 = .ok (.istore_n 3, 1) := by decide +kernel
theorem dX7_isCutAt_2 : decode cX7_isCutAt 2 = .ok (.iconst 0, 1) := by decide +kernel
theorem dX7_isCutAt_3 : decode cX7_isCutAt 3 = .ok (.istore 4, 2) := by decide +kernel
theorem dX7_isCutAt_5 : decode cX7_isCutAt 5 = .ok (.iload 4, 2) := by decide +kernel
theorem dX7_isCutAt_7 : decode cX7_isCutAt 7 = .ok (.aload_n 0, 1) := by decide +kernel
theorem dX7_isCutAt_8 : decode cX7_isCutAt 8 = .ok (.iconst 3, 1) := by decide +kernel
theorem dX7_isCutAt_9 : decode cX7_isCutAt 9 = .ok (.iaload, 1) := by decide +kernel
theorem dX7_isCutAt_10 : decode cX7_isCutAt 10 = .ok (.if_icmp .ge 47, 3) := by decide +kernel
theorem dX7_isCutAt_13 : decode cX7_isCutAt 13 = .ok (.iload_n 3, 1) := by decide +kernel
theorem dX7_isCutAt_14 : decode cX7_isCutAt 14 = .ok (.ifCond .ne 31, 3) := by decide +kernel
theorem dX7_isCutAt_17 : decode cX7_isCutAt 17 = .ok (.aload_n 0, 1) := by decide +kernel
theorem dX7_isCutAt_18 : decode cX7_isCutAt 18 = .ok (.bipush 16, 2) := by decide +kernel
theorem dX7_isCutAt_20 : decode cX7_isCutAt 20 = .ok (.iconst 4, 1) := by decide +kernel
theorem dX7_isCutAt_21 : decode cX7_isCutAt 21 = .ok (.iload 4, 2) := by decide +kernel
theorem dX7_isCutAt_23 : decode cX7_isCutAt 23 = .ok (.imul, 1) := by decide +kernel
theorem dX7_isCutAt_24 : decode cX7_isCutAt 24 = .ok (.iadd, 1) := by decide +kernel
theorem dX7_isCutAt_25 : decode cX7_isCutAt 25 = .ok (.iaload, 1) := by decide +kernel
theorem dX7_isCutAt_26 : decode cX7_isCutAt 26 = .ok (.iload_n 1, 1) := by decide +kernel
theorem dX7_isCutAt_27 : decode cX7_isCutAt 27 = .ok (.if_icmp .ne 22, 3) := by decide +kernel
theorem dX7_isCutAt_30 : decode cX7_isCutAt 30 = .ok (.aload_n 0, 1) := by decide +kernel
theorem dX7_isCutAt_31 : decode cX7_isCutAt 31 = .ok (.bipush 16, 2) := by decide +kernel
theorem dX7_isCutAt_33 : decode cX7_isCutAt 33 = .ok (.iconst 4, 1) := by decide +kernel
theorem dX7_isCutAt_34 : decode cX7_isCutAt 34 = .ok (.iload 4, 2) := by decide +kernel
theorem dX7_isCutAt_36 : decode cX7_isCutAt 36 = .ok (.imul, 1) := by decide +kernel
theorem dX7_isCutAt_37 : decode cX7_isCutAt 37 = .ok (.iadd, 1) := by decide +kernel
theorem dX7_isCutAt_38 : decode cX7_isCutAt 38 = .ok (.iconst 2, 1) := by decide +kernel
theorem dX7_isCutAt_39 : decode cX7_isCutAt 39 = .ok (.iadd, 1) := by decide +kernel
theorem dX7_isCutAt_40 : decode cX7_isCutAt 40 = .ok (.iaload, 1) := by decide +kernel
theorem dX7_isCutAt_41 : decode cX7_isCutAt 41 = .ok (.iload_n 2, 1) := by decide +kernel
theorem dX7_isCutAt_42 : decode cX7_isCutAt 42 = .ok (.if_icmp .ne 7, 3) := by decide +kernel
theorem dX7_isCutAt_45 : decode cX7_isCutAt 45 = .ok (.iconst 1, 1) := by decide +kernel
theorem dX7_isCutAt_46 : decode cX7_isCutAt 46 = .ok (.goto 4, 3) := by decide +kernel
theorem dX7_isCutAt_49 : decode cX7_isCutAt 49 = .ok (.iconst 0, 1) := by decide +kernel
theorem dX7_isCutAt_50 : decode cX7_isCutAt 50 = .ok (.istore_n 3, 1) := by decide +kernel
theorem dX7_isCutAt_51 : decode cX7_isCutAt 51 = .ok (.iinc 4 1, 3) := by decide +kernel
theorem dX7_isCutAt_54 : decode cX7_isCutAt 54 = .ok (.goto (-49), 3) := by decide +kernel
theorem dX7_isCutAt_57 : decode cX7_isCutAt 57 = .ok (.iload_n 3, 1) := by decide +kernel
theorem dX7_isCutAt_58 : decode cX7_isCutAt 58 = .ok (.ireturn, 1) := by decide +kernel
theorem dX7_readsCut_0 : decode cX7_readsCut 0 = .ok (.aload_n 0, 1) := by decide +kernel
theorem dX7_readsCut_1 : decode cX7_readsCut 1 = .ok (.aload_n 0, 1) := by decide +kernel
theorem dX7_readsCut_2 : decode cX7_readsCut 2 = .ok (.getfield 28, 3) := by decide +kernel
theorem dX7_readsCut_5 : decode cX7_readsCut 5 = .ok (.iconst 3, 1) := by decide +kernel
theorem dX7_readsCut_6 : decode cX7_readsCut 6 = .ok (.iaload, 1) := by decide +kernel
theorem dX7_readsCut_7 : decode cX7_readsCut 7 = .ok (.bipush 8, 2) := by decide +kernel
theorem dX7_readsCut_9 : decode cX7_readsCut 9 = .ok (.if_icmp .ge 7, 3) := by decide +kernel
theorem dX7_readsCut_12 : decode cX7_readsCut 12 = .ok (.iconst 1, 1) := by decide +kernel
theorem dX7_readsCut_13 : decode cX7_readsCut 13 = .ok (.goto 4, 3) := by decide +kernel
theorem dX7_readsCut_16 : decode cX7_readsCut 16 = .ok (.iconst 0, 1) := by decide +kernel
theorem dX7_readsCut_17 : decode cX7_readsCut 17 = .ok (.iconst 3, 1) := by decide +kernel
theorem dX7_readsCut_18 : decode cX7_readsCut 18 = .ok (.invokevirtual 111, 3) := by decide +kernel
theorem dX7_readsCut_21 : decode cX7_readsCut 21 = .ok (.pop, 1) := by decide +kernel
theorem dX7_readsCut_22 : decode cX7_readsCut 22 = .ok (.bipush 16, 2) := by decide +kernel
theorem dX7_readsCut_24 : decode cX7_readsCut 24 = .ok (.iconst 4, 1) := by decide +kernel
theorem dX7_readsCut_25 : decode cX7_readsCut 25 = .ok (.aload_n 0, 1) := by decide +kernel
theorem dX7_readsCut_26 : decode cX7_readsCut 26 = .ok (.getfield 28, 3) := by decide +kernel
theorem dX7_readsCut_29 : decode cX7_readsCut 29 = .ok (.iconst 3, 1) := by decide +kernel
theorem dX7_readsCut_30 : decode cX7_readsCut 30 = .ok (.iaload, 1) := by decide +kernel
theorem dX7_readsCut_31 : decode cX7_readsCut 31 = .ok (.bipush 8, 2) := by decide +kernel
theorem dX7_readsCut_33 : decode cX7_readsCut 33 = .ok (.if_icmp .ge 12, 3) := by decide +kernel
theorem dX7_readsCut_36 : decode cX7_readsCut 36 = .ok (.aload_n 0, 1) := by decide +kernel
theorem dX7_readsCut_37 : decode cX7_readsCut 37 = .ok (.getfield 28, 3) := by decide +kernel
theorem dX7_readsCut_40 : decode cX7_readsCut 40 = .ok (.iconst 3, 1) := by decide +kernel
theorem dX7_readsCut_41 : decode cX7_readsCut 41 = .ok (.iaload, 1) := by decide +kernel
theorem dX7_readsCut_42 : decode cX7_readsCut 42 = .ok (.goto 4, 3) := by decide +kernel
theorem dX7_readsCut_45 : decode cX7_readsCut 45 = .ok (.iconst 0, 1) := by decide +kernel
theorem dX7_readsCut_46 : decode cX7_readsCut 46 = .ok (.imul, 1) := by decide +kernel
theorem dX7_readsCut_47 : decode cX7_readsCut 47 = .ok (.iadd, 1) := by decide +kernel
theorem dX7_readsCut_48 : decode cX7_readsCut 48 = .ok (.istore_n 1, 1) := by decide +kernel
theorem dX7_readsCut_49 : decode cX7_readsCut 49 = .ok (.aload_n 0, 1) := by decide +kernel
theorem dX7_readsCut_50 : decode cX7_readsCut 50 = .ok (.iconst 0, 1) := by decide +kernel
theorem dX7_readsCut_51 : decode cX7_readsCut 51 = .ok (.aload_n 0, 1) := by decide +kernel
theorem dX7_readsCut_52 : decode cX7_readsCut 52 = .ok (.getfield 28, 3) := by decide +kernel
theorem dX7_readsCut_55 : decode cX7_readsCut 55 = .ok (.iconst 2, 1) := by decide +kernel
theorem dX7_readsCut_56 : decode cX7_readsCut 56 = .ok (.iaload, 1) := by decide +kernel
theorem dX7_readsCut_57 : decode cX7_readsCut 57 = .ok (.iconst 1, 1) := by decide +kernel
theorem dX7_readsCut_58 : decode cX7_readsCut 58 = .ok (.isub, 1) := by decide +kernel
theorem dX7_readsCut_59 : decode cX7_readsCut 59 = .ok (.invokevirtual 115, 3) := by decide +kernel
theorem dX7_readsCut_62 : decode cX7_readsCut 62 = .ok (.istore_n 2, 1) := by decide +kernel
theorem dX7_readsCut_63 : decode cX7_readsCut 63 = .ok (.aload_n 0, 1) := by decide +kernel
theorem dX7_readsCut_64 : decode cX7_readsCut 64 = .ok (.iconst 0, 1) := by decide +kernel
theorem dX7_readsCut_65 : decode cX7_readsCut 65 = .ok (.bipush 25, 2) := by decide +kernel
theorem dX7_readsCut_67 : decode cX7_readsCut 67 = .ok (.invokevirtual 121, 3) := by decide +kernel
theorem dX7_readsCut_70 : decode cX7_readsCut 70 = .ok (.istore_n 3, 1) := by decide +kernel
theorem dX7_readsCut_71 : decode cX7_readsCut 71 = .ok (.aload_n 0, 1) := by decide +kernel
theorem dX7_readsCut_72 : decode cX7_readsCut 72 = .ok (.aload_n 0, 1) := by decide +kernel
theorem dX7_readsCut_73 : decode cX7_readsCut 73 = .ok (.getfield 95, 3) := by decide +kernel
theorem dX7_readsCut_76 : decode cX7_readsCut 76 = .ok (.iconst 3, 1) := by decide +kernel
theorem dX7_readsCut_77 : decode cX7_readsCut 77 = .ok (.if_icmp .ne 7, 3) := by decide +kernel
theorem dX7_readsCut_80 : decode cX7_readsCut 80 = .ok (.iconst 1, 1) := by decide +kernel
theorem dX7_readsCut_81 : decode cX7_readsCut 81 = .ok (.goto 4, 3) := by decide +kernel
theorem dX7_readsCut_84 : decode cX7_readsCut 84 = .ok (.iconst 0, 1) := by decide +kernel
theorem dX7_readsCut_85 : decode cX7_readsCut 85 = .ok (.iconst 1, 1) := by decide +kernel
theorem dX7_readsCut_86 : decode cX7_readsCut 86 = .ok (.invokevirtual 111, 3) := by decide +kernel
theorem dX7_readsCut_89 : decode cX7_readsCut 89 = .ok (.pop, 1) := by decide +kernel
theorem dX7_readsCut_90 : decode cX7_readsCut 90 = .ok (.aload_n 0, 1) := by decide +kernel
theorem dX7_readsCut_91 : decode cX7_readsCut 91 = .ok (.invokevirtual 101, 3) := by decide +kernel
theorem dX7_readsCut_94 : decode cX7_readsCut 94 = .ok (.ifCond .eq 18, 3) := by decide +kernel
theorem dX7_readsCut_97 : decode cX7_readsCut 97 = .ok (.aload_n 0, 1) := by decide +kernel
theorem dX7_readsCut_98 : decode cX7_readsCut 98 = .ok (.getfield 95, 3) := by decide +kernel
theorem dX7_readsCut_101 : decode cX7_readsCut 101 = .ok (.iconst 2, 1) := by decide +kernel
theorem dX7_readsCut_102 : decode cX7_readsCut 102 = .ok (.if_icmp .eq 10, 3) := by decide +kernel
theorem dX7_readsCut_105 : decode cX7_readsCut 105 = .ok (.aload_n 0, 1) := by decide +kernel
theorem dX7_readsCut_106 : decode cX7_readsCut 106 = .ok (.iconst 0, 1) := by decide +kernel
theorem dX7_readsCut_107 : decode cX7_readsCut 107 = .ok (.iconst 1, 1) := by decide +kernel
theorem dX7_readsCut_108 : decode cX7_readsCut 108 = .ok (.invokevirtual 111, 3) := by decide +kernel
theorem dX7_readsCut_111 : decode cX7_readsCut 111 = .ok (.pop, 1) := by decide +kernel
theorem dX7_readsCut_112 : decode cX7_readsCut 112 = .ok (.aload_n 0, 1) := by decide +kernel
theorem dX7_readsCut_113 : decode cX7_readsCut 113 = .ok (.aload_n 0, 1) := by decide +kernel
theorem dX7_readsCut_114 : decode cX7_readsCut 114 = .ok (.getfield 92, 3) := by decide +kernel
theorem dX7_readsCut_117 : decode cX7_readsCut 117 = .ok (.iconst 0, 1) := by decide +kernel
theorem dX7_readsCut_118 : decode cX7_readsCut 118 = .ok (.bipush 59, 2) := by decide +kernel
theorem dX7_readsCut_120 : decode cX7_readsCut 120 = .ok (.invokestatic 53, 3) := by decide +kernel
theorem dX7_readsCut_123 : decode cX7_readsCut 123 = .ok (.ifCond .eq 22, 3) := by decide +kernel
theorem dX7_readsCut_126 : decode cX7_readsCut 126 = .ok (.aload_n 0, 1) := by decide +kernel
theorem dX7_readsCut_127 : decode cX7_readsCut 127 = .ok (.getfield 28, 3) := by decide +kernel
theorem dX7_readsCut_130 : decode cX7_readsCut 130 = .ok (.iload_n 2, 1) := by decide +kernel
theorem dX7_readsCut_131 : decode cX7_readsCut 131 = .ok (.aload_n 0, 1) := by decide +kernel
theorem dX7_readsCut_132 : decode cX7_readsCut 132 = .ok (.getfield 92, 3) := by decide +kernel
theorem dX7_readsCut_135 : decode cX7_readsCut 135 = .ok (.invokestatic 124, 3) := by decide +kernel
theorem dX7_readsCut_138 : decode cX7_readsCut 138 = .ok (.ifCond .ne 7, 3) := by decide +kernel
theorem dX7_readsCut_141 : decode cX7_readsCut 141 = .ok (.iconst 1, 1) := by decide +kernel
theorem dX7_readsCut_142 : decode cX7_readsCut 142 = .ok (.goto 4, 3) := by decide +kernel
theorem dX7_readsCut_145 : decode cX7_readsCut 145 = .ok (.iconst 0, 1) := by decide +kernel
theorem dX7_readsCut_146 : decode cX7_readsCut 146 = .ok (.iconst 2, 1) := by decide +kernel
theorem dX7_readsCut_147 : decode cX7_readsCut 147 = .ok (.invokevirtual 111, 3) := by decide +kernel
theorem dX7_readsCut_150 : decode cX7_readsCut 150 = .ok (.istore 4, 2) := by decide +kernel
theorem dX7_readsCut_152 : decode cX7_readsCut 152 = .ok (.aload_n 0, 1) := by decide +kernel
theorem dX7_readsCut_153 : decode cX7_readsCut 153 = .ok (.iconst 1, 1) := by decide +kernel
theorem dX7_readsCut_154 : decode cX7_readsCut 154 = .ok (.bipush 20, 2) := by decide +kernel
theorem dX7_readsCut_156 : decode cX7_readsCut 156 = .ok (.invokevirtual 121, 3) := by decide +kernel
theorem dX7_readsCut_159 : decode cX7_readsCut 159 = .ok (.istore 5, 2) := by decide +kernel
theorem dX7_readsCut_161 : decode cX7_readsCut 161 = .ok (.aload_n 0, 1) := by decide +kernel
theorem dX7_readsCut_162 : decode cX7_readsCut 162 = .ok (.aload_n 0, 1) := by decide +kernel
theorem dX7_readsCut_163 : decode cX7_readsCut 163 = .ok (.getfield 95, 3) := by decide +kernel
theorem dX7_readsCut_166 : decode cX7_readsCut 166 = .ok (.iconst 4, 1) := by decide +kernel
theorem dX7_readsCut_167 : decode cX7_readsCut 167 = .ok (.if_icmp .ne 7, 3) := by decide +kernel
theorem dX7_readsCut_170 : decode cX7_readsCut 170 = .ok (.iconst 1, 1) := by decide +kernel
theorem dX7_readsCut_171 : decode cX7_readsCut 171 = .ok (.goto 4, 3) := by decide +kernel
theorem dX7_readsCut_174 : decode cX7_readsCut 174 = .ok (.iconst 0, 1) := by decide +kernel
theorem dX7_readsCut_175 : decode cX7_readsCut 175 = .ok (.iconst 1, 1) := by decide +kernel
theorem dX7_readsCut_176 : decode cX7_readsCut 176 = .ok (.invokevirtual 111, 3) := by decide +kernel
theorem dX7_readsCut_179 : decode cX7_readsCut 179 = .ok (.pop, 1) := by decide +kernel
theorem dX7_readsCut_180 : decode cX7_readsCut 180 = .ok (.aload_n 0, 1) := by decide +kernel
theorem dX7_readsCut_181 : decode cX7_readsCut 181 = .ok (.invokevirtual 101, 3) := by decide +kernel
theorem dX7_readsCut_184 : decode cX7_readsCut 184 = .ok (.ifCond .eq 49, 3) := by decide +kernel
theorem dX7_readsCut_187 : decode cX7_readsCut 187 = .ok (.aload_n 0, 1) := by decide +kernel
theorem dX7_readsCut_188 : decode cX7_readsCut 188 = .ok (.getfield 28, 3) := by decide +kernel
theorem dX7_readsCut_191 : decode cX7_readsCut 191 = .ok (.iload_n 1, 1) := by decide +kernel
theorem dX7_readsCut_192 : decode cX7_readsCut 192 = .ok (.iload_n 2, 1) := by decide +kernel
theorem dX7_readsCut_193 : decode cX7_readsCut 193 = .ok (.iastore, 1) := by decide +kernel
theorem dX7_readsCut_194 : decode cX7_readsCut 194 = .ok (.aload_n 0, 1) := by decide +kernel
theorem dX7_readsCut_195 : decode cX7_readsCut 195 = .ok (.getfield 28, 3) := by decide +kernel
theorem dX7_readsCut_198 : decode cX7_readsCut 198 = .ok (.iload_n 1, 1) := by decide +kernel
theorem dX7_readsCut_199 : decode cX7_readsCut 199 = .ok (.iconst 1, 1) := by decide +kernel
theorem dX7_readsCut_200 : decode cX7_readsCut 200 = .ok (.iadd, 1) := by decide +kernel
theorem dX7_readsCut_201 : decode cX7_readsCut 201 = .ok (.iload_n 3, 1) := by decide +kernel
theorem dX7_readsCut_202 : decode cX7_readsCut 202 = .ok (.iastore, 1) := by decide +kernel
theorem dX7_readsCut_203 : decode cX7_readsCut 203 = .ok (.aload_n 0, 1) := by decide +kernel
theorem dX7_readsCut_204 : decode cX7_readsCut 204 = .ok (.getfield 28, 3) := by decide +kernel
theorem dX7_readsCut_207 : decode cX7_readsCut 207 = .ok (.iload_n 1, 1) := by decide +kernel
theorem dX7_readsCut_208 : decode cX7_readsCut 208 = .ok (.iconst 2, 1) := by decide +kernel
theorem dX7_readsCut_209 : decode cX7_readsCut 209 = .ok (.iadd, 1) := by decide +kernel
theorem dX7_readsCut_210 : decode cX7_readsCut 210 = .ok (.iload 4, 2) := by decide +kernel
theorem dX7_readsCut_212 : decode cX7_readsCut 212 = .ok (.iastore, 1) := by decide +kernel
theorem dX7_readsCut_213 : decode cX7_readsCut 213 = .ok (.aload_n 0, 1) := by decide +kernel
theorem dX7_readsCut_214 : decode cX7_readsCut 214 = .ok (.getfield 28, 3) := by decide +kernel
theorem dX7_readsCut_217 : decode cX7_readsCut 217 = .ok (.iload_n 1, 1) := by decide +kernel
theorem dX7_readsCut_218 : decode cX7_readsCut 218 = .ok (.iconst 3, 1) := by decide +kernel
theorem dX7_readsCut_219 : decode cX7_readsCut 219 = .ok (.iadd, 1) := by decide +kernel
theorem dX7_readsCut_220 : decode cX7_readsCut 220 = .ok (.iload 5, 2) := by decide +kernel
theorem dX7_readsCut_222 : decode cX7_readsCut 222 = .ok (.iastore, 1) := by decide +kernel
theorem dX7_readsCut_223 : decode cX7_readsCut 223 = .ok (.aload_n 0, 1) := by decide +kernel
theorem dX7_readsCut_224 : decode cX7_readsCut 224 = .ok (.getfield 28, 3) := by decide +kernel
theorem dX7_readsCut_227 : decode cX7_readsCut 227 = .ok (.iconst 3, 1) := by decide +kernel
theorem dX7_readsCut_228 : decode cX7_readsCut 228 = .ok (.dup2, 1) := by decide +kernel
theorem dX7_readsCut_229 : decode cX7_readsCut 229 = .ok (.iaload, 1) := by decide +kernel
theorem dX7_readsCut_230 : decode cX7_readsCut 230 = .ok (.iconst 1, 1) := by decide +kernel
theorem dX7_readsCut_231 : decode cX7_readsCut 231 = .ok (.iadd, 1) := by decide +kernel
theorem dX7_readsCut_232 : decode cX7_readsCut 232 = .ok (.iastore, 1) := by decide +kernel
theorem dX7_readsCut_233 : decode cX7_readsCut 233 = .ok (.return_, 1) := by decide +kernel
theorem dX7_wood_0 : decode cX7_wood 0 = .ok (.iconst 0, 1) := by decide +kernel
theorem dX7_wood_1 : decode cX7_wood 1 = .ok (.istore_n 1, 1) := by decide +kernel
theorem dX7_wood_2 : decode cX7_wood 2 = .ok (.iload_n 1, 1) := by decide +kernel
theorem dX7_wood_3 : decode cX7_wood 3 = .ok (.bipush 48, 2) := by decide +kernel
theorem dX7_wood_5 : decode cX7_wood 5 = .ok (.if_icmp .ge 16, 3) := by decide +kernel
theorem dX7_wood_8 : decode cX7_wood 8 = .ok (.aload_n 0, 1) := by decide +kernel
theorem dX7_wood_9 : decode cX7_wood 9 = .ok (.getfield 28, 3) := by decide +kernel
theorem dX7_wood_12 : decode cX7_wood 12 = .ok (.iload_n 1, 1) := by decide +kernel
theorem dX7_wood_13 : decode cX7_wood 13 = .ok (.iconst 0, 1) := by decide +kernel
theorem dX7_wood_14 : decode cX7_wood 14 = .ok (.iastore, 1) := by decide +kernel
theorem dX7_wood_15 : decode cX7_wood 15 = .ok (.iinc 1 1, 3) := by decide +kernel
theorem dX7_wood_18 : decode cX7_wood 18 = .ok (.goto (-16), 3) := by decide +kernel
theorem dX7_wood_21 : decode cX7_wood 21 = .ok (.aload_n 0, 1) := by decide +kernel
theorem dX7_wood_22 : decode cX7_wood 22 = .ok (.iconst 0, 1) := by decide +kernel
theorem dX7_wood_23 : decode cX7_wood 23 = .ok (.putfield 83, 3) := by decide +kernel
theorem dX7_wood_26 : decode cX7_wood 26 = .ok (.aload_n 0, 1) := by decide +kernel
theorem dX7_wood_27 : decode cX7_wood 27 = .ok (.iconst (-1), 1) := by decide +kernel
theorem dX7_wood_28 : decode cX7_wood 28 = .ok (.putfield 98, 3) := by decide +kernel
theorem dX7_wood_31 : decode cX7_wood 31 = .ok (.aload_n 0, 1) := by decide +kernel
theorem dX7_wood_32 : decode cX7_wood 32 = .ok (.invokevirtual 108, 3) := by decide +kernel
theorem dX7_wood_35 : decode cX7_wood 35 = .ok (.aload_n 0, 1) := by decide +kernel
theorem dX7_wood_36 : decode cX7_wood 36 = .ok (.aload_n 0, 1) := by decide +kernel
theorem dX7_wood_37 : decode cX7_wood 37 = .ok (.getfield 95, 3) := by decide +kernel
theorem dX7_wood_40 : decode cX7_wood 40 = .ok (.iconst 1, 1) := by decide +kernel
theorem dX7_wood_41 : decode cX7_wood 41 = .ok (.if_icmp .ne 16, 3) := by decide +kernel
theorem dX7_wood_44 : decode cX7_wood 44 = .ok (.aload_n 0, 1) := by decide +kernel
theorem dX7_wood_45 : decode cX7_wood 45 = .ok (.getfield 92, 3) := by decide +kernel
theorem dX7_wood_48 : decode cX7_wood 48 = .ok (.bipush 119, 2) := by decide +kernel
theorem dX7_wood_50 : decode cX7_wood 50 = .ok (.if_icmp .ne 7, 3) := by decide +kernel
theorem dX7_wood_53 : decode cX7_wood 53 = .ok (.iconst 1, 1) := by decide +kernel
theorem dX7_wood_54 : decode cX7_wood 54 = .ok (.goto 4, 3) := by decide +kernel
theorem dX7_wood_57 : decode cX7_wood 57 = .ok (.iconst 0, 1) := by decide +kernel
theorem dX7_wood_58 : decode cX7_wood 58 = .ok (.iconst 1, 1) := by decide +kernel
theorem dX7_wood_59 : decode cX7_wood 59 = .ok (.invokevirtual 111, 3) := by decide +kernel
theorem dX7_wood_62 : decode cX7_wood 62 = .ok (.pop, 1) := by decide +kernel
theorem dX7_wood_63 : decode cX7_wood 63 = .ok (.aload_n 0, 1) := by decide +kernel
theorem dX7_wood_64 : decode cX7_wood 64 = .ok (.getfield 28, 3) := by decide +kernel
theorem dX7_wood_67 : decode cX7_wood 67 = .ok (.iconst 0, 1) := by decide +kernel
theorem dX7_wood_68 : decode cX7_wood 68 = .ok (.aload_n 0, 1) := by decide +kernel
theorem dX7_wood_69 : decode cX7_wood 69 = .ok (.iconst 2, 1) := by decide +kernel
theorem dX7_wood_70 : decode cX7_wood 70 = .ok (.bipush 9, 2) := by decide +kernel
theorem dX7_wood_72 : decode cX7_wood 72 = .ok (.invokevirtual 115, 3) := by decide +kernel
theorem dX7_wood_75 : decode cX7_wood 75 = .ok (.iastore, 1) := by decide +kernel
theorem dX7_wood_76 : decode cX7_wood 76 = .ok (.aload_n 0, 1) := by decide +kernel
theorem dX7_wood_77 : decode cX7_wood 77 = .ok (.aload_n 0, 1) := by decide +kernel
theorem dX7_wood_78 : decode cX7_wood 78 = .ok (.getfield 95, 3) := by decide +kernel
theorem dX7_wood_81 : decode cX7_wood 81 = .ok (.iconst 4, 1) := by decide +kernel
theorem dX7_wood_82 : decode cX7_wood 82 = .ok (.if_icmp .ne 7, 3) := by decide +kernel
theorem dX7_wood_85 : decode cX7_wood 85 = .ok (.iconst 1, 1) := by decide +kernel
theorem dX7_wood_86 : decode cX7_wood 86 = .ok (.goto 4, 3) := by decide +kernel
theorem dX7_wood_89 : decode cX7_wood 89 = .ok (.iconst 0, 1) := by decide +kernel
theorem dX7_wood_90 : decode cX7_wood 90 = .ok (.iconst 1, 1) := by decide +kernel
theorem dX7_wood_91 : decode cX7_wood 91 = .ok (.invokevirtual 111, 3) := by decide +kernel
theorem dX7_wood_94 : decode cX7_wood 94 = .ok (.pop, 1) := by decide +kernel
theorem dX7_wood_95 : decode cX7_wood 95 = .ok (.aload_n 0, 1) := by decide +kernel
theorem dX7_wood_96 : decode cX7_wood 96 = .ok (.invokevirtual 101, 3) := by decide +kernel
theorem dX7_wood_99 : decode cX7_wood 99 = .ok (.ifCond .eq 28, 3) := by decide +kernel
theorem dX7_wood_102 : decode cX7_wood 102 = .ok (.aload_n 0, 1) := by decide +kernel
theorem dX7_wood_103 : decode cX7_wood 103 = .ok (.getfield 95, 3) := by decide +kernel
theorem dX7_wood_106 : decode cX7_wood 106 = .ok (.iconst 1, 1) := by decide +kernel
theorem dX7_wood_107 : decode cX7_wood 107 = .ok (.if_icmp .ne 20, 3) := by decide +kernel
theorem dX7_wood_110 : decode cX7_wood 110 = .ok (.aload_n 0, 1) := by decide +kernel
theorem dX7_wood_111 : decode cX7_wood 111 = .ok (.getfield 92, 3) := by decide +kernel
theorem dX7_wood_114 : decode cX7_wood 114 = .ok (.invokestatic 118, 3) := by decide +kernel
theorem dX7_wood_117 : decode cX7_wood 117 = .ok (.ifCond .le 10, 3) := by decide +kernel
theorem dX7_wood_120 : decode cX7_wood 120 = .ok (.aload_n 0, 1) := by decide +kernel
theorem dX7_wood_121 : decode cX7_wood 121 = .ok (.invokevirtual 128, 3) := by decide +kernel
theorem dX7_wood_124 : decode cX7_wood 124 = .ok (.goto (-29), 3) := by decide +kernel
theorem dX7_wood_127 : decode cX7_wood 127 = .ok (.aload_n 0, 1) := by decide +kernel
theorem dX7_wood_128 : decode cX7_wood 128 = .ok (.invokevirtual 101, 3) := by decide +kernel
theorem dX7_wood_131 : decode cX7_wood 131 = .ok (.ifCond .eq 27, 3) := by decide +kernel
theorem dX7_wood_134 : decode cX7_wood 134 = .ok (.aload_n 0, 1) := by decide +kernel
theorem dX7_wood_135 : decode cX7_wood 135 = .ok (.getfield 95, 3) := by decide +kernel
theorem dX7_wood_138 : decode cX7_wood 138 = .ok (.iconst 1, 1) := by decide +kernel
theorem dX7_wood_139 : decode cX7_wood 139 = .ok (.if_icmp .ne 19, 3) := by decide +kernel
theorem dX7_wood_142 : decode cX7_wood 142 = .ok (.aload_n 0, 1) := by decide +kernel
theorem dX7_wood_143 : decode cX7_wood 143 = .ok (.getfield 92, 3) := by decide +kernel
theorem dX7_wood_146 : decode cX7_wood 146 = .ok (.bipush 99, 2) := by decide +kernel
theorem dX7_wood_148 : decode cX7_wood 148 = .ok (.if_icmp .ne 10, 3) := by decide +kernel
theorem dX7_wood_151 : decode cX7_wood 151 = .ok (.aload_n 0, 1) := by decide +kernel
theorem dX7_wood_152 : decode cX7_wood 152 = .ok (.invokevirtual 131, 3) := by decide +kernel
theorem dX7_wood_155 : decode cX7_wood 155 = .ok (.goto (-28), 3) := by decide +kernel
theorem dX7_wood_158 : decode cX7_wood 158 = .ok (.aload_n 0, 1) := by decide +kernel
theorem dX7_wood_159 : decode cX7_wood 159 = .ok (.invokevirtual 101, 3) := by decide +kernel
theorem dX7_wood_162 : decode cX7_wood 162 = .ok (.ifCond .eq 17, 3) := by decide +kernel
theorem dX7_wood_165 : decode cX7_wood 165 = .ok (.aload_n 0, 1) := by decide +kernel
theorem dX7_wood_166 : decode cX7_wood 166 = .ok (.getfield 95, 3) := by decide +kernel
theorem dX7_wood_169 : decode cX7_wood 169 = .ok (.ifCond .eq 10, 3) := by decide +kernel
theorem dX7_wood_172 : decode cX7_wood 172 = .ok (.aload_n 0, 1) := by decide +kernel
theorem dX7_wood_173 : decode cX7_wood 173 = .ok (.iconst 0, 1) := by decide +kernel
theorem dX7_wood_174 : decode cX7_wood 174 = .ok (.iconst 1, 1) := by decide +kernel
theorem dX7_wood_175 : decode cX7_wood 175 = .ok (.invokevirtual 111, 3) := by decide +kernel
theorem dX7_wood_178 : decode cX7_wood 178 = .ok (.pop, 1) := by decide +kernel
theorem dX7_wood_179 : decode cX7_wood 179 = .ok (.aload_n 0, 1) := by decide +kernel
theorem dX7_wood_180 : decode cX7_wood 180 = .ok (.iconst 0, 1) := by decide +kernel
theorem dX7_wood_181 : decode cX7_wood 181 = .ok (.putfield 79, 3) := by decide +kernel
theorem dX7_wood_184 : decode cX7_wood 184 = .ok (.aload_n 0, 1) := by decide +kernel
theorem dX7_wood_185 : decode cX7_wood 185 = .ok (.invokevirtual 101, 3) := by decide +kernel
theorem dX7_wood_188 : decode cX7_wood 188 = .ok (.ifCond .ne 11, 3) := by decide +kernel
theorem dX7_wood_191 : decode cX7_wood 191 = .ok (.ldc 134, 2) := by decide +kernel
theorem dX7_wood_193 : decode cX7_wood 193 = .ok (.aload_n 0, 1) := by decide +kernel
theorem dX7_wood_194 : decode cX7_wood 194 = .ok (.getfield 98, 3) := by decide +kernel
theorem dX7_wood_197 : decode cX7_wood 197 = .ok (.isub, 1) := by decide +kernel
theorem dX7_wood_198 : decode cX7_wood 198 = .ok (.ireturn, 1) := by decide +kernel
theorem dX7_wood_199 : decode cX7_wood 199 = .ok (.aload_n 0, 1) := by decide +kernel
theorem dX7_wood_200 : decode cX7_wood 200 = .ok (.getfield 28, 3) := by decide +kernel
theorem dX7_wood_203 : decode cX7_wood 203 = .ok (.iconst 0, 1) := by decide +kernel
theorem dX7_wood_204 : decode cX7_wood 204 = .ok (.aload_n 0, 1) := by decide +kernel
theorem dX7_wood_205 : decode cX7_wood 205 = .ok (.getfield 25, 3) := by decide +kernel
theorem dX7_wood_208 : decode cX7_wood 208 = .ok (.iconst 0, 1) := by decide +kernel
theorem dX7_wood_209 : decode cX7_wood 209 = .ok (.invokestatic 135, 3) := by decide +kernel
theorem dX7_wood_212 : decode cX7_wood 212 = .ok (.aload_n 0, 1) := by decide +kernel
theorem dX7_wood_213 : decode cX7_wood 213 = .ok (.iconst 0, 1) := by decide +kernel
theorem dX7_wood_214 : decode cX7_wood 214 = .ok (.putfield 139, 3) := by decide +kernel
theorem dX7_wood_217 : decode cX7_wood 217 = .ok (.aload_n 0, 1) := by decide +kernel
theorem dX7_wood_218 : decode cX7_wood 218 = .ok (.getfield 25, 3) := by decide +kernel
theorem dX7_wood_221 : decode cX7_wood 221 = .ok (.iconst 3, 1) := by decide +kernel
theorem dX7_wood_222 : decode cX7_wood 222 = .ok (.iaload, 1) := by decide +kernel
theorem dX7_wood_223 : decode cX7_wood 223 = .ok (.ireturn, 1) := by decide +kernel
theorem dX7_fault_0 : decode cX7_fault 0 = .ok (.aload_n 0, 1) := by decide +kernel
theorem dX7_fault_1 : decode cX7_fault 1 = .ok (.getfield 105, 3) := by decide +kernel
theorem dX7_fault_4 : decode cX7_fault 4 = .ok (.ireturn, 1) := by decide +kernel
theorem dX7_isWood_0 : decode cX7_isWood 0 = .ok (.aload_n 0, 1) := by decide +kernel
theorem dX7_isWood_1 : decode cX7_isWood 1 = .ok (.getfield 25, 3) := by decide +kernel
theorem dX7_isWood_4 : decode cX7_isWood 4 = .ok (.iconst 0, 1) := by decide +kernel
theorem dX7_isWood_5 : decode cX7_isWood 5 = .ok (.iaload, 1) := by decide +kernel
theorem dX7_isWood_6 : decode cX7_isWood 6 = .ok (.ifCond .le 7, 3) := by decide +kernel
theorem dX7_isWood_9 : decode cX7_isWood 9 = .ok (.iconst 1, 1) := by decide +kernel
theorem dX7_isWood_10 : decode cX7_isWood 10 = .ok (.goto 4, 3) := by decide +kernel
theorem dX7_isWood_13 : decode cX7_isWood 13 = .ok (.iconst 0, 1) := by decide +kernel
theorem dX7_isWood_14 : decode cX7_isWood 14 = .ok (.ireturn, 1) := by decide +kernel
theorem dX7_isTree_0 : decode cX7_isTree 0 = .ok (.iload_n 1, 1) := by decide +kernel
theorem dX7_isTree_1 : decode cX7_isTree 1 = .ok (.iconst 0, 1) := by decide +kernel
theorem dX7_isTree_2 : decode cX7_isTree 2 = .ok (.aload_n 0, 1) := by decide +kernel
theorem dX7_isTree_3 : decode cX7_isTree 3 = .ok (.getfield 25, 3) := by decide +kernel
theorem dX7_isTree_6 : decode cX7_isTree 6 = .ok (.iconst 2, 1) := by decide +kernel
theorem dX7_isTree_7 : decode cX7_isTree 7 = .ok (.iaload, 1) := by decide +kernel
theorem dX7_isTree_8 : decode cX7_isTree 8 = .ok (.iconst 1, 1) := by decide +kernel
theorem dX7_isTree_9 : decode cX7_isTree 9 = .ok (.isub, 1) := by decide +kernel
theorem dX7_isTree_10 : decode cX7_isTree 10 = .ok (.invokestatic 53, 3) := by decide +kernel
theorem dX7_isTree_13 : decode cX7_isTree 13 = .ok (.ireturn, 1) := by decide +kernel
theorem dX7_isCut_0 : decode cX7_isCut 0 = .ok (.iload_n 1, 1) := by decide +kernel
theorem dX7_isCut_1 : decode cX7_isCut 1 = .ok (.iconst 0, 1) := by decide +kernel
theorem dX7_isCut_2 : decode cX7_isCut 2 = .ok (.aload_n 0, 1) := by decide +kernel
theorem dX7_isCut_3 : decode cX7_isCut 3 = .ok (.getfield 25, 3) := by decide +kernel
theorem dX7_isCut_6 : decode cX7_isCut 6 = .ok (.iconst 3, 1) := by decide +kernel
theorem dX7_isCut_7 : decode cX7_isCut 7 = .ok (.iaload, 1) := by decide +kernel
theorem dX7_isCut_8 : decode cX7_isCut 8 = .ok (.iconst 1, 1) := by decide +kernel
theorem dX7_isCut_9 : decode cX7_isCut 9 = .ok (.isub, 1) := by decide +kernel
theorem dX7_isCut_10 : decode cX7_isCut 10 = .ok (.invokestatic 53, 3) := by decide +kernel
theorem dX7_isCut_13 : decode cX7_isCut 13 = .ok (.ireturn, 1) := by decide +kernel
theorem dX7_isFar_0 : decode cX7_isFar 0 = .ok (.iload_n 0, 1) := by decide +kernel
theorem dX7_isFar_1 : decode cX7_isFar 1 = .ok (.iconst 0, 1) := by decide +kernel
theorem dX7_isFar_2 : decode cX7_isFar 2 = .ok (.bipush 50, 2) := by decide +kernel
theorem dX7_isFar_4 : decode cX7_isFar 4 = .ok (.invokestatic 53, 3) := by decide +kernel
theorem dX7_isFar_7 : decode cX7_isFar 7 = .ok (.ireturn, 1) := by decide +kernel
theorem dX7_ruled_0 : decode cX7_ruled 0 = .ok (.iload_n 0, 1) := by decide +kernel
theorem dX7_ruled_1 : decode cX7_ruled 1 = .ok (.tableswitch 67 1 4 #[31, 37, 45, 65], 31) := by decide +kernel
theorem dX7_ruled_32 : decode cX7_ruled 32 = .ok (.iconst 1, 1) := by decide +kernel
theorem dX7_ruled_33 : decode cX7_ruled 33 = .ok (.iload_n 1, 1) := by decide +kernel
theorem dX7_ruled_34 : decode cX7_ruled 34 = .ok (.iconst 3, 1) := by decide +kernel
theorem dX7_ruled_35 : decode cX7_ruled 35 = .ok (.idiv, 1) := by decide +kernel
theorem dX7_ruled_36 : decode cX7_ruled 36 = .ok (.iadd, 1) := by decide +kernel
theorem dX7_ruled_37 : decode cX7_ruled 37 = .ok (.ireturn, 1) := by decide +kernel
theorem dX7_ruled_38 : decode cX7_ruled 38 = .ok (.iconst 1, 1) := by decide +kernel
theorem dX7_ruled_39 : decode cX7_ruled 39 = .ok (.iload_n 1, 1) := by decide +kernel
theorem dX7_ruled_40 : decode cX7_ruled 40 = .ok (.iconst 3, 1) := by decide +kernel
theorem dX7_ruled_41 : decode cX7_ruled 41 = .ok (.idiv, 1) := by decide +kernel
theorem dX7_ruled_42 : decode cX7_ruled 42 = .ok (.iadd, 1) := by decide +kernel
theorem dX7_ruled_43 : decode cX7_ruled 43 = .ok (.iconst 2, 1) := by decide +kernel
theorem dX7_ruled_44 : decode cX7_ruled 44 = .ok (.idiv, 1) := by decide +kernel
theorem dX7_ruled_45 : decode cX7_ruled 45 = .ok (.ireturn, 1) := by decide +kernel
theorem dX7_ruled_46 : decode cX7_ruled 46 = .ok (.iload_n 2, 1) := by decide +kernel
theorem dX7_ruled_47 : decode cX7_ruled 47 = .ok (.iconst 2, 1) := by decide +kernel
theorem dX7_ruled_48 : decode cX7_ruled 48 = .ok (.irem, 1) := by decide +kernel
theorem dX7_ruled_49 : decode cX7_ruled 49 = .ok (.ifCond .ne 11, 3) := by decide +kernel
theorem dX7_ruled_52 : decode cX7_ruled 52 = .ok (.iconst 3, 1) := by decide +kernel
theorem dX7_ruled_53 : decode cX7_ruled 53 = .ok (.iload_n 1, 1) := by decide +kernel
theorem dX7_ruled_54 : decode cX7_ruled 54 = .ok (.iconst 3, 1) := by decide +kernel
theorem dX7_ruled_55 : decode cX7_ruled 55 = .ok (.idiv, 1) := by decide +kernel
theorem dX7_ruled_56 : decode cX7_ruled 56 = .ok (.iadd, 1) := by decide +kernel
theorem dX7_ruled_57 : decode cX7_ruled 57 = .ok (.goto 8, 3) := by decide +kernel
theorem dX7_ruled_60 : decode cX7_ruled 60 = .ok (.iconst 1, 1) := by decide +kernel
theorem dX7_ruled_61 : decode cX7_ruled 61 = .ok (.iload_n 1, 1) := by decide +kernel
theorem dX7_ruled_62 : decode cX7_ruled 62 = .ok (.iconst 3, 1) := by decide +kernel
theorem dX7_ruled_63 : decode cX7_ruled 63 = .ok (.idiv, 1) := by decide +kernel
theorem dX7_ruled_64 : decode cX7_ruled 64 = .ok (.iadd, 1) := by decide +kernel
theorem dX7_ruled_65 : decode cX7_ruled 65 = .ok (.ireturn, 1) := by decide +kernel
theorem dX7_ruled_66 : decode cX7_ruled 66 = .ok (.iload_n 1, 1) := by decide +kernel
theorem dX7_ruled_67 : decode cX7_ruled 67 = .ok (.ireturn, 1) := by decide +kernel
theorem dX7_ruled_68 : decode cX7_ruled 68 = .ok (.iconst 0, 1) := by decide +kernel
theorem dX7_ruled_69 : decode cX7_ruled 69 = .ok (.ireturn, 1) := by decide +kernel
theorem dX7_growth_0 : decode cX7_growth 0 = .ok (.iload_n 0, 1) := by decide +kernel
theorem dX7_growth_1 : decode cX7_growth 1 = .ok (.iload_n 1, 1) := by decide +kernel
theorem dX7_growth_2 : decode cX7_growth 2 = .ok (.iload_n 3, 1) := by decide +kernel
theorem dX7_growth_3 : decode cX7_growth 3 = .ok (.invokestatic 142, 3) := by decide +kernel
theorem dX7_growth_6 : decode cX7_growth 6 = .ok (.istore 4, 2) := by decide +kernel
theorem dX7_growth_8 : decode cX7_growth 8 = .ok (.iload_n 2, 1) := by decide +kernel
theorem dX7_growth_9 : decode cX7_growth 9 = .ok (.iload 4, 2) := by decide +kernel
theorem dX7_growth_11 : decode cX7_growth 11 = .ok (.iadd, 1) := by decide +kernel
theorem dX7_growth_12 : decode cX7_growth 12 = .ok (.sipush 999, 3) := by decide +kernel
theorem dX7_growth_15 : decode cX7_growth 15 = .ok (.if_icmp .ge 8, 3) := by decide +kernel
theorem dX7_growth_18 : decode cX7_growth 18 = .ok (.iload 4, 2) := by decide +kernel
theorem dX7_growth_20 : decode cX7_growth 20 = .ok (.goto 8, 3) := by decide +kernel
theorem dX7_growth_23 : decode cX7_growth 23 = .ok (.sipush 999, 3) := by decide +kernel
theorem dX7_growth_26 : decode cX7_growth 26 = .ok (.iload_n 2, 1) := by decide +kernel
theorem dX7_growth_27 : decode cX7_growth 27 = .ok (.isub, 1) := by decide +kernel
theorem dX7_growth_28 : decode cX7_growth 28 = .ok (.ireturn, 1) := by decide +kernel
theorem dX7_heals_0 : decode cX7_heals 0 = .ok (.iload_n 0, 1) := by decide +kernel
theorem dX7_heals_1 : decode cX7_heals 1 = .ok (.iconst 2, 1) := by decide +kernel
theorem dX7_heals_2 : decode cX7_heals 2 = .ok (.if_icmp .ne 22, 3) := by decide +kernel
theorem dX7_heals_5 : decode cX7_heals 5 = .ok (.iload_n 1, 1) := by decide +kernel
theorem dX7_heals_6 : decode cX7_heals 6 = .ok (.ifCond .le 14, 3) := by decide +kernel
theorem dX7_heals_9 : decode cX7_heals 9 = .ok (.iload_n 2, 1) := by decide +kernel
theorem dX7_heals_10 : decode cX7_heals 10 = .ok (.iconst 2, 1) := by decide +kernel
theorem dX7_heals_11 : decode cX7_heals 11 = .ok (.irem, 1) := by decide +kernel
theorem dX7_heals_12 : decode cX7_heals 12 = .ok (.iconst 1, 1) := by decide +kernel
theorem dX7_heals_13 : decode cX7_heals 13 = .ok (.if_icmp .ne 7, 3) := by decide +kernel
theorem dX7_heals_16 : decode cX7_heals 16 = .ok (.iconst 1, 1) := by decide +kernel
theorem dX7_heals_17 : decode cX7_heals 17 = .ok (.goto 17, 3) := by decide +kernel
theorem dX7_heals_20 : decode cX7_heals 20 = .ok (.iconst 0, 1) := by decide +kernel
theorem dX7_heals_21 : decode cX7_heals 21 = .ok (.goto 13, 3) := by decide +kernel
theorem dX7_heals_24 : decode cX7_heals 24 = .ok (.iload_n 1, 1) := by decide +kernel
theorem dX7_heals_25 : decode cX7_heals 25 = .ok (.iconst 2, 1) := by decide +kernel
theorem dX7_heals_26 : decode cX7_heals 26 = .ok (.if_icmp .le 7, 3) := by decide +kernel
theorem dX7_heals_29 : decode cX7_heals 29 = .ok (.iconst 1, 1) := by decide +kernel
theorem dX7_heals_30 : decode cX7_heals 30 = .ok (.goto 4, 3) := by decide +kernel
theorem dX7_heals_33 : decode cX7_heals 33 = .ok (.iconst 0, 1) := by decide +kernel
theorem dX7_heals_34 : decode cX7_heals 34 = .ok (.ireturn, 1) := by decide +kernel
theorem dX7_passes_0 : decode cX7_passes 0 = .ok (.iconst 0, 1) := by decide +kernel
theorem dX7_passes_1 : decode cX7_passes 1 = .ok (.istore_n 1, 1) := by decide +kernel
theorem dX7_passes_2 : decode cX7_passes 2 = .ok (.iload_n 1, 1) := by decide +kernel
theorem dX7_passes_3 : decode cX7_passes 3 = .ok (.aload_n 0, 1) := by decide +kernel
theorem dX7_passes_4 : decode cX7_passes 4 = .ok (.iconst 2, 1) := by decide +kernel
theorem dX7_passes_5 : decode cX7_passes 5 = .ok (.iaload, 1) := by decide +kernel
theorem dX7_passes_6 : decode cX7_passes 6 = .ok (.if_icmp .ge 118, 3) := by decide +kernel
theorem dX7_passes_9 : decode cX7_passes 9 = .ok (.iconst 4, 1) := by decide +kernel
theorem dX7_passes_10 : decode cX7_passes 10 = .ok (.iconst 3, 1) := by decide +kernel
theorem dX7_passes_11 : decode cX7_passes 11 = .ok (.iload_n 1, 1) := by decide +kernel
theorem dX7_passes_12 : decode cX7_passes 12 = .ok (.imul, 1) := by decide +kernel
theorem dX7_passes_13 : decode cX7_passes 13 = .ok (.iadd, 1) := by decide +kernel
theorem dX7_passes_14 : decode cX7_passes 14 = .ok (.istore_n 2, 1) := by decide +kernel
theorem dX7_passes_15 : decode cX7_passes 15 = .ok (.aload_n 0, 1) := by decide +kernel
theorem dX7_passes_16 : decode cX7_passes 16 = .ok (.iload_n 2, 1) := by decide +kernel
theorem dX7_passes_17 : decode cX7_passes 17 = .ok (.iaload, 1) := by decide +kernel
theorem dX7_passes_18 : decode cX7_passes 18 = .ok (.aload_n 0, 1) := by decide +kernel
theorem dX7_passes_19 : decode cX7_passes 19 = .ok (.iload_n 2, 1) := by decide +kernel
theorem dX7_passes_20 : decode cX7_passes 20 = .ok (.iconst 2, 1) := by decide +kernel
theorem dX7_passes_21 : decode cX7_passes 21 = .ok (.iadd, 1) := by decide +kernel
theorem dX7_passes_22 : decode cX7_passes 22 = .ok (.iaload, 1) := by decide +kernel
theorem dX7_passes_23 : decode cX7_passes 23 = .ok (.aload_n 0, 1) := by decide +kernel
theorem dX7_passes_24 : decode cX7_passes 24 = .ok (.iload_n 2, 1) := by decide +kernel
theorem dX7_passes_25 : decode cX7_passes 25 = .ok (.iconst 1, 1) := by decide +kernel
theorem dX7_passes_26 : decode cX7_passes 26 = .ok (.iadd, 1) := by decide +kernel
theorem dX7_passes_27 : decode cX7_passes 27 = .ok (.iaload, 1) := by decide +kernel
theorem dX7_passes_28 : decode cX7_passes 28 = .ok (.aload_n 0, 1) := by decide +kernel
theorem dX7_passes_29 : decode cX7_passes 29 = .ok (.iconst 1, 1) := by decide +kernel
theorem dX7_passes_30 : decode cX7_passes 30 = .ok (.iaload, 1) := by decide +kernel
theorem dX7_passes_31 : decode cX7_passes 31 = .ok (.invokestatic 146, 3) := by decide +kernel
theorem dX7_passes_34 : decode cX7_passes 34 = .ok (.istore_n 3, 1) := by decide +kernel
theorem dX7_passes_35 : decode cX7_passes 35 = .ok (.aload_n 0, 1) := by decide +kernel
theorem dX7_passes_36 : decode cX7_passes 36 = .ok (.iload_n 2, 1) := by decide +kernel
theorem dX7_passes_37 : decode cX7_passes 37 = .ok (.iaload, 1) := by decide +kernel
theorem dX7_passes_38 : decode cX7_passes 38 = .ok (.iload_n 3, 1) := by decide +kernel
theorem dX7_passes_39 : decode cX7_passes 39 = .ok (.aload_n 0, 1) := by decide +kernel
theorem dX7_passes_40 : decode cX7_passes 40 = .ok (.iconst 1, 1) := by decide +kernel
theorem dX7_passes_41 : decode cX7_passes 41 = .ok (.iaload, 1) := by decide +kernel
theorem dX7_passes_42 : decode cX7_passes 42 = .ok (.invokestatic 150, 3) := by decide +kernel
theorem dX7_passes_45 : decode cX7_passes 45 = .ok (.istore 4, 2) := by decide +kernel
theorem dX7_passes_47 : decode cX7_passes 47 = .ok (.iconst 0, 1) := by decide +kernel
theorem dX7_passes_48 : decode cX7_passes 48 = .ok (.istore 5, 2) := by decide +kernel
theorem dX7_passes_50 : decode cX7_passes 50 = .ok (.iload 5, 2) := by decide +kernel
theorem dX7_passes_52 : decode cX7_passes 52 = .ok (.aload_n 0, 1) := by decide +kernel
theorem dX7_passes_53 : decode cX7_passes 53 = .ok (.iconst 3, 1) := by decide +kernel
theorem dX7_passes_54 : decode cX7_passes 54 = .ok (.iaload, 1) := by decide +kernel
theorem dX7_passes_55 : decode cX7_passes 55 = .ok (.if_icmp .ge 54, 3) := by decide +kernel
theorem dX7_passes_58 : decode cX7_passes 58 = .ok (.iload 4, 2) := by decide +kernel
theorem dX7_passes_60 : decode cX7_passes 60 = .ok (.ifCond .eq 49, 3) := by decide +kernel
theorem dX7_passes_63 : decode cX7_passes 63 = .ok (.bipush 16, 2) := by decide +kernel
theorem dX7_passes_65 : decode cX7_passes 65 = .ok (.iconst 4, 1) := by decide +kernel
theorem dX7_passes_66 : decode cX7_passes 66 = .ok (.iload 5, 2) := by decide +kernel
theorem dX7_passes_68 : decode cX7_passes 68 = .ok (.imul, 1) := by decide +kernel
theorem dX7_passes_69 : decode cX7_passes 69 = .ok (.iadd, 1) := by decide +kernel
theorem dX7_passes_70 : decode cX7_passes 70 = .ok (.istore 6, 2) := by decide +kernel
theorem dX7_passes_72 : decode cX7_passes 72 = .ok (.aload_n 0, 1) := by decide +kernel
theorem dX7_passes_73 : decode cX7_passes 73 = .ok (.iload 6, 2) := by decide +kernel
theorem dX7_passes_75 : decode cX7_passes 75 = .ok (.iconst 3, 1) := by decide +kernel
theorem dX7_passes_76 : decode cX7_passes 76 = .ok (.iadd, 1) := by decide +kernel
theorem dX7_passes_77 : decode cX7_passes 77 = .ok (.dup2, 1) := by decide +kernel
theorem dX7_passes_78 : decode cX7_passes 78 = .ok (.iaload, 1) := by decide +kernel
theorem dX7_passes_79 : decode cX7_passes 79 = .ok (.aload_n 0, 1) := by decide +kernel
theorem dX7_passes_80 : decode cX7_passes 80 = .ok (.iload 6, 2) := by decide +kernel
theorem dX7_passes_82 : decode cX7_passes 82 = .ok (.iaload, 1) := by decide +kernel
theorem dX7_passes_83 : decode cX7_passes 83 = .ok (.iload_n 1, 1) := by decide +kernel
theorem dX7_passes_84 : decode cX7_passes 84 = .ok (.if_icmp .ne 16, 3) := by decide +kernel
theorem dX7_passes_87 : decode cX7_passes 87 = .ok (.aload_n 0, 1) := by decide +kernel
theorem dX7_passes_88 : decode cX7_passes 88 = .ok (.iload 6, 2) := by decide +kernel
theorem dX7_passes_90 : decode cX7_passes 90 = .ok (.iconst 3, 1) := by decide +kernel
theorem dX7_passes_91 : decode cX7_passes 91 = .ok (.iadd, 1) := by decide +kernel
theorem dX7_passes_92 : decode cX7_passes 92 = .ok (.iaload, 1) := by decide +kernel
theorem dX7_passes_93 : decode cX7_passes 93 = .ok (.ifCond .le 7, 3) := by decide +kernel
theorem dX7_passes_96 : decode cX7_passes 96 = .ok (.iconst 1, 1) := by decide +kernel
theorem dX7_passes_97 : decode cX7_passes 97 = .ok (.goto 4, 3) := by decide +kernel
theorem dX7_passes_100 : decode cX7_passes 100 = .ok (.iconst 0, 1) := by decide +kernel
theorem dX7_passes_101 : decode cX7_passes 101 = .ok (.isub, 1) := by decide +kernel
theorem dX7_passes_102 : decode cX7_passes 102 = .ok (.iastore, 1) := by decide +kernel
theorem dX7_passes_103 : decode cX7_passes 103 = .ok (.iinc 5 1, 3) := by decide +kernel
theorem dX7_passes_106 : decode cX7_passes 106 = .ok (.goto (-56), 3) := by decide +kernel
theorem dX7_passes_109 : decode cX7_passes 109 = .ok (.aload_n 0, 1) := by decide +kernel
theorem dX7_passes_110 : decode cX7_passes 110 = .ok (.iload_n 2, 1) := by decide +kernel
theorem dX7_passes_111 : decode cX7_passes 111 = .ok (.iconst 1, 1) := by decide +kernel
theorem dX7_passes_112 : decode cX7_passes 112 = .ok (.iadd, 1) := by decide +kernel
theorem dX7_passes_113 : decode cX7_passes 113 = .ok (.dup2, 1) := by decide +kernel
theorem dX7_passes_114 : decode cX7_passes 114 = .ok (.iaload, 1) := by decide +kernel
theorem dX7_passes_115 : decode cX7_passes 115 = .ok (.iload_n 3, 1) := by decide +kernel
theorem dX7_passes_116 : decode cX7_passes 116 = .ok (.iadd, 1) := by decide +kernel
theorem dX7_passes_117 : decode cX7_passes 117 = .ok (.iastore, 1) := by decide +kernel
theorem dX7_passes_118 : decode cX7_passes 118 = .ok (.iinc 1 1, 3) := by decide +kernel
theorem dX7_passes_121 : decode cX7_passes 121 = .ok (.goto (-119), 3) := by decide +kernel
theorem dX7_passes_124 : decode cX7_passes 124 = .ok (.aload_n 0, 1) := by decide +kernel
theorem dX7_passes_125 : decode cX7_passes 125 = .ok (.iconst 1, 1) := by decide +kernel
theorem dX7_passes_126 : decode cX7_passes 126 = .ok (.dup2, 1) := by decide +kernel
theorem dX7_passes_127 : decode cX7_passes 127 = .ok (.iaload, 1) := by decide +kernel
theorem dX7_passes_128 : decode cX7_passes 128 = .ok (.iconst 1, 1) := by decide +kernel
theorem dX7_passes_129 : decode cX7_passes 129 = .ok (.iadd, 1) := by decide +kernel
theorem dX7_passes_130 : decode cX7_passes 130 = .ok (.iastore, 1) := by decide +kernel
theorem dX7_passes_131 : decode cX7_passes 131 = .ok (.return_, 1) := by decide +kernel
theorem dX7_tries_0 : decode cX7_tries 0 = .ok (.aload_n 0, 1) := by decide +kernel
theorem dX7_tries_1 : decode cX7_tries 1 = .ok (.getfield 25, 3) := by decide +kernel
theorem dX7_tries_4 : decode cX7_tries 4 = .ok (.iconst 0, 1) := by decide +kernel
theorem dX7_tries_5 : decode cX7_tries 5 = .ok (.aload_n 0, 1) := by decide +kernel
theorem dX7_tries_6 : decode cX7_tries 6 = .ok (.getfield 41, 3) := by decide +kernel
theorem dX7_tries_9 : decode cX7_tries 9 = .ok (.iconst 0, 1) := by decide +kernel
theorem dX7_tries_10 : decode cX7_tries 10 = .ok (.invokestatic 135, 3) := by decide +kernel
theorem dX7_tries_13 : decode cX7_tries 13 = .ok (.iconst 0, 1) := by decide +kernel
theorem dX7_tries_14 : decode cX7_tries 14 = .ok (.istore_n 2, 1) := by decide +kernel
theorem dX7_tries_15 : decode cX7_tries 15 = .ok (.iload_n 2, 1) := by decide +kernel
theorem dX7_tries_16 : decode cX7_tries 16 = .ok (.iload_n 1, 1) := by decide +kernel
theorem dX7_tries_17 : decode cX7_tries 17 = .ok (.if_icmp .ge 16, 3) := by decide +kernel
theorem dX7_tries_20 : decode cX7_tries 20 = .ok (.aload_n 0, 1) := by decide +kernel
theorem dX7_tries_21 : decode cX7_tries 21 = .ok (.getfield 41, 3) := by decide +kernel
theorem dX7_tries_24 : decode cX7_tries 24 = .ok (.invokestatic 153, 3) := by decide +kernel
theorem dX7_tries_27 : decode cX7_tries 27 = .ok (.iinc 2 1, 3) := by decide +kernel
theorem dX7_tries_30 : decode cX7_tries 30 = .ok (.goto (-15), 3) := by decide +kernel
theorem dX7_tries_33 : decode cX7_tries 33 = .ok (.return_, 1) := by decide +kernel
theorem dX7_legible_0 : decode cX7_legible 0 = .ok (.iconst 0, 1) := by decide +kernel
theorem dX7_legible_1 : decode cX7_legible 1 = .ok (.istore_n 2, 1) := by decide +kernel
theorem dX7_legible_2 : decode cX7_legible 2 = .ok (.iconst 0, 1) := by decide +kernel
theorem dX7_legible_3 : decode cX7_legible 3 = .ok (.istore_n 3, 1) := by decide +kernel
theorem dX7_legible_4 : decode cX7_legible 4 = .ok (.iload_n 3, 1) := by decide +kernel
theorem dX7_legible_5 : decode cX7_legible 5 = .ok (.aload_n 0, 1) := by decide +kernel
theorem dX7_legible_6 : decode cX7_legible 6 = .ok (.iconst 3, 1) := by decide +kernel
theorem dX7_legible_7 : decode cX7_legible 7 = .ok (.iaload, 1) := by decide +kernel
theorem dX7_legible_8 : decode cX7_legible 8 = .ok (.if_icmp .ge 50, 3) := by decide +kernel
theorem dX7_legible_11 : decode cX7_legible 11 = .ok (.bipush 16, 2) := by decide +kernel
theorem dX7_legible_13 : decode cX7_legible 13 = .ok (.iconst 4, 1) := by decide +kernel
theorem dX7_legible_14 : decode cX7_legible 14 = .ok (.iload_n 3, 1) := by decide +kernel
theorem dX7_legible_15 : decode cX7_legible 15 = .ok (.imul, 1) := by decide +kernel
theorem dX7_legible_16 : decode cX7_legible 16 = .ok (.iadd, 1) := by decide +kernel
theorem dX7_legible_17 : decode cX7_legible 17 = .ok (.istore 4, 2) := by decide +kernel
theorem dX7_legible_19 : decode cX7_legible 19 = .ok (.iload_n 2, 1) := by decide +kernel
theorem dX7_legible_20 : decode cX7_legible 20 = .ok (.aload_n 0, 1) := by decide +kernel
theorem dX7_legible_21 : decode cX7_legible 21 = .ok (.iload 4, 2) := by decide +kernel
theorem dX7_legible_23 : decode cX7_legible 23 = .ok (.iconst 3, 1) := by decide +kernel
theorem dX7_legible_24 : decode cX7_legible 24 = .ok (.iadd, 1) := by decide +kernel
theorem dX7_legible_25 : decode cX7_legible 25 = .ok (.iaload, 1) := by decide +kernel
theorem dX7_legible_26 : decode cX7_legible 26 = .ok (.ifCond .le 23, 3) := by decide +kernel
theorem dX7_legible_29 : decode cX7_legible 29 = .ok (.iload_n 1, 1) := by decide +kernel
theorem dX7_legible_30 : decode cX7_legible 30 = .ok (.ldc 47, 2) := by decide +kernel
theorem dX7_legible_32 : decode cX7_legible 32 = .ok (.if_icmp .eq 11, 3) := by decide +kernel
theorem dX7_legible_35 : decode cX7_legible 35 = .ok (.aload_n 0, 1) := by decide +kernel
theorem dX7_legible_36 : decode cX7_legible 36 = .ok (.iload 4, 2) := by decide +kernel
theorem dX7_legible_38 : decode cX7_legible 38 = .ok (.iaload, 1) := by decide +kernel
theorem dX7_legible_39 : decode cX7_legible 39 = .ok (.iload_n 1, 1) := by decide +kernel
theorem dX7_legible_40 : decode cX7_legible 40 = .ok (.if_icmp .ne 9, 3) := by decide +kernel
theorem dX7_legible_43 : decode cX7_legible 43 = .ok (.iconst 1, 1) := by decide +kernel
theorem dX7_legible_44 : decode cX7_legible 44 = .ok (.iload_n 3, 1) := by decide +kernel
theorem dX7_legible_45 : decode cX7_legible 45 = .ok (.ishl, 1) := by decide +kernel
theorem dX7_legible_46 : decode cX7_legible 46 = .ok (.goto 4, 3) := by decide +kernel
theorem dX7_legible_49 : decode cX7_legible 49 = .ok (.iconst 0, 1) := by decide +kernel
theorem dX7_legible_50 : decode cX7_legible 50 = .ok (.ior, 1) := by decide +kernel
theorem dX7_legible_51 : decode cX7_legible 51 = .ok (.istore_n 2, 1) := by decide +kernel
theorem dX7_legible_52 : decode cX7_legible 52 = .ok (.iinc 3 1, 3) := by decide +kernel
theorem dX7_legible_55 : decode cX7_legible 55 = .ok (.goto (-51), 3) := by decide +kernel
theorem dX7_legible_58 : decode cX7_legible 58 = .ok (.iload_n 2, 1) := by decide +kernel
theorem dX7_legible_59 : decode cX7_legible 59 = .ok (.ireturn, 1) := by decide +kernel
theorem dX7_between_0 : decode cX7_between 0 = .ok (.aload_n 0, 1) := by decide +kernel
theorem dX7_between_1 : decode cX7_between 1 = .ok (.bipush 16, 2) := by decide +kernel
theorem dX7_between_3 : decode cX7_between 3 = .ok (.iconst 4, 1) := by decide +kernel
theorem dX7_between_4 : decode cX7_between 4 = .ok (.iload_n 1, 1) := by decide +kernel
theorem dX7_between_5 : decode cX7_between 5 = .ok (.imul, 1) := by decide +kernel
theorem dX7_between_6 : decode cX7_between 6 = .ok (.iadd, 1) := by decide +kernel
theorem dX7_between_7 : decode cX7_between 7 = .ok (.iconst 2, 1) := by decide +kernel
theorem dX7_between_8 : decode cX7_between 8 = .ok (.iadd, 1) := by decide +kernel
theorem dX7_between_9 : decode cX7_between 9 = .ok (.iaload, 1) := by decide +kernel
theorem dX7_between_10 : decode cX7_between 10 = .ok (.aload_n 0, 1) := by decide +kernel
theorem dX7_between_11 : decode cX7_between 11 = .ok (.bipush 16, 2) := by decide +kernel
theorem dX7_between_13 : decode cX7_between 13 = .ok (.iconst 4, 1) := by decide +kernel
theorem dX7_between_14 : decode cX7_between 14 = .ok (.iload_n 2, 1) := by decide +kernel
theorem dX7_between_15 : decode cX7_between 15 = .ok (.imul, 1) := by decide +kernel
theorem dX7_between_16 : decode cX7_between 16 = .ok (.iadd, 1) := by decide +kernel
theorem dX7_between_17 : decode cX7_between 17 = .ok (.iconst 2, 1) := by decide +kernel
theorem dX7_between_18 : decode cX7_between 18 = .ok (.iadd, 1) := by decide +kernel
theorem dX7_between_19 : decode cX7_between 19 = .ok (.iaload, 1) := by decide +kernel
theorem dX7_between_20 : decode cX7_between 20 = .ok (.isub, 1) := by decide +kernel
theorem dX7_between_21 : decode cX7_between 21 = .ok (.istore_n 3, 1) := by decide +kernel
theorem dX7_between_22 : decode cX7_between 22 = .ok (.iload_n 3, 1) := by decide +kernel
theorem dX7_between_23 : decode cX7_between 23 = .ok (.ifCond .ge 8, 3) := by decide +kernel
theorem dX7_between_26 : decode cX7_between 26 = .ok (.iload_n 3, 1) := by decide +kernel
theorem dX7_between_27 : decode cX7_between 27 = .ok (.ineg, 1) := by decide +kernel
theorem dX7_between_28 : decode cX7_between 28 = .ok (.goto 4, 3) := by decide +kernel
theorem dX7_between_31 : decode cX7_between 31 = .ok (.iload_n 3, 1) := by decide +kernel
theorem dX7_between_32 : decode cX7_between 32 = .ok (.istore_n 3, 1) := by decide +kernel
theorem dX7_between_33 : decode cX7_between 33 = .ok (.iload_n 3, 1) := by decide +kernel
theorem dX7_between_34 : decode cX7_between 34 = .ok (.bipush 30, 2) := by decide +kernel
theorem dX7_between_36 : decode cX7_between 36 = .ok (.if_icmp .le 10, 3) := by decide +kernel
theorem dX7_between_39 : decode cX7_between 39 = .ok (.bipush 60, 2) := by decide +kernel
theorem dX7_between_41 : decode cX7_between 41 = .ok (.iload_n 3, 1) := by decide +kernel
theorem dX7_between_42 : decode cX7_between 42 = .ok (.isub, 1) := by decide +kernel
theorem dX7_between_43 : decode cX7_between 43 = .ok (.goto 4, 3) := by decide +kernel
theorem dX7_between_46 : decode cX7_between 46 = .ok (.iload_n 3, 1) := by decide +kernel
theorem dX7_between_47 : decode cX7_between 47 = .ok (.ireturn, 1) := by decide +kernel
theorem dX7_apartIn_0 : decode cX7_apartIn 0 = .ok (.aload_n 0, 1) := by decide +kernel
theorem dX7_apartIn_1 : decode cX7_apartIn 1 = .ok (.iload_n 1, 1) := by decide +kernel
theorem dX7_apartIn_2 : decode cX7_apartIn 2 = .ok (.iload_n 2, 1) := by decide +kernel
theorem dX7_apartIn_3 : decode cX7_apartIn 3 = .ok (.invokestatic 157, 3) := by decide +kernel
theorem dX7_apartIn_6 : decode cX7_apartIn 6 = .ok (.aload_n 0, 1) := by decide +kernel
theorem dX7_apartIn_7 : decode cX7_apartIn 7 = .ok (.iconst 4, 1) := by decide +kernel
theorem dX7_apartIn_8 : decode cX7_apartIn 8 = .ok (.iconst 3, 1) := by decide +kernel
theorem dX7_apartIn_9 : decode cX7_apartIn 9 = .ok (.aload_n 0, 1) := by decide +kernel
theorem dX7_apartIn_10 : decode cX7_apartIn 10 = .ok (.bipush 16, 2) := by decide +kernel
theorem dX7_apartIn_12 : decode cX7_apartIn 12 = .ok (.iconst 4, 1) := by decide +kernel
theorem dX7_apartIn_13 : decode cX7_apartIn 13 = .ok (.iload_n 1, 1) := by decide +kernel
theorem dX7_apartIn_14 : decode cX7_apartIn 14 = .ok (.imul, 1) := by decide +kernel
theorem dX7_apartIn_15 : decode cX7_apartIn 15 = .ok (.iadd, 1) := by decide +kernel
theorem dX7_apartIn_16 : decode cX7_apartIn 16 = .ok (.iaload, 1) := by decide +kernel
theorem dX7_apartIn_17 : decode cX7_apartIn 17 = .ok (.imul, 1) := by decide +kernel
theorem dX7_apartIn_18 : decode cX7_apartIn 18 = .ok (.iadd, 1) := by decide +kernel
theorem dX7_apartIn_19 : decode cX7_apartIn 19 = .ok (.iconst 1, 1) := by decide +kernel
theorem dX7_apartIn_20 : decode cX7_apartIn 20 = .ok (.iadd, 1) := by decide +kernel
theorem dX7_apartIn_21 : decode cX7_apartIn 21 = .ok (.iaload, 1) := by decide +kernel
theorem dX7_apartIn_22 : decode cX7_apartIn 22 = .ok (.imul, 1) := by decide +kernel
theorem dX7_apartIn_23 : decode cX7_apartIn 23 = .ok (.bipush 60, 2) := by decide +kernel
theorem dX7_apartIn_25 : decode cX7_apartIn 25 = .ok (.idiv, 1) := by decide +kernel
theorem dX7_apartIn_26 : decode cX7_apartIn 26 = .ok (.ireturn, 1) := by decide +kernel
theorem dX7_ringOf_0 : decode cX7_ringOf 0 = .ok (.iload_n 2, 1) := by decide +kernel
theorem dX7_ringOf_1 : decode cX7_ringOf 1 = .ok (.iload_n 1, 1) := by decide +kernel
theorem dX7_ringOf_2 : decode cX7_ringOf 2 = .ok (.invokestatic 161, 3) := by decide +kernel
theorem dX7_ringOf_5 : decode cX7_ringOf 5 = .ok (.ifCond .eq 9, 3) := by decide +kernel
theorem dX7_ringOf_8 : decode cX7_ringOf 8 = .ok (.iconst 1, 1) := by decide +kernel
theorem dX7_ringOf_9 : decode cX7_ringOf 9 = .ok (.iload_n 1, 1) := by decide +kernel
theorem dX7_ringOf_10 : decode cX7_ringOf 10 = .ok (.ishl, 1) := by decide +kernel
theorem dX7_ringOf_11 : decode cX7_ringOf 11 = .ok (.goto 4, 3) := by decide +kernel
theorem dX7_ringOf_14 : decode cX7_ringOf 14 = .ok (.iconst 0, 1) := by decide +kernel
theorem dX7_ringOf_15 : decode cX7_ringOf 15 = .ok (.istore_n 3, 1) := by decide +kernel
theorem dX7_ringOf_16 : decode cX7_ringOf 16 = .ok (.iconst 0, 1) := by decide +kernel
theorem dX7_ringOf_17 : decode cX7_ringOf 17 = .ok (.istore 4, 2) := by decide +kernel
theorem dX7_ringOf_19 : decode cX7_ringOf 19 = .ok (.iload_n 3, 1) := by decide +kernel
theorem dX7_ringOf_20 : decode cX7_ringOf 20 = .ok (.iload 4, 2) := by decide +kernel
theorem dX7_ringOf_22 : decode cX7_ringOf 22 = .ok (.if_icmp .eq 86, 3) := by decide +kernel
theorem dX7_ringOf_25 : decode cX7_ringOf 25 = .ok (.iload_n 3, 1) := by decide +kernel
theorem dX7_ringOf_26 : decode cX7_ringOf 26 = .ok (.istore 4, 2) := by decide +kernel
theorem dX7_ringOf_28 : decode cX7_ringOf 28 = .ok (.iconst 0, 1) := by decide +kernel
theorem dX7_ringOf_29 : decode cX7_ringOf 29 = .ok (.istore 5, 2) := by decide +kernel
theorem dX7_ringOf_31 : decode cX7_ringOf 31 = .ok (.iload 5, 2) := by decide +kernel
theorem dX7_ringOf_33 : decode cX7_ringOf 33 = .ok (.aload_n 0, 1) := by decide +kernel
theorem dX7_ringOf_34 : decode cX7_ringOf 34 = .ok (.iconst 3, 1) := by decide +kernel
theorem dX7_ringOf_35 : decode cX7_ringOf 35 = .ok (.iaload, 1) := by decide +kernel
theorem dX7_ringOf_36 : decode cX7_ringOf 36 = .ok (.if_icmp .ge 69, 3) := by decide +kernel
theorem dX7_ringOf_39 : decode cX7_ringOf 39 = .ok (.iconst 0, 1) := by decide +kernel
theorem dX7_ringOf_40 : decode cX7_ringOf 40 = .ok (.istore 6, 2) := by decide +kernel
theorem dX7_ringOf_42 : decode cX7_ringOf 42 = .ok (.iload 6, 2) := by decide +kernel
theorem dX7_ringOf_44 : decode cX7_ringOf 44 = .ok (.aload_n 0, 1) := by decide +kernel
theorem dX7_ringOf_45 : decode cX7_ringOf 45 = .ok (.iconst 3, 1) := by decide +kernel
theorem dX7_ringOf_46 : decode cX7_ringOf 46 = .ok (.iaload, 1) := by decide +kernel
theorem dX7_ringOf_47 : decode cX7_ringOf 47 = .ok (.if_icmp .ge 52, 3) := by decide +kernel
theorem dX7_ringOf_50 : decode cX7_ringOf 50 = .ok (.iload_n 3, 1) := by decide +kernel
theorem dX7_ringOf_51 : decode cX7_ringOf 51 = .ok (.iload_n 3, 1) := by decide +kernel
theorem dX7_ringOf_52 : decode cX7_ringOf 52 = .ok (.iload 5, 2) := by decide +kernel
theorem dX7_ringOf_54 : decode cX7_ringOf 54 = .ok (.invokestatic 161, 3) := by decide +kernel
theorem dX7_ringOf_57 : decode cX7_ringOf 57 = .ok (.ifCond .eq 33, 3) := by decide +kernel
theorem dX7_ringOf_60 : decode cX7_ringOf 60 = .ok (.iload_n 2, 1) := by decide +kernel
theorem dX7_ringOf_61 : decode cX7_ringOf 61 = .ok (.iload 6, 2) := by decide +kernel
theorem dX7_ringOf_63 : decode cX7_ringOf 63 = .ok (.invokestatic 161, 3) := by decide +kernel
theorem dX7_ringOf_66 : decode cX7_ringOf 66 = .ok (.ifCond .eq 24, 3) := by decide +kernel
theorem dX7_ringOf_69 : decode cX7_ringOf 69 = .ok (.aload_n 0, 1) := by decide +kernel
theorem dX7_ringOf_70 : decode cX7_ringOf 70 = .ok (.iload 5, 2) := by decide +kernel
theorem dX7_ringOf_72 : decode cX7_ringOf 72 = .ok (.iload 6, 2) := by decide +kernel
theorem dX7_ringOf_74 : decode cX7_ringOf 74 = .ok (.invokestatic 165, 3) := by decide +kernel
theorem dX7_ringOf_77 : decode cX7_ringOf 77 = .ok (.aload_n 0, 1) := by decide +kernel
theorem dX7_ringOf_78 : decode cX7_ringOf 78 = .ok (.iconst 0, 1) := by decide +kernel
theorem dX7_ringOf_79 : decode cX7_ringOf 79 = .ok (.iaload, 1) := by decide +kernel
theorem dX7_ringOf_80 : decode cX7_ringOf 80 = .ok (.if_icmp .gt 10, 3) := by decide +kernel
theorem dX7_ringOf_83 : decode cX7_ringOf 83 = .ok (.iconst 1, 1) := by decide +kernel
theorem dX7_ringOf_84 : decode cX7_ringOf 84 = .ok (.iload 6, 2) := by decide +kernel
theorem dX7_ringOf_86 : decode cX7_ringOf 86 = .ok (.ishl, 1) := by decide +kernel
theorem dX7_ringOf_87 : decode cX7_ringOf 87 = .ok (.goto 4, 3) := by decide +kernel
theorem dX7_ringOf_90 : decode cX7_ringOf 90 = .ok (.iconst 0, 1) := by decide +kernel
theorem dX7_ringOf_91 : decode cX7_ringOf 91 = .ok (.ior, 1) := by decide +kernel
theorem dX7_ringOf_92 : decode cX7_ringOf 92 = .ok (.istore_n 3, 1) := by decide +kernel
theorem dX7_ringOf_93 : decode cX7_ringOf 93 = .ok (.iinc 6 1, 3) := by decide +kernel
theorem dX7_ringOf_96 : decode cX7_ringOf 96 = .ok (.goto (-54), 3) := by decide +kernel
theorem dX7_ringOf_99 : decode cX7_ringOf 99 = .ok (.iinc 5 1, 3) := by decide +kernel
theorem dX7_ringOf_102 : decode cX7_ringOf 102 = .ok (.goto (-71), 3) := by decide +kernel
theorem dX7_ringOf_105 : decode cX7_ringOf 105 = .ok (.goto (-86), 3) := by decide +kernel
theorem dX7_ringOf_108 : decode cX7_ringOf 108 = .ok (.iload_n 3, 1) := by decide +kernel
theorem dX7_ringOf_109 : decode cX7_ringOf 109 = .ok (.ireturn, 1) := by decide +kernel
theorem dX7_areTogether_0 : decode cX7_areTogether 0 = .ok (.aload_n 0, 1) := by decide +kernel
theorem dX7_areTogether_1 : decode cX7_areTogether 1 = .ok (.iload_n 1, 1) := by decide +kernel
theorem dX7_areTogether_2 : decode cX7_areTogether 2 = .ok (.aload_n 0, 1) := by decide +kernel
theorem dX7_areTogether_3 : decode cX7_areTogether 3 = .ok (.aload_n 0, 1) := by decide +kernel
theorem dX7_areTogether_4 : decode cX7_areTogether 4 = .ok (.bipush 16, 2) := by decide +kernel
theorem dX7_areTogether_6 : decode cX7_areTogether 6 = .ok (.iconst 4, 1) := by decide +kernel
theorem dX7_areTogether_7 : decode cX7_areTogether 7 = .ok (.iload_n 1, 1) := by decide +kernel
theorem dX7_areTogether_8 : decode cX7_areTogether 8 = .ok (.imul, 1) := by decide +kernel
theorem dX7_areTogether_9 : decode cX7_areTogether 9 = .ok (.iadd, 1) := by decide +kernel
theorem dX7_areTogether_10 : decode cX7_areTogether 10 = .ok (.iaload, 1) := by decide +kernel
theorem dX7_areTogether_11 : decode cX7_areTogether 11 = .ok (.invokestatic 168, 3) := by decide +kernel
theorem dX7_areTogether_14 : decode cX7_areTogether 14 = .ok (.iload_n 3, 1) := by decide +kernel
theorem dX7_areTogether_15 : decode cX7_areTogether 15 = .ok (.iconst (-1), 1) := by decide +kernel
theorem dX7_areTogether_16 : decode cX7_areTogether 16 = .ok (.ixor, 1) := by decide +kernel
theorem dX7_areTogether_17 : decode cX7_areTogether 17 = .ok (.iand, 1) := by decide +kernel
theorem dX7_areTogether_18 : decode cX7_areTogether 18 = .ok (.invokestatic 172, 3) := by decide +kernel
theorem dX7_areTogether_21 : decode cX7_areTogether 21 = .ok (.iload_n 2, 1) := by decide +kernel
theorem dX7_areTogether_22 : decode cX7_areTogether 22 = .ok (.invokestatic 161, 3) := by decide +kernel
theorem dX7_areTogether_25 : decode cX7_areTogether 25 = .ok (.ireturn, 1) := by decide +kernel
theorem dX7_notes_0 : decode cX7_notes 0 = .ok (.aload_n 0, 1) := by decide +kernel
theorem dX7_notes_1 : decode cX7_notes 1 = .ok (.getfield 139, 3) := by decide +kernel
theorem dX7_notes_4 : decode cX7_notes 4 = .ok (.bipush 24, 2) := by decide +kernel
theorem dX7_notes_6 : decode cX7_notes 6 = .ok (.if_icmp .ne 43, 3) := by decide +kernel
theorem dX7_notes_9 : decode cX7_notes 9 = .ok (.iconst 0, 1) := by decide +kernel
theorem dX7_notes_10 : decode cX7_notes 10 = .ok (.istore_n 1, 1) := by decide +kernel
theorem dX7_notes_11 : decode cX7_notes 11 = .ok (.iload_n 1, 1) := by decide +kernel
theorem dX7_notes_12 : decode cX7_notes 12 = .ok (.sipush 1104, 3) := by decide +kernel
theorem dX7_notes_15 : decode cX7_notes 15 = .ok (.if_icmp .ge 24, 3) := by decide +kernel
theorem dX7_notes_18 : decode cX7_notes 18 = .ok (.aload_n 0, 1) := by decide +kernel
theorem dX7_notes_19 : decode cX7_notes 19 = .ok (.getfield 31, 3) := by decide +kernel
theorem dX7_notes_22 : decode cX7_notes 22 = .ok (.iload_n 1, 1) := by decide +kernel
theorem dX7_notes_23 : decode cX7_notes 23 = .ok (.aload_n 0, 1) := by decide +kernel
theorem dX7_notes_24 : decode cX7_notes 24 = .ok (.getfield 31, 3) := by decide +kernel
theorem dX7_notes_27 : decode cX7_notes 27 = .ok (.iload_n 1, 1) := by decide +kernel
theorem dX7_notes_28 : decode cX7_notes 28 = .ok (.bipush 48, 2) := by decide +kernel
theorem dX7_notes_30 : decode cX7_notes 30 = .ok (.iadd, 1) := by decide +kernel
theorem dX7_notes_31 : decode cX7_notes 31 = .ok (.iaload, 1) := by decide +kernel
theorem dX7_notes_32 : decode cX7_notes 32 = .ok (.iastore, 1) := by decide +kernel
theorem dX7_notes_33 : decode cX7_notes 33 = .ok (.iinc 1 1, 3) := by decide +kernel
theorem dX7_notes_36 : decode cX7_notes 36 = .ok (.goto (-25), 3) := by decide +kernel
theorem dX7_notes_39 : decode cX7_notes 39 = .ok (.aload_n 0, 1) := by decide +kernel
theorem dX7_notes_40 : decode cX7_notes 40 = .ok (.dup, 1) := by decide +kernel
theorem dX7_notes_41 : decode cX7_notes 41 = .ok (.getfield 139, 3) := by decide +kernel
theorem dX7_notes_44 : decode cX7_notes 44 = .ok (.iconst 1, 1) := by decide +kernel
theorem dX7_notes_45 : decode cX7_notes 45 = .ok (.isub, 1) := by decide +kernel
theorem dX7_notes_46 : decode cX7_notes 46 = .ok (.putfield 139, 3) := by decide +kernel
theorem dX7_notes_49 : decode cX7_notes 49 = .ok (.aload_n 0, 1) := by decide +kernel
theorem dX7_notes_50 : decode cX7_notes 50 = .ok (.getfield 25, 3) := by decide +kernel
theorem dX7_notes_53 : decode cX7_notes 53 = .ok (.iconst 0, 1) := by decide +kernel
theorem dX7_notes_54 : decode cX7_notes 54 = .ok (.aload_n 0, 1) := by decide +kernel
theorem dX7_notes_55 : decode cX7_notes 55 = .ok (.getfield 31, 3) := by decide +kernel
theorem dX7_notes_58 : decode cX7_notes 58 = .ok (.bipush 48, 2) := by decide +kernel
theorem dX7_notes_60 : decode cX7_notes 60 = .ok (.aload_n 0, 1) := by decide +kernel
theorem dX7_notes_61 : decode cX7_notes 61 = .ok (.getfield 139, 3) := by decide +kernel
theorem dX7_notes_64 : decode cX7_notes 64 = .ok (.imul, 1) := by decide +kernel
theorem dX7_notes_65 : decode cX7_notes 65 = .ok (.invokestatic 135, 3) := by decide +kernel
theorem dX7_notes_68 : decode cX7_notes 68 = .ok (.aload_n 0, 1) := by decide +kernel
theorem dX7_notes_69 : decode cX7_notes 69 = .ok (.dup, 1) := by decide +kernel
theorem dX7_notes_70 : decode cX7_notes 70 = .ok (.getfield 139, 3) := by decide +kernel
theorem dX7_notes_73 : decode cX7_notes 73 = .ok (.iconst 1, 1) := by decide +kernel
theorem dX7_notes_74 : decode cX7_notes 74 = .ok (.iadd, 1) := by decide +kernel
theorem dX7_notes_75 : decode cX7_notes 75 = .ok (.putfield 139, 3) := by decide +kernel
theorem dX7_notes_78 : decode cX7_notes 78 = .ok (.return_, 1) := by decide +kernel
theorem dX7_years_0 : decode cX7_years 0 = .ok (.aload_n 0, 1) := by decide +kernel
theorem dX7_years_1 : decode cX7_years 1 = .ok (.invokevirtual 175, 3) := by decide +kernel
theorem dX7_years_4 : decode cX7_years 4 = .ok (.ifCond .ne 6, 3) := by decide +kernel
theorem dX7_years_7 : decode cX7_years 7 = .ok (.ldc 178, 2) := by decide +kernel
theorem dX7_years_9 : decode cX7_years 9 = .ok (.ireturn, 1) := by decide +kernel
theorem dX7_years_10 : decode cX7_years 10 = .ok (.iload_n 1, 1) := by decide +kernel
theorem dX7_years_11 : decode cX7_years 11 = .ok (.iconst 1, 1) := by decide +kernel
theorem dX7_years_12 : decode cX7_years 12 = .ok (.bipush 20, 2) := by decide +kernel
theorem dX7_years_14 : decode cX7_years 14 = .ok (.invokestatic 53, 3) := by decide +kernel
theorem dX7_years_17 : decode cX7_years 17 = .ok (.ifCond .ne 6, 3) := by decide +kernel
theorem dX7_years_20 : decode cX7_years 20 = .ok (.ldc 61, 2) := by decide +kernel
theorem dX7_years_22 : decode cX7_years 22 = .ok (.ireturn, 1) := by decide +kernel
theorem dX7_years_23 : decode cX7_years 23 = .ok (.aload_n 0, 1) := by decide +kernel
theorem dX7_years_24 : decode cX7_years 24 = .ok (.getfield 25, 3) := by decide +kernel
theorem dX7_years_27 : decode cX7_years 27 = .ok (.iconst 1, 1) := by decide +kernel
theorem dX7_years_28 : decode cX7_years 28 = .ok (.iaload, 1) := by decide +kernel
theorem dX7_years_29 : decode cX7_years 29 = .ok (.iload_n 1, 1) := by decide +kernel
theorem dX7_years_30 : decode cX7_years 30 = .ok (.iadd, 1) := by decide +kernel
theorem dX7_years_31 : decode cX7_years 31 = .ok (.sipush 999, 3) := by decide +kernel
theorem dX7_years_34 : decode cX7_years 34 = .ok (.if_icmp .le 6, 3) := by decide +kernel
theorem dX7_years_37 : decode cX7_years 37 = .ok (.ldc 82, 2) := by decide +kernel
theorem dX7_years_39 : decode cX7_years 39 = .ok (.ireturn, 1) := by decide +kernel
theorem dX7_years_40 : decode cX7_years 40 = .ok (.iconst 0, 1) := by decide +kernel
theorem dX7_years_41 : decode cX7_years 41 = .ok (.istore_n 2, 1) := by decide +kernel
theorem dX7_years_42 : decode cX7_years 42 = .ok (.iload_n 2, 1) := by decide +kernel
theorem dX7_years_43 : decode cX7_years 43 = .ok (.iload_n 1, 1) := by decide +kernel
theorem dX7_years_44 : decode cX7_years 44 = .ok (.if_icmp .ge 20, 3) := by decide +kernel
theorem dX7_years_47 : decode cX7_years 47 = .ok (.aload_n 0, 1) := by decide +kernel
theorem dX7_years_48 : decode cX7_years 48 = .ok (.invokevirtual 179, 3) := by decide +kernel
theorem dX7_years_51 : decode cX7_years 51 = .ok (.aload_n 0, 1) := by decide +kernel
theorem dX7_years_52 : decode cX7_years 52 = .ok (.getfield 25, 3) := by decide +kernel
theorem dX7_years_55 : decode cX7_years 55 = .ok (.invokestatic 153, 3) := by decide +kernel
theorem dX7_years_58 : decode cX7_years 58 = .ok (.iinc 2 1, 3) := by decide +kernel
theorem dX7_years_61 : decode cX7_years 61 = .ok (.goto (-19), 3) := by decide +kernel
theorem dX7_years_64 : decode cX7_years 64 = .ok (.aload_n 0, 1) := by decide +kernel
theorem dX7_years_65 : decode cX7_years 65 = .ok (.getfield 25, 3) := by decide +kernel
theorem dX7_years_68 : decode cX7_years 68 = .ok (.ldc 47, 2) := by decide +kernel
theorem dX7_years_70 : decode cX7_years 70 = .ok (.invokestatic 168, 3) := by decide +kernel
theorem dX7_years_73 : decode cX7_years 73 = .ok (.invokestatic 182, 3) := by decide +kernel
theorem dX7_years_76 : decode cX7_years 76 = .ok (.ireturn, 1) := by decide +kernel
theorem dX7_cut__0 : decode cX7_cut_ 0 = .ok (.aload_n 0, 1) := by decide +kernel
theorem dX7_cut__1 : decode cX7_cut_ 1 = .ok (.iload_n 1, 1) := by decide +kernel
theorem dX7_cut__2 : decode cX7_cut_ 2 = .ok (.invokevirtual 185, 3) := by decide +kernel
theorem dX7_cut__5 : decode cX7_cut_ 5 = .ok (.ifCond .eq 34, 3) := by decide +kernel
theorem dX7_cut__8 : decode cX7_cut_ 8 = .ok (.iload_n 2, 1) := by decide +kernel
theorem dX7_cut__9 : decode cX7_cut_ 9 = .ok (.iconst 0, 1) := by decide +kernel
theorem dX7_cut__10 : decode cX7_cut_ 10 = .ok (.bipush 25, 2) := by decide +kernel
theorem dX7_cut__12 : decode cX7_cut_ 12 = .ok (.invokestatic 53, 3) := by decide +kernel
theorem dX7_cut__15 : decode cX7_cut_ 15 = .ok (.ifCond .eq 24, 3) := by decide +kernel
theorem dX7_cut__18 : decode cX7_cut_ 18 = .ok (.iload_n 3, 1) := by decide +kernel
theorem dX7_cut__19 : decode cX7_cut_ 19 = .ok (.iconst 0, 1) := by decide +kernel
theorem dX7_cut__20 : decode cX7_cut_ 20 = .ok (.bipush 59, 2) := by decide +kernel
theorem dX7_cut__22 : decode cX7_cut_ 22 = .ok (.invokestatic 53, 3) := by decide +kernel
theorem dX7_cut__25 : decode cX7_cut_ 25 = .ok (.ifCond .eq 14, 3) := by decide +kernel
theorem dX7_cut__28 : decode cX7_cut_ 28 = .ok (.iload 4, 2) := by decide +kernel
theorem dX7_cut__30 : decode cX7_cut_ 30 = .ok (.iconst 1, 1) := by decide +kernel
theorem dX7_cut__31 : decode cX7_cut_ 31 = .ok (.bipush 20, 2) := by decide +kernel
theorem dX7_cut__33 : decode cX7_cut_ 33 = .ok (.invokestatic 53, 3) := by decide +kernel
theorem dX7_cut__36 : decode cX7_cut_ 36 = .ok (.ifCond .ne 6, 3) := by decide +kernel
theorem dX7_cut__39 : decode cX7_cut_ 39 = .ok (.ldc 61, 2) := by decide +kernel
theorem dX7_cut__41 : decode cX7_cut_ 41 = .ok (.ireturn, 1) := by decide +kernel
theorem dX7_cut__42 : decode cX7_cut_ 42 = .ok (.aload_n 0, 1) := by decide +kernel
theorem dX7_cut__43 : decode cX7_cut_ 43 = .ok (.getfield 25, 3) := by decide +kernel
theorem dX7_cut__46 : decode cX7_cut_ 46 = .ok (.iload_n 1, 1) := by decide +kernel
theorem dX7_cut__47 : decode cX7_cut_ 47 = .ok (.iload_n 3, 1) := by decide +kernel
theorem dX7_cut__48 : decode cX7_cut_ 48 = .ok (.invokestatic 124, 3) := by decide +kernel
theorem dX7_cut__51 : decode cX7_cut_ 51 = .ok (.ifCond .eq 6, 3) := by decide +kernel
theorem dX7_cut__54 : decode cX7_cut_ 54 = .ok (.ldc 178, 2) := by decide +kernel
theorem dX7_cut__56 : decode cX7_cut_ 56 = .ok (.ireturn, 1) := by decide +kernel
theorem dX7_cut__57 : decode cX7_cut_ 57 = .ok (.aload_n 0, 1) := by decide +kernel
theorem dX7_cut__58 : decode cX7_cut_ 58 = .ok (.getfield 25, 3) := by decide +kernel
theorem dX7_cut__61 : decode cX7_cut_ 61 = .ok (.iconst 3, 1) := by decide +kernel
theorem dX7_cut__62 : decode cX7_cut_ 62 = .ok (.iaload, 1) := by decide +kernel
theorem dX7_cut__63 : decode cX7_cut_ 63 = .ok (.bipush 8, 2) := by decide +kernel
theorem dX7_cut__65 : decode cX7_cut_ 65 = .ok (.if_icmp .ne 6, 3) := by decide +kernel
theorem dX7_cut__68 : decode cX7_cut_ 68 = .ok (.ldc 82, 2) := by decide +kernel
theorem dX7_cut__70 : decode cX7_cut_ 70 = .ok (.ireturn, 1) := by decide +kernel
theorem dX7_cut__71 : decode cX7_cut_ 71 = .ok (.aload_n 0, 1) := by decide +kernel
theorem dX7_cut__72 : decode cX7_cut_ 72 = .ok (.invokevirtual 179, 3) := by decide +kernel
theorem dX7_cut__75 : decode cX7_cut_ 75 = .ok (.bipush 16, 2) := by decide +kernel
theorem dX7_cut__77 : decode cX7_cut_ 77 = .ok (.iconst 4, 1) := by decide +kernel
theorem dX7_cut__78 : decode cX7_cut_ 78 = .ok (.aload_n 0, 1) := by decide +kernel
theorem dX7_cut__79 : decode cX7_cut_ 79 = .ok (.getfield 25, 3) := by decide +kernel
theorem dX7_cut__82 : decode cX7_cut_ 82 = .ok (.iconst 3, 1) := by decide +kernel
theorem dX7_cut__83 : decode cX7_cut_ 83 = .ok (.iaload, 1) := by decide +kernel
theorem dX7_cut__84 : decode cX7_cut_ 84 = .ok (.imul, 1) := by decide +kernel
theorem dX7_cut__85 : decode cX7_cut_ 85 = .ok (.iadd, 1) := by decide +kernel
theorem dX7_cut__86 : decode cX7_cut_ 86 = .ok (.istore 5, 2) := by decide +kernel
theorem dX7_cut__88 : decode cX7_cut_ 88 = .ok (.aload_n 0, 1) := by decide +kernel
theorem dX7_cut__89 : decode cX7_cut_ 89 = .ok (.getfield 25, 3) := by decide +kernel
theorem dX7_cut__92 : decode cX7_cut_ 92 = .ok (.iload 5, 2) := by decide +kernel
theorem dX7_cut__94 : decode cX7_cut_ 94 = .ok (.iload_n 1, 1) := by decide +kernel
theorem dX7_cut__95 : decode cX7_cut_ 95 = .ok (.iastore, 1) := by decide +kernel
theorem dX7_cut__96 : decode cX7_cut_ 96 = .ok (.aload_n 0, 1) := by decide +kernel
theorem dX7_cut__97 : decode cX7_cut_ 97 = .ok (.getfield 25, 3) := by decide +kernel
theorem dX7_cut__100 : decode cX7_cut_ 100 = .ok (.iload 5, 2) := by decide +kernel
theorem dX7_cut__102 : decode cX7_cut_ 102 = .ok (.iconst 1, 1) := by decide +kernel
theorem dX7_cut__103 : decode cX7_cut_ 103 = .ok (.iadd, 1) := by decide +kernel
theorem dX7_cut__104 : decode cX7_cut_ 104 = .ok (.iload_n 2, 1) := by decide +kernel
theorem dX7_cut__105 : decode cX7_cut_ 105 = .ok (.iastore, 1) := by decide +kernel
theorem dX7_cut__106 : decode cX7_cut_ 106 = .ok (.aload_n 0, 1) := by decide +kernel
theorem dX7_cut__107 : decode cX7_cut_ 107 = .ok (.getfield 25, 3) := by decide +kernel
theorem dX7_cut__110 : decode cX7_cut_ 110 = .ok (.iload 5, 2) := by decide +kernel
theorem dX7_cut__112 : decode cX7_cut_ 112 = .ok (.iconst 2, 1) := by decide +kernel
theorem dX7_cut__113 : decode cX7_cut_ 113 = .ok (.iadd, 1) := by decide +kernel
theorem dX7_cut__114 : decode cX7_cut_ 114 = .ok (.iload_n 3, 1) := by decide +kernel
theorem dX7_cut__115 : decode cX7_cut_ 115 = .ok (.iastore, 1) := by decide +kernel
theorem dX7_cut__116 : decode cX7_cut_ 116 = .ok (.aload_n 0, 1) := by decide +kernel
theorem dX7_cut__117 : decode cX7_cut_ 117 = .ok (.getfield 25, 3) := by decide +kernel
theorem dX7_cut__120 : decode cX7_cut_ 120 = .ok (.iload 5, 2) := by decide +kernel
theorem dX7_cut__122 : decode cX7_cut_ 122 = .ok (.iconst 3, 1) := by decide +kernel
theorem dX7_cut__123 : decode cX7_cut_ 123 = .ok (.iadd, 1) := by decide +kernel
theorem dX7_cut__124 : decode cX7_cut_ 124 = .ok (.iload 4, 2) := by decide +kernel
theorem dX7_cut__126 : decode cX7_cut_ 126 = .ok (.iastore, 1) := by decide +kernel
theorem dX7_cut__127 : decode cX7_cut_ 127 = .ok (.aload_n 0, 1) := by decide +kernel
theorem dX7_cut__128 : decode cX7_cut_ 128 = .ok (.getfield 25, 3) := by decide +kernel
theorem dX7_cut__131 : decode cX7_cut_ 131 = .ok (.iconst 3, 1) := by decide +kernel
theorem dX7_cut__132 : decode cX7_cut_ 132 = .ok (.dup2, 1) := by decide +kernel
theorem dX7_cut__133 : decode cX7_cut_ 133 = .ok (.iaload, 1) := by decide +kernel
theorem dX7_cut__134 : decode cX7_cut_ 134 = .ok (.iconst 1, 1) := by decide +kernel
theorem dX7_cut__135 : decode cX7_cut_ 135 = .ok (.iadd, 1) := by decide +kernel
theorem dX7_cut__136 : decode cX7_cut_ 136 = .ok (.iastore, 1) := by decide +kernel
theorem dX7_cut__137 : decode cX7_cut_ 137 = .ok (.aload_n 0, 1) := by decide +kernel
theorem dX7_cut__138 : decode cX7_cut_ 138 = .ok (.getfield 25, 3) := by decide +kernel
theorem dX7_cut__141 : decode cX7_cut_ 141 = .ok (.iconst 3, 1) := by decide +kernel
theorem dX7_cut__142 : decode cX7_cut_ 142 = .ok (.iaload, 1) := by decide +kernel
theorem dX7_cut__143 : decode cX7_cut_ 143 = .ok (.iconst 1, 1) := by decide +kernel
theorem dX7_cut__144 : decode cX7_cut_ 144 = .ok (.isub, 1) := by decide +kernel
theorem dX7_cut__145 : decode cX7_cut_ 145 = .ok (.ireturn, 1) := by decide +kernel
theorem dX7_anew_0 : decode cX7_anew 0 = .ok (.aload_n 0, 1) := by decide +kernel
theorem dX7_anew_1 : decode cX7_anew 1 = .ok (.iload_n 1, 1) := by decide +kernel
theorem dX7_anew_2 : decode cX7_anew 2 = .ok (.invokevirtual 188, 3) := by decide +kernel
theorem dX7_anew_5 : decode cX7_anew 5 = .ok (.ifCond .eq 13, 3) := by decide +kernel
theorem dX7_anew_8 : decode cX7_anew 8 = .ok (.iload_n 2, 1) := by decide +kernel
theorem dX7_anew_9 : decode cX7_anew 9 = .ok (.iconst 1, 1) := by decide +kernel
theorem dX7_anew_10 : decode cX7_anew 10 = .ok (.bipush 20, 2) := by decide +kernel
theorem dX7_anew_12 : decode cX7_anew 12 = .ok (.invokestatic 53, 3) := by decide +kernel
theorem dX7_anew_15 : decode cX7_anew 15 = .ok (.ifCond .ne 6, 3) := by decide +kernel
theorem dX7_anew_18 : decode cX7_anew 18 = .ok (.ldc 61, 2) := by decide +kernel
theorem dX7_anew_20 : decode cX7_anew 20 = .ok (.ireturn, 1) := by decide +kernel
theorem dX7_anew_21 : decode cX7_anew 21 = .ok (.aload_n 0, 1) := by decide +kernel
theorem dX7_anew_22 : decode cX7_anew 22 = .ok (.getfield 25, 3) := by decide +kernel
theorem dX7_anew_25 : decode cX7_anew 25 = .ok (.bipush 16, 2) := by decide +kernel
theorem dX7_anew_27 : decode cX7_anew 27 = .ok (.iconst 4, 1) := by decide +kernel
theorem dX7_anew_28 : decode cX7_anew 28 = .ok (.iload_n 1, 1) := by decide +kernel
theorem dX7_anew_29 : decode cX7_anew 29 = .ok (.imul, 1) := by decide +kernel
theorem dX7_anew_30 : decode cX7_anew 30 = .ok (.iadd, 1) := by decide +kernel
theorem dX7_anew_31 : decode cX7_anew 31 = .ok (.iconst 3, 1) := by decide +kernel
theorem dX7_anew_32 : decode cX7_anew 32 = .ok (.iadd, 1) := by decide +kernel
theorem dX7_anew_33 : decode cX7_anew 33 = .ok (.iaload, 1) := by decide +kernel
theorem dX7_anew_34 : decode cX7_anew 34 = .ok (.istore_n 3, 1) := by decide +kernel
theorem dX7_anew_35 : decode cX7_anew 35 = .ok (.iload_n 3, 1) := by decide +kernel
theorem dX7_anew_36 : decode cX7_anew 36 = .ok (.ifCond .ne 6, 3) := by decide +kernel
theorem dX7_anew_39 : decode cX7_anew 39 = .ok (.ldc 178, 2) := by decide +kernel
theorem dX7_anew_41 : decode cX7_anew 41 = .ok (.ireturn, 1) := by decide +kernel
theorem dX7_anew_42 : decode cX7_anew 42 = .ok (.aload_n 0, 1) := by decide +kernel
theorem dX7_anew_43 : decode cX7_anew 43 = .ok (.invokevirtual 179, 3) := by decide +kernel
theorem dX7_anew_46 : decode cX7_anew 46 = .ok (.aload_n 0, 1) := by decide +kernel
theorem dX7_anew_47 : decode cX7_anew 47 = .ok (.getfield 25, 3) := by decide +kernel
theorem dX7_anew_50 : decode cX7_anew 50 = .ok (.bipush 16, 2) := by decide +kernel
theorem dX7_anew_52 : decode cX7_anew 52 = .ok (.iconst 4, 1) := by decide +kernel
theorem dX7_anew_53 : decode cX7_anew 53 = .ok (.iload_n 1, 1) := by decide +kernel
theorem dX7_anew_54 : decode cX7_anew 54 = .ok (.imul, 1) := by decide +kernel
theorem dX7_anew_55 : decode cX7_anew 55 = .ok (.iadd, 1) := by decide +kernel
theorem dX7_anew_56 : decode cX7_anew 56 = .ok (.iconst 3, 1) := by decide +kernel
theorem dX7_anew_57 : decode cX7_anew 57 = .ok (.iadd, 1) := by decide +kernel
theorem dX7_anew_58 : decode cX7_anew 58 = .ok (.iload_n 2, 1) := by decide +kernel
theorem dX7_anew_59 : decode cX7_anew 59 = .ok (.iastore, 1) := by decide +kernel
theorem dX7_anew_60 : decode cX7_anew 60 = .ok (.iload_n 3, 1) := by decide +kernel
theorem dX7_anew_61 : decode cX7_anew 61 = .ok (.ireturn, 1) := by decide +kernel
theorem dX7_scrape_0 : decode cX7_scrape 0 = .ok (.aload_n 0, 1) := by decide +kernel
theorem dX7_scrape_1 : decode cX7_scrape 1 = .ok (.iload_n 1, 1) := by decide +kernel
theorem dX7_scrape_2 : decode cX7_scrape 2 = .ok (.invokevirtual 188, 3) := by decide +kernel
theorem dX7_scrape_5 : decode cX7_scrape 5 = .ok (.ifCond .ne 6, 3) := by decide +kernel
theorem dX7_scrape_8 : decode cX7_scrape 8 = .ok (.ldc 61, 2) := by decide +kernel
theorem dX7_scrape_10 : decode cX7_scrape 10 = .ok (.ireturn, 1) := by decide +kernel
theorem dX7_scrape_11 : decode cX7_scrape 11 = .ok (.aload_n 0, 1) := by decide +kernel
theorem dX7_scrape_12 : decode cX7_scrape 12 = .ok (.invokevirtual 179, 3) := by decide +kernel
theorem dX7_scrape_15 : decode cX7_scrape 15 = .ok (.bipush 16, 2) := by decide +kernel
theorem dX7_scrape_17 : decode cX7_scrape 17 = .ok (.iconst 4, 1) := by decide +kernel
theorem dX7_scrape_18 : decode cX7_scrape 18 = .ok (.iload_n 1, 1) := by decide +kernel
theorem dX7_scrape_19 : decode cX7_scrape 19 = .ok (.imul, 1) := by decide +kernel
theorem dX7_scrape_20 : decode cX7_scrape 20 = .ok (.iadd, 1) := by decide +kernel
theorem dX7_scrape_21 : decode cX7_scrape 21 = .ok (.istore_n 2, 1) := by decide +kernel
theorem dX7_scrape_22 : decode cX7_scrape 22 = .ok (.iload_n 2, 1) := by decide +kernel
theorem dX7_scrape_23 : decode cX7_scrape 23 = .ok (.bipush 48, 2) := by decide +kernel
theorem dX7_scrape_25 : decode cX7_scrape 25 = .ok (.if_icmp .ge 35, 3) := by decide +kernel
theorem dX7_scrape_28 : decode cX7_scrape 28 = .ok (.aload_n 0, 1) := by decide +kernel
theorem dX7_scrape_29 : decode cX7_scrape 29 = .ok (.getfield 25, 3) := by decide +kernel
theorem dX7_scrape_32 : decode cX7_scrape 32 = .ok (.iload_n 2, 1) := by decide +kernel
theorem dX7_scrape_33 : decode cX7_scrape 33 = .ok (.iload_n 2, 1) := by decide +kernel
theorem dX7_scrape_34 : decode cX7_scrape 34 = .ok (.iconst 4, 1) := by decide +kernel
theorem dX7_scrape_35 : decode cX7_scrape 35 = .ok (.iadd, 1) := by decide +kernel
theorem dX7_scrape_36 : decode cX7_scrape 36 = .ok (.bipush 48, 2) := by decide +kernel
theorem dX7_scrape_38 : decode cX7_scrape 38 = .ok (.if_icmp .ge 14, 3) := by decide +kernel
theorem dX7_scrape_41 : decode cX7_scrape 41 = .ok (.aload_n 0, 1) := by decide +kernel
theorem dX7_scrape_42 : decode cX7_scrape 42 = .ok (.getfield 25, 3) := by decide +kernel
theorem dX7_scrape_45 : decode cX7_scrape 45 = .ok (.iload_n 2, 1) := by decide +kernel
theorem dX7_scrape_46 : decode cX7_scrape 46 = .ok (.iconst 4, 1) := by decide +kernel
theorem dX7_scrape_47 : decode cX7_scrape 47 = .ok (.iadd, 1) := by decide +kernel
theorem dX7_scrape_48 : decode cX7_scrape 48 = .ok (.iaload, 1) := by decide +kernel
theorem dX7_scrape_49 : decode cX7_scrape 49 = .ok (.goto 4, 3) := by decide +kernel
theorem dX7_scrape_52 : decode cX7_scrape 52 = .ok (.iconst 0, 1) := by decide +kernel
theorem dX7_scrape_53 : decode cX7_scrape 53 = .ok (.iastore, 1) := by decide +kernel
theorem dX7_scrape_54 : decode cX7_scrape 54 = .ok (.iinc 2 1, 3) := by decide +kernel
theorem dX7_scrape_57 : decode cX7_scrape 57 = .ok (.goto (-35), 3) := by decide +kernel
theorem dX7_scrape_60 : decode cX7_scrape 60 = .ok (.aload_n 0, 1) := by decide +kernel
theorem dX7_scrape_61 : decode cX7_scrape 61 = .ok (.getfield 25, 3) := by decide +kernel
theorem dX7_scrape_64 : decode cX7_scrape 64 = .ok (.iconst 3, 1) := by decide +kernel
theorem dX7_scrape_65 : decode cX7_scrape 65 = .ok (.dup2, 1) := by decide +kernel
theorem dX7_scrape_66 : decode cX7_scrape 66 = .ok (.iaload, 1) := by decide +kernel
theorem dX7_scrape_67 : decode cX7_scrape 67 = .ok (.iconst 1, 1) := by decide +kernel
theorem dX7_scrape_68 : decode cX7_scrape 68 = .ok (.isub, 1) := by decide +kernel
theorem dX7_scrape_69 : decode cX7_scrape 69 = .ok (.iastore, 1) := by decide +kernel
theorem dX7_scrape_70 : decode cX7_scrape 70 = .ok (.aload_n 0, 1) := by decide +kernel
theorem dX7_scrape_71 : decode cX7_scrape 71 = .ok (.getfield 25, 3) := by decide +kernel
theorem dX7_scrape_74 : decode cX7_scrape 74 = .ok (.iconst 3, 1) := by decide +kernel
theorem dX7_scrape_75 : decode cX7_scrape 75 = .ok (.iaload, 1) := by decide +kernel
theorem dX7_scrape_76 : decode cX7_scrape 76 = .ok (.ireturn, 1) := by decide +kernel
theorem dX7_undo_0 : decode cX7_undo 0 = .ok (.aload_n 0, 1) := by decide +kernel
theorem dX7_undo_1 : decode cX7_undo 1 = .ok (.getfield 139, 3) := by decide +kernel
theorem dX7_undo_4 : decode cX7_undo 4 = .ok (.ifCond .ne 6, 3) := by decide +kernel
theorem dX7_undo_7 : decode cX7_undo 7 = .ok (.ldc 178, 2) := by decide +kernel
theorem dX7_undo_9 : decode cX7_undo 9 = .ok (.ireturn, 1) := by decide +kernel
theorem dX7_undo_10 : decode cX7_undo 10 = .ok (.aload_n 0, 1) := by decide +kernel
theorem dX7_undo_11 : decode cX7_undo 11 = .ok (.dup, 1) := by decide +kernel
theorem dX7_undo_12 : decode cX7_undo 12 = .ok (.getfield 139, 3) := by decide +kernel
theorem dX7_undo_15 : decode cX7_undo 15 = .ok (.iconst 1, 1) := by decide +kernel
theorem dX7_undo_16 : decode cX7_undo 16 = .ok (.isub, 1) := by decide +kernel
theorem dX7_undo_17 : decode cX7_undo 17 = .ok (.putfield 139, 3) := by decide +kernel
theorem dX7_undo_20 : decode cX7_undo 20 = .ok (.aload_n 0, 1) := by decide +kernel
theorem dX7_undo_21 : decode cX7_undo 21 = .ok (.getfield 31, 3) := by decide +kernel
theorem dX7_undo_24 : decode cX7_undo 24 = .ok (.bipush 48, 2) := by decide +kernel
theorem dX7_undo_26 : decode cX7_undo 26 = .ok (.aload_n 0, 1) := by decide +kernel
theorem dX7_undo_27 : decode cX7_undo 27 = .ok (.getfield 139, 3) := by decide +kernel
theorem dX7_undo_30 : decode cX7_undo 30 = .ok (.imul, 1) := by decide +kernel
theorem dX7_undo_31 : decode cX7_undo 31 = .ok (.aload_n 0, 1) := by decide +kernel
theorem dX7_undo_32 : decode cX7_undo 32 = .ok (.getfield 25, 3) := by decide +kernel
theorem dX7_undo_35 : decode cX7_undo 35 = .ok (.iconst 0, 1) := by decide +kernel
theorem dX7_undo_36 : decode cX7_undo 36 = .ok (.invokestatic 135, 3) := by decide +kernel
theorem dX7_undo_39 : decode cX7_undo 39 = .ok (.aload_n 0, 1) := by decide +kernel
theorem dX7_undo_40 : decode cX7_undo 40 = .ok (.getfield 139, 3) := by decide +kernel
theorem dX7_undo_43 : decode cX7_undo 43 = .ok (.ireturn, 1) := by decide +kernel
theorem dX7_tree_0 : decode cX7_tree 0 = .ok (.aload_n 0, 1) := by decide +kernel
theorem dX7_tree_1 : decode cX7_tree 1 = .ok (.iload_n 1, 1) := by decide +kernel
theorem dX7_tree_2 : decode cX7_tree 2 = .ok (.invokevirtual 185, 3) := by decide +kernel
theorem dX7_tree_5 : decode cX7_tree 5 = .ok (.ifCond .ne 6, 3) := by decide +kernel
theorem dX7_tree_8 : decode cX7_tree 8 = .ok (.ldc 61, 2) := by decide +kernel
theorem dX7_tree_10 : decode cX7_tree 10 = .ok (.ireturn, 1) := by decide +kernel
theorem dX7_tree_11 : decode cX7_tree 11 = .ok (.iconst 4, 1) := by decide +kernel
theorem dX7_tree_12 : decode cX7_tree 12 = .ok (.iconst 3, 1) := by decide +kernel
theorem dX7_tree_13 : decode cX7_tree 13 = .ok (.iload_n 1, 1) := by decide +kernel
theorem dX7_tree_14 : decode cX7_tree 14 = .ok (.imul, 1) := by decide +kernel
theorem dX7_tree_15 : decode cX7_tree 15 = .ok (.iadd, 1) := by decide +kernel
theorem dX7_tree_16 : decode cX7_tree 16 = .ok (.istore_n 3, 1) := by decide +kernel
theorem dX7_tree_17 : decode cX7_tree 17 = .ok (.iload_n 2, 1) := by decide +kernel
theorem dX7_tree_18 : decode cX7_tree 18 = .ok (.tableswitch 89 0 3 #[30, 39, 48, 57], 30) := by decide +kernel
theorem dX7_tree_48 : decode cX7_tree 48 = .ok (.aload_n 0, 1) := by decide +kernel
theorem dX7_tree_49 : decode cX7_tree 49 = .ok (.getfield 25, 3) := by decide +kernel
theorem dX7_tree_52 : decode cX7_tree 52 = .ok (.iload_n 3, 1) := by decide +kernel
theorem dX7_tree_53 : decode cX7_tree 53 = .ok (.iconst 1, 1) := by decide +kernel
theorem dX7_tree_54 : decode cX7_tree 54 = .ok (.iadd, 1) := by decide +kernel
theorem dX7_tree_55 : decode cX7_tree 55 = .ok (.iaload, 1) := by decide +kernel
theorem dX7_tree_56 : decode cX7_tree 56 = .ok (.ireturn, 1) := by decide +kernel
theorem dX7_tree_57 : decode cX7_tree 57 = .ok (.aload_n 0, 1) := by decide +kernel
theorem dX7_tree_58 : decode cX7_tree 58 = .ok (.getfield 25, 3) := by decide +kernel
theorem dX7_tree_61 : decode cX7_tree 61 = .ok (.iload_n 3, 1) := by decide +kernel
theorem dX7_tree_62 : decode cX7_tree 62 = .ok (.iconst 2, 1) := by decide +kernel
theorem dX7_tree_63 : decode cX7_tree 63 = .ok (.iadd, 1) := by decide +kernel
theorem dX7_tree_64 : decode cX7_tree 64 = .ok (.iaload, 1) := by decide +kernel
theorem dX7_tree_65 : decode cX7_tree 65 = .ok (.ireturn, 1) := by decide +kernel
theorem dX7_tree_66 : decode cX7_tree 66 = .ok (.aload_n 0, 1) := by decide +kernel
theorem dX7_tree_67 : decode cX7_tree 67 = .ok (.getfield 25, 3) := by decide +kernel
theorem dX7_tree_70 : decode cX7_tree 70 = .ok (.iload_n 1, 1) := by decide +kernel
theorem dX7_tree_71 : decode cX7_tree 71 = .ok (.invokestatic 168, 3) := by decide +kernel
theorem dX7_tree_74 : decode cX7_tree 74 = .ok (.ireturn, 1) := by decide +kernel
theorem dX7_tree_75 : decode cX7_tree 75 = .ok (.aload_n 0, 1) := by decide +kernel
theorem dX7_tree_76 : decode cX7_tree 76 = .ok (.getfield 25, 3) := by decide +kernel
theorem dX7_tree_79 : decode cX7_tree 79 = .ok (.iload_n 3, 1) := by decide +kernel
theorem dX7_tree_80 : decode cX7_tree 80 = .ok (.iaload, 1) := by decide +kernel
theorem dX7_tree_81 : decode cX7_tree 81 = .ok (.aload_n 0, 1) := by decide +kernel
theorem dX7_tree_82 : decode cX7_tree 82 = .ok (.getfield 25, 3) := by decide +kernel
theorem dX7_tree_85 : decode cX7_tree 85 = .ok (.iload_n 3, 1) := by decide +kernel
theorem dX7_tree_86 : decode cX7_tree 86 = .ok (.iconst 2, 1) := by decide +kernel
theorem dX7_tree_87 : decode cX7_tree 87 = .ok (.iadd, 1) := by decide +kernel
theorem dX7_tree_88 : decode cX7_tree 88 = .ok (.iaload, 1) := by decide +kernel
theorem dX7_tree_89 : decode cX7_tree 89 = .ok (.aload_n 0, 1) := by decide +kernel
theorem dX7_tree_90 : decode cX7_tree 90 = .ok (.getfield 25, 3) := by decide +kernel
theorem dX7_tree_93 : decode cX7_tree 93 = .ok (.iload_n 3, 1) := by decide +kernel
theorem dX7_tree_94 : decode cX7_tree 94 = .ok (.iconst 1, 1) := by decide +kernel
theorem dX7_tree_95 : decode cX7_tree 95 = .ok (.iadd, 1) := by decide +kernel
theorem dX7_tree_96 : decode cX7_tree 96 = .ok (.iaload, 1) := by decide +kernel
theorem dX7_tree_97 : decode cX7_tree 97 = .ok (.aload_n 0, 1) := by decide +kernel
theorem dX7_tree_98 : decode cX7_tree 98 = .ok (.getfield 25, 3) := by decide +kernel
theorem dX7_tree_101 : decode cX7_tree 101 = .ok (.iconst 1, 1) := by decide +kernel
theorem dX7_tree_102 : decode cX7_tree 102 = .ok (.iaload, 1) := by decide +kernel
theorem dX7_tree_103 : decode cX7_tree 103 = .ok (.invokestatic 146, 3) := by decide +kernel
theorem dX7_tree_106 : decode cX7_tree 106 = .ok (.ireturn, 1) := by decide +kernel
theorem dX7_tree_107 : decode cX7_tree 107 = .ok (.ldc 61, 2) := by decide +kernel
theorem dX7_tree_109 : decode cX7_tree 109 = .ok (.ireturn, 1) := by decide +kernel
theorem dX7_cutHas_0 : decode cX7_cutHas 0 = .ok (.aload_n 0, 1) := by decide +kernel
theorem dX7_cutHas_1 : decode cX7_cutHas 1 = .ok (.iload_n 1, 1) := by decide +kernel
theorem dX7_cutHas_2 : decode cX7_cutHas 2 = .ok (.invokevirtual 188, 3) := by decide +kernel
theorem dX7_cutHas_5 : decode cX7_cutHas 5 = .ok (.ifCond .eq 28, 3) := by decide +kernel
theorem dX7_cutHas_8 : decode cX7_cutHas 8 = .ok (.iload_n 2, 1) := by decide +kernel
theorem dX7_cutHas_9 : decode cX7_cutHas 9 = .ok (.iconst 0, 1) := by decide +kernel
theorem dX7_cutHas_10 : decode cX7_cutHas 10 = .ok (.iconst 3, 1) := by decide +kernel
theorem dX7_cutHas_11 : decode cX7_cutHas 11 = .ok (.invokestatic 53, 3) := by decide +kernel
theorem dX7_cutHas_14 : decode cX7_cutHas 14 = .ok (.ifCond .eq 19, 3) := by decide +kernel
theorem dX7_cutHas_17 : decode cX7_cutHas 17 = .ok (.aload_n 0, 1) := by decide +kernel
theorem dX7_cutHas_18 : decode cX7_cutHas 18 = .ok (.getfield 25, 3) := by decide +kernel
theorem dX7_cutHas_21 : decode cX7_cutHas 21 = .ok (.bipush 16, 2) := by decide +kernel
theorem dX7_cutHas_23 : decode cX7_cutHas 23 = .ok (.iconst 4, 1) := by decide +kernel
theorem dX7_cutHas_24 : decode cX7_cutHas 24 = .ok (.iload_n 1, 1) := by decide +kernel
theorem dX7_cutHas_25 : decode cX7_cutHas 25 = .ok (.imul, 1) := by decide +kernel
theorem dX7_cutHas_26 : decode cX7_cutHas 26 = .ok (.iadd, 1) := by decide +kernel
theorem dX7_cutHas_27 : decode cX7_cutHas 27 = .ok (.iload_n 2, 1) := by decide +kernel
theorem dX7_cutHas_28 : decode cX7_cutHas 28 = .ok (.iadd, 1) := by decide +kernel
theorem dX7_cutHas_29 : decode cX7_cutHas 29 = .ok (.iaload, 1) := by decide +kernel
theorem dX7_cutHas_30 : decode cX7_cutHas 30 = .ok (.goto 5, 3) := by decide +kernel
theorem dX7_cutHas_33 : decode cX7_cutHas 33 = .ok (.ldc 61, 2) := by decide +kernel
theorem dX7_cutHas_35 : decode cX7_cutHas 35 = .ok (.ireturn, 1) := by decide +kernel
theorem dX7_areOfOne_0 : decode cX7_areOfOne 0 = .ok (.aload_n 0, 1) := by decide +kernel
theorem dX7_areOfOne_1 : decode cX7_areOfOne 1 = .ok (.iload_n 1, 1) := by decide +kernel
theorem dX7_areOfOne_2 : decode cX7_areOfOne 2 = .ok (.invokevirtual 188, 3) := by decide +kernel
theorem dX7_areOfOne_5 : decode cX7_areOfOne 5 = .ok (.ifCond .eq 45, 3) := by decide +kernel
theorem dX7_areOfOne_8 : decode cX7_areOfOne 8 = .ok (.aload_n 0, 1) := by decide +kernel
theorem dX7_areOfOne_9 : decode cX7_areOfOne 9 = .ok (.iload_n 2, 1) := by decide +kernel
theorem dX7_areOfOne_10 : decode cX7_areOfOne 10 = .ok (.invokevirtual 188, 3) := by decide +kernel
theorem dX7_areOfOne_13 : decode cX7_areOfOne 13 = .ok (.ifCond .eq 37, 3) := by decide +kernel
theorem dX7_areOfOne_16 : decode cX7_areOfOne 16 = .ok (.iload_n 1, 1) := by decide +kernel
theorem dX7_areOfOne_17 : decode cX7_areOfOne 17 = .ok (.iload_n 2, 1) := by decide +kernel
theorem dX7_areOfOne_18 : decode cX7_areOfOne 18 = .ok (.if_icmp .eq 32, 3) := by decide +kernel
theorem dX7_areOfOne_21 : decode cX7_areOfOne 21 = .ok (.aload_n 0, 1) := by decide +kernel
theorem dX7_areOfOne_22 : decode cX7_areOfOne 22 = .ok (.getfield 25, 3) := by decide +kernel
theorem dX7_areOfOne_25 : decode cX7_areOfOne 25 = .ok (.bipush 16, 2) := by decide +kernel
theorem dX7_areOfOne_27 : decode cX7_areOfOne 27 = .ok (.iconst 4, 1) := by decide +kernel
theorem dX7_areOfOne_28 : decode cX7_areOfOne 28 = .ok (.iload_n 1, 1) := by decide +kernel
theorem dX7_areOfOne_29 : decode cX7_areOfOne 29 = .ok (.imul, 1) := by decide +kernel
theorem dX7_areOfOne_30 : decode cX7_areOfOne 30 = .ok (.iadd, 1) := by decide +kernel
theorem dX7_areOfOne_31 : decode cX7_areOfOne 31 = .ok (.iaload, 1) := by decide +kernel
theorem dX7_areOfOne_32 : decode cX7_areOfOne 32 = .ok (.aload_n 0, 1) := by decide +kernel
theorem dX7_areOfOne_33 : decode cX7_areOfOne 33 = .ok (.getfield 25, 3) := by decide +kernel
theorem dX7_areOfOne_36 : decode cX7_areOfOne 36 = .ok (.bipush 16, 2) := by decide +kernel
theorem dX7_areOfOne_38 : decode cX7_areOfOne 38 = .ok (.iconst 4, 1) := by decide +kernel
theorem dX7_areOfOne_39 : decode cX7_areOfOne 39 = .ok (.iload_n 2, 1) := by decide +kernel
theorem dX7_areOfOne_40 : decode cX7_areOfOne 40 = .ok (.imul, 1) := by decide +kernel
theorem dX7_areOfOne_41 : decode cX7_areOfOne 41 = .ok (.iadd, 1) := by decide +kernel
theorem dX7_areOfOne_42 : decode cX7_areOfOne 42 = .ok (.iaload, 1) := by decide +kernel
theorem dX7_areOfOne_43 : decode cX7_areOfOne 43 = .ok (.if_icmp .ne 7, 3) := by decide +kernel
theorem dX7_areOfOne_46 : decode cX7_areOfOne 46 = .ok (.iconst 1, 1) := by decide +kernel
theorem dX7_areOfOne_47 : decode cX7_areOfOne 47 = .ok (.goto 4, 3) := by decide +kernel
theorem dX7_areOfOne_50 : decode cX7_areOfOne 50 = .ok (.iconst 0, 1) := by decide +kernel
theorem dX7_areOfOne_51 : decode cX7_areOfOne 51 = .ok (.ireturn, 1) := by decide +kernel
theorem dX7_apart_0 : decode cX7_apart 0 = .ok (.aload_n 0, 1) := by decide +kernel
theorem dX7_apart_1 : decode cX7_apart 1 = .ok (.iload_n 1, 1) := by decide +kernel
theorem dX7_apart_2 : decode cX7_apart 2 = .ok (.invokevirtual 188, 3) := by decide +kernel
theorem dX7_apart_5 : decode cX7_apart 5 = .ok (.ifCond .eq 16, 3) := by decide +kernel
theorem dX7_apart_8 : decode cX7_apart 8 = .ok (.aload_n 0, 1) := by decide +kernel
theorem dX7_apart_9 : decode cX7_apart 9 = .ok (.iload_n 2, 1) := by decide +kernel
theorem dX7_apart_10 : decode cX7_apart 10 = .ok (.invokevirtual 188, 3) := by decide +kernel
theorem dX7_apart_13 : decode cX7_apart 13 = .ok (.ifCond .eq 8, 3) := by decide +kernel
theorem dX7_apart_16 : decode cX7_apart 16 = .ok (.iload_n 1, 1) := by decide +kernel
theorem dX7_apart_17 : decode cX7_apart 17 = .ok (.iload_n 2, 1) := by decide +kernel
theorem dX7_apart_18 : decode cX7_apart 18 = .ok (.if_icmp .ne 6, 3) := by decide +kernel
theorem dX7_apart_21 : decode cX7_apart 21 = .ok (.ldc 61, 2) := by decide +kernel
theorem dX7_apart_23 : decode cX7_apart 23 = .ok (.ireturn, 1) := by decide +kernel
theorem dX7_apart_24 : decode cX7_apart 24 = .ok (.aload_n 0, 1) := by decide +kernel
theorem dX7_apart_25 : decode cX7_apart 25 = .ok (.iload_n 1, 1) := by decide +kernel
theorem dX7_apart_26 : decode cX7_apart 26 = .ok (.iload_n 2, 1) := by decide +kernel
theorem dX7_apart_27 : decode cX7_apart 27 = .ok (.invokevirtual 191, 3) := by decide +kernel
theorem dX7_apart_30 : decode cX7_apart 30 = .ok (.ifCond .eq 39, 3) := by decide +kernel
theorem dX7_apart_33 : decode cX7_apart 33 = .ok (.aload_n 0, 1) := by decide +kernel
theorem dX7_apart_34 : decode cX7_apart 34 = .ok (.getfield 25, 3) := by decide +kernel
theorem dX7_apart_37 : decode cX7_apart 37 = .ok (.bipush 16, 2) := by decide +kernel
theorem dX7_apart_39 : decode cX7_apart 39 = .ok (.iconst 4, 1) := by decide +kernel
theorem dX7_apart_40 : decode cX7_apart 40 = .ok (.iload_n 1, 1) := by decide +kernel
theorem dX7_apart_41 : decode cX7_apart 41 = .ok (.imul, 1) := by decide +kernel
theorem dX7_apart_42 : decode cX7_apart 42 = .ok (.iadd, 1) := by decide +kernel
theorem dX7_apart_43 : decode cX7_apart 43 = .ok (.iconst 3, 1) := by decide +kernel
theorem dX7_apart_44 : decode cX7_apart 44 = .ok (.iadd, 1) := by decide +kernel
theorem dX7_apart_45 : decode cX7_apart 45 = .ok (.iaload, 1) := by decide +kernel
theorem dX7_apart_46 : decode cX7_apart 46 = .ok (.ifCond .le 23, 3) := by decide +kernel
theorem dX7_apart_49 : decode cX7_apart 49 = .ok (.aload_n 0, 1) := by decide +kernel
theorem dX7_apart_50 : decode cX7_apart 50 = .ok (.getfield 25, 3) := by decide +kernel
theorem dX7_apart_53 : decode cX7_apart 53 = .ok (.bipush 16, 2) := by decide +kernel
theorem dX7_apart_55 : decode cX7_apart 55 = .ok (.iconst 4, 1) := by decide +kernel
theorem dX7_apart_56 : decode cX7_apart 56 = .ok (.iload_n 2, 1) := by decide +kernel
theorem dX7_apart_57 : decode cX7_apart 57 = .ok (.imul, 1) := by decide +kernel
theorem dX7_apart_58 : decode cX7_apart 58 = .ok (.iadd, 1) := by decide +kernel
theorem dX7_apart_59 : decode cX7_apart 59 = .ok (.iconst 3, 1) := by decide +kernel
theorem dX7_apart_60 : decode cX7_apart 60 = .ok (.iadd, 1) := by decide +kernel
theorem dX7_apart_61 : decode cX7_apart 61 = .ok (.iaload, 1) := by decide +kernel
theorem dX7_apart_62 : decode cX7_apart 62 = .ok (.ifCond .le 7, 3) := by decide +kernel
theorem dX7_apart_65 : decode cX7_apart 65 = .ok (.iconst 1, 1) := by decide +kernel
theorem dX7_apart_66 : decode cX7_apart 66 = .ok (.goto 4, 3) := by decide +kernel
theorem dX7_apart_69 : decode cX7_apart 69 = .ok (.iconst 0, 1) := by decide +kernel
theorem dX7_apart_70 : decode cX7_apart 70 = .ok (.istore_n 3, 1) := by decide +kernel
theorem dX7_apart_71 : decode cX7_apart 71 = .ok (.iload_n 3, 1) := by decide +kernel
theorem dX7_apart_72 : decode cX7_apart 72 = .ok (.ifCond .eq 15, 3) := by decide +kernel
theorem dX7_apart_75 : decode cX7_apart 75 = .ok (.aload_n 0, 1) := by decide +kernel
theorem dX7_apart_76 : decode cX7_apart 76 = .ok (.getfield 25, 3) := by decide +kernel
theorem dX7_apart_79 : decode cX7_apart 79 = .ok (.iload_n 1, 1) := by decide +kernel
theorem dX7_apart_80 : decode cX7_apart 80 = .ok (.iload_n 2, 1) := by decide +kernel
theorem dX7_apart_81 : decode cX7_apart 81 = .ok (.invokestatic 165, 3) := by decide +kernel
theorem dX7_apart_84 : decode cX7_apart 84 = .ok (.goto 5, 3) := by decide +kernel
theorem dX7_apart_87 : decode cX7_apart 87 = .ok (.ldc 47, 2) := by decide +kernel
theorem dX7_apart_89 : decode cX7_apart 89 = .ok (.ireturn, 1) := by decide +kernel
theorem dX7_together_0 : decode cX7_together 0 = .ok (.aload_n 0, 1) := by decide +kernel
theorem dX7_together_1 : decode cX7_together 1 = .ok (.iload_n 1, 1) := by decide +kernel
theorem dX7_together_2 : decode cX7_together 2 = .ok (.iload_n 2, 1) := by decide +kernel
theorem dX7_together_3 : decode cX7_together 3 = .ok (.invokevirtual 191, 3) := by decide +kernel
theorem dX7_together_6 : decode cX7_together 6 = .ok (.ifCond .ne 8, 3) := by decide +kernel
theorem dX7_together_9 : decode cX7_together 9 = .ok (.ldc 61, 2) := by decide +kernel
theorem dX7_together_11 : decode cX7_together 11 = .ok (.goto 21, 3) := by decide +kernel
theorem dX7_together_14 : decode cX7_together 14 = .ok (.aload_n 0, 1) := by decide +kernel
theorem dX7_together_15 : decode cX7_together 15 = .ok (.getfield 25, 3) := by decide +kernel
theorem dX7_together_18 : decode cX7_together 18 = .ok (.iload_n 1, 1) := by decide +kernel
theorem dX7_together_19 : decode cX7_together 19 = .ok (.iload_n 2, 1) := by decide +kernel
theorem dX7_together_20 : decode cX7_together 20 = .ok (.iconst 0, 1) := by decide +kernel
theorem dX7_together_21 : decode cX7_together 21 = .ok (.invokestatic 194, 3) := by decide +kernel
theorem dX7_together_24 : decode cX7_together 24 = .ok (.ifCond .eq 7, 3) := by decide +kernel
theorem dX7_together_27 : decode cX7_together 27 = .ok (.iconst 1, 1) := by decide +kernel
theorem dX7_together_28 : decode cX7_together 28 = .ok (.goto 4, 3) := by decide +kernel
theorem dX7_together_31 : decode cX7_together 31 = .ok (.iconst 0, 1) := by decide +kernel
theorem dX7_together_32 : decode cX7_together 32 = .ok (.ireturn, 1) := by decide +kernel
theorem dX7_girth_0 : decode cX7_girth 0 = .ok (.aload_n 0, 1) := by decide +kernel
theorem dX7_girth_1 : decode cX7_girth 1 = .ok (.iload_n 1, 1) := by decide +kernel
theorem dX7_girth_2 : decode cX7_girth 2 = .ok (.invokevirtual 185, 3) := by decide +kernel
theorem dX7_girth_5 : decode cX7_girth 5 = .ok (.ifCond .eq 10, 3) := by decide +kernel
theorem dX7_girth_8 : decode cX7_girth 8 = .ok (.iload_n 2, 1) := by decide +kernel
theorem dX7_girth_9 : decode cX7_girth 9 = .ok (.invokestatic 198, 3) := by decide +kernel
theorem dX7_girth_12 : decode cX7_girth 12 = .ok (.ifCond .ne 6, 3) := by decide +kernel
theorem dX7_girth_15 : decode cX7_girth 15 = .ok (.ldc 61, 2) := by decide +kernel
theorem dX7_girth_17 : decode cX7_girth 17 = .ok (.ireturn, 1) := by decide +kernel
theorem dX7_girth_18 : decode cX7_girth 18 = .ok (.aload_n 0, 1) := by decide +kernel
theorem dX7_girth_19 : decode cX7_girth 19 = .ok (.iload_n 2, 1) := by decide +kernel
theorem dX7_girth_20 : decode cX7_girth 20 = .ok (.invokevirtual 201, 3) := by decide +kernel
theorem dX7_girth_23 : decode cX7_girth 23 = .ok (.aload_n 0, 1) := by decide +kernel
theorem dX7_girth_24 : decode cX7_girth 24 = .ok (.getfield 41, 3) := by decide +kernel
theorem dX7_girth_27 : decode cX7_girth 27 = .ok (.iconst 4, 1) := by decide +kernel
theorem dX7_girth_28 : decode cX7_girth 28 = .ok (.iconst 3, 1) := by decide +kernel
theorem dX7_girth_29 : decode cX7_girth 29 = .ok (.iload_n 1, 1) := by decide +kernel
theorem dX7_girth_30 : decode cX7_girth 30 = .ok (.imul, 1) := by decide +kernel
theorem dX7_girth_31 : decode cX7_girth 31 = .ok (.iadd, 1) := by decide +kernel
theorem dX7_girth_32 : decode cX7_girth 32 = .ok (.iconst 1, 1) := by decide +kernel
theorem dX7_girth_33 : decode cX7_girth 33 = .ok (.iadd, 1) := by decide +kernel
theorem dX7_girth_34 : decode cX7_girth 34 = .ok (.iaload, 1) := by decide +kernel
theorem dX7_girth_35 : decode cX7_girth 35 = .ok (.ireturn, 1) := by decide +kernel
theorem dX7_left_0 : decode cX7_left 0 = .ok (.aload_n 0, 1) := by decide +kernel
theorem dX7_left_1 : decode cX7_left 1 = .ok (.invokevirtual 175, 3) := by decide +kernel
theorem dX7_left_4 : decode cX7_left 4 = .ok (.ifCond .ne 6, 3) := by decide +kernel
theorem dX7_left_7 : decode cX7_left 7 = .ok (.ldc 178, 2) := by decide +kernel
theorem dX7_left_9 : decode cX7_left 9 = .ok (.ireturn, 1) := by decide +kernel
theorem dX7_left_10 : decode cX7_left 10 = .ok (.iload_n 1, 1) := by decide +kernel
theorem dX7_left_11 : decode cX7_left 11 = .ok (.invokestatic 198, 3) := by decide +kernel
theorem dX7_left_14 : decode cX7_left 14 = .ok (.ifCond .ne 6, 3) := by decide +kernel
theorem dX7_left_17 : decode cX7_left 17 = .ok (.ldc 61, 2) := by decide +kernel
theorem dX7_left_19 : decode cX7_left 19 = .ok (.ireturn, 1) := by decide +kernel
theorem dX7_left_20 : decode cX7_left 20 = .ok (.aload_n 0, 1) := by decide +kernel
theorem dX7_left_21 : decode cX7_left 21 = .ok (.iload_n 1, 1) := by decide +kernel
theorem dX7_left_22 : decode cX7_left 22 = .ok (.invokevirtual 201, 3) := by decide +kernel
theorem dX7_left_25 : decode cX7_left 25 = .ok (.aload_n 0, 1) := by decide +kernel
theorem dX7_left_26 : decode cX7_left 26 = .ok (.getfield 41, 3) := by decide +kernel
theorem dX7_left_29 : decode cX7_left 29 = .ok (.ldc 47, 2) := by decide +kernel
theorem dX7_left_31 : decode cX7_left 31 = .ok (.invokestatic 168, 3) := by decide +kernel
theorem dX7_left_34 : decode cX7_left 34 = .ok (.ireturn, 1) := by decide +kernel
theorem dX7_free_0 : decode cX7_free 0 = .ok (.aload_n 0, 1) := by decide +kernel
theorem dX7_free_1 : decode cX7_free 1 = .ok (.iload_n 1, 1) := by decide +kernel
theorem dX7_free_2 : decode cX7_free 2 = .ok (.iload_n 2, 1) := by decide +kernel
theorem dX7_free_3 : decode cX7_free 3 = .ok (.invokevirtual 191, 3) := by decide +kernel
theorem dX7_free_6 : decode cX7_free 6 = .ok (.ifCond .ne 6, 3) := by decide +kernel
theorem dX7_free_9 : decode cX7_free 9 = .ok (.ldc 61, 2) := by decide +kernel
theorem dX7_free_11 : decode cX7_free 11 = .ok (.ireturn, 1) := by decide +kernel
theorem dX7_free_12 : decode cX7_free 12 = .ok (.aload_n 0, 1) := by decide +kernel
theorem dX7_free_13 : decode cX7_free 13 = .ok (.iconst 0, 1) := by decide +kernel
theorem dX7_free_14 : decode cX7_free 14 = .ok (.invokevirtual 201, 3) := by decide +kernel
theorem dX7_free_17 : decode cX7_free 17 = .ok (.iconst 0, 1) := by decide +kernel
theorem dX7_free_18 : decode cX7_free 18 = .ok (.istore_n 3, 1) := by decide +kernel
theorem dX7_free_19 : decode cX7_free 19 = .ok (.iload_n 3, 1) := by decide +kernel
theorem dX7_free_20 : decode cX7_free 20 = .ok (.bipush 51, 2) := by decide +kernel
theorem dX7_free_22 : decode cX7_free 22 = .ok (.if_icmp .ge 31, 3) := by decide +kernel
theorem dX7_free_25 : decode cX7_free 25 = .ok (.aload_n 0, 1) := by decide +kernel
theorem dX7_free_26 : decode cX7_free 26 = .ok (.getfield 41, 3) := by decide +kernel
theorem dX7_free_29 : decode cX7_free 29 = .ok (.iload_n 1, 1) := by decide +kernel
theorem dX7_free_30 : decode cX7_free 30 = .ok (.iload_n 2, 1) := by decide +kernel
theorem dX7_free_31 : decode cX7_free 31 = .ok (.iconst 0, 1) := by decide +kernel
theorem dX7_free_32 : decode cX7_free 32 = .ok (.invokestatic 194, 3) := by decide +kernel
theorem dX7_free_35 : decode cX7_free 35 = .ok (.ifCond .ne 5, 3) := by decide +kernel
theorem dX7_free_38 : decode cX7_free 38 = .ok (.iload_n 3, 1) := by decide +kernel
theorem dX7_free_39 : decode cX7_free 39 = .ok (.ireturn, 1) := by decide +kernel
theorem dX7_free_40 : decode cX7_free 40 = .ok (.aload_n 0, 1) := by decide +kernel
theorem dX7_free_41 : decode cX7_free 41 = .ok (.getfield 41, 3) := by decide +kernel
theorem dX7_free_44 : decode cX7_free 44 = .ok (.invokestatic 153, 3) := by decide +kernel
theorem dX7_free_47 : decode cX7_free 47 = .ok (.iinc 3 1, 3) := by decide +kernel
theorem dX7_free_50 : decode cX7_free 50 = .ok (.goto (-31), 3) := by decide +kernel
theorem dX7_free_53 : decode cX7_free 53 = .ok (.ldc 47, 2) := by decide +kernel
theorem dX7_free_55 : decode cX7_free 55 = .ok (.ireturn, 1) := by decide +kernel
theorem dX7_depthIn_0 : decode cX7_depthIn 0 = .ok (.iconst 4, 1) := by decide +kernel
theorem dX7_depthIn_1 : decode cX7_depthIn 1 = .ok (.iconst 3, 1) := by decide +kernel
theorem dX7_depthIn_2 : decode cX7_depthIn 2 = .ok (.iload_n 1, 1) := by decide +kernel
theorem dX7_depthIn_3 : decode cX7_depthIn 3 = .ok (.imul, 1) := by decide +kernel
theorem dX7_depthIn_4 : decode cX7_depthIn 4 = .ok (.iadd, 1) := by decide +kernel
theorem dX7_depthIn_5 : decode cX7_depthIn 5 = .ok (.istore 4, 2) := by decide +kernel
theorem dX7_depthIn_7 : decode cX7_depthIn 7 = .ok (.iload_n 2, 1) := by decide +kernel
theorem dX7_depthIn_8 : decode cX7_depthIn 8 = .ok (.istore 5, 2) := by decide +kernel
theorem dX7_depthIn_10 : decode cX7_depthIn 10 = .ok (.aload_n 0, 1) := by decide +kernel
theorem dX7_depthIn_11 : decode cX7_depthIn 11 = .ok (.getfield 25, 3) := by decide +kernel
theorem dX7_depthIn_14 : decode cX7_depthIn 14 = .ok (.iload 4, 2) := by decide +kernel
theorem dX7_depthIn_16 : decode cX7_depthIn 16 = .ok (.iconst 1, 1) := by decide +kernel
theorem dX7_depthIn_17 : decode cX7_depthIn 17 = .ok (.iadd, 1) := by decide +kernel
theorem dX7_depthIn_18 : decode cX7_depthIn 18 = .ok (.iaload, 1) := by decide +kernel
theorem dX7_depthIn_19 : decode cX7_depthIn 19 = .ok (.istore 6, 2) := by decide +kernel
theorem dX7_depthIn_21 : decode cX7_depthIn 21 = .ok (.iconst 0, 1) := by decide +kernel
theorem dX7_depthIn_22 : decode cX7_depthIn 22 = .ok (.istore 7, 2) := by decide +kernel
theorem dX7_depthIn_24 : decode cX7_depthIn 24 = .ok (.iload 7, 2) := by decide +kernel
theorem dX7_depthIn_26 : decode cX7_depthIn 26 = .ok (.iload_n 3, 1) := by decide +kernel
theorem dX7_depthIn_27 : decode cX7_depthIn 27 = .ok (.if_icmp .ge 87, 3) := by decide +kernel
theorem dX7_depthIn_30 : decode cX7_depthIn 30 = .ok (.iload 5, 2) := by decide +kernel
theorem dX7_depthIn_32 : decode cX7_depthIn 32 = .ok (.ifCond .le 82, 3) := by decide +kernel
theorem dX7_depthIn_35 : decode cX7_depthIn 35 = .ok (.aload_n 0, 1) := by decide +kernel
theorem dX7_depthIn_36 : decode cX7_depthIn 36 = .ok (.getfield 25, 3) := by decide +kernel
theorem dX7_depthIn_39 : decode cX7_depthIn 39 = .ok (.iload 4, 2) := by decide +kernel
theorem dX7_depthIn_41 : decode cX7_depthIn 41 = .ok (.iaload, 1) := by decide +kernel
theorem dX7_depthIn_42 : decode cX7_depthIn 42 = .ok (.aload_n 0, 1) := by decide +kernel
theorem dX7_depthIn_43 : decode cX7_depthIn 43 = .ok (.getfield 25, 3) := by decide +kernel
theorem dX7_depthIn_46 : decode cX7_depthIn 46 = .ok (.iload 4, 2) := by decide +kernel
theorem dX7_depthIn_48 : decode cX7_depthIn 48 = .ok (.iconst 2, 1) := by decide +kernel
theorem dX7_depthIn_49 : decode cX7_depthIn 49 = .ok (.iadd, 1) := by decide +kernel
theorem dX7_depthIn_50 : decode cX7_depthIn 50 = .ok (.iaload, 1) := by decide +kernel
theorem dX7_depthIn_51 : decode cX7_depthIn 51 = .ok (.iload 6, 2) := by decide +kernel
theorem dX7_depthIn_53 : decode cX7_depthIn 53 = .ok (.aload_n 0, 1) := by decide +kernel
theorem dX7_depthIn_54 : decode cX7_depthIn 54 = .ok (.getfield 25, 3) := by decide +kernel
theorem dX7_depthIn_57 : decode cX7_depthIn 57 = .ok (.iconst 1, 1) := by decide +kernel
theorem dX7_depthIn_58 : decode cX7_depthIn 58 = .ok (.iaload, 1) := by decide +kernel
theorem dX7_depthIn_59 : decode cX7_depthIn 59 = .ok (.iload 7, 2) := by decide +kernel
theorem dX7_depthIn_61 : decode cX7_depthIn 61 = .ok (.iadd, 1) := by decide +kernel
theorem dX7_depthIn_62 : decode cX7_depthIn 62 = .ok (.invokestatic 146, 3) := by decide +kernel
theorem dX7_depthIn_65 : decode cX7_depthIn 65 = .ok (.istore 8, 2) := by decide +kernel
theorem dX7_depthIn_67 : decode cX7_depthIn 67 = .ok (.iload 5, 2) := by decide +kernel
theorem dX7_depthIn_69 : decode cX7_depthIn 69 = .ok (.aload_n 0, 1) := by decide +kernel
theorem dX7_depthIn_70 : decode cX7_depthIn 70 = .ok (.getfield 25, 3) := by decide +kernel
theorem dX7_depthIn_73 : decode cX7_depthIn 73 = .ok (.iload 4, 2) := by decide +kernel
theorem dX7_depthIn_75 : decode cX7_depthIn 75 = .ok (.iaload, 1) := by decide +kernel
theorem dX7_depthIn_76 : decode cX7_depthIn 76 = .ok (.iload 8, 2) := by decide +kernel
theorem dX7_depthIn_78 : decode cX7_depthIn 78 = .ok (.aload_n 0, 1) := by decide +kernel
theorem dX7_depthIn_79 : decode cX7_depthIn 79 = .ok (.getfield 25, 3) := by decide +kernel
theorem dX7_depthIn_82 : decode cX7_depthIn 82 = .ok (.iconst 1, 1) := by decide +kernel
theorem dX7_depthIn_83 : decode cX7_depthIn 83 = .ok (.iaload, 1) := by decide +kernel
theorem dX7_depthIn_84 : decode cX7_depthIn 84 = .ok (.iload 7, 2) := by decide +kernel
theorem dX7_depthIn_86 : decode cX7_depthIn 86 = .ok (.iadd, 1) := by decide +kernel
theorem dX7_depthIn_87 : decode cX7_depthIn 87 = .ok (.invokestatic 150, 3) := by decide +kernel
theorem dX7_depthIn_90 : decode cX7_depthIn 90 = .ok (.ifCond .eq 7, 3) := by decide +kernel
theorem dX7_depthIn_93 : decode cX7_depthIn 93 = .ok (.iconst 1, 1) := by decide +kernel
theorem dX7_depthIn_94 : decode cX7_depthIn 94 = .ok (.goto 4, 3) := by decide +kernel
theorem dX7_depthIn_97 : decode cX7_depthIn 97 = .ok (.iconst 0, 1) := by decide +kernel
theorem dX7_depthIn_98 : decode cX7_depthIn 98 = .ok (.isub, 1) := by decide +kernel
theorem dX7_depthIn_99 : decode cX7_depthIn 99 = .ok (.istore 5, 2) := by decide +kernel
theorem dX7_depthIn_101 : decode cX7_depthIn 101 = .ok (.iload 6, 2) := by decide +kernel
theorem dX7_depthIn_103 : decode cX7_depthIn 103 = .ok (.iload 8, 2) := by decide +kernel
theorem dX7_depthIn_105 : decode cX7_depthIn 105 = .ok (.iadd, 1) := by decide +kernel
theorem dX7_depthIn_106 : decode cX7_depthIn 106 = .ok (.istore 6, 2) := by decide +kernel
theorem dX7_depthIn_108 : decode cX7_depthIn 108 = .ok (.iinc 7 1, 3) := by decide +kernel
theorem dX7_depthIn_111 : decode cX7_depthIn 111 = .ok (.goto (-87), 3) := by decide +kernel
theorem dX7_depthIn_114 : decode cX7_depthIn 114 = .ok (.iload 5, 2) := by decide +kernel
theorem dX7_depthIn_116 : decode cX7_depthIn 116 = .ok (.ireturn, 1) := by decide +kernel
theorem dX7_holds_0 : decode cX7_holds 0 = .ok (.aload_n 0, 1) := by decide +kernel
theorem dX7_holds_1 : decode cX7_holds 1 = .ok (.invokevirtual 175, 3) := by decide +kernel
theorem dX7_holds_4 : decode cX7_holds 4 = .ok (.ifCond .ne 6, 3) := by decide +kernel
theorem dX7_holds_7 : decode cX7_holds 7 = .ok (.ldc 178, 2) := by decide +kernel
theorem dX7_holds_9 : decode cX7_holds 9 = .ok (.ireturn, 1) := by decide +kernel
theorem dX7_holds_10 : decode cX7_holds 10 = .ok (.iload_n 1, 1) := by decide +kernel
theorem dX7_holds_11 : decode cX7_holds 11 = .ok (.iconst 1, 1) := by decide +kernel
theorem dX7_holds_12 : decode cX7_holds 12 = .ok (.bipush 30, 2) := by decide +kernel
theorem dX7_holds_14 : decode cX7_holds 14 = .ok (.invokestatic 53, 3) := by decide +kernel
theorem dX7_holds_17 : decode cX7_holds 17 = .ok (.ifCond .eq 20, 3) := by decide +kernel
theorem dX7_holds_20 : decode cX7_holds 20 = .ok (.iload_n 2, 1) := by decide +kernel
theorem dX7_holds_21 : decode cX7_holds 21 = .ok (.iconst 1, 1) := by decide +kernel
theorem dX7_holds_22 : decode cX7_holds 22 = .ok (.bipush 20, 2) := by decide +kernel
theorem dX7_holds_24 : decode cX7_holds 24 = .ok (.invokestatic 53, 3) := by decide +kernel
theorem dX7_holds_27 : decode cX7_holds 27 = .ok (.ifCond .eq 10, 3) := by decide +kernel
theorem dX7_holds_30 : decode cX7_holds 30 = .ok (.iload_n 3, 1) := by decide +kernel
theorem dX7_holds_31 : decode cX7_holds 31 = .ok (.invokestatic 198, 3) := by decide +kernel
theorem dX7_holds_34 : decode cX7_holds 34 = .ok (.ifCond .ne 6, 3) := by decide +kernel
theorem dX7_holds_37 : decode cX7_holds 37 = .ok (.ldc 61, 2) := by decide +kernel
theorem dX7_holds_39 : decode cX7_holds 39 = .ok (.ireturn, 1) := by decide +kernel
theorem dX7_holds_40 : decode cX7_holds 40 = .ok (.aload_n 0, 1) := by decide +kernel
theorem dX7_holds_41 : decode cX7_holds 41 = .ok (.iload_n 3, 1) := by decide +kernel
theorem dX7_holds_42 : decode cX7_holds 42 = .ok (.invokevirtual 201, 3) := by decide +kernel
theorem dX7_holds_45 : decode cX7_holds 45 = .ok (.iconst 0, 1) := by decide +kernel
theorem dX7_holds_46 : decode cX7_holds 46 = .ok (.istore 4, 2) := by decide +kernel
theorem dX7_holds_48 : decode cX7_holds 48 = .ok (.iconst 0, 1) := by decide +kernel
theorem dX7_holds_49 : decode cX7_holds 49 = .ok (.istore 5, 2) := by decide +kernel
theorem dX7_holds_51 : decode cX7_holds 51 = .ok (.iload 5, 2) := by decide +kernel
theorem dX7_holds_53 : decode cX7_holds 53 = .ok (.aload_n 0, 1) := by decide +kernel
theorem dX7_holds_54 : decode cX7_holds 54 = .ok (.getfield 25, 3) := by decide +kernel
theorem dX7_holds_57 : decode cX7_holds 57 = .ok (.iconst 2, 1) := by decide +kernel
theorem dX7_holds_58 : decode cX7_holds 58 = .ok (.iaload, 1) := by decide +kernel
theorem dX7_holds_59 : decode cX7_holds 59 = .ok (.if_icmp .ge 72, 3) := by decide +kernel
theorem dX7_holds_62 : decode cX7_holds 62 = .ok (.iload_n 1, 1) := by decide +kernel
theorem dX7_holds_63 : decode cX7_holds 63 = .ok (.aload_n 0, 1) := by decide +kernel
theorem dX7_holds_64 : decode cX7_holds 64 = .ok (.getfield 41, 3) := by decide +kernel
theorem dX7_holds_67 : decode cX7_holds 67 = .ok (.iconst 4, 1) := by decide +kernel
theorem dX7_holds_68 : decode cX7_holds 68 = .ok (.iconst 3, 1) := by decide +kernel
theorem dX7_holds_69 : decode cX7_holds 69 = .ok (.iload 5, 2) := by decide +kernel
theorem dX7_holds_71 : decode cX7_holds 71 = .ok (.imul, 1) := by decide +kernel
theorem dX7_holds_72 : decode cX7_holds 72 = .ok (.iadd, 1) := by decide +kernel
theorem dX7_holds_73 : decode cX7_holds 73 = .ok (.iconst 1, 1) := by decide +kernel
theorem dX7_holds_74 : decode cX7_holds 74 = .ok (.iadd, 1) := by decide +kernel
theorem dX7_holds_75 : decode cX7_holds 75 = .ok (.iaload, 1) := by decide +kernel
theorem dX7_holds_76 : decode cX7_holds 76 = .ok (.imul, 1) := by decide +kernel
theorem dX7_holds_77 : decode cX7_holds 77 = .ok (.bipush 60, 2) := by decide +kernel
theorem dX7_holds_79 : decode cX7_holds 79 = .ok (.idiv, 1) := by decide +kernel
theorem dX7_holds_80 : decode cX7_holds 80 = .ok (.aload_n 0, 1) := by decide +kernel
theorem dX7_holds_81 : decode cX7_holds 81 = .ok (.getfield 25, 3) := by decide +kernel
theorem dX7_holds_84 : decode cX7_holds 84 = .ok (.iconst 0, 1) := by decide +kernel
theorem dX7_holds_85 : decode cX7_holds 85 = .ok (.iaload, 1) := by decide +kernel
theorem dX7_holds_86 : decode cX7_holds 86 = .ok (.if_icmp .gt 7, 3) := by decide +kernel
theorem dX7_holds_89 : decode cX7_holds 89 = .ok (.iconst 1, 1) := by decide +kernel
theorem dX7_holds_90 : decode cX7_holds 90 = .ok (.goto 4, 3) := by decide +kernel
theorem dX7_holds_93 : decode cX7_holds 93 = .ok (.iconst 0, 1) := by decide +kernel
theorem dX7_holds_94 : decode cX7_holds 94 = .ok (.istore 6, 2) := by decide +kernel
theorem dX7_holds_96 : decode cX7_holds 96 = .ok (.iload 4, 2) := by decide +kernel
theorem dX7_holds_98 : decode cX7_holds 98 = .ok (.iload 6, 2) := by decide +kernel
theorem dX7_holds_100 : decode cX7_holds 100 = .ok (.ifCond .eq 21, 3) := by decide +kernel
theorem dX7_holds_103 : decode cX7_holds 103 = .ok (.aload_n 0, 1) := by decide +kernel
theorem dX7_holds_104 : decode cX7_holds 104 = .ok (.iload 5, 2) := by decide +kernel
theorem dX7_holds_106 : decode cX7_holds 106 = .ok (.iload_n 2, 1) := by decide +kernel
theorem dX7_holds_107 : decode cX7_holds 107 = .ok (.iload_n 3, 1) := by decide +kernel
theorem dX7_holds_108 : decode cX7_holds 108 = .ok (.invokevirtual 205, 3) := by decide +kernel
theorem dX7_holds_111 : decode cX7_holds 111 = .ok (.ifCond .le 10, 3) := by decide +kernel
theorem dX7_holds_114 : decode cX7_holds 114 = .ok (.iconst 1, 1) := by decide +kernel
theorem dX7_holds_115 : decode cX7_holds 115 = .ok (.iload 5, 2) := by decide +kernel
theorem dX7_holds_117 : decode cX7_holds 117 = .ok (.ishl, 1) := by decide +kernel
theorem dX7_holds_118 : decode cX7_holds 118 = .ok (.goto 4, 3) := by decide +kernel
theorem dX7_holds_121 : decode cX7_holds 121 = .ok (.iconst 0, 1) := by decide +kernel
theorem dX7_holds_122 : decode cX7_holds 122 = .ok (.ior, 1) := by decide +kernel
theorem dX7_holds_123 : decode cX7_holds 123 = .ok (.istore 4, 2) := by decide +kernel
theorem dX7_holds_125 : decode cX7_holds 125 = .ok (.iinc 5 1, 3) := by decide +kernel
theorem dX7_holds_128 : decode cX7_holds 128 = .ok (.goto (-77), 3) := by decide +kernel
theorem dX7_holds_131 : decode cX7_holds 131 = .ok (.iload 4, 2) := by decide +kernel
theorem dX7_holds_133 : decode cX7_holds 133 = .ok (.ireturn, 1) := by decide +kernel
theorem dX7_deep_0 : decode cX7_deep 0 = .ok (.aload_n 0, 1) := by decide +kernel
theorem dX7_deep_1 : decode cX7_deep 1 = .ok (.iload_n 1, 1) := by decide +kernel
theorem dX7_deep_2 : decode cX7_deep 2 = .ok (.invokevirtual 185, 3) := by decide +kernel
theorem dX7_deep_5 : decode cX7_deep 5 = .ok (.ifCond .eq 10, 3) := by decide +kernel
theorem dX7_deep_8 : decode cX7_deep 8 = .ok (.iload_n 2, 1) := by decide +kernel
theorem dX7_deep_9 : decode cX7_deep 9 = .ok (.invokestatic 198, 3) := by decide +kernel
theorem dX7_deep_12 : decode cX7_deep 12 = .ok (.ifCond .ne 6, 3) := by decide +kernel
theorem dX7_deep_15 : decode cX7_deep 15 = .ok (.ldc 61, 2) := by decide +kernel
theorem dX7_deep_17 : decode cX7_deep 17 = .ok (.ireturn, 1) := by decide +kernel
theorem dX7_deep_18 : decode cX7_deep 18 = .ok (.iconst 1, 1) := by decide +kernel
theorem dX7_deep_19 : decode cX7_deep 19 = .ok (.istore_n 3, 1) := by decide +kernel
theorem dX7_deep_20 : decode cX7_deep 20 = .ok (.iload_n 3, 1) := by decide +kernel
theorem dX7_deep_21 : decode cX7_deep 21 = .ok (.bipush 21, 2) := by decide +kernel
theorem dX7_deep_23 : decode cX7_deep 23 = .ok (.if_icmp .ge 21, 3) := by decide +kernel
theorem dX7_deep_26 : decode cX7_deep 26 = .ok (.aload_n 0, 1) := by decide +kernel
theorem dX7_deep_27 : decode cX7_deep 27 = .ok (.iload_n 1, 1) := by decide +kernel
theorem dX7_deep_28 : decode cX7_deep 28 = .ok (.iload_n 3, 1) := by decide +kernel
theorem dX7_deep_29 : decode cX7_deep 29 = .ok (.iload_n 2, 1) := by decide +kernel
theorem dX7_deep_30 : decode cX7_deep 30 = .ok (.invokevirtual 205, 3) := by decide +kernel
theorem dX7_deep_33 : decode cX7_deep 33 = .ok (.ifCond .le 5, 3) := by decide +kernel
theorem dX7_deep_36 : decode cX7_deep 36 = .ok (.iload_n 3, 1) := by decide +kernel
theorem dX7_deep_37 : decode cX7_deep 37 = .ok (.ireturn, 1) := by decide +kernel
theorem dX7_deep_38 : decode cX7_deep 38 = .ok (.iinc 3 1, 3) := by decide +kernel
theorem dX7_deep_41 : decode cX7_deep 41 = .ok (.goto (-21), 3) := by decide +kernel
theorem dX7_deep_44 : decode cX7_deep 44 = .ok (.ldc 47, 2) := by decide +kernel
theorem dX7_deep_46 : decode cX7_deep 46 = .ok (.ireturn, 1) := by decide +kernel
theorem dX7_meet_0 : decode cX7_meet 0 = .ok (.aload_n 0, 1) := by decide +kernel
theorem dX7_meet_1 : decode cX7_meet 1 = .ok (.iload_n 1, 1) := by decide +kernel
theorem dX7_meet_2 : decode cX7_meet 2 = .ok (.invokevirtual 185, 3) := by decide +kernel
theorem dX7_meet_5 : decode cX7_meet 5 = .ok (.ifCond .eq 12, 3) := by decide +kernel
theorem dX7_meet_8 : decode cX7_meet 8 = .ok (.iload_n 2, 1) := by decide +kernel
theorem dX7_meet_9 : decode cX7_meet 9 = .ok (.iconst 0, 1) := by decide +kernel
theorem dX7_meet_10 : decode cX7_meet 10 = .ok (.iconst 1, 1) := by decide +kernel
theorem dX7_meet_11 : decode cX7_meet 11 = .ok (.invokestatic 53, 3) := by decide +kernel
theorem dX7_meet_14 : decode cX7_meet 14 = .ok (.ifCond .ne 6, 3) := by decide +kernel
theorem dX7_meet_17 : decode cX7_meet 17 = .ok (.ldc 61, 2) := by decide +kernel
theorem dX7_meet_19 : decode cX7_meet 19 = .ok (.ireturn, 1) := by decide +kernel
theorem dX7_meet_20 : decode cX7_meet 20 = .ok (.aload_n 0, 1) := by decide +kernel
theorem dX7_meet_21 : decode cX7_meet 21 = .ok (.getfield 25, 3) := by decide +kernel
theorem dX7_meet_24 : decode cX7_meet 24 = .ok (.iload_n 1, 1) := by decide +kernel
theorem dX7_meet_25 : decode cX7_meet 25 = .ok (.invokestatic 168, 3) := by decide +kernel
theorem dX7_meet_28 : decode cX7_meet 28 = .ok (.istore_n 3, 1) := by decide +kernel
theorem dX7_meet_29 : decode cX7_meet 29 = .ok (.iconst 0, 1) := by decide +kernel
theorem dX7_meet_30 : decode cX7_meet 30 = .ok (.istore 4, 2) := by decide +kernel
theorem dX7_meet_32 : decode cX7_meet 32 = .ok (.ldc 47, 2) := by decide +kernel
theorem dX7_meet_34 : decode cX7_meet 34 = .ok (.istore 5, 2) := by decide +kernel
theorem dX7_meet_36 : decode cX7_meet 36 = .ok (.iconst 0, 1) := by decide +kernel
theorem dX7_meet_37 : decode cX7_meet 37 = .ok (.istore 6, 2) := by decide +kernel
theorem dX7_meet_39 : decode cX7_meet 39 = .ok (.iload 6, 2) := by decide +kernel
theorem dX7_meet_41 : decode cX7_meet 41 = .ok (.aload_n 0, 1) := by decide +kernel
theorem dX7_meet_42 : decode cX7_meet 42 = .ok (.getfield 25, 3) := by decide +kernel
theorem dX7_meet_45 : decode cX7_meet 45 = .ok (.iconst 3, 1) := by decide +kernel
theorem dX7_meet_46 : decode cX7_meet 46 = .ok (.iaload, 1) := by decide +kernel
theorem dX7_meet_47 : decode cX7_meet 47 = .ok (.if_icmp .ge 113, 3) := by decide +kernel
theorem dX7_meet_50 : decode cX7_meet 50 = .ok (.iload 6, 2) := by decide +kernel
theorem dX7_meet_52 : decode cX7_meet 52 = .ok (.iconst 1, 1) := by decide +kernel
theorem dX7_meet_53 : decode cX7_meet 53 = .ok (.iadd, 1) := by decide +kernel
theorem dX7_meet_54 : decode cX7_meet 54 = .ok (.istore 7, 2) := by decide +kernel
theorem dX7_meet_56 : decode cX7_meet 56 = .ok (.iload 7, 2) := by decide +kernel
theorem dX7_meet_58 : decode cX7_meet 58 = .ok (.aload_n 0, 1) := by decide +kernel
theorem dX7_meet_59 : decode cX7_meet 59 = .ok (.getfield 25, 3) := by decide +kernel
theorem dX7_meet_62 : decode cX7_meet 62 = .ok (.iconst 3, 1) := by decide +kernel
theorem dX7_meet_63 : decode cX7_meet 63 = .ok (.iaload, 1) := by decide +kernel
theorem dX7_meet_64 : decode cX7_meet 64 = .ok (.if_icmp .ge 90, 3) := by decide +kernel
theorem dX7_meet_67 : decode cX7_meet 67 = .ok (.iload_n 3, 1) := by decide +kernel
theorem dX7_meet_68 : decode cX7_meet 68 = .ok (.iload 6, 2) := by decide +kernel
theorem dX7_meet_70 : decode cX7_meet 70 = .ok (.invokestatic 161, 3) := by decide +kernel
theorem dX7_meet_73 : decode cX7_meet 73 = .ok (.ifCond .eq 32, 3) := by decide +kernel
theorem dX7_meet_76 : decode cX7_meet 76 = .ok (.iload_n 3, 1) := by decide +kernel
theorem dX7_meet_77 : decode cX7_meet 77 = .ok (.iload 7, 2) := by decide +kernel
theorem dX7_meet_79 : decode cX7_meet 79 = .ok (.invokestatic 161, 3) := by decide +kernel
theorem dX7_meet_82 : decode cX7_meet 82 = .ok (.ifCond .eq 23, 3) := by decide +kernel
theorem dX7_meet_85 : decode cX7_meet 85 = .ok (.aload_n 0, 1) := by decide +kernel
theorem dX7_meet_86 : decode cX7_meet 86 = .ok (.getfield 25, 3) := by decide +kernel
theorem dX7_meet_89 : decode cX7_meet 89 = .ok (.iload 6, 2) := by decide +kernel
theorem dX7_meet_91 : decode cX7_meet 91 = .ok (.iload 7, 2) := by decide +kernel
theorem dX7_meet_93 : decode cX7_meet 93 = .ok (.invokestatic 157, 3) := by decide +kernel
theorem dX7_meet_96 : decode cX7_meet 96 = .ok (.bipush 28, 2) := by decide +kernel
theorem dX7_meet_98 : decode cX7_meet 98 = .ok (.if_icmp .le 7, 3) := by decide +kernel
theorem dX7_meet_101 : decode cX7_meet 101 = .ok (.iconst 1, 1) := by decide +kernel
theorem dX7_meet_102 : decode cX7_meet 102 = .ok (.goto 4, 3) := by decide +kernel
theorem dX7_meet_105 : decode cX7_meet 105 = .ok (.iconst 0, 1) := by decide +kernel
theorem dX7_meet_106 : decode cX7_meet 106 = .ok (.istore 8, 2) := by decide +kernel
theorem dX7_meet_108 : decode cX7_meet 108 = .ok (.iload 8, 2) := by decide +kernel
theorem dX7_meet_110 : decode cX7_meet 110 = .ok (.ifCond .eq 19, 3) := by decide +kernel
theorem dX7_meet_113 : decode cX7_meet 113 = .ok (.iload 4, 2) := by decide +kernel
theorem dX7_meet_115 : decode cX7_meet 115 = .ok (.ifCond .ne 14, 3) := by decide +kernel
theorem dX7_meet_118 : decode cX7_meet 118 = .ok (.bipush 10, 2) := by decide +kernel
theorem dX7_meet_120 : decode cX7_meet 120 = .ok (.iload 6, 2) := by decide +kernel
theorem dX7_meet_122 : decode cX7_meet 122 = .ok (.imul, 1) := by decide +kernel
theorem dX7_meet_123 : decode cX7_meet 123 = .ok (.iload 7, 2) := by decide +kernel
theorem dX7_meet_125 : decode cX7_meet 125 = .ok (.iadd, 1) := by decide +kernel
theorem dX7_meet_126 : decode cX7_meet 126 = .ok (.goto 5, 3) := by decide +kernel
theorem dX7_meet_129 : decode cX7_meet 129 = .ok (.iload 5, 2) := by decide +kernel
theorem dX7_meet_131 : decode cX7_meet 131 = .ok (.istore 5, 2) := by decide +kernel
theorem dX7_meet_133 : decode cX7_meet 133 = .ok (.iload 4, 2) := by decide +kernel
theorem dX7_meet_135 : decode cX7_meet 135 = .ok (.iload 8, 2) := by decide +kernel
theorem dX7_meet_137 : decode cX7_meet 137 = .ok (.ifCond .eq 7, 3) := by decide +kernel
theorem dX7_meet_140 : decode cX7_meet 140 = .ok (.iconst 1, 1) := by decide +kernel
theorem dX7_meet_141 : decode cX7_meet 141 = .ok (.goto 4, 3) := by decide +kernel
theorem dX7_meet_144 : decode cX7_meet 144 = .ok (.iconst 0, 1) := by decide +kernel
theorem dX7_meet_145 : decode cX7_meet 145 = .ok (.iadd, 1) := by decide +kernel
theorem dX7_meet_146 : decode cX7_meet 146 = .ok (.istore 4, 2) := by decide +kernel
theorem dX7_meet_148 : decode cX7_meet 148 = .ok (.iinc 7 1, 3) := by decide +kernel
theorem dX7_meet_151 : decode cX7_meet 151 = .ok (.goto (-95), 3) := by decide +kernel
theorem dX7_meet_154 : decode cX7_meet 154 = .ok (.iinc 6 1, 3) := by decide +kernel
theorem dX7_meet_157 : decode cX7_meet 157 = .ok (.goto (-118), 3) := by decide +kernel
theorem dX7_meet_160 : decode cX7_meet 160 = .ok (.iload_n 2, 1) := by decide +kernel
theorem dX7_meet_161 : decode cX7_meet 161 = .ok (.ifCond .ne 8, 3) := by decide +kernel
theorem dX7_meet_164 : decode cX7_meet 164 = .ok (.iload 4, 2) := by decide +kernel
theorem dX7_meet_166 : decode cX7_meet 166 = .ok (.goto 5, 3) := by decide +kernel
theorem dX7_meet_169 : decode cX7_meet 169 = .ok (.iload 5, 2) := by decide +kernel
theorem dX7_meet_171 : decode cX7_meet 171 = .ok (.ireturn, 1) := by decide +kernel
theorem dX7_rings_0 : decode cX7_rings 0 = .ok (.aload_n 0, 1) := by decide +kernel
theorem dX7_rings_1 : decode cX7_rings 1 = .ok (.iload_n 1, 1) := by decide +kernel
theorem dX7_rings_2 : decode cX7_rings 2 = .ok (.invokevirtual 185, 3) := by decide +kernel
theorem dX7_rings_5 : decode cX7_rings 5 = .ok (.ifCond .eq 12, 3) := by decide +kernel
theorem dX7_rings_8 : decode cX7_rings 8 = .ok (.iload_n 2, 1) := by decide +kernel
theorem dX7_rings_9 : decode cX7_rings 9 = .ok (.iconst 0, 1) := by decide +kernel
theorem dX7_rings_10 : decode cX7_rings 10 = .ok (.iconst 1, 1) := by decide +kernel
theorem dX7_rings_11 : decode cX7_rings 11 = .ok (.invokestatic 53, 3) := by decide +kernel
theorem dX7_rings_14 : decode cX7_rings 14 = .ok (.ifCond .ne 6, 3) := by decide +kernel
theorem dX7_rings_17 : decode cX7_rings 17 = .ok (.ldc 61, 2) := by decide +kernel
theorem dX7_rings_19 : decode cX7_rings 19 = .ok (.ireturn, 1) := by decide +kernel
theorem dX7_rings_20 : decode cX7_rings 20 = .ok (.aload_n 0, 1) := by decide +kernel
theorem dX7_rings_21 : decode cX7_rings 21 = .ok (.getfield 25, 3) := by decide +kernel
theorem dX7_rings_24 : decode cX7_rings 24 = .ok (.iload_n 1, 1) := by decide +kernel
theorem dX7_rings_25 : decode cX7_rings 25 = .ok (.invokestatic 168, 3) := by decide +kernel
theorem dX7_rings_28 : decode cX7_rings 28 = .ok (.istore_n 3, 1) := by decide +kernel
theorem dX7_rings_29 : decode cX7_rings 29 = .ok (.iconst 0, 1) := by decide +kernel
theorem dX7_rings_30 : decode cX7_rings 30 = .ok (.istore 4, 2) := by decide +kernel
theorem dX7_rings_32 : decode cX7_rings 32 = .ok (.iconst 0, 1) := by decide +kernel
theorem dX7_rings_33 : decode cX7_rings 33 = .ok (.istore 5, 2) := by decide +kernel
theorem dX7_rings_35 : decode cX7_rings 35 = .ok (.iconst 0, 1) := by decide +kernel
theorem dX7_rings_36 : decode cX7_rings 36 = .ok (.istore 6, 2) := by decide +kernel
theorem dX7_rings_38 : decode cX7_rings 38 = .ok (.iload 6, 2) := by decide +kernel
theorem dX7_rings_40 : decode cX7_rings 40 = .ok (.aload_n 0, 1) := by decide +kernel
theorem dX7_rings_41 : decode cX7_rings 41 = .ok (.getfield 25, 3) := by decide +kernel
theorem dX7_rings_44 : decode cX7_rings 44 = .ok (.iconst 3, 1) := by decide +kernel
theorem dX7_rings_45 : decode cX7_rings 45 = .ok (.iaload, 1) := by decide +kernel
theorem dX7_rings_46 : decode cX7_rings 46 = .ok (.if_icmp .ge 62, 3) := by decide +kernel
theorem dX7_rings_49 : decode cX7_rings 49 = .ok (.iload_n 3, 1) := by decide +kernel
theorem dX7_rings_50 : decode cX7_rings 50 = .ok (.iload 6, 2) := by decide +kernel
theorem dX7_rings_52 : decode cX7_rings 52 = .ok (.invokestatic 161, 3) := by decide +kernel
theorem dX7_rings_55 : decode cX7_rings 55 = .ok (.ifCond .eq 47, 3) := by decide +kernel
theorem dX7_rings_58 : decode cX7_rings 58 = .ok (.aload_n 0, 1) := by decide +kernel
theorem dX7_rings_59 : decode cX7_rings 59 = .ok (.getfield 25, 3) := by decide +kernel
theorem dX7_rings_62 : decode cX7_rings 62 = .ok (.iload 6, 2) := by decide +kernel
theorem dX7_rings_64 : decode cX7_rings 64 = .ok (.iload_n 3, 1) := by decide +kernel
theorem dX7_rings_65 : decode cX7_rings 65 = .ok (.invokestatic 172, 3) := by decide +kernel
theorem dX7_rings_68 : decode cX7_rings 68 = .ok (.istore 7, 2) := by decide +kernel
theorem dX7_rings_70 : decode cX7_rings 70 = .ok (.iload_n 3, 1) := by decide +kernel
theorem dX7_rings_71 : decode cX7_rings 71 = .ok (.iload 7, 2) := by decide +kernel
theorem dX7_rings_73 : decode cX7_rings 73 = .ok (.iconst (-1), 1) := by decide +kernel
theorem dX7_rings_74 : decode cX7_rings 74 = .ok (.ixor, 1) := by decide +kernel
theorem dX7_rings_75 : decode cX7_rings 75 = .ok (.iand, 1) := by decide +kernel
theorem dX7_rings_76 : decode cX7_rings 76 = .ok (.istore_n 3, 1) := by decide +kernel
theorem dX7_rings_77 : decode cX7_rings 77 = .ok (.iinc 4 1, 3) := by decide +kernel
theorem dX7_rings_80 : decode cX7_rings 80 = .ok (.iload 7, 2) := by decide +kernel
theorem dX7_rings_82 : decode cX7_rings 82 = .ok (.invokestatic 182, 3) := by decide +kernel
theorem dX7_rings_85 : decode cX7_rings 85 = .ok (.iload 5, 2) := by decide +kernel
theorem dX7_rings_87 : decode cX7_rings 87 = .ok (.if_icmp .le 11, 3) := by decide +kernel
theorem dX7_rings_90 : decode cX7_rings 90 = .ok (.iload 7, 2) := by decide +kernel
theorem dX7_rings_92 : decode cX7_rings 92 = .ok (.invokestatic 182, 3) := by decide +kernel
theorem dX7_rings_95 : decode cX7_rings 95 = .ok (.goto 5, 3) := by decide +kernel
theorem dX7_rings_98 : decode cX7_rings 98 = .ok (.iload 5, 2) := by decide +kernel
theorem dX7_rings_100 : decode cX7_rings 100 = .ok (.istore 5, 2) := by decide +kernel
theorem dX7_rings_102 : decode cX7_rings 102 = .ok (.iinc 6 1, 3) := by decide +kernel
theorem dX7_rings_105 : decode cX7_rings 105 = .ok (.goto (-67), 3) := by decide +kernel
theorem dX7_rings_108 : decode cX7_rings 108 = .ok (.iload_n 2, 1) := by decide +kernel
theorem dX7_rings_109 : decode cX7_rings 109 = .ok (.ifCond .ne 8, 3) := by decide +kernel
theorem dX7_rings_112 : decode cX7_rings 112 = .ok (.iload 4, 2) := by decide +kernel
theorem dX7_rings_114 : decode cX7_rings 114 = .ok (.goto 5, 3) := by decide +kernel
theorem dX7_rings_117 : decode cX7_rings 117 = .ok (.iload 5, 2) := by decide +kernel
theorem dX7_rings_119 : decode cX7_rings 119 = .ok (.ireturn, 1) := by decide +kernel
theorem dX7_gaps_0 : decode cX7_gaps 0 = .ok (.aload_n 0, 1) := by decide +kernel
theorem dX7_gaps_1 : decode cX7_gaps 1 = .ok (.iload_n 1, 1) := by decide +kernel
theorem dX7_gaps_2 : decode cX7_gaps 2 = .ok (.invokevirtual 188, 3) := by decide +kernel
theorem dX7_gaps_5 : decode cX7_gaps 5 = .ok (.ifCond .eq 21, 3) := by decide +kernel
theorem dX7_gaps_8 : decode cX7_gaps 8 = .ok (.iload_n 2, 1) := by decide +kernel
theorem dX7_gaps_9 : decode cX7_gaps 9 = .ok (.invokestatic 57, 3) := by decide +kernel
theorem dX7_gaps_12 : decode cX7_gaps 12 = .ok (.ifCond .eq 14, 3) := by decide +kernel
theorem dX7_gaps_15 : decode cX7_gaps 15 = .ok (.iload 4, 2) := by decide +kernel
theorem dX7_gaps_17 : decode cX7_gaps 17 = .ok (.iconst 1, 1) := by decide +kernel
theorem dX7_gaps_18 : decode cX7_gaps 18 = .ok (.bipush 16, 2) := by decide +kernel
theorem dX7_gaps_20 : decode cX7_gaps 20 = .ok (.invokestatic 53, 3) := by decide +kernel
theorem dX7_gaps_23 : decode cX7_gaps 23 = .ok (.ifCond .ne 6, 3) := by decide +kernel
theorem dX7_gaps_26 : decode cX7_gaps 26 = .ok (.ldc 61, 2) := by decide +kernel
theorem dX7_gaps_28 : decode cX7_gaps 28 = .ok (.ireturn, 1) := by decide +kernel
theorem dX7_gaps_29 : decode cX7_gaps 29 = .ok (.aload_n 0, 1) := by decide +kernel
theorem dX7_gaps_30 : decode cX7_gaps 30 = .ok (.iload_n 2, 1) := by decide +kernel
theorem dX7_gaps_31 : decode cX7_gaps 31 = .ok (.invokevirtual 69, 3) := by decide +kernel
theorem dX7_gaps_34 : decode cX7_gaps 34 = .ok (.ifCond .eq 9, 3) := by decide +kernel
theorem dX7_gaps_37 : decode cX7_gaps 37 = .ok (.aload_n 0, 1) := by decide +kernel
theorem dX7_gaps_38 : decode cX7_gaps 38 = .ok (.iconst 1, 1) := by decide +kernel
theorem dX7_gaps_39 : decode cX7_gaps 39 = .ok (.invokevirtual 62, 3) := by decide +kernel
theorem dX7_gaps_42 : decode cX7_gaps 42 = .ok (.ireturn, 1) := by decide +kernel
theorem dX7_gaps_43 : decode cX7_gaps 43 = .ok (.aload_n 0, 1) := by decide +kernel
theorem dX7_gaps_44 : decode cX7_gaps 44 = .ok (.iload_n 2, 1) := by decide +kernel
theorem dX7_gaps_45 : decode cX7_gaps 45 = .ok (.iload_n 3, 1) := by decide +kernel
theorem dX7_gaps_46 : decode cX7_gaps 46 = .ok (.iload 4, 2) := by decide +kernel
theorem dX7_gaps_48 : decode cX7_gaps 48 = .ok (.invokevirtual 76, 3) := by decide +kernel
theorem dX7_gaps_51 : decode cX7_gaps 51 = .ok (.ifCond .ne 9, 3) := by decide +kernel
theorem dX7_gaps_54 : decode cX7_gaps 54 = .ok (.aload_n 0, 1) := by decide +kernel
theorem dX7_gaps_55 : decode cX7_gaps 55 = .ok (.iconst 2, 1) := by decide +kernel
theorem dX7_gaps_56 : decode cX7_gaps 56 = .ok (.invokevirtual 62, 3) := by decide +kernel
theorem dX7_gaps_59 : decode cX7_gaps 59 = .ok (.ireturn, 1) := by decide +kernel
theorem dX7_gaps_60 : decode cX7_gaps 60 = .ok (.iconst 0, 1) := by decide +kernel
theorem dX7_gaps_61 : decode cX7_gaps 61 = .ok (.istore 5, 2) := by decide +kernel
theorem dX7_gaps_63 : decode cX7_gaps 63 = .ok (.iconst 1, 1) := by decide +kernel
theorem dX7_gaps_64 : decode cX7_gaps 64 = .ok (.istore 6, 2) := by decide +kernel
theorem dX7_gaps_66 : decode cX7_gaps 66 = .ok (.iload 6, 2) := by decide +kernel
theorem dX7_gaps_68 : decode cX7_gaps 68 = .ok (.bipush 21, 2) := by decide +kernel
theorem dX7_gaps_70 : decode cX7_gaps 70 = .ok (.if_icmp .ge 96, 3) := by decide +kernel
theorem dX7_gaps_73 : decode cX7_gaps 73 = .ok (.iconst 1, 1) := by decide +kernel
theorem dX7_gaps_74 : decode cX7_gaps 74 = .ok (.istore 7, 2) := by decide +kernel
theorem dX7_gaps_76 : decode cX7_gaps 76 = .ok (.iconst 0, 1) := by decide +kernel
theorem dX7_gaps_77 : decode cX7_gaps 77 = .ok (.istore 8, 2) := by decide +kernel
theorem dX7_gaps_79 : decode cX7_gaps 79 = .ok (.iload 8, 2) := by decide +kernel
theorem dX7_gaps_81 : decode cX7_gaps 81 = .ok (.iload 4, 2) := by decide +kernel
theorem dX7_gaps_83 : decode cX7_gaps 83 = .ok (.if_icmp .ge 59, 3) := by decide +kernel
theorem dX7_gaps_86 : decode cX7_gaps 86 = .ok (.iload 7, 2) := by decide +kernel
theorem dX7_gaps_88 : decode cX7_gaps 88 = .ok (.ifCond .eq 45, 3) := by decide +kernel
theorem dX7_gaps_91 : decode cX7_gaps 91 = .ok (.aload_n 0, 1) := by decide +kernel
theorem dX7_gaps_92 : decode cX7_gaps 92 = .ok (.aload_n 0, 1) := by decide +kernel
theorem dX7_gaps_93 : decode cX7_gaps 93 = .ok (.getfield 25, 3) := by decide +kernel
theorem dX7_gaps_96 : decode cX7_gaps 96 = .ok (.bipush 16, 2) := by decide +kernel
theorem dX7_gaps_98 : decode cX7_gaps 98 = .ok (.iconst 4, 1) := by decide +kernel
theorem dX7_gaps_99 : decode cX7_gaps 99 = .ok (.iload_n 1, 1) := by decide +kernel
theorem dX7_gaps_100 : decode cX7_gaps 100 = .ok (.imul, 1) := by decide +kernel
theorem dX7_gaps_101 : decode cX7_gaps 101 = .ok (.iadd, 1) := by decide +kernel
theorem dX7_gaps_102 : decode cX7_gaps 102 = .ok (.iaload, 1) := by decide +kernel
theorem dX7_gaps_103 : decode cX7_gaps 103 = .ok (.iload 6, 2) := by decide +kernel
theorem dX7_gaps_105 : decode cX7_gaps 105 = .ok (.iload 8, 2) := by decide +kernel
theorem dX7_gaps_107 : decode cX7_gaps 107 = .ok (.iconst 1, 1) := by decide +kernel
theorem dX7_gaps_108 : decode cX7_gaps 108 = .ok (.iadd, 1) := by decide +kernel
theorem dX7_gaps_109 : decode cX7_gaps 109 = .ok (.invokevirtual 205, 3) := by decide +kernel
theorem dX7_gaps_112 : decode cX7_gaps 112 = .ok (.aload_n 0, 1) := by decide +kernel
theorem dX7_gaps_113 : decode cX7_gaps 113 = .ok (.getfield 16, 3) := by decide +kernel
theorem dX7_gaps_116 : decode cX7_gaps 116 = .ok (.bipush 40, 2) := by decide +kernel
theorem dX7_gaps_118 : decode cX7_gaps 118 = .ok (.iload_n 2, 1) := by decide +kernel
theorem dX7_gaps_119 : decode cX7_gaps 119 = .ok (.imul, 1) := by decide +kernel
theorem dX7_gaps_120 : decode cX7_gaps 120 = .ok (.iload_n 3, 1) := by decide +kernel
theorem dX7_gaps_121 : decode cX7_gaps 121 = .ok (.iadd, 1) := by decide +kernel
theorem dX7_gaps_122 : decode cX7_gaps 122 = .ok (.iload 8, 2) := by decide +kernel
theorem dX7_gaps_124 : decode cX7_gaps 124 = .ok (.iadd, 1) := by decide +kernel
theorem dX7_gaps_125 : decode cX7_gaps 125 = .ok (.iaload, 1) := by decide +kernel
theorem dX7_gaps_126 : decode cX7_gaps 126 = .ok (.if_icmp .ne 7, 3) := by decide +kernel
theorem dX7_gaps_129 : decode cX7_gaps 129 = .ok (.iconst 1, 1) := by decide +kernel
theorem dX7_gaps_130 : decode cX7_gaps 130 = .ok (.goto 4, 3) := by decide +kernel
theorem dX7_gaps_133 : decode cX7_gaps 133 = .ok (.iconst 0, 1) := by decide +kernel
theorem dX7_gaps_134 : decode cX7_gaps 134 = .ok (.istore 7, 2) := by decide +kernel
theorem dX7_gaps_136 : decode cX7_gaps 136 = .ok (.iinc 8 1, 3) := by decide +kernel
theorem dX7_gaps_139 : decode cX7_gaps 139 = .ok (.goto (-60), 3) := by decide +kernel
theorem dX7_gaps_142 : decode cX7_gaps 142 = .ok (.iload 5, 2) := by decide +kernel
theorem dX7_gaps_144 : decode cX7_gaps 144 = .ok (.iload 7, 2) := by decide +kernel
theorem dX7_gaps_146 : decode cX7_gaps 146 = .ok (.ifCond .eq 10, 3) := by decide +kernel
theorem dX7_gaps_149 : decode cX7_gaps 149 = .ok (.iconst 1, 1) := by decide +kernel
theorem dX7_gaps_150 : decode cX7_gaps 150 = .ok (.iload 6, 2) := by decide +kernel
theorem dX7_gaps_152 : decode cX7_gaps 152 = .ok (.ishl, 1) := by decide +kernel
theorem dX7_gaps_153 : decode cX7_gaps 153 = .ok (.goto 4, 3) := by decide +kernel
theorem dX7_gaps_156 : decode cX7_gaps 156 = .ok (.iconst 0, 1) := by decide +kernel
theorem dX7_gaps_157 : decode cX7_gaps 157 = .ok (.ior, 1) := by decide +kernel
theorem dX7_gaps_158 : decode cX7_gaps 158 = .ok (.istore 5, 2) := by decide +kernel
theorem dX7_gaps_160 : decode cX7_gaps 160 = .ok (.iinc 6 1, 3) := by decide +kernel
theorem dX7_gaps_163 : decode cX7_gaps 163 = .ok (.goto (-97), 3) := by decide +kernel
theorem dX7_gaps_166 : decode cX7_gaps 166 = .ok (.aload_n 0, 1) := by decide +kernel
theorem dX7_gaps_167 : decode cX7_gaps 167 = .ok (.iload 5, 2) := by decide +kernel
theorem dX7_gaps_169 : decode cX7_gaps 169 = .ok (.invokevirtual 66, 3) := by decide +kernel
theorem dX7_gaps_172 : decode cX7_gaps 172 = .ok (.ireturn, 1) := by decide +kernel
theorem dX7_growsSo_0 : decode cX7_growsSo 0 = .ok (.aload_n 0, 1) := by decide +kernel
theorem dX7_growsSo_1 : decode cX7_growsSo 1 = .ok (.getfield 25, 3) := by decide +kernel
theorem dX7_growsSo_4 : decode cX7_growsSo 4 = .ok (.iconst 4, 1) := by decide +kernel
theorem dX7_growsSo_5 : decode cX7_growsSo 5 = .ok (.iconst 3, 1) := by decide +kernel
theorem dX7_growsSo_6 : decode cX7_growsSo 6 = .ok (.iload_n 1, 1) := by decide +kernel
theorem dX7_growsSo_7 : decode cX7_growsSo 7 = .ok (.imul, 1) := by decide +kernel
theorem dX7_growsSo_8 : decode cX7_growsSo 8 = .ok (.iadd, 1) := by decide +kernel
theorem dX7_growsSo_9 : decode cX7_growsSo 9 = .ok (.iconst 1, 1) := by decide +kernel
theorem dX7_growsSo_10 : decode cX7_growsSo 10 = .ok (.iadd, 1) := by decide +kernel
theorem dX7_growsSo_11 : decode cX7_growsSo 11 = .ok (.iaload, 1) := by decide +kernel
theorem dX7_growsSo_12 : decode cX7_growsSo 12 = .ok (.istore 6, 2) := by decide +kernel
theorem dX7_growsSo_14 : decode cX7_growsSo 14 = .ok (.iconst 1, 1) := by decide +kernel
theorem dX7_growsSo_15 : decode cX7_growsSo 15 = .ok (.istore 7, 2) := by decide +kernel
theorem dX7_growsSo_17 : decode cX7_growsSo 17 = .ok (.iconst 0, 1) := by decide +kernel
theorem dX7_growsSo_18 : decode cX7_growsSo 18 = .ok (.istore 8, 2) := by decide +kernel
theorem dX7_growsSo_20 : decode cX7_growsSo 20 = .ok (.iload 8, 2) := by decide +kernel
theorem dX7_growsSo_22 : decode cX7_growsSo 22 = .ok (.iload 5, 2) := by decide +kernel
theorem dX7_growsSo_24 : decode cX7_growsSo 24 = .ok (.if_icmp .ge 57, 3) := by decide +kernel
theorem dX7_growsSo_27 : decode cX7_growsSo 27 = .ok (.iload 6, 2) := by decide +kernel
theorem dX7_growsSo_29 : decode cX7_growsSo 29 = .ok (.iload_n 2, 1) := by decide +kernel
theorem dX7_growsSo_30 : decode cX7_growsSo 30 = .ok (.iload_n 3, 1) := by decide +kernel
theorem dX7_growsSo_31 : decode cX7_growsSo 31 = .ok (.iload 6, 2) := by decide +kernel
theorem dX7_growsSo_33 : decode cX7_growsSo 33 = .ok (.aload_n 0, 1) := by decide +kernel
theorem dX7_growsSo_34 : decode cX7_growsSo 34 = .ok (.getfield 25, 3) := by decide +kernel
theorem dX7_growsSo_37 : decode cX7_growsSo 37 = .ok (.iconst 1, 1) := by decide +kernel
theorem dX7_growsSo_38 : decode cX7_growsSo 38 = .ok (.iaload, 1) := by decide +kernel
theorem dX7_growsSo_39 : decode cX7_growsSo 39 = .ok (.iload 8, 2) := by decide +kernel
theorem dX7_growsSo_41 : decode cX7_growsSo 41 = .ok (.iadd, 1) := by decide +kernel
theorem dX7_growsSo_42 : decode cX7_growsSo 42 = .ok (.invokestatic 146, 3) := by decide +kernel
theorem dX7_growsSo_45 : decode cX7_growsSo 45 = .ok (.iadd, 1) := by decide +kernel
theorem dX7_growsSo_46 : decode cX7_growsSo 46 = .ok (.istore 6, 2) := by decide +kernel
theorem dX7_growsSo_48 : decode cX7_growsSo 48 = .ok (.iload 7, 2) := by decide +kernel
theorem dX7_growsSo_50 : decode cX7_growsSo 50 = .ok (.ifCond .eq 22, 3) := by decide +kernel
theorem dX7_growsSo_53 : decode cX7_growsSo 53 = .ok (.aload_n 0, 1) := by decide +kernel
theorem dX7_growsSo_54 : decode cX7_growsSo 54 = .ok (.getfield 16, 3) := by decide +kernel
theorem dX7_growsSo_57 : decode cX7_growsSo 57 = .ok (.iload 4, 2) := by decide +kernel
theorem dX7_growsSo_59 : decode cX7_growsSo 59 = .ok (.iload 8, 2) := by decide +kernel
theorem dX7_growsSo_61 : decode cX7_growsSo 61 = .ok (.iadd, 1) := by decide +kernel
theorem dX7_growsSo_62 : decode cX7_growsSo 62 = .ok (.iaload, 1) := by decide +kernel
theorem dX7_growsSo_63 : decode cX7_growsSo 63 = .ok (.iload 6, 2) := by decide +kernel
theorem dX7_growsSo_65 : decode cX7_growsSo 65 = .ok (.if_icmp .ne 7, 3) := by decide +kernel
theorem dX7_growsSo_68 : decode cX7_growsSo 68 = .ok (.iconst 1, 1) := by decide +kernel
theorem dX7_growsSo_69 : decode cX7_growsSo 69 = .ok (.goto 4, 3) := by decide +kernel
theorem dX7_growsSo_72 : decode cX7_growsSo 72 = .ok (.iconst 0, 1) := by decide +kernel
theorem dX7_growsSo_73 : decode cX7_growsSo 73 = .ok (.istore 7, 2) := by decide +kernel
theorem dX7_growsSo_75 : decode cX7_growsSo 75 = .ok (.iinc 8 1, 3) := by decide +kernel
theorem dX7_growsSo_78 : decode cX7_growsSo 78 = .ok (.goto (-58), 3) := by decide +kernel
theorem dX7_growsSo_81 : decode cX7_growsSo 81 = .ok (.iload 7, 2) := by decide +kernel
theorem dX7_growsSo_83 : decode cX7_growsSo 83 = .ok (.ireturn, 1) := by decide +kernel
theorem dX7_which_0 : decode cX7_which 0 = .ok (.aload_n 0, 1) := by decide +kernel
theorem dX7_which_1 : decode cX7_which 1 = .ok (.iload_n 1, 1) := by decide +kernel
theorem dX7_which_2 : decode cX7_which 2 = .ok (.invokevirtual 185, 3) := by decide +kernel
theorem dX7_which_5 : decode cX7_which 5 = .ok (.ifCond .eq 31, 3) := by decide +kernel
theorem dX7_which_8 : decode cX7_which 8 = .ok (.iload_n 2, 1) := by decide +kernel
theorem dX7_which_9 : decode cX7_which 9 = .ok (.invokestatic 57, 3) := by decide +kernel
theorem dX7_which_12 : decode cX7_which 12 = .ok (.ifCond .eq 24, 3) := by decide +kernel
theorem dX7_which_15 : decode cX7_which 15 = .ok (.iload 4, 2) := by decide +kernel
theorem dX7_which_17 : decode cX7_which 17 = .ok (.iconst 1, 1) := by decide +kernel
theorem dX7_which_18 : decode cX7_which 18 = .ok (.bipush 16, 2) := by decide +kernel
theorem dX7_which_20 : decode cX7_which 20 = .ok (.invokestatic 53, 3) := by decide +kernel
theorem dX7_which_23 : decode cX7_which 23 = .ok (.ifCond .eq 13, 3) := by decide +kernel
theorem dX7_which_26 : decode cX7_which 26 = .ok (.iload 5, 2) := by decide +kernel
theorem dX7_which_28 : decode cX7_which 28 = .ok (.iconst 0, 1) := by decide +kernel
theorem dX7_which_29 : decode cX7_which 29 = .ok (.iconst 1, 1) := by decide +kernel
theorem dX7_which_30 : decode cX7_which 30 = .ok (.invokestatic 53, 3) := by decide +kernel
theorem dX7_which_33 : decode cX7_which 33 = .ok (.ifCond .ne 6, 3) := by decide +kernel
theorem dX7_which_36 : decode cX7_which 36 = .ok (.ldc 61, 2) := by decide +kernel
theorem dX7_which_38 : decode cX7_which 38 = .ok (.ireturn, 1) := by decide +kernel
theorem dX7_which_39 : decode cX7_which 39 = .ok (.aload_n 0, 1) := by decide +kernel
theorem dX7_which_40 : decode cX7_which 40 = .ok (.iload_n 2, 1) := by decide +kernel
theorem dX7_which_41 : decode cX7_which 41 = .ok (.invokevirtual 69, 3) := by decide +kernel
theorem dX7_which_44 : decode cX7_which 44 = .ok (.ifCond .eq 9, 3) := by decide +kernel
theorem dX7_which_47 : decode cX7_which 47 = .ok (.aload_n 0, 1) := by decide +kernel
theorem dX7_which_48 : decode cX7_which 48 = .ok (.iconst 1, 1) := by decide +kernel
theorem dX7_which_49 : decode cX7_which 49 = .ok (.invokevirtual 62, 3) := by decide +kernel
theorem dX7_which_52 : decode cX7_which 52 = .ok (.ireturn, 1) := by decide +kernel
theorem dX7_which_53 : decode cX7_which 53 = .ok (.aload_n 0, 1) := by decide +kernel
theorem dX7_which_54 : decode cX7_which 54 = .ok (.iload_n 2, 1) := by decide +kernel
theorem dX7_which_55 : decode cX7_which 55 = .ok (.iload_n 3, 1) := by decide +kernel
theorem dX7_which_56 : decode cX7_which 56 = .ok (.iload 4, 2) := by decide +kernel
theorem dX7_which_58 : decode cX7_which 58 = .ok (.invokevirtual 76, 3) := by decide +kernel
theorem dX7_which_61 : decode cX7_which 61 = .ok (.ifCond .ne 9, 3) := by decide +kernel
theorem dX7_which_64 : decode cX7_which 64 = .ok (.aload_n 0, 1) := by decide +kernel
theorem dX7_which_65 : decode cX7_which 65 = .ok (.iconst 2, 1) := by decide +kernel
theorem dX7_which_66 : decode cX7_which 66 = .ok (.invokevirtual 62, 3) := by decide +kernel
theorem dX7_which_69 : decode cX7_which 69 = .ok (.ireturn, 1) := by decide +kernel
theorem dX7_which_70 : decode cX7_which 70 = .ok (.iconst 0, 1) := by decide +kernel
theorem dX7_which_71 : decode cX7_which 71 = .ok (.istore 6, 2) := by decide +kernel
theorem dX7_which_73 : decode cX7_which 73 = .ok (.iconst 0, 1) := by decide +kernel
theorem dX7_which_74 : decode cX7_which 74 = .ok (.istore 7, 2) := by decide +kernel
theorem dX7_which_76 : decode cX7_which 76 = .ok (.iload 7, 2) := by decide +kernel
theorem dX7_which_78 : decode cX7_which 78 = .ok (.bipush 10, 2) := by decide +kernel
theorem dX7_which_80 : decode cX7_which 80 = .ok (.if_icmp .ge 116, 3) := by decide +kernel
theorem dX7_which_83 : decode cX7_which 83 = .ok (.iload 5, 2) := by decide +kernel
theorem dX7_which_85 : decode cX7_which 85 = .ok (.ifCond .ne 8, 3) := by decide +kernel
theorem dX7_which_88 : decode cX7_which 88 = .ok (.iload 7, 2) := by decide +kernel
theorem dX7_which_90 : decode cX7_which 90 = .ok (.goto 13, 3) := by decide +kernel
theorem dX7_which_93 : decode cX7_which 93 = .ok (.aload_n 0, 1) := by decide +kernel
theorem dX7_which_94 : decode cX7_which 94 = .ok (.getfield 25, 3) := by decide +kernel
theorem dX7_which_97 : decode cX7_which 97 = .ok (.iconst 4, 1) := by decide +kernel
theorem dX7_which_98 : decode cX7_which 98 = .ok (.iconst 3, 1) := by decide +kernel
theorem dX7_which_99 : decode cX7_which 99 = .ok (.iload_n 1, 1) := by decide +kernel
theorem dX7_which_100 : decode cX7_which 100 = .ok (.imul, 1) := by decide +kernel
theorem dX7_which_101 : decode cX7_which 101 = .ok (.iadd, 1) := by decide +kernel
theorem dX7_which_102 : decode cX7_which 102 = .ok (.iaload, 1) := by decide +kernel
theorem dX7_which_103 : decode cX7_which 103 = .ok (.istore 8, 2) := by decide +kernel
theorem dX7_which_105 : decode cX7_which 105 = .ok (.iload 5, 2) := by decide +kernel
theorem dX7_which_107 : decode cX7_which 107 = .ok (.ifCond .ne 18, 3) := by decide +kernel
theorem dX7_which_110 : decode cX7_which 110 = .ok (.aload_n 0, 1) := by decide +kernel
theorem dX7_which_111 : decode cX7_which 111 = .ok (.getfield 25, 3) := by decide +kernel
theorem dX7_which_114 : decode cX7_which 114 = .ok (.iconst 4, 1) := by decide +kernel
theorem dX7_which_115 : decode cX7_which 115 = .ok (.iconst 3, 1) := by decide +kernel
theorem dX7_which_116 : decode cX7_which 116 = .ok (.iload_n 1, 1) := by decide +kernel
theorem dX7_which_117 : decode cX7_which 117 = .ok (.imul, 1) := by decide +kernel
theorem dX7_which_118 : decode cX7_which 118 = .ok (.iadd, 1) := by decide +kernel
theorem dX7_which_119 : decode cX7_which 119 = .ok (.iconst 2, 1) := by decide +kernel
theorem dX7_which_120 : decode cX7_which 120 = .ok (.iadd, 1) := by decide +kernel
theorem dX7_which_121 : decode cX7_which 121 = .ok (.iaload, 1) := by decide +kernel
theorem dX7_which_122 : decode cX7_which 122 = .ok (.goto 5, 3) := by decide +kernel
theorem dX7_which_125 : decode cX7_which 125 = .ok (.iload 7, 2) := by decide +kernel
theorem dX7_which_127 : decode cX7_which 127 = .ok (.istore 9, 2) := by decide +kernel
theorem dX7_which_129 : decode cX7_which 129 = .ok (.iload 5, 2) := by decide +kernel
theorem dX7_which_131 : decode cX7_which 131 = .ok (.iconst 1, 1) := by decide +kernel
theorem dX7_which_132 : decode cX7_which 132 = .ok (.if_icmp .eq 13, 3) := by decide +kernel
theorem dX7_which_135 : decode cX7_which 135 = .ok (.iload 7, 2) := by decide +kernel
theorem dX7_which_137 : decode cX7_which 137 = .ok (.iconst 1, 1) := by decide +kernel
theorem dX7_which_138 : decode cX7_which 138 = .ok (.iconst 5, 1) := by decide +kernel
theorem dX7_which_139 : decode cX7_which 139 = .ok (.invokestatic 53, 3) := by decide +kernel
theorem dX7_which_142 : decode cX7_which 142 = .ok (.ifCond .eq 7, 3) := by decide +kernel
theorem dX7_which_145 : decode cX7_which 145 = .ok (.iconst 1, 1) := by decide +kernel
theorem dX7_which_146 : decode cX7_which 146 = .ok (.goto 4, 3) := by decide +kernel
theorem dX7_which_149 : decode cX7_which 149 = .ok (.iconst 0, 1) := by decide +kernel
theorem dX7_which_150 : decode cX7_which 150 = .ok (.istore 10, 2) := by decide +kernel
theorem dX7_which_152 : decode cX7_which 152 = .ok (.iload 6, 2) := by decide +kernel
theorem dX7_which_154 : decode cX7_which 154 = .ok (.iload 10, 2) := by decide +kernel
theorem dX7_which_156 : decode cX7_which 156 = .ok (.ifCond .eq 30, 3) := by decide +kernel
theorem dX7_which_159 : decode cX7_which 159 = .ok (.aload_n 0, 1) := by decide +kernel
theorem dX7_which_160 : decode cX7_which 160 = .ok (.iload_n 1, 1) := by decide +kernel
theorem dX7_which_161 : decode cX7_which 161 = .ok (.iload 8, 2) := by decide +kernel
theorem dX7_which_163 : decode cX7_which 163 = .ok (.iload 9, 2) := by decide +kernel
theorem dX7_which_165 : decode cX7_which 165 = .ok (.bipush 40, 2) := by decide +kernel
theorem dX7_which_167 : decode cX7_which 167 = .ok (.iload_n 2, 1) := by decide +kernel
theorem dX7_which_168 : decode cX7_which 168 = .ok (.imul, 1) := by decide +kernel
theorem dX7_which_169 : decode cX7_which 169 = .ok (.iload_n 3, 1) := by decide +kernel
theorem dX7_which_170 : decode cX7_which 170 = .ok (.iadd, 1) := by decide +kernel
theorem dX7_which_171 : decode cX7_which 171 = .ok (.iload 4, 2) := by decide +kernel
theorem dX7_which_173 : decode cX7_which 173 = .ok (.invokevirtual 208, 3) := by decide +kernel
theorem dX7_which_176 : decode cX7_which 176 = .ok (.ifCond .eq 10, 3) := by decide +kernel
theorem dX7_which_179 : decode cX7_which 179 = .ok (.iconst 1, 1) := by decide +kernel
theorem dX7_which_180 : decode cX7_which 180 = .ok (.iload 7, 2) := by decide +kernel
theorem dX7_which_182 : decode cX7_which 182 = .ok (.ishl, 1) := by decide +kernel
theorem dX7_which_183 : decode cX7_which 183 = .ok (.goto 4, 3) := by decide +kernel
theorem dX7_which_186 : decode cX7_which 186 = .ok (.iconst 0, 1) := by decide +kernel
theorem dX7_which_187 : decode cX7_which 187 = .ok (.ior, 1) := by decide +kernel
theorem dX7_which_188 : decode cX7_which 188 = .ok (.istore 6, 2) := by decide +kernel
theorem dX7_which_190 : decode cX7_which 190 = .ok (.iinc 7 1, 3) := by decide +kernel
theorem dX7_which_193 : decode cX7_which 193 = .ok (.goto (-117), 3) := by decide +kernel
theorem dX7_which_196 : decode cX7_which 196 = .ok (.aload_n 0, 1) := by decide +kernel
theorem dX7_which_197 : decode cX7_which 197 = .ok (.iload 6, 2) := by decide +kernel
theorem dX7_which_199 : decode cX7_which 199 = .ok (.invokevirtual 66, 3) := by decide +kernel
theorem dX7_which_202 : decode cX7_which 202 = .ok (.ireturn, 1) := by decide +kernel
theorem dX7_storm_0 : decode cX7_storm 0 = .ok (.aload_n 0, 1) := by decide +kernel
theorem dX7_storm_1 : decode cX7_storm 1 = .ok (.iload_n 1, 1) := by decide +kernel
theorem dX7_storm_2 : decode cX7_storm 2 = .ok (.iload_n 2, 1) := by decide +kernel
theorem dX7_storm_3 : decode cX7_storm 3 = .ok (.invokevirtual 191, 3) := by decide +kernel
theorem dX7_storm_6 : decode cX7_storm 6 = .ok (.ifCond .eq 23, 3) := by decide +kernel
theorem dX7_storm_9 : decode cX7_storm 9 = .ok (.iload_n 3, 1) := by decide +kernel
theorem dX7_storm_10 : decode cX7_storm 10 = .ok (.iconst 0, 1) := by decide +kernel
theorem dX7_storm_11 : decode cX7_storm 11 = .ok (.bipush 10, 2) := by decide +kernel
theorem dX7_storm_13 : decode cX7_storm 13 = .ok (.invokestatic 53, 3) := by decide +kernel
theorem dX7_storm_16 : decode cX7_storm 16 = .ok (.ifCond .eq 13, 3) := by decide +kernel
theorem dX7_storm_19 : decode cX7_storm 19 = .ok (.iload 4, 2) := by decide +kernel
theorem dX7_storm_21 : decode cX7_storm 21 = .ok (.iconst 0, 1) := by decide +kernel
theorem dX7_storm_22 : decode cX7_storm 22 = .ok (.iconst 1, 1) := by decide +kernel
theorem dX7_storm_23 : decode cX7_storm 23 = .ok (.invokestatic 53, 3) := by decide +kernel
theorem dX7_storm_26 : decode cX7_storm 26 = .ok (.ifCond .ne 6, 3) := by decide +kernel
theorem dX7_storm_29 : decode cX7_storm 29 = .ok (.ldc 61, 2) := by decide +kernel
theorem dX7_storm_31 : decode cX7_storm 31 = .ok (.ireturn, 1) := by decide +kernel
theorem dX7_storm_32 : decode cX7_storm 32 = .ok (.aload_n 0, 1) := by decide +kernel
theorem dX7_storm_33 : decode cX7_storm 33 = .ok (.getfield 25, 3) := by decide +kernel
theorem dX7_storm_36 : decode cX7_storm 36 = .ok (.aload_n 0, 1) := by decide +kernel
theorem dX7_storm_37 : decode cX7_storm 37 = .ok (.getfield 25, 3) := by decide +kernel
theorem dX7_storm_40 : decode cX7_storm 40 = .ok (.bipush 16, 2) := by decide +kernel
theorem dX7_storm_42 : decode cX7_storm 42 = .ok (.iconst 4, 1) := by decide +kernel
theorem dX7_storm_43 : decode cX7_storm 43 = .ok (.iload_n 1, 1) := by decide +kernel
theorem dX7_storm_44 : decode cX7_storm 44 = .ok (.imul, 1) := by decide +kernel
theorem dX7_storm_45 : decode cX7_storm 45 = .ok (.iadd, 1) := by decide +kernel
theorem dX7_storm_46 : decode cX7_storm 46 = .ok (.iaload, 1) := by decide +kernel
theorem dX7_storm_47 : decode cX7_storm 47 = .ok (.invokestatic 168, 3) := by decide +kernel
theorem dX7_storm_50 : decode cX7_storm 50 = .ok (.istore 5, 2) := by decide +kernel
theorem dX7_storm_52 : decode cX7_storm 52 = .ok (.iconst 0, 1) := by decide +kernel
theorem dX7_storm_53 : decode cX7_storm 53 = .ok (.istore 6, 2) := by decide +kernel
theorem dX7_storm_55 : decode cX7_storm 55 = .ok (.iconst 1, 1) := by decide +kernel
theorem dX7_storm_56 : decode cX7_storm 56 = .ok (.istore 7, 2) := by decide +kernel
theorem dX7_storm_58 : decode cX7_storm 58 = .ok (.iconst 0, 1) := by decide +kernel
theorem dX7_storm_59 : decode cX7_storm 59 = .ok (.istore 8, 2) := by decide +kernel
theorem dX7_storm_61 : decode cX7_storm 61 = .ok (.iload 8, 2) := by decide +kernel
theorem dX7_storm_63 : decode cX7_storm 63 = .ok (.aload_n 0, 1) := by decide +kernel
theorem dX7_storm_64 : decode cX7_storm 64 = .ok (.getfield 25, 3) := by decide +kernel
theorem dX7_storm_67 : decode cX7_storm 67 = .ok (.iconst 3, 1) := by decide +kernel
theorem dX7_storm_68 : decode cX7_storm 68 = .ok (.iaload, 1) := by decide +kernel
theorem dX7_storm_69 : decode cX7_storm 69 = .ok (.if_icmp .ge 30, 3) := by decide +kernel
theorem dX7_storm_72 : decode cX7_storm 72 = .ok (.iload 7, 2) := by decide +kernel
theorem dX7_storm_74 : decode cX7_storm 74 = .ok (.iload 5, 2) := by decide +kernel
theorem dX7_storm_76 : decode cX7_storm 76 = .ok (.iload 8, 2) := by decide +kernel
theorem dX7_storm_78 : decode cX7_storm 78 = .ok (.invokestatic 161, 3) := by decide +kernel
theorem dX7_storm_81 : decode cX7_storm 81 = .ok (.ifCond .eq 8, 3) := by decide +kernel
theorem dX7_storm_84 : decode cX7_storm 84 = .ok (.bipush 10, 2) := by decide +kernel
theorem dX7_storm_86 : decode cX7_storm 86 = .ok (.goto 4, 3) := by decide +kernel
theorem dX7_storm_89 : decode cX7_storm 89 = .ok (.iconst 1, 1) := by decide +kernel
theorem dX7_storm_90 : decode cX7_storm 90 = .ok (.imul, 1) := by decide +kernel
theorem dX7_storm_91 : decode cX7_storm 91 = .ok (.istore 7, 2) := by decide +kernel
theorem dX7_storm_93 : decode cX7_storm 93 = .ok (.iinc 8 1, 3) := by decide +kernel
theorem dX7_storm_96 : decode cX7_storm 96 = .ok (.goto (-35), 3) := by decide +kernel
theorem dX7_storm_99 : decode cX7_storm 99 = .ok (.iconst 0, 1) := by decide +kernel
theorem dX7_storm_100 : decode cX7_storm 100 = .ok (.istore 8, 2) := by decide +kernel
theorem dX7_storm_102 : decode cX7_storm 102 = .ok (.iload 8, 2) := by decide +kernel
theorem dX7_storm_104 : decode cX7_storm 104 = .ok (.iload 5, 2) := by decide +kernel
theorem dX7_storm_106 : decode cX7_storm 106 = .ok (.if_icmp .gt 104, 3) := by decide +kernel
theorem dX7_storm_109 : decode cX7_storm 109 = .ok (.iload 8, 2) := by decide +kernel
theorem dX7_storm_111 : decode cX7_storm 111 = .ok (.iload 5, 2) := by decide +kernel
theorem dX7_storm_113 : decode cX7_storm 113 = .ok (.iconst (-1), 1) := by decide +kernel
theorem dX7_storm_114 : decode cX7_storm 114 = .ok (.ixor, 1) := by decide +kernel
theorem dX7_storm_115 : decode cX7_storm 115 = .ok (.iand, 1) := by decide +kernel
theorem dX7_storm_116 : decode cX7_storm 116 = .ok (.ifCond .ne 21, 3) := by decide +kernel
theorem dX7_storm_119 : decode cX7_storm 119 = .ok (.aload_n 0, 1) := by decide +kernel
theorem dX7_storm_120 : decode cX7_storm 120 = .ok (.getfield 25, 3) := by decide +kernel
theorem dX7_storm_123 : decode cX7_storm 123 = .ok (.iload_n 1, 1) := by decide +kernel
theorem dX7_storm_124 : decode cX7_storm 124 = .ok (.iload_n 2, 1) := by decide +kernel
theorem dX7_storm_125 : decode cX7_storm 125 = .ok (.iload 8, 2) := by decide +kernel
theorem dX7_storm_127 : decode cX7_storm 127 = .ok (.invokestatic 194, 3) := by decide +kernel
theorem dX7_storm_130 : decode cX7_storm 130 = .ok (.ifCond .eq 7, 3) := by decide +kernel
theorem dX7_storm_133 : decode cX7_storm 133 = .ok (.iconst 1, 1) := by decide +kernel
theorem dX7_storm_134 : decode cX7_storm 134 = .ok (.goto 4, 3) := by decide +kernel
theorem dX7_storm_137 : decode cX7_storm 137 = .ok (.iconst 0, 1) := by decide +kernel
theorem dX7_storm_138 : decode cX7_storm 138 = .ok (.istore 9, 2) := by decide +kernel
theorem dX7_storm_140 : decode cX7_storm 140 = .ok (.iconst 0, 1) := by decide +kernel
theorem dX7_storm_141 : decode cX7_storm 141 = .ok (.istore 10, 2) := by decide +kernel
theorem dX7_storm_143 : decode cX7_storm 143 = .ok (.iload 10, 2) := by decide +kernel
theorem dX7_storm_145 : decode cX7_storm 145 = .ok (.aload_n 0, 1) := by decide +kernel
theorem dX7_storm_146 : decode cX7_storm 146 = .ok (.getfield 25, 3) := by decide +kernel
theorem dX7_storm_149 : decode cX7_storm 149 = .ok (.iconst 3, 1) := by decide +kernel
theorem dX7_storm_150 : decode cX7_storm 150 = .ok (.iaload, 1) := by decide +kernel
theorem dX7_storm_151 : decode cX7_storm 151 = .ok (.if_icmp .ge 46, 3) := by decide +kernel
theorem dX7_storm_154 : decode cX7_storm 154 = .ok (.iload 9, 2) := by decide +kernel
theorem dX7_storm_156 : decode cX7_storm 156 = .ok (.iload 5, 2) := by decide +kernel
theorem dX7_storm_158 : decode cX7_storm 158 = .ok (.iload 10, 2) := by decide +kernel
theorem dX7_storm_160 : decode cX7_storm 160 = .ok (.invokestatic 161, 3) := by decide +kernel
theorem dX7_storm_163 : decode cX7_storm 163 = .ok (.ifCond .ne 7, 3) := by decide +kernel
theorem dX7_storm_166 : decode cX7_storm 166 = .ok (.iconst 1, 1) := by decide +kernel
theorem dX7_storm_167 : decode cX7_storm 167 = .ok (.goto 21, 3) := by decide +kernel
theorem dX7_storm_170 : decode cX7_storm 170 = .ok (.iload 8, 2) := by decide +kernel
theorem dX7_storm_172 : decode cX7_storm 172 = .ok (.iload 10, 2) := by decide +kernel
theorem dX7_storm_174 : decode cX7_storm 174 = .ok (.invokestatic 161, 3) := by decide +kernel
theorem dX7_storm_177 : decode cX7_storm 177 = .ok (.ifCond .eq 7, 3) := by decide +kernel
theorem dX7_storm_180 : decode cX7_storm 180 = .ok (.iload_n 3, 1) := by decide +kernel
theorem dX7_storm_181 : decode cX7_storm 181 = .ok (.goto 7, 3) := by decide +kernel
theorem dX7_storm_184 : decode cX7_storm 184 = .ok (.bipush 10, 2) := by decide +kernel
theorem dX7_storm_186 : decode cX7_storm 186 = .ok (.iload_n 3, 1) := by decide +kernel
theorem dX7_storm_187 : decode cX7_storm 187 = .ok (.isub, 1) := by decide +kernel
theorem dX7_storm_188 : decode cX7_storm 188 = .ok (.imul, 1) := by decide +kernel
theorem dX7_storm_189 : decode cX7_storm 189 = .ok (.istore 9, 2) := by decide +kernel
theorem dX7_storm_191 : decode cX7_storm 191 = .ok (.iinc 10 1, 3) := by decide +kernel
theorem dX7_storm_194 : decode cX7_storm 194 = .ok (.goto (-51), 3) := by decide +kernel
theorem dX7_storm_197 : decode cX7_storm 197 = .ok (.iload 6, 2) := by decide +kernel
theorem dX7_storm_199 : decode cX7_storm 199 = .ok (.iload 9, 2) := by decide +kernel
theorem dX7_storm_201 : decode cX7_storm 201 = .ok (.iadd, 1) := by decide +kernel
theorem dX7_storm_202 : decode cX7_storm 202 = .ok (.istore 6, 2) := by decide +kernel
theorem dX7_storm_204 : decode cX7_storm 204 = .ok (.iinc 8 1, 3) := by decide +kernel
theorem dX7_storm_207 : decode cX7_storm 207 = .ok (.goto (-105), 3) := by decide +kernel
theorem dX7_storm_210 : decode cX7_storm 210 = .ok (.iload 6, 2) := by decide +kernel
theorem dX7_storm_212 : decode cX7_storm 212 = .ok (.istore 8, 2) := by decide +kernel
theorem dX7_storm_214 : decode cX7_storm 214 = .ok (.iload 7, 2) := by decide +kernel
theorem dX7_storm_216 : decode cX7_storm 216 = .ok (.istore 9, 2) := by decide +kernel
theorem dX7_storm_218 : decode cX7_storm 218 = .ok (.iload 9, 2) := by decide +kernel
theorem dX7_storm_220 : decode cX7_storm 220 = .ok (.ifCond .eq 21, 3) := by decide +kernel
theorem dX7_storm_223 : decode cX7_storm 223 = .ok (.iload 8, 2) := by decide +kernel
theorem dX7_storm_225 : decode cX7_storm 225 = .ok (.iload 9, 2) := by decide +kernel
theorem dX7_storm_227 : decode cX7_storm 227 = .ok (.irem, 1) := by decide +kernel
theorem dX7_storm_228 : decode cX7_storm 228 = .ok (.istore 10, 2) := by decide +kernel
theorem dX7_storm_230 : decode cX7_storm 230 = .ok (.iload 9, 2) := by decide +kernel
theorem dX7_storm_232 : decode cX7_storm 232 = .ok (.istore 8, 2) := by decide +kernel
theorem dX7_storm_234 : decode cX7_storm 234 = .ok (.iload 10, 2) := by decide +kernel
theorem dX7_storm_236 : decode cX7_storm 236 = .ok (.istore 9, 2) := by decide +kernel
theorem dX7_storm_238 : decode cX7_storm 238 = .ok (.goto (-20), 3) := by decide +kernel
theorem dX7_storm_241 : decode cX7_storm 241 = .ok (.iload 4, 2) := by decide +kernel
theorem dX7_storm_243 : decode cX7_storm 243 = .ok (.ifCond .ne 8, 3) := by decide +kernel
theorem dX7_storm_246 : decode cX7_storm 246 = .ok (.iload 6, 2) := by decide +kernel
theorem dX7_storm_248 : decode cX7_storm 248 = .ok (.goto 5, 3) := by decide +kernel
theorem dX7_storm_251 : decode cX7_storm 251 = .ok (.iload 7, 2) := by decide +kernel
theorem dX7_storm_253 : decode cX7_storm 253 = .ok (.iload 8, 2) := by decide +kernel
theorem dX7_storm_255 : decode cX7_storm 255 = .ok (.idiv, 1) := by decide +kernel
theorem dX7_storm_256 : decode cX7_storm 256 = .ok (.ireturn, 1) := by decide +kernel
theorem dX7_image_0 : decode cX7_image 0 = .ok (.iload_n 1, 1) := by decide +kernel
theorem dX7_image_1 : decode cX7_image 1 = .ok (.iconst 0, 1) := by decide +kernel
theorem dX7_image_2 : decode cX7_image 2 = .ok (.iconst 1, 1) := by decide +kernel
theorem dX7_image_3 : decode cX7_image 3 = .ok (.invokestatic 53, 3) := by decide +kernel
theorem dX7_image_6 : decode cX7_image 6 = .ok (.ifCond .ne 6, 3) := by decide +kernel
theorem dX7_image_9 : decode cX7_image 9 = .ok (.ldc 61, 2) := by decide +kernel
theorem dX7_image_11 : decode cX7_image 11 = .ok (.ireturn, 1) := by decide +kernel
theorem dX7_image_12 : decode cX7_image 12 = .ok (.aload_n 0, 1) := by decide +kernel
theorem dX7_image_13 : decode cX7_image 13 = .ok (.invokevirtual 175, 3) := by decide +kernel
theorem dX7_image_16 : decode cX7_image 16 = .ok (.ifCond .ne 6, 3) := by decide +kernel
theorem dX7_image_19 : decode cX7_image 19 = .ok (.ldc 178, 2) := by decide +kernel
theorem dX7_image_21 : decode cX7_image 21 = .ok (.ireturn, 1) := by decide +kernel
theorem dX7_image_22 : decode cX7_image 22 = .ok (.aload_n 0, 1) := by decide +kernel
theorem dX7_image_23 : decode cX7_image 23 = .ok (.getfield 25, 3) := by decide +kernel
theorem dX7_image_26 : decode cX7_image 26 = .ok (.iconst 0, 1) := by decide +kernel
theorem dX7_image_27 : decode cX7_image 27 = .ok (.aload_n 0, 1) := by decide +kernel
theorem dX7_image_28 : decode cX7_image 28 = .ok (.getfield 34, 3) := by decide +kernel
theorem dX7_image_31 : decode cX7_image 31 = .ok (.bipush 48, 2) := by decide +kernel
theorem dX7_image_33 : decode cX7_image 33 = .ok (.iload_n 1, 1) := by decide +kernel
theorem dX7_image_34 : decode cX7_image 34 = .ok (.imul, 1) := by decide +kernel
theorem dX7_image_35 : decode cX7_image 35 = .ok (.invokestatic 135, 3) := by decide +kernel
theorem dX7_image_38 : decode cX7_image 38 = .ok (.aload_n 0, 1) := by decide +kernel
theorem dX7_image_39 : decode cX7_image 39 = .ok (.getfield 37, 3) := by decide +kernel
theorem dX7_image_42 : decode cX7_image 42 = .ok (.iload_n 1, 1) := by decide +kernel
theorem dX7_image_43 : decode cX7_image 43 = .ok (.iconst 1, 1) := by decide +kernel
theorem dX7_image_44 : decode cX7_image 44 = .ok (.bastore, 1) := by decide +kernel
theorem dX7_image_45 : decode cX7_image 45 = .ok (.iconst 1, 1) := by decide +kernel
theorem dX7_image_46 : decode cX7_image 46 = .ok (.ireturn, 1) := by decide +kernel
theorem dX7_restore_0 : decode cX7_restore 0 = .ok (.iload_n 1, 1) := by decide +kernel
theorem dX7_restore_1 : decode cX7_restore 1 = .ok (.iconst 0, 1) := by decide +kernel
theorem dX7_restore_2 : decode cX7_restore 2 = .ok (.iconst 1, 1) := by decide +kernel
theorem dX7_restore_3 : decode cX7_restore 3 = .ok (.invokestatic 53, 3) := by decide +kernel
theorem dX7_restore_6 : decode cX7_restore 6 = .ok (.ifCond .ne 6, 3) := by decide +kernel
theorem dX7_restore_9 : decode cX7_restore 9 = .ok (.ldc 61, 2) := by decide +kernel
theorem dX7_restore_11 : decode cX7_restore 11 = .ok (.ireturn, 1) := by decide +kernel
theorem dX7_restore_12 : decode cX7_restore 12 = .ok (.aload_n 0, 1) := by decide +kernel
theorem dX7_restore_13 : decode cX7_restore 13 = .ok (.getfield 37, 3) := by decide +kernel
theorem dX7_restore_16 : decode cX7_restore 16 = .ok (.iload_n 1, 1) := by decide +kernel
theorem dX7_restore_17 : decode cX7_restore 17 = .ok (.baload, 1) := by decide +kernel
theorem dX7_restore_18 : decode cX7_restore 18 = .ok (.ifCond .ne 6, 3) := by decide +kernel
theorem dX7_restore_21 : decode cX7_restore 21 = .ok (.ldc 178, 2) := by decide +kernel
theorem dX7_restore_23 : decode cX7_restore 23 = .ok (.ireturn, 1) := by decide +kernel
theorem dX7_restore_24 : decode cX7_restore 24 = .ok (.aload_n 0, 1) := by decide +kernel
theorem dX7_restore_25 : decode cX7_restore 25 = .ok (.getfield 34, 3) := by decide +kernel
theorem dX7_restore_28 : decode cX7_restore 28 = .ok (.bipush 48, 2) := by decide +kernel
theorem dX7_restore_30 : decode cX7_restore 30 = .ok (.iload_n 1, 1) := by decide +kernel
theorem dX7_restore_31 : decode cX7_restore 31 = .ok (.imul, 1) := by decide +kernel
theorem dX7_restore_32 : decode cX7_restore 32 = .ok (.aload_n 0, 1) := by decide +kernel
theorem dX7_restore_33 : decode cX7_restore 33 = .ok (.getfield 25, 3) := by decide +kernel
theorem dX7_restore_36 : decode cX7_restore 36 = .ok (.iconst 0, 1) := by decide +kernel
theorem dX7_restore_37 : decode cX7_restore 37 = .ok (.invokestatic 135, 3) := by decide +kernel
theorem dX7_restore_40 : decode cX7_restore 40 = .ok (.aload_n 0, 1) := by decide +kernel
theorem dX7_restore_41 : decode cX7_restore 41 = .ok (.iconst 0, 1) := by decide +kernel
theorem dX7_restore_42 : decode cX7_restore 42 = .ok (.putfield 139, 3) := by decide +kernel
theorem dX7_restore_45 : decode cX7_restore 45 = .ok (.iconst 1, 1) := by decide +kernel
theorem dX7_restore_46 : decode cX7_restore 46 = .ok (.ireturn, 1) := by decide +kernel
theorem dX7_kindIn_0 : decode cX7_kindIn 0 = .ok (.aload_n 0, 1) := by decide +kernel
theorem dX7_kindIn_1 : decode cX7_kindIn 1 = .ok (.getfield 25, 3) := by decide +kernel
theorem dX7_kindIn_4 : decode cX7_kindIn 4 = .ok (.iconst 4, 1) := by decide +kernel
theorem dX7_kindIn_5 : decode cX7_kindIn 5 = .ok (.iconst 3, 1) := by decide +kernel
theorem dX7_kindIn_6 : decode cX7_kindIn 6 = .ok (.iload_n 1, 1) := by decide +kernel
theorem dX7_kindIn_7 : decode cX7_kindIn 7 = .ok (.imul, 1) := by decide +kernel
theorem dX7_kindIn_8 : decode cX7_kindIn 8 = .ok (.iadd, 1) := by decide +kernel
theorem dX7_kindIn_9 : decode cX7_kindIn 9 = .ok (.iaload, 1) := by decide +kernel
theorem dX7_kindIn_10 : decode cX7_kindIn 10 = .ok (.ireturn, 1) := by decide +kernel
theorem dX7_kind_0 : decode cX7_kind 0 = .ok (.aload_n 0, 1) := by decide +kernel
theorem dX7_kind_1 : decode cX7_kind 1 = .ok (.iload_n 1, 1) := by decide +kernel
theorem dX7_kind_2 : decode cX7_kind 2 = .ok (.invokevirtual 185, 3) := by decide +kernel
theorem dX7_kind_5 : decode cX7_kind 5 = .ok (.ifCond .eq 11, 3) := by decide +kernel
theorem dX7_kind_8 : decode cX7_kind 8 = .ok (.aload_n 0, 1) := by decide +kernel
theorem dX7_kind_9 : decode cX7_kind 9 = .ok (.iload_n 1, 1) := by decide +kernel
theorem dX7_kind_10 : decode cX7_kind 10 = .ok (.invokevirtual 212, 3) := by decide +kernel
theorem dX7_kind_13 : decode cX7_kind 13 = .ok (.goto 5, 3) := by decide +kernel
theorem dX7_kind_16 : decode cX7_kind 16 = .ok (.ldc 61, 2) := by decide +kernel
theorem dX7_kind_18 : decode cX7_kind 18 = .ok (.ireturn, 1) := by decide +kernel
theorem dX7_as_0 : decode cX7_as 0 = .ok (.aload_n 0, 1) := by decide +kernel
theorem dX7_as_1 : decode cX7_as 1 = .ok (.iload_n 1, 1) := by decide +kernel
theorem dX7_as_2 : decode cX7_as 2 = .ok (.invokevirtual 185, 3) := by decide +kernel
theorem dX7_as_5 : decode cX7_as 5 = .ok (.ifCond .eq 12, 3) := by decide +kernel
theorem dX7_as_8 : decode cX7_as 8 = .ok (.iload_n 2, 1) := by decide +kernel
theorem dX7_as_9 : decode cX7_as 9 = .ok (.iconst 0, 1) := by decide +kernel
theorem dX7_as_10 : decode cX7_as 10 = .ok (.iconst 5, 1) := by decide +kernel
theorem dX7_as_11 : decode cX7_as 11 = .ok (.invokestatic 53, 3) := by decide +kernel
theorem dX7_as_14 : decode cX7_as 14 = .ok (.ifCond .ne 6, 3) := by decide +kernel
theorem dX7_as_17 : decode cX7_as 17 = .ok (.ldc 61, 2) := by decide +kernel
theorem dX7_as_19 : decode cX7_as 19 = .ok (.ireturn, 1) := by decide +kernel
theorem dX7_as_20 : decode cX7_as 20 = .ok (.aload_n 0, 1) := by decide +kernel
theorem dX7_as_21 : decode cX7_as 21 = .ok (.iload_n 1, 1) := by decide +kernel
theorem dX7_as_22 : decode cX7_as 22 = .ok (.invokevirtual 212, 3) := by decide +kernel
theorem dX7_as_25 : decode cX7_as 25 = .ok (.istore_n 3, 1) := by decide +kernel
theorem dX7_as_26 : decode cX7_as 26 = .ok (.iload_n 2, 1) := by decide +kernel
theorem dX7_as_27 : decode cX7_as 27 = .ok (.ifCond .eq 28, 3) := by decide +kernel
theorem dX7_as_30 : decode cX7_as 30 = .ok (.iload_n 2, 1) := by decide +kernel
theorem dX7_as_31 : decode cX7_as 31 = .ok (.iload_n 3, 1) := by decide +kernel
theorem dX7_as_32 : decode cX7_as 32 = .ok (.if_icmp .eq 23, 3) := by decide +kernel
theorem dX7_as_35 : decode cX7_as 35 = .ok (.iload_n 2, 1) := by decide +kernel
theorem dX7_as_36 : decode cX7_as 36 = .ok (.iconst 1, 1) := by decide +kernel
theorem dX7_as_37 : decode cX7_as 37 = .ok (.if_icmp .ne 8, 3) := by decide +kernel
theorem dX7_as_40 : decode cX7_as 40 = .ok (.iload_n 3, 1) := by decide +kernel
theorem dX7_as_41 : decode cX7_as 41 = .ok (.iconst 4, 1) := by decide +kernel
theorem dX7_as_42 : decode cX7_as 42 = .ok (.if_icmp .lt 13, 3) := by decide +kernel
theorem dX7_as_45 : decode cX7_as 45 = .ok (.iload_n 2, 1) := by decide +kernel
theorem dX7_as_46 : decode cX7_as 46 = .ok (.iconst 4, 1) := by decide +kernel
theorem dX7_as_47 : decode cX7_as 47 = .ok (.if_icmp .ne 12, 3) := by decide +kernel
theorem dX7_as_50 : decode cX7_as 50 = .ok (.iload_n 3, 1) := by decide +kernel
theorem dX7_as_51 : decode cX7_as 51 = .ok (.iconst 5, 1) := by decide +kernel
theorem dX7_as_52 : decode cX7_as 52 = .ok (.if_icmp .ne 7, 3) := by decide +kernel
theorem dX7_as_55 : decode cX7_as 55 = .ok (.iconst 1, 1) := by decide +kernel
theorem dX7_as_56 : decode cX7_as 56 = .ok (.goto 4, 3) := by decide +kernel
theorem dX7_as_59 : decode cX7_as 59 = .ok (.iconst 0, 1) := by decide +kernel
theorem dX7_as_60 : decode cX7_as 60 = .ok (.istore 4, 2) := by decide +kernel
theorem dX7_as_62 : decode cX7_as 62 = .ok (.iload 4, 2) := by decide +kernel
theorem dX7_as_64 : decode cX7_as 64 = .ok (.ifCond .eq 11, 3) := by decide +kernel
theorem dX7_as_67 : decode cX7_as 67 = .ok (.aload_n 0, 1) := by decide +kernel
theorem dX7_as_68 : decode cX7_as 68 = .ok (.iload_n 1, 1) := by decide +kernel
theorem dX7_as_69 : decode cX7_as 69 = .ok (.invokevirtual 66, 3) := by decide +kernel
theorem dX7_as_72 : decode cX7_as 72 = .ok (.goto 8, 3) := by decide +kernel
theorem dX7_as_75 : decode cX7_as 75 = .ok (.aload_n 0, 1) := by decide +kernel
theorem dX7_as_76 : decode cX7_as 76 = .ok (.iconst 3, 1) := by decide +kernel
theorem dX7_as_77 : decode cX7_as 77 = .ok (.invokevirtual 62, 3) := by decide +kernel
theorem dX7_as_80 : decode cX7_as 80 = .ok (.ireturn, 1) := by decide +kernel
theorem dX7_begins_0 : decode cX7_begins 0 = .ok (.aload_n 0, 1) := by decide +kernel
theorem dX7_begins_1 : decode cX7_begins 1 = .ok (.getfield 215, 3) := by decide +kernel
theorem dX7_begins_4 : decode cX7_begins 4 = .ok (.bipush 16, 2) := by decide +kernel
theorem dX7_begins_6 : decode cX7_begins 6 = .ok (.if_icmp .ge 23, 3) := by decide +kernel
theorem dX7_begins_9 : decode cX7_begins 9 = .ok (.aload_n 0, 1) := by decide +kernel
theorem dX7_begins_10 : decode cX7_begins 10 = .ok (.getfield 44, 3) := by decide +kernel
theorem dX7_begins_13 : decode cX7_begins 13 = .ok (.aload_n 0, 1) := by decide +kernel
theorem dX7_begins_14 : decode cX7_begins 14 = .ok (.getfield 215, 3) := by decide +kernel
theorem dX7_begins_17 : decode cX7_begins 17 = .ok (.iload_n 1, 1) := by decide +kernel
theorem dX7_begins_18 : decode cX7_begins 18 = .ok (.iastore, 1) := by decide +kernel
theorem dX7_begins_19 : decode cX7_begins 19 = .ok (.aload_n 0, 1) := by decide +kernel
theorem dX7_begins_20 : decode cX7_begins 20 = .ok (.dup, 1) := by decide +kernel
theorem dX7_begins_21 : decode cX7_begins 21 = .ok (.getfield 215, 3) := by decide +kernel
theorem dX7_begins_24 : decode cX7_begins 24 = .ok (.iconst 1, 1) := by decide +kernel
theorem dX7_begins_25 : decode cX7_begins 25 = .ok (.iadd, 1) := by decide +kernel
theorem dX7_begins_26 : decode cX7_begins 26 = .ok (.putfield 215, 3) := by decide +kernel
theorem dX7_begins_29 : decode cX7_begins 29 = .ok (.return_, 1) := by decide +kernel
theorem dX7_beechMark_0 : decode cX7_beechMark 0 = .ok (.aload_n 0, 1) := by decide +kernel
theorem dX7_beechMark_1 : decode cX7_beechMark 1 = .ok (.iload_n 1, 1) := by decide +kernel
theorem dX7_beechMark_2 : decode cX7_beechMark 2 = .ok (.invokevirtual 212, 3) := by decide +kernel
theorem dX7_beechMark_5 : decode cX7_beechMark 5 = .ok (.istore_n 2, 1) := by decide +kernel
theorem dX7_beechMark_6 : decode cX7_beechMark 6 = .ok (.iload_n 2, 1) := by decide +kernel
theorem dX7_beechMark_7 : decode cX7_beechMark 7 = .ok (.iconst 1, 1) := by decide +kernel
theorem dX7_beechMark_8 : decode cX7_beechMark 8 = .ok (.if_icmp .eq 19, 3) := by decide +kernel
theorem dX7_beechMark_11 : decode cX7_beechMark 11 = .ok (.aload_n 0, 1) := by decide +kernel
theorem dX7_beechMark_12 : decode cX7_beechMark 12 = .ok (.iload_n 2, 1) := by decide +kernel
theorem dX7_beechMark_13 : decode cX7_beechMark 13 = .ok (.iconst 2, 1) := by decide +kernel
theorem dX7_beechMark_14 : decode cX7_beechMark 14 = .ok (.if_icmp .ne 8, 3) := by decide +kernel
theorem dX7_beechMark_17 : decode cX7_beechMark 17 = .ok (.bipush 24, 2) := by decide +kernel
theorem dX7_beechMark_19 : decode cX7_beechMark 19 = .ok (.goto 5, 3) := by decide +kernel
theorem dX7_beechMark_22 : decode cX7_beechMark 22 = .ok (.bipush 22, 2) := by decide +kernel
theorem dX7_beechMark_24 : decode cX7_beechMark 24 = .ok (.invokevirtual 218, 3) := by decide +kernel
theorem dX7_beechMark_27 : decode cX7_beechMark 27 = .ok (.aload_n 0, 1) := by decide +kernel
theorem dX7_beechMark_28 : decode cX7_beechMark 28 = .ok (.bipush 21, 2) := by decide +kernel
theorem dX7_beechMark_30 : decode cX7_beechMark 30 = .ok (.invokevirtual 218, 3) := by decide +kernel
theorem dX7_beechMark_33 : decode cX7_beechMark 33 = .ok (.aload_n 0, 1) := by decide +kernel
theorem dX7_beechMark_34 : decode cX7_beechMark 34 = .ok (.bipush 20, 2) := by decide +kernel
theorem dX7_beechMark_36 : decode cX7_beechMark 36 = .ok (.invokevirtual 218, 3) := by decide +kernel
theorem dX7_beechMark_39 : decode cX7_beechMark 39 = .ok (.iload_n 1, 1) := by decide +kernel
theorem dX7_beechMark_40 : decode cX7_beechMark 40 = .ok (.aload_n 0, 1) := by decide +kernel
theorem dX7_beechMark_41 : decode cX7_beechMark 41 = .ok (.getfield 25, 3) := by decide +kernel
theorem dX7_beechMark_44 : decode cX7_beechMark 44 = .ok (.iconst 4, 1) := by decide +kernel
theorem dX7_beechMark_45 : decode cX7_beechMark 45 = .ok (.iconst 3, 1) := by decide +kernel
theorem dX7_beechMark_46 : decode cX7_beechMark 46 = .ok (.iload_n 1, 1) := by decide +kernel
theorem dX7_beechMark_47 : decode cX7_beechMark 47 = .ok (.imul, 1) := by decide +kernel
theorem dX7_beechMark_48 : decode cX7_beechMark 48 = .ok (.iadd, 1) := by decide +kernel
theorem dX7_beechMark_49 : decode cX7_beechMark 49 = .ok (.iconst 1, 1) := by decide +kernel
theorem dX7_beechMark_50 : decode cX7_beechMark 50 = .ok (.iadd, 1) := by decide +kernel
theorem dX7_beechMark_51 : decode cX7_beechMark 51 = .ok (.iaload, 1) := by decide +kernel
theorem dX7_beechMark_52 : decode cX7_beechMark 52 = .ok (.iadd, 1) := by decide +kernel
theorem dX7_beechMark_53 : decode cX7_beechMark 53 = .ok (.istore_n 3, 1) := by decide +kernel
theorem dX7_beechMark_54 : decode cX7_beechMark 54 = .ok (.iload_n 2, 1) := by decide +kernel
theorem dX7_beechMark_55 : decode cX7_beechMark 55 = .ok (.iconst 2, 1) := by decide +kernel
theorem dX7_beechMark_56 : decode cX7_beechMark 56 = .ok (.if_icmp .ne 9, 3) := by decide +kernel
theorem dX7_beechMark_59 : decode cX7_beechMark 59 = .ok (.iconst 2, 1) := by decide +kernel
theorem dX7_beechMark_60 : decode cX7_beechMark 60 = .ok (.iload_n 3, 1) := by decide +kernel
theorem dX7_beechMark_61 : decode cX7_beechMark 61 = .ok (.imul, 1) := by decide +kernel
theorem dX7_beechMark_62 : decode cX7_beechMark 62 = .ok (.goto 17, 3) := by decide +kernel
theorem dX7_beechMark_65 : decode cX7_beechMark 65 = .ok (.iload_n 2, 1) := by decide +kernel
theorem dX7_beechMark_66 : decode cX7_beechMark 66 = .ok (.iconst 3, 1) := by decide +kernel
theorem dX7_beechMark_67 : decode cX7_beechMark 67 = .ok (.if_icmp .ne 11, 3) := by decide +kernel
theorem dX7_beechMark_70 : decode cX7_beechMark 70 = .ok (.iload_n 3, 1) := by decide +kernel
theorem dX7_beechMark_71 : decode cX7_beechMark 71 = .ok (.sipush 1000, 3) := by decide +kernel
theorem dX7_beechMark_74 : decode cX7_beechMark 74 = .ok (.isub, 1) := by decide +kernel
theorem dX7_beechMark_75 : decode cX7_beechMark 75 = .ok (.goto 4, 3) := by decide +kernel
theorem dX7_beechMark_78 : decode cX7_beechMark 78 = .ok (.iload_n 3, 1) := by decide +kernel
theorem dX7_beechMark_79 : decode cX7_beechMark 79 = .ok (.ireturn, 1) := by decide +kernel
theorem dX7_pineSize_0 : decode cX7_pineSize 0 = .ok (.aload_n 0, 1) := by decide +kernel
theorem dX7_pineSize_1 : decode cX7_pineSize 1 = .ok (.iload_n 1, 1) := by decide +kernel
theorem dX7_pineSize_2 : decode cX7_pineSize 2 = .ok (.invokevirtual 212, 3) := by decide +kernel
theorem dX7_pineSize_5 : decode cX7_pineSize 5 = .ok (.iconst 5, 1) := by decide +kernel
theorem dX7_pineSize_6 : decode cX7_pineSize 6 = .ok (.if_icmp .ne 7, 3) := by decide +kernel
theorem dX7_pineSize_9 : decode cX7_pineSize 9 = .ok (.iconst 1, 1) := by decide +kernel
theorem dX7_pineSize_10 : decode cX7_pineSize 10 = .ok (.goto 4, 3) := by decide +kernel
theorem dX7_pineSize_13 : decode cX7_pineSize 13 = .ok (.iconst 0, 1) := by decide +kernel
theorem dX7_pineSize_14 : decode cX7_pineSize 14 = .ok (.istore_n 2, 1) := by decide +kernel
theorem dX7_pineSize_15 : decode cX7_pineSize 15 = .ok (.iload_n 2, 1) := by decide +kernel
theorem dX7_pineSize_16 : decode cX7_pineSize 16 = .ok (.ifCond .eq 9, 3) := by decide +kernel
theorem dX7_pineSize_19 : decode cX7_pineSize 19 = .ok (.aload_n 0, 1) := by decide +kernel
theorem dX7_pineSize_20 : decode cX7_pineSize 20 = .ok (.bipush 14, 2) := by decide +kernel
theorem dX7_pineSize_22 : decode cX7_pineSize 22 = .ok (.invokevirtual 218, 3) := by decide +kernel
theorem dX7_pineSize_25 : decode cX7_pineSize 25 = .ok (.aload_n 0, 1) := by decide +kernel
theorem dX7_pineSize_26 : decode cX7_pineSize 26 = .ok (.bipush 13, 2) := by decide +kernel
theorem dX7_pineSize_28 : decode cX7_pineSize 28 = .ok (.invokevirtual 218, 3) := by decide +kernel
theorem dX7_pineSize_31 : decode cX7_pineSize 31 = .ok (.aload_n 0, 1) := by decide +kernel
theorem dX7_pineSize_32 : decode cX7_pineSize 32 = .ok (.bipush 10, 2) := by decide +kernel
theorem dX7_pineSize_34 : decode cX7_pineSize 34 = .ok (.invokevirtual 218, 3) := by decide +kernel
theorem dX7_pineSize_37 : decode cX7_pineSize 37 = .ok (.aload_n 0, 1) := by decide +kernel
theorem dX7_pineSize_38 : decode cX7_pineSize 38 = .ok (.getfield 25, 3) := by decide +kernel
theorem dX7_pineSize_41 : decode cX7_pineSize 41 = .ok (.iconst 4, 1) := by decide +kernel
theorem dX7_pineSize_42 : decode cX7_pineSize 42 = .ok (.iconst 3, 1) := by decide +kernel
theorem dX7_pineSize_43 : decode cX7_pineSize 43 = .ok (.iload_n 1, 1) := by decide +kernel
theorem dX7_pineSize_44 : decode cX7_pineSize 44 = .ok (.imul, 1) := by decide +kernel
theorem dX7_pineSize_45 : decode cX7_pineSize 45 = .ok (.iadd, 1) := by decide +kernel
theorem dX7_pineSize_46 : decode cX7_pineSize 46 = .ok (.iconst 2, 1) := by decide +kernel
theorem dX7_pineSize_47 : decode cX7_pineSize 47 = .ok (.iadd, 1) := by decide +kernel
theorem dX7_pineSize_48 : decode cX7_pineSize 48 = .ok (.iaload, 1) := by decide +kernel
theorem dX7_pineSize_49 : decode cX7_pineSize 49 = .ok (.bipush 100, 2) := by decide +kernel
theorem dX7_pineSize_51 : decode cX7_pineSize 51 = .ok (.isub, 1) := by decide +kernel
theorem dX7_pineSize_52 : decode cX7_pineSize 52 = .ok (.istore_n 3, 1) := by decide +kernel
theorem dX7_pineSize_53 : decode cX7_pineSize 53 = .ok (.iload_n 2, 1) := by decide +kernel
theorem dX7_pineSize_54 : decode cX7_pineSize 54 = .ok (.ifCond .eq 9, 3) := by decide +kernel
theorem dX7_pineSize_57 : decode cX7_pineSize 57 = .ok (.iconst 2, 1) := by decide +kernel
theorem dX7_pineSize_58 : decode cX7_pineSize 58 = .ok (.iload_n 3, 1) := by decide +kernel
theorem dX7_pineSize_59 : decode cX7_pineSize 59 = .ok (.imul, 1) := by decide +kernel
theorem dX7_pineSize_60 : decode cX7_pineSize 60 = .ok (.goto 4, 3) := by decide +kernel
theorem dX7_pineSize_63 : decode cX7_pineSize 63 = .ok (.iload_n 3, 1) := by decide +kernel
theorem dX7_pineSize_64 : decode cX7_pineSize 64 = .ok (.ireturn, 1) := by decide +kernel
theorem dX7_beechSize_0 : decode cX7_beechSize 0 = .ok (.aload_n 0, 1) := by decide +kernel
theorem dX7_beechSize_1 : decode cX7_beechSize 1 = .ok (.iload_n 1, 1) := by decide +kernel
theorem dX7_beechSize_2 : decode cX7_beechSize 2 = .ok (.invokevirtual 212, 3) := by decide +kernel
theorem dX7_beechSize_5 : decode cX7_beechSize 5 = .ok (.iconst 2, 1) := by decide +kernel
theorem dX7_beechSize_6 : decode cX7_beechSize 6 = .ok (.if_icmp .ne 7, 3) := by decide +kernel
theorem dX7_beechSize_9 : decode cX7_beechSize 9 = .ok (.iconst 1, 1) := by decide +kernel
theorem dX7_beechSize_10 : decode cX7_beechSize 10 = .ok (.goto 4, 3) := by decide +kernel
theorem dX7_beechSize_13 : decode cX7_beechSize 13 = .ok (.iconst 0, 1) := by decide +kernel
theorem dX7_beechSize_14 : decode cX7_beechSize 14 = .ok (.istore_n 2, 1) := by decide +kernel
theorem dX7_beechSize_15 : decode cX7_beechSize 15 = .ok (.iload_n 2, 1) := by decide +kernel
theorem dX7_beechSize_16 : decode cX7_beechSize 16 = .ok (.ifCond .eq 9, 3) := by decide +kernel
theorem dX7_beechSize_19 : decode cX7_beechSize 19 = .ok (.aload_n 0, 1) := by decide +kernel
theorem dX7_beechSize_20 : decode cX7_beechSize 20 = .ok (.bipush 12, 2) := by decide +kernel
theorem dX7_beechSize_22 : decode cX7_beechSize 22 = .ok (.invokevirtual 218, 3) := by decide +kernel
theorem dX7_beechSize_25 : decode cX7_beechSize 25 = .ok (.aload_n 0, 1) := by decide +kernel
theorem dX7_beechSize_26 : decode cX7_beechSize 26 = .ok (.bipush 11, 2) := by decide +kernel
theorem dX7_beechSize_28 : decode cX7_beechSize 28 = .ok (.invokevirtual 218, 3) := by decide +kernel
theorem dX7_beechSize_31 : decode cX7_beechSize 31 = .ok (.aload_n 0, 1) := by decide +kernel
theorem dX7_beechSize_32 : decode cX7_beechSize 32 = .ok (.bipush 10, 2) := by decide +kernel
theorem dX7_beechSize_34 : decode cX7_beechSize 34 = .ok (.invokevirtual 218, 3) := by decide +kernel
theorem dX7_beechSize_37 : decode cX7_beechSize 37 = .ok (.aload_n 0, 1) := by decide +kernel
theorem dX7_beechSize_38 : decode cX7_beechSize 38 = .ok (.getfield 25, 3) := by decide +kernel
theorem dX7_beechSize_41 : decode cX7_beechSize 41 = .ok (.iconst 4, 1) := by decide +kernel
theorem dX7_beechSize_42 : decode cX7_beechSize 42 = .ok (.iconst 3, 1) := by decide +kernel
theorem dX7_beechSize_43 : decode cX7_beechSize 43 = .ok (.iload_n 1, 1) := by decide +kernel
theorem dX7_beechSize_44 : decode cX7_beechSize 44 = .ok (.imul, 1) := by decide +kernel
theorem dX7_beechSize_45 : decode cX7_beechSize 45 = .ok (.iadd, 1) := by decide +kernel
theorem dX7_beechSize_46 : decode cX7_beechSize 46 = .ok (.iconst 2, 1) := by decide +kernel
theorem dX7_beechSize_47 : decode cX7_beechSize 47 = .ok (.iadd, 1) := by decide +kernel
theorem dX7_beechSize_48 : decode cX7_beechSize 48 = .ok (.iaload, 1) := by decide +kernel
theorem dX7_beechSize_49 : decode cX7_beechSize 49 = .ok (.aload_n 0, 1) := by decide +kernel
theorem dX7_beechSize_50 : decode cX7_beechSize 50 = .ok (.iload_n 1, 1) := by decide +kernel
theorem dX7_beechSize_51 : decode cX7_beechSize 51 = .ok (.invokevirtual 221, 3) := by decide +kernel
theorem dX7_beechSize_54 : decode cX7_beechSize 54 = .ok (.iadd, 1) := by decide +kernel
theorem dX7_beechSize_55 : decode cX7_beechSize 55 = .ok (.istore_n 3, 1) := by decide +kernel
theorem dX7_beechSize_56 : decode cX7_beechSize 56 = .ok (.iload_n 2, 1) := by decide +kernel
theorem dX7_beechSize_57 : decode cX7_beechSize 57 = .ok (.ifCond .eq 8, 3) := by decide +kernel
theorem dX7_beechSize_60 : decode cX7_beechSize 60 = .ok (.iload_n 3, 1) := by decide +kernel
theorem dX7_beechSize_61 : decode cX7_beechSize 61 = .ok (.ineg, 1) := by decide +kernel
theorem dX7_beechSize_62 : decode cX7_beechSize 62 = .ok (.goto 4, 3) := by decide +kernel
theorem dX7_beechSize_65 : decode cX7_beechSize 65 = .ok (.iload_n 3, 1) := by decide +kernel
theorem dX7_beechSize_66 : decode cX7_beechSize 66 = .ok (.ireturn, 1) := by decide +kernel
theorem dX7_pineMark_0 : decode cX7_pineMark 0 = .ok (.aload_n 0, 1) := by decide +kernel
theorem dX7_pineMark_1 : decode cX7_pineMark 1 = .ok (.bipush 23, 2) := by decide +kernel
theorem dX7_pineMark_3 : decode cX7_pineMark 3 = .ok (.invokevirtual 218, 3) := by decide +kernel
theorem dX7_pineMark_6 : decode cX7_pineMark 6 = .ok (.aload_n 0, 1) := by decide +kernel
theorem dX7_pineMark_7 : decode cX7_pineMark 7 = .ok (.bipush 20, 2) := by decide +kernel
theorem dX7_pineMark_9 : decode cX7_pineMark 9 = .ok (.invokevirtual 218, 3) := by decide +kernel
theorem dX7_pineMark_12 : decode cX7_pineMark 12 = .ok (.iload_n 1, 1) := by decide +kernel
theorem dX7_pineMark_13 : decode cX7_pineMark 13 = .ok (.aload_n 0, 1) := by decide +kernel
theorem dX7_pineMark_14 : decode cX7_pineMark 14 = .ok (.iload_n 1, 1) := by decide +kernel
theorem dX7_pineMark_15 : decode cX7_pineMark 15 = .ok (.invokevirtual 224, 3) := by decide +kernel
theorem dX7_pineMark_18 : decode cX7_pineMark 18 = .ok (.isub, 1) := by decide +kernel
theorem dX7_pineMark_19 : decode cX7_pineMark 19 = .ok (.ireturn, 1) := by decide +kernel
theorem dX7_ask_0 : decode cX7_ask 0 = .ok (.aload_n 0, 1) := by decide +kernel
theorem dX7_ask_1 : decode cX7_ask 1 = .ok (.iload_n 1, 1) := by decide +kernel
theorem dX7_ask_2 : decode cX7_ask 2 = .ok (.invokevirtual 185, 3) := by decide +kernel
theorem dX7_ask_5 : decode cX7_ask 5 = .ok (.ifCond .eq 12, 3) := by decide +kernel
theorem dX7_ask_8 : decode cX7_ask 8 = .ok (.iload_n 2, 1) := by decide +kernel
theorem dX7_ask_9 : decode cX7_ask 9 = .ok (.iconst 0, 1) := by decide +kernel
theorem dX7_ask_10 : decode cX7_ask 10 = .ok (.iconst 1, 1) := by decide +kernel
theorem dX7_ask_11 : decode cX7_ask 11 = .ok (.invokestatic 53, 3) := by decide +kernel
theorem dX7_ask_14 : decode cX7_ask 14 = .ok (.ifCond .ne 6, 3) := by decide +kernel
theorem dX7_ask_17 : decode cX7_ask 17 = .ok (.ldc 61, 2) := by decide +kernel
theorem dX7_ask_19 : decode cX7_ask 19 = .ok (.ireturn, 1) := by decide +kernel
theorem dX7_ask_20 : decode cX7_ask 20 = .ok (.aload_n 0, 1) := by decide +kernel
theorem dX7_ask_21 : decode cX7_ask 21 = .ok (.iconst 0, 1) := by decide +kernel
theorem dX7_ask_22 : decode cX7_ask 22 = .ok (.putfield 215, 3) := by decide +kernel
theorem dX7_ask_25 : decode cX7_ask 25 = .ok (.aload_n 0, 1) := by decide +kernel
theorem dX7_ask_26 : decode cX7_ask 26 = .ok (.iload_n 1, 1) := by decide +kernel
theorem dX7_ask_27 : decode cX7_ask 27 = .ok (.invokevirtual 212, 3) := by decide +kernel
theorem dX7_ask_30 : decode cX7_ask 30 = .ok (.iconst 4, 1) := by decide +kernel
theorem dX7_ask_31 : decode cX7_ask 31 = .ok (.if_icmp .lt 7, 3) := by decide +kernel
theorem dX7_ask_34 : decode cX7_ask 34 = .ok (.iconst 1, 1) := by decide +kernel
theorem dX7_ask_35 : decode cX7_ask 35 = .ok (.goto 4, 3) := by decide +kernel
theorem dX7_ask_38 : decode cX7_ask 38 = .ok (.iconst 0, 1) := by decide +kernel
theorem dX7_ask_39 : decode cX7_ask 39 = .ok (.istore_n 3, 1) := by decide +kernel
theorem dX7_ask_40 : decode cX7_ask 40 = .ok (.iload_n 2, 1) := by decide +kernel
theorem dX7_ask_41 : decode cX7_ask 41 = .ok (.ifCond .ne 21, 3) := by decide +kernel
theorem dX7_ask_44 : decode cX7_ask 44 = .ok (.iload_n 3, 1) := by decide +kernel
theorem dX7_ask_45 : decode cX7_ask 45 = .ok (.ifCond .eq 11, 3) := by decide +kernel
theorem dX7_ask_48 : decode cX7_ask 48 = .ok (.aload_n 0, 1) := by decide +kernel
theorem dX7_ask_49 : decode cX7_ask 49 = .ok (.iload_n 1, 1) := by decide +kernel
theorem dX7_ask_50 : decode cX7_ask 50 = .ok (.invokevirtual 224, 3) := by decide +kernel
theorem dX7_ask_53 : decode cX7_ask 53 = .ok (.goto 8, 3) := by decide +kernel
theorem dX7_ask_56 : decode cX7_ask 56 = .ok (.aload_n 0, 1) := by decide +kernel
theorem dX7_ask_57 : decode cX7_ask 57 = .ok (.iload_n 1, 1) := by decide +kernel
theorem dX7_ask_58 : decode cX7_ask 58 = .ok (.invokevirtual 227, 3) := by decide +kernel
theorem dX7_ask_61 : decode cX7_ask 61 = .ok (.ireturn, 1) := by decide +kernel
theorem dX7_ask_62 : decode cX7_ask 62 = .ok (.iload_n 3, 1) := by decide +kernel
theorem dX7_ask_63 : decode cX7_ask 63 = .ok (.ifCond .eq 11, 3) := by decide +kernel
theorem dX7_ask_66 : decode cX7_ask 66 = .ok (.aload_n 0, 1) := by decide +kernel
theorem dX7_ask_67 : decode cX7_ask 67 = .ok (.iload_n 1, 1) := by decide +kernel
theorem dX7_ask_68 : decode cX7_ask 68 = .ok (.invokevirtual 230, 3) := by decide +kernel
theorem dX7_ask_71 : decode cX7_ask 71 = .ok (.goto 8, 3) := by decide +kernel
theorem dX7_ask_74 : decode cX7_ask 74 = .ok (.aload_n 0, 1) := by decide +kernel
theorem dX7_ask_75 : decode cX7_ask 75 = .ok (.iload_n 1, 1) := by decide +kernel
theorem dX7_ask_76 : decode cX7_ask 76 = .ok (.invokevirtual 221, 3) := by decide +kernel
theorem dX7_ask_79 : decode cX7_ask 79 = .ok (.ireturn, 1) := by decide +kernel
theorem dX7_trace_0 : decode cX7_trace 0 = .ok (.iload_n 1, 1) := by decide +kernel
theorem dX7_trace_1 : decode cX7_trace 1 = .ok (.iconst 0, 1) := by decide +kernel
theorem dX7_trace_2 : decode cX7_trace 2 = .ok (.aload_n 0, 1) := by decide +kernel
theorem dX7_trace_3 : decode cX7_trace 3 = .ok (.getfield 215, 3) := by decide +kernel
theorem dX7_trace_6 : decode cX7_trace 6 = .ok (.iconst 1, 1) := by decide +kernel
theorem dX7_trace_7 : decode cX7_trace 7 = .ok (.isub, 1) := by decide +kernel
theorem dX7_trace_8 : decode cX7_trace 8 = .ok (.invokestatic 53, 3) := by decide +kernel
theorem dX7_trace_11 : decode cX7_trace 11 = .ok (.ifCond .eq 12, 3) := by decide +kernel
theorem dX7_trace_14 : decode cX7_trace 14 = .ok (.aload_n 0, 1) := by decide +kernel
theorem dX7_trace_15 : decode cX7_trace 15 = .ok (.getfield 44, 3) := by decide +kernel
theorem dX7_trace_18 : decode cX7_trace 18 = .ok (.iload_n 1, 1) := by decide +kernel
theorem dX7_trace_19 : decode cX7_trace 19 = .ok (.iaload, 1) := by decide +kernel
theorem dX7_trace_20 : decode cX7_trace 20 = .ok (.goto 5, 3) := by decide +kernel
theorem dX7_trace_23 : decode cX7_trace 23 = .ok (.ldc 47, 2) := by decide +kernel
theorem dX7_trace_25 : decode cX7_trace 25 = .ok (.ireturn, 1) := by decide +kernel
theorem dX7_count_0 : decode cX7_count 0 = .ok (.iconst 0, 1) := by decide +kernel
theorem dX7_count_1 : decode cX7_count 1 = .ok (.istore_n 2, 1) := by decide +kernel
theorem dX7_count_2 : decode cX7_count 2 = .ok (.iload_n 1, 1) := by decide +kernel
theorem dX7_count_3 : decode cX7_count 3 = .ok (.tableswitch 128 0 7 #[45, 77, 84, 91, 104, 111, 118, 123], 45) := by decide +kernel
theorem dX7_count_48 : decode cX7_count 48 = .ok (.iconst 0, 1) := by decide +kernel
theorem dX7_count_49 : decode cX7_count 49 = .ok (.istore_n 3, 1) := by decide +kernel
theorem dX7_count_50 : decode cX7_count 50 = .ok (.iload_n 3, 1) := by decide +kernel
theorem dX7_count_51 : decode cX7_count 51 = .ok (.bipush 8, 2) := by decide +kernel
theorem dX7_count_53 : decode cX7_count 53 = .ok (.if_icmp .ge 25, 3) := by decide +kernel
theorem dX7_count_56 : decode cX7_count 56 = .ok (.iload_n 2, 1) := by decide +kernel
theorem dX7_count_57 : decode cX7_count 57 = .ok (.aload_n 0, 1) := by decide +kernel
theorem dX7_count_58 : decode cX7_count 58 = .ok (.iload_n 3, 1) := by decide +kernel
theorem dX7_count_59 : decode cX7_count 59 = .ok (.invokevirtual 69, 3) := by decide +kernel
theorem dX7_count_62 : decode cX7_count 62 = .ok (.ifCond .eq 7, 3) := by decide +kernel
theorem dX7_count_65 : decode cX7_count 65 = .ok (.iconst 0, 1) := by decide +kernel
theorem dX7_count_66 : decode cX7_count 66 = .ok (.goto 4, 3) := by decide +kernel
theorem dX7_count_69 : decode cX7_count 69 = .ok (.iconst 1, 1) := by decide +kernel
theorem dX7_count_70 : decode cX7_count 70 = .ok (.iadd, 1) := by decide +kernel
theorem dX7_count_71 : decode cX7_count 71 = .ok (.istore_n 2, 1) := by decide +kernel
theorem dX7_count_72 : decode cX7_count 72 = .ok (.iinc 3 1, 3) := by decide +kernel
theorem dX7_count_75 : decode cX7_count 75 = .ok (.goto (-25), 3) := by decide +kernel
theorem dX7_count_78 : decode cX7_count 78 = .ok (.iload_n 2, 1) := by decide +kernel
theorem dX7_count_79 : decode cX7_count 79 = .ok (.ireturn, 1) := by decide +kernel
theorem dX7_count_80 : decode cX7_count 80 = .ok (.aload_n 0, 1) := by decide +kernel
theorem dX7_count_81 : decode cX7_count 81 = .ok (.getfield 25, 3) := by decide +kernel
theorem dX7_count_84 : decode cX7_count 84 = .ok (.iconst 2, 1) := by decide +kernel
theorem dX7_count_85 : decode cX7_count 85 = .ok (.iaload, 1) := by decide +kernel
theorem dX7_count_86 : decode cX7_count 86 = .ok (.ireturn, 1) := by decide +kernel
theorem dX7_count_87 : decode cX7_count 87 = .ok (.aload_n 0, 1) := by decide +kernel
theorem dX7_count_88 : decode cX7_count 88 = .ok (.getfield 25, 3) := by decide +kernel
theorem dX7_count_91 : decode cX7_count 91 = .ok (.iconst 3, 1) := by decide +kernel
theorem dX7_count_92 : decode cX7_count 92 = .ok (.iaload, 1) := by decide +kernel
theorem dX7_count_93 : decode cX7_count 93 = .ok (.ireturn, 1) := by decide +kernel
theorem dX7_count_94 : decode cX7_count 94 = .ok (.aload_n 0, 1) := by decide +kernel
theorem dX7_count_95 : decode cX7_count 95 = .ok (.getfield 25, 3) := by decide +kernel
theorem dX7_count_98 : decode cX7_count 98 = .ok (.ldc 47, 2) := by decide +kernel
theorem dX7_count_100 : decode cX7_count 100 = .ok (.invokestatic 168, 3) := by decide +kernel
theorem dX7_count_103 : decode cX7_count 103 = .ok (.invokestatic 182, 3) := by decide +kernel
theorem dX7_count_106 : decode cX7_count 106 = .ok (.ireturn, 1) := by decide +kernel
theorem dX7_count_107 : decode cX7_count 107 = .ok (.aload_n 0, 1) := by decide +kernel
theorem dX7_count_108 : decode cX7_count 108 = .ok (.getfield 25, 3) := by decide +kernel
theorem dX7_count_111 : decode cX7_count 111 = .ok (.iconst 1, 1) := by decide +kernel
theorem dX7_count_112 : decode cX7_count 112 = .ok (.iaload, 1) := by decide +kernel
theorem dX7_count_113 : decode cX7_count 113 = .ok (.ireturn, 1) := by decide +kernel
theorem dX7_count_114 : decode cX7_count 114 = .ok (.aload_n 0, 1) := by decide +kernel
theorem dX7_count_115 : decode cX7_count 115 = .ok (.getfield 25, 3) := by decide +kernel
theorem dX7_count_118 : decode cX7_count 118 = .ok (.iconst 0, 1) := by decide +kernel
theorem dX7_count_119 : decode cX7_count 119 = .ok (.iaload, 1) := by decide +kernel
theorem dX7_count_120 : decode cX7_count 120 = .ok (.ireturn, 1) := by decide +kernel
theorem dX7_count_121 : decode cX7_count 121 = .ok (.aload_n 0, 1) := by decide +kernel
theorem dX7_count_122 : decode cX7_count 122 = .ok (.getfield 139, 3) := by decide +kernel
theorem dX7_count_125 : decode cX7_count 125 = .ok (.ireturn, 1) := by decide +kernel
theorem dX7_count_126 : decode cX7_count 126 = .ok (.aload_n 0, 1) := by decide +kernel
theorem dX7_count_127 : decode cX7_count 127 = .ok (.getfield 79, 3) := by decide +kernel
theorem dX7_count_130 : decode cX7_count 130 = .ok (.ireturn, 1) := by decide +kernel
theorem dX7_count_131 : decode cX7_count 131 = .ok (.ldc 61, 2) := by decide +kernel
theorem dX7_count_133 : decode cX7_count 133 = .ok (.ireturn, 1) := by decide +kernel
theorem dX7_status_0 : decode cX7_status 0 = .ok (.aload_n 0, 1) := by decide +kernel
theorem dX7_status_1 : decode cX7_status 1 = .ok (.getfield 48, 3) := by decide +kernel
theorem dX7_status_4 : decode cX7_status 4 = .ok (.ireturn, 1) := by decide +kernel
