theorem dX0_init_0 : decode cX0_init 0 = .ok (.aload_n 0, 1) := by decide +kernel
theorem dX0_init_1 : decode cX0_init 1 = .ok (.invokespecial 3, 3) := by decide +kernel
theorem dX0_init_4 : decode cX0_init 4 = .ok (.aload_n 0, 1) := by decide +kernel
theorem dX0_init_5 : decode cX0_init 5 = .ok (.bipush 16, 2) := by decide +kernel
theorem dX0_init_7 : decode cX0_init 7 = .ok (.newarray .int, 2) := by decide +kernel
theorem dX0_init_9 : decode cX0_init 9 = .ok (.putfield 9, 3) := by decide +kernel
theorem dX0_init_12 : decode cX0_init 12 = .ok (.return_, 1) := by decide +kernel
theorem dX0_sizeOf_0 : decode cX0_sizeOf 0 = .ok (.aload_n 1, 1) := by decide +kernel
theorem dX0_sizeOf_1 : decode cX0_sizeOf 1 = .ok (.getfield 15, 3) := by decide +kernel
theorem dX0_sizeOf_4 : decode cX0_sizeOf 4 = .ok (.iload_n 2, 1) := by decide +kernel
theorem dX0_sizeOf_5 : decode cX0_sizeOf 5 = .ok (.iaload, 1) := by decide +kernel
theorem dX0_sizeOf_6 : decode cX0_sizeOf 6 = .ok (.iconst 1, 1) := by decide +kernel
theorem dX0_sizeOf_7 : decode cX0_sizeOf 7 = .ok (.invokestatic 20, 3) := by decide +kernel
theorem dX0_sizeOf_10 : decode cX0_sizeOf 10 = .ok (.ifCond .eq 10, 3) := by decide +kernel
theorem dX0_sizeOf_13 : decode cX0_sizeOf 13 = .ok (.aload_n 0, 1) := by decide +kernel
theorem dX0_sizeOf_14 : decode cX0_sizeOf 14 = .ok (.aload_n 1, 1) := by decide +kernel
theorem dX0_sizeOf_15 : decode cX0_sizeOf 15 = .ok (.iload_n 2, 1) := by decide +kernel
theorem dX0_sizeOf_16 : decode cX0_sizeOf 16 = .ok (.invokevirtual 24, 3) := by decide +kernel
theorem dX0_sizeOf_19 : decode cX0_sizeOf 19 = .ok (.ireturn, 1) := by decide +kernel
theorem dX0_sizeOf_20 : decode cX0_sizeOf 20 = .ok (.aload_n 0, 1) := by decide +kernel
theorem dX0_sizeOf_21 : decode cX0_sizeOf 21 = .ok (.aload_n 1, 1) := by decide +kernel
theorem dX0_sizeOf_22 : decode cX0_sizeOf 22 = .ok (.iload_n 2, 1) := by decide +kernel
theorem dX0_sizeOf_23 : decode cX0_sizeOf 23 = .ok (.invokevirtual 28, 3) := by decide +kernel
theorem dX0_sizeOf_26 : decode cX0_sizeOf 26 = .ok (.ireturn, 1) := by decide +kernel
theorem dX0_markOf_0 : decode cX0_markOf 0 = .ok (.aload_n 1, 1) := by decide +kernel
theorem dX0_markOf_1 : decode cX0_markOf 1 = .ok (.getfield 15, 3) := by decide +kernel
theorem dX0_markOf_4 : decode cX0_markOf 4 = .ok (.iload_n 2, 1) := by decide +kernel
theorem dX0_markOf_5 : decode cX0_markOf 5 = .ok (.iaload, 1) := by decide +kernel
theorem dX0_markOf_6 : decode cX0_markOf 6 = .ok (.iconst 1, 1) := by decide +kernel
theorem dX0_markOf_7 : decode cX0_markOf 7 = .ok (.invokestatic 20, 3) := by decide +kernel
theorem dX0_markOf_10 : decode cX0_markOf 10 = .ok (.ifCond .eq 10, 3) := by decide +kernel
theorem dX0_markOf_13 : decode cX0_markOf 13 = .ok (.aload_n 0, 1) := by decide +kernel
theorem dX0_markOf_14 : decode cX0_markOf 14 = .ok (.aload_n 1, 1) := by decide +kernel
theorem dX0_markOf_15 : decode cX0_markOf 15 = .ok (.iload_n 2, 1) := by decide +kernel
theorem dX0_markOf_16 : decode cX0_markOf 16 = .ok (.invokevirtual 31, 3) := by decide +kernel
theorem dX0_markOf_19 : decode cX0_markOf 19 = .ok (.ireturn, 1) := by decide +kernel
theorem dX0_markOf_20 : decode cX0_markOf 20 = .ok (.aload_n 0, 1) := by decide +kernel
theorem dX0_markOf_21 : decode cX0_markOf 21 = .ok (.bipush 23, 2) := by decide +kernel
theorem dX0_markOf_23 : decode cX0_markOf 23 = .ok (.invokevirtual 34, 3) := by decide +kernel
theorem dX0_markOf_26 : decode cX0_markOf 26 = .ok (.aload_n 0, 1) := by decide +kernel
theorem dX0_markOf_27 : decode cX0_markOf 27 = .ok (.bipush 20, 2) := by decide +kernel
theorem dX0_markOf_29 : decode cX0_markOf 29 = .ok (.invokevirtual 34, 3) := by decide +kernel
theorem dX0_markOf_32 : decode cX0_markOf 32 = .ok (.iload_n 2, 1) := by decide +kernel
theorem dX0_markOf_33 : decode cX0_markOf 33 = .ok (.aload_n 0, 1) := by decide +kernel
theorem dX0_markOf_34 : decode cX0_markOf 34 = .ok (.aload_n 1, 1) := by decide +kernel
theorem dX0_markOf_35 : decode cX0_markOf 35 = .ok (.iload_n 2, 1) := by decide +kernel
theorem dX0_markOf_36 : decode cX0_markOf 36 = .ok (.invokevirtual 28, 3) := by decide +kernel
theorem dX0_markOf_39 : decode cX0_markOf 39 = .ok (.isub, 1) := by decide +kernel
theorem dX0_markOf_40 : decode cX0_markOf 40 = .ok (.ireturn, 1) := by decide +kernel
theorem dX0_sizeOfBeech_0 : decode cX0_sizeOfBeech 0 = .ok (.aload_n 1, 1) := by decide +kernel
theorem dX0_sizeOfBeech_1 : decode cX0_sizeOfBeech 1 = .ok (.getfield 15, 3) := by decide +kernel
theorem dX0_sizeOfBeech_4 : decode cX0_sizeOfBeech 4 = .ok (.iload_n 2, 1) := by decide +kernel
theorem dX0_sizeOfBeech_5 : decode cX0_sizeOfBeech 5 = .ok (.iaload, 1) := by decide +kernel
theorem dX0_sizeOfBeech_6 : decode cX0_sizeOfBeech 6 = .ok (.iconst 2, 1) := by decide +kernel
theorem dX0_sizeOfBeech_7 : decode cX0_sizeOfBeech 7 = .ok (.if_icmp .ne 7, 3) := by decide +kernel
theorem dX0_sizeOfBeech_10 : decode cX0_sizeOfBeech 10 = .ok (.iconst 1, 1) := by decide +kernel
theorem dX0_sizeOfBeech_11 : decode cX0_sizeOfBeech 11 = .ok (.goto 4, 3) := by decide +kernel
theorem dX0_sizeOfBeech_14 : decode cX0_sizeOfBeech 14 = .ok (.iconst 0, 1) := by decide +kernel
theorem dX0_sizeOfBeech_15 : decode cX0_sizeOfBeech 15 = .ok (.istore_n 3, 1) := by decide +kernel
theorem dX0_sizeOfBeech_16 : decode cX0_sizeOfBeech 16 = .ok (.iload_n 3, 1) := by decide +kernel
theorem dX0_sizeOfBeech_17 : decode cX0_sizeOfBeech 17 = .ok (.ifCond .eq 9, 3) := by decide +kernel
theorem dX0_sizeOfBeech_20 : decode cX0_sizeOfBeech 20 = .ok (.aload_n 0, 1) := by decide +kernel
theorem dX0_sizeOfBeech_21 : decode cX0_sizeOfBeech 21 = .ok (.bipush 12, 2) := by decide +kernel
theorem dX0_sizeOfBeech_23 : decode cX0_sizeOfBeech 23 = .ok (.invokevirtual 34, 3) := by decide +kernel
theorem dX0_sizeOfBeech_26 : decode cX0_sizeOfBeech 26 = .ok (.aload_n 0, 1) := by decide +kernel
theorem dX0_sizeOfBeech_27 : decode cX0_sizeOfBeech 27 = .ok (.bipush 11, 2) := by decide +kernel
theorem dX0_sizeOfBeech_29 : decode cX0_sizeOfBeech 29 = .ok (.invokevirtual 34, 3) := by decide +kernel
theorem dX0_sizeOfBeech_32 : decode cX0_sizeOfBeech 32 = .ok (.aload_n 0, 1) := by decide +kernel
theorem dX0_sizeOfBeech_33 : decode cX0_sizeOfBeech 33 = .ok (.bipush 10, 2) := by decide +kernel
theorem dX0_sizeOfBeech_35 : decode cX0_sizeOfBeech 35 = .ok (.invokevirtual 34, 3) := by decide +kernel
theorem dX0_sizeOfBeech_38 : decode cX0_sizeOfBeech 38 = .ok (.aload_n 1, 1) := by decide +kernel
theorem dX0_sizeOfBeech_39 : decode cX0_sizeOfBeech 39 = .ok (.getfield 38, 3) := by decide +kernel
theorem dX0_sizeOfBeech_42 : decode cX0_sizeOfBeech 42 = .ok (.iload_n 2, 1) := by decide +kernel
theorem dX0_sizeOfBeech_43 : decode cX0_sizeOfBeech 43 = .ok (.iaload, 1) := by decide +kernel
theorem dX0_sizeOfBeech_44 : decode cX0_sizeOfBeech 44 = .ok (.aload_n 0, 1) := by decide +kernel
theorem dX0_sizeOfBeech_45 : decode cX0_sizeOfBeech 45 = .ok (.aload_n 1, 1) := by decide +kernel
theorem dX0_sizeOfBeech_46 : decode cX0_sizeOfBeech 46 = .ok (.iload_n 2, 1) := by decide +kernel
theorem dX0_sizeOfBeech_47 : decode cX0_sizeOfBeech 47 = .ok (.invokevirtual 31, 3) := by decide +kernel
theorem dX0_sizeOfBeech_50 : decode cX0_sizeOfBeech 50 = .ok (.iadd, 1) := by decide +kernel
theorem dX0_sizeOfBeech_51 : decode cX0_sizeOfBeech 51 = .ok (.istore 4, 2) := by decide +kernel
theorem dX0_sizeOfBeech_53 : decode cX0_sizeOfBeech 53 = .ok (.iload_n 3, 1) := by decide +kernel
theorem dX0_sizeOfBeech_54 : decode cX0_sizeOfBeech 54 = .ok (.ifCond .eq 9, 3) := by decide +kernel
theorem dX0_sizeOfBeech_57 : decode cX0_sizeOfBeech 57 = .ok (.iload 4, 2) := by decide +kernel
theorem dX0_sizeOfBeech_59 : decode cX0_sizeOfBeech 59 = .ok (.ineg, 1) := by decide +kernel
theorem dX0_sizeOfBeech_60 : decode cX0_sizeOfBeech 60 = .ok (.goto 5, 3) := by decide +kernel
theorem dX0_sizeOfBeech_63 : decode cX0_sizeOfBeech 63 = .ok (.iload 4, 2) := by decide +kernel
theorem dX0_sizeOfBeech_65 : decode cX0_sizeOfBeech 65 = .ok (.ireturn, 1) := by decide +kernel
theorem dX0_sizeOfPine_0 : decode cX0_sizeOfPine 0 = .ok (.aload_n 1, 1) := by decide +kernel
theorem dX0_sizeOfPine_1 : decode cX0_sizeOfPine 1 = .ok (.getfield 15, 3) := by decide +kernel
theorem dX0_sizeOfPine_4 : decode cX0_sizeOfPine 4 = .ok (.iload_n 2, 1) := by decide +kernel
theorem dX0_sizeOfPine_5 : decode cX0_sizeOfPine 5 = .ok (.iaload, 1) := by decide +kernel
theorem dX0_sizeOfPine_6 : decode cX0_sizeOfPine 6 = .ok (.iconst 5, 1) := by decide +kernel
theorem dX0_sizeOfPine_7 : decode cX0_sizeOfPine 7 = .ok (.if_icmp .ne 7, 3) := by decide +kernel
theorem dX0_sizeOfPine_10 : decode cX0_sizeOfPine 10 = .ok (.iconst 1, 1) := by decide +kernel
theorem dX0_sizeOfPine_11 : decode cX0_sizeOfPine 11 = .ok (.goto 4, 3) := by decide +kernel
theorem dX0_sizeOfPine_14 : decode cX0_sizeOfPine 14 = .ok (.iconst 0, 1) := by decide +kernel
theorem dX0_sizeOfPine_15 : decode cX0_sizeOfPine 15 = .ok (.istore_n 3, 1) := by decide +kernel
theorem dX0_sizeOfPine_16 : decode cX0_sizeOfPine 16 = .ok (.iload_n 3, 1) := by decide +kernel
theorem dX0_sizeOfPine_17 : decode cX0_sizeOfPine 17 = .ok (.ifCond .eq 9, 3) := by decide +kernel
theorem dX0_sizeOfPine_20 : decode cX0_sizeOfPine 20 = .ok (.aload_n 0, 1) := by decide +kernel
theorem dX0_sizeOfPine_21 : decode cX0_sizeOfPine 21 = .ok (.bipush 14, 2) := by decide +kernel
theorem dX0_sizeOfPine_23 : decode cX0_sizeOfPine 23 = .ok (.invokevirtual 34, 3) := by decide +kernel
theorem dX0_sizeOfPine_26 : decode cX0_sizeOfPine 26 = .ok (.aload_n 0, 1) := by decide +kernel
theorem dX0_sizeOfPine_27 : decode cX0_sizeOfPine 27 = .ok (.bipush 13, 2) := by decide +kernel
theorem dX0_sizeOfPine_29 : decode cX0_sizeOfPine 29 = .ok (.invokevirtual 34, 3) := by decide +kernel
theorem dX0_sizeOfPine_32 : decode cX0_sizeOfPine 32 = .ok (.aload_n 0, 1) := by decide +kernel
theorem dX0_sizeOfPine_33 : decode cX0_sizeOfPine 33 = .ok (.bipush 10, 2) := by decide +kernel
theorem dX0_sizeOfPine_35 : decode cX0_sizeOfPine 35 = .ok (.invokevirtual 34, 3) := by decide +kernel
theorem dX0_sizeOfPine_38 : decode cX0_sizeOfPine 38 = .ok (.aload_n 1, 1) := by decide +kernel
theorem dX0_sizeOfPine_39 : decode cX0_sizeOfPine 39 = .ok (.getfield 38, 3) := by decide +kernel
theorem dX0_sizeOfPine_42 : decode cX0_sizeOfPine 42 = .ok (.iload_n 2, 1) := by decide +kernel
theorem dX0_sizeOfPine_43 : decode cX0_sizeOfPine 43 = .ok (.iaload, 1) := by decide +kernel
theorem dX0_sizeOfPine_44 : decode cX0_sizeOfPine 44 = .ok (.bipush 100, 2) := by decide +kernel
theorem dX0_sizeOfPine_46 : decode cX0_sizeOfPine 46 = .ok (.isub, 1) := by decide +kernel
theorem dX0_sizeOfPine_47 : decode cX0_sizeOfPine 47 = .ok (.istore 4, 2) := by decide +kernel
theorem dX0_sizeOfPine_49 : decode cX0_sizeOfPine 49 = .ok (.iload_n 3, 1) := by decide +kernel
theorem dX0_sizeOfPine_50 : decode cX0_sizeOfPine 50 = .ok (.ifCond .eq 10, 3) := by decide +kernel
theorem dX0_sizeOfPine_53 : decode cX0_sizeOfPine 53 = .ok (.iconst 2, 1) := by decide +kernel
theorem dX0_sizeOfPine_54 : decode cX0_sizeOfPine 54 = .ok (.iload 4, 2) := by decide +kernel
theorem dX0_sizeOfPine_56 : decode cX0_sizeOfPine 56 = .ok (.imul, 1) := by decide +kernel
theorem dX0_sizeOfPine_57 : decode cX0_sizeOfPine 57 = .ok (.goto 5, 3) := by decide +kernel
theorem dX0_sizeOfPine_60 : decode cX0_sizeOfPine 60 = .ok (.iload 4, 2) := by decide +kernel
theorem dX0_sizeOfPine_62 : decode cX0_sizeOfPine 62 = .ok (.ireturn, 1) := by decide +kernel
theorem dX0_markOfBeech_0 : decode cX0_markOfBeech 0 = .ok (.aload_n 1, 1) := by decide +kernel
theorem dX0_markOfBeech_1 : decode cX0_markOfBeech 1 = .ok (.getfield 15, 3) := by decide +kernel
theorem dX0_markOfBeech_4 : decode cX0_markOfBeech 4 = .ok (.iload_n 2, 1) := by decide +kernel
theorem dX0_markOfBeech_5 : decode cX0_markOfBeech 5 = .ok (.iaload, 1) := by decide +kernel
theorem dX0_markOfBeech_6 : decode cX0_markOfBeech 6 = .ok (.istore_n 3, 1) := by decide +kernel
theorem dX0_markOfBeech_7 : decode cX0_markOfBeech 7 = .ok (.iload_n 3, 1) := by decide +kernel
theorem dX0_markOfBeech_8 : decode cX0_markOfBeech 8 = .ok (.iconst 2, 1) := by decide +kernel
theorem dX0_markOfBeech_9 : decode cX0_markOfBeech 9 = .ok (.if_icmp .ne 12, 3) := by decide +kernel
theorem dX0_markOfBeech_12 : decode cX0_markOfBeech 12 = .ok (.aload_n 0, 1) := by decide +kernel
theorem dX0_markOfBeech_13 : decode cX0_markOfBeech 13 = .ok (.bipush 24, 2) := by decide +kernel
theorem dX0_markOfBeech_15 : decode cX0_markOfBeech 15 = .ok (.invokevirtual 34, 3) := by decide +kernel
theorem dX0_markOfBeech_18 : decode cX0_markOfBeech 18 = .ok (.goto 14, 3) := by decide +kernel
theorem dX0_markOfBeech_21 : decode cX0_markOfBeech 21 = .ok (.iload_n 3, 1) := by decide +kernel
theorem dX0_markOfBeech_22 : decode cX0_markOfBeech 22 = .ok (.iconst 3, 1) := by decide +kernel
theorem dX0_markOfBeech_23 : decode cX0_markOfBeech 23 = .ok (.if_icmp .ne 9, 3) := by decide +kernel
theorem dX0_markOfBeech_26 : decode cX0_markOfBeech 26 = .ok (.aload_n 0, 1) := by decide +kernel
theorem dX0_markOfBeech_27 : decode cX0_markOfBeech 27 = .ok (.bipush 22, 2) := by decide +kernel
theorem dX0_markOfBeech_29 : decode cX0_markOfBeech 29 = .ok (.invokevirtual 34, 3) := by decide +kernel
theorem dX0_markOfBeech_32 : decode cX0_markOfBeech 32 = .ok (.aload_n 0, 1) := by decide +kernel
theorem dX0_markOfBeech_33 : decode cX0_markOfBeech 33 = .ok (.bipush 21, 2) := by decide +kernel
theorem dX0_markOfBeech_35 : decode cX0_markOfBeech 35 = .ok (.invokevirtual 34, 3) := by decide +kernel
theorem dX0_markOfBeech_38 : decode cX0_markOfBeech 38 = .ok (.aload_n 0, 1) := by decide +kernel
theorem dX0_markOfBeech_39 : decode cX0_markOfBeech 39 = .ok (.bipush 20, 2) := by decide +kernel
theorem dX0_markOfBeech_41 : decode cX0_markOfBeech 41 = .ok (.invokevirtual 34, 3) := by decide +kernel
theorem dX0_markOfBeech_44 : decode cX0_markOfBeech 44 = .ok (.iload_n 2, 1) := by decide +kernel
theorem dX0_markOfBeech_45 : decode cX0_markOfBeech 45 = .ok (.aload_n 1, 1) := by decide +kernel
theorem dX0_markOfBeech_46 : decode cX0_markOfBeech 46 = .ok (.getfield 41, 3) := by decide +kernel
theorem dX0_markOfBeech_49 : decode cX0_markOfBeech 49 = .ok (.iload_n 2, 1) := by decide +kernel
theorem dX0_markOfBeech_50 : decode cX0_markOfBeech 50 = .ok (.iaload, 1) := by decide +kernel
theorem dX0_markOfBeech_51 : decode cX0_markOfBeech 51 = .ok (.iadd, 1) := by decide +kernel
theorem dX0_markOfBeech_52 : decode cX0_markOfBeech 52 = .ok (.istore 4, 2) := by decide +kernel
theorem dX0_markOfBeech_54 : decode cX0_markOfBeech 54 = .ok (.iload_n 3, 1) := by decide +kernel
theorem dX0_markOfBeech_55 : decode cX0_markOfBeech 55 = .ok (.iconst 2, 1) := by decide +kernel
theorem dX0_markOfBeech_56 : decode cX0_markOfBeech 56 = .ok (.if_icmp .ne 8, 3) := by decide +kernel
theorem dX0_markOfBeech_59 : decode cX0_markOfBeech 59 = .ok (.iconst 2, 1) := by decide +kernel
theorem dX0_markOfBeech_60 : decode cX0_markOfBeech 60 = .ok (.iload 4, 2) := by decide +kernel
theorem dX0_markOfBeech_62 : decode cX0_markOfBeech 62 = .ok (.imul, 1) := by decide +kernel
theorem dX0_markOfBeech_63 : decode cX0_markOfBeech 63 = .ok (.ireturn, 1) := by decide +kernel
theorem dX0_markOfBeech_64 : decode cX0_markOfBeech 64 = .ok (.iload_n 3, 1) := by decide +kernel
theorem dX0_markOfBeech_65 : decode cX0_markOfBeech 65 = .ok (.iconst 3, 1) := by decide +kernel
theorem dX0_markOfBeech_66 : decode cX0_markOfBeech 66 = .ok (.if_icmp .ne 12, 3) := by decide +kernel
theorem dX0_markOfBeech_69 : decode cX0_markOfBeech 69 = .ok (.iload 4, 2) := by decide +kernel
theorem dX0_markOfBeech_71 : decode cX0_markOfBeech 71 = .ok (.sipush 1000, 3) := by decide +kernel
theorem dX0_markOfBeech_74 : decode cX0_markOfBeech 74 = .ok (.isub, 1) := by decide +kernel
theorem dX0_markOfBeech_75 : decode cX0_markOfBeech 75 = .ok (.goto 5, 3) := by decide +kernel
theorem dX0_markOfBeech_78 : decode cX0_markOfBeech 78 = .ok (.iload 4, 2) := by decide +kernel
theorem dX0_markOfBeech_80 : decode cX0_markOfBeech 80 = .ok (.ireturn, 1) := by decide +kernel
theorem dX0_note_0 : decode cX0_note 0 = .ok (.aload_n 0, 1) := by decide +kernel
theorem dX0_note_1 : decode cX0_note 1 = .ok (.getfield 44, 3) := by decide +kernel
theorem dX0_note_4 : decode cX0_note 4 = .ok (.bipush 16, 2) := by decide +kernel
theorem dX0_note_6 : decode cX0_note 6 = .ok (.if_icmp .ge 23, 3) := by decide +kernel
theorem dX0_note_9 : decode cX0_note 9 = .ok (.aload_n 0, 1) := by decide +kernel
theorem dX0_note_10 : decode cX0_note 10 = .ok (.getfield 9, 3) := by decide +kernel
theorem dX0_note_13 : decode cX0_note 13 = .ok (.aload_n 0, 1) := by decide +kernel
theorem dX0_note_14 : decode cX0_note 14 = .ok (.getfield 44, 3) := by decide +kernel
theorem dX0_note_17 : decode cX0_note 17 = .ok (.iload_n 1, 1) := by decide +kernel
theorem dX0_note_18 : decode cX0_note 18 = .ok (.iastore, 1) := by decide +kernel
theorem dX0_note_19 : decode cX0_note 19 = .ok (.aload_n 0, 1) := by decide +kernel
theorem dX0_note_20 : decode cX0_note 20 = .ok (.dup, 1) := by decide +kernel
theorem dX0_note_21 : decode cX0_note 21 = .ok (.getfield 44, 3) := by decide +kernel
theorem dX0_note_24 : decode cX0_note 24 = .ok (.iconst 1, 1) := by decide +kernel
theorem dX0_note_25 : decode cX0_note 25 = .ok (.iadd, 1) := by decide +kernel
theorem dX0_note_26 : decode cX0_note 26 = .ok (.putfield 44, 3) := by decide +kernel
theorem dX0_note_29 : decode cX0_note 29 = .ok (.return_, 1) := by decide +kernel
theorem dX1_init_0 : decode cX1_init 0 = .ok (.aload_n 0, 1) := by decide +kernel
theorem dX1_init_1 : decode cX1_init 1 = .ok (.invokespecial 3, 3) := by decide +kernel
theorem dX1_init_4 : decode cX1_init 4 = .ok (.aload_n 0, 1) := by decide +kernel
theorem dX1_init_5 : decode cX1_init 5 = .ok (.bipush 24, 2) := by decide +kernel
theorem dX1_init_7 : decode cX1_init 7 = .ok (.anewarray 9, 3) := by decide +kernel
theorem dX1_init_10 : decode cX1_init 10 = .ok (.putfield 11, 3) := by decide +kernel
theorem dX1_init_13 : decode cX1_init 13 = .ok (.iconst 0, 1) := by decide +kernel
theorem dX1_init_14 : decode cX1_init 14 = .ok (.istore_n 1, 1) := by decide +kernel
theorem dX1_init_15 : decode cX1_init 15 = .ok (.iload_n 1, 1) := by decide +kernel
theorem dX1_init_16 : decode cX1_init 16 = .ok (.aload_n 0, 1) := by decide +kernel
theorem dX1_init_17 : decode cX1_init 17 = .ok (.getfield 11, 3) := by decide +kernel
theorem dX1_init_20 : decode cX1_init 20 = .ok (.arraylength, 1) := by decide +kernel
theorem dX1_init_21 : decode cX1_init 21 = .ok (.if_icmp .ge 22, 3) := by decide +kernel
theorem dX1_init_24 : decode cX1_init 24 = .ok (.aload_n 0, 1) := by decide +kernel
theorem dX1_init_25 : decode cX1_init 25 = .ok (.getfield 11, 3) := by decide +kernel
theorem dX1_init_28 : decode cX1_init 28 = .ok (.iload_n 1, 1) := by decide +kernel
theorem dX1_init_29 : decode cX1_init 29 = .ok (.new 9, 3) := by decide +kernel
theorem dX1_init_32 : decode cX1_init 32 = .ok (.dup, 1) := by decide +kernel
theorem dX1_init_33 : decode cX1_init 33 = .ok (.invokespecial 17, 3) := by decide +kernel
theorem dX1_init_36 : decode cX1_init 36 = .ok (.aastore, 1) := by decide +kernel
theorem dX1_init_37 : decode cX1_init 37 = .ok (.iinc 1 1, 3) := by decide +kernel
theorem dX1_init_40 : decode cX1_init 40 = .ok (.goto (-25), 3) := by decide +kernel
theorem dX1_init_43 : decode cX1_init 43 = .ok (.return_, 1) := by decide +kernel
theorem dX1_keep_0 : decode cX1_keep 0 = .ok (.aload_n 0, 1) := by decide +kernel
theorem dX1_keep_1 : decode cX1_keep 1 = .ok (.getfield 11, 3) := by decide +kernel
theorem dX1_keep_4 : decode cX1_keep 4 = .ok (.aload_n 0, 1) := by decide +kernel
theorem dX1_keep_5 : decode cX1_keep 5 = .ok (.getfield 18, 3) := by decide +kernel
theorem dX1_keep_8 : decode cX1_keep 8 = .ok (.aaload, 1) := by decide +kernel
theorem dX1_keep_9 : decode cX1_keep 9 = .ok (.aload_n 1, 1) := by decide +kernel
theorem dX1_keep_10 : decode cX1_keep 10 = .ok (.invokevirtual 22, 3) := by decide +kernel
theorem dX1_keep_13 : decode cX1_keep 13 = .ok (.aload_n 0, 1) := by decide +kernel
theorem dX1_keep_14 : decode cX1_keep 14 = .ok (.aload_n 0, 1) := by decide +kernel
theorem dX1_keep_15 : decode cX1_keep 15 = .ok (.getfield 18, 3) := by decide +kernel
theorem dX1_keep_18 : decode cX1_keep 18 = .ok (.iconst 1, 1) := by decide +kernel
theorem dX1_keep_19 : decode cX1_keep 19 = .ok (.iadd, 1) := by decide +kernel
theorem dX1_keep_20 : decode cX1_keep 20 = .ok (.bipush 24, 2) := by decide +kernel
theorem dX1_keep_22 : decode cX1_keep 22 = .ok (.irem, 1) := by decide +kernel
theorem dX1_keep_23 : decode cX1_keep 23 = .ok (.putfield 18, 3) := by decide +kernel
theorem dX1_keep_26 : decode cX1_keep 26 = .ok (.aload_n 0, 1) := by decide +kernel
theorem dX1_keep_27 : decode cX1_keep 27 = .ok (.aload_n 0, 1) := by decide +kernel
theorem dX1_keep_28 : decode cX1_keep 28 = .ok (.getfield 26, 3) := by decide +kernel
theorem dX1_keep_31 : decode cX1_keep 31 = .ok (.iconst 1, 1) := by decide +kernel
theorem dX1_keep_32 : decode cX1_keep 32 = .ok (.iadd, 1) := by decide +kernel
theorem dX1_keep_33 : decode cX1_keep 33 = .ok (.bipush 24, 2) := by decide +kernel
theorem dX1_keep_35 : decode cX1_keep 35 = .ok (.invokestatic 29, 3) := by decide +kernel
theorem dX1_keep_38 : decode cX1_keep 38 = .ok (.putfield 26, 3) := by decide +kernel
theorem dX1_keep_41 : decode cX1_keep 41 = .ok (.return_, 1) := by decide +kernel
theorem dX1_bringBack_0 : decode cX1_bringBack 0 = .ok (.aload_n 0, 1) := by decide +kernel
theorem dX1_bringBack_1 : decode cX1_bringBack 1 = .ok (.getfield 26, 3) := by decide +kernel
theorem dX1_bringBack_4 : decode cX1_bringBack 4 = .ok (.ifCond .le 42, 3) := by decide +kernel
theorem dX1_bringBack_7 : decode cX1_bringBack 7 = .ok (.aload_n 0, 1) := by decide +kernel
theorem dX1_bringBack_8 : decode cX1_bringBack 8 = .ok (.dup, 1) := by decide +kernel
theorem dX1_bringBack_9 : decode cX1_bringBack 9 = .ok (.getfield 26, 3) := by decide +kernel
theorem dX1_bringBack_12 : decode cX1_bringBack 12 = .ok (.iconst 1, 1) := by decide +kernel
theorem dX1_bringBack_13 : decode cX1_bringBack 13 = .ok (.isub, 1) := by decide +kernel
theorem dX1_bringBack_14 : decode cX1_bringBack 14 = .ok (.putfield 26, 3) := by decide +kernel
theorem dX1_bringBack_17 : decode cX1_bringBack 17 = .ok (.aload_n 0, 1) := by decide +kernel
theorem dX1_bringBack_18 : decode cX1_bringBack 18 = .ok (.aload_n 0, 1) := by decide +kernel
theorem dX1_bringBack_19 : decode cX1_bringBack 19 = .ok (.getfield 18, 3) := by decide +kernel
theorem dX1_bringBack_22 : decode cX1_bringBack 22 = .ok (.bipush 24, 2) := by decide +kernel
theorem dX1_bringBack_24 : decode cX1_bringBack 24 = .ok (.iadd, 1) := by decide +kernel
theorem dX1_bringBack_25 : decode cX1_bringBack 25 = .ok (.iconst 1, 1) := by decide +kernel
theorem dX1_bringBack_26 : decode cX1_bringBack 26 = .ok (.isub, 1) := by decide +kernel
theorem dX1_bringBack_27 : decode cX1_bringBack 27 = .ok (.bipush 24, 2) := by decide +kernel
theorem dX1_bringBack_29 : decode cX1_bringBack 29 = .ok (.irem, 1) := by decide +kernel
theorem dX1_bringBack_30 : decode cX1_bringBack 30 = .ok (.putfield 18, 3) := by decide +kernel
theorem dX1_bringBack_33 : decode cX1_bringBack 33 = .ok (.aload_n 1, 1) := by decide +kernel
theorem dX1_bringBack_34 : decode cX1_bringBack 34 = .ok (.aload_n 0, 1) := by decide +kernel
theorem dX1_bringBack_35 : decode cX1_bringBack 35 = .ok (.getfield 11, 3) := by decide +kernel
theorem dX1_bringBack_38 : decode cX1_bringBack 38 = .ok (.aload_n 0, 1) := by decide +kernel
theorem dX1_bringBack_39 : decode cX1_bringBack 39 = .ok (.getfield 18, 3) := by decide +kernel
theorem dX1_bringBack_42 : decode cX1_bringBack 42 = .ok (.aaload, 1) := by decide +kernel
theorem dX1_bringBack_43 : decode cX1_bringBack 43 = .ok (.invokevirtual 22, 3) := by decide +kernel
theorem dX1_bringBack_46 : decode cX1_bringBack 46 = .ok (.return_, 1) := by decide +kernel
theorem dX1_forget_0 : decode cX1_forget 0 = .ok (.aload_n 0, 1) := by decide +kernel
theorem dX1_forget_1 : decode cX1_forget 1 = .ok (.iconst 0, 1) := by decide +kernel
theorem dX1_forget_2 : decode cX1_forget 2 = .ok (.putfield 26, 3) := by decide +kernel
theorem dX1_forget_5 : decode cX1_forget 5 = .ok (.return_, 1) := by decide +kernel
theorem dX2_init_0 : decode cX2_init 0 = .ok (.aload_n 0, 1) := by decide +kernel
theorem dX2_init_1 : decode cX2_init 1 = .ok (.invokespecial 3, 3) := by decide +kernel
theorem dX2_init_4 : decode cX2_init 4 = .ok (.aload_n 0, 1) := by decide +kernel
theorem dX2_init_5 : decode cX2_init 5 = .ok (.bipush 8, 2) := by decide +kernel
theorem dX2_init_7 : decode cX2_init 7 = .ok (.newarray .int, 2) := by decide +kernel
theorem dX2_init_9 : decode cX2_init 9 = .ok (.putfield 9, 3) := by decide +kernel
theorem dX2_init_12 : decode cX2_init 12 = .ok (.return_, 1) := by decide +kernel
theorem dX2_lookAt_0 : decode cX2_lookAt 0 = .ok (.aload_n 0, 1) := by decide +kernel
theorem dX2_lookAt_1 : decode cX2_lookAt 1 = .ok (.getfield 9, 3) := by decide +kernel
theorem dX2_lookAt_4 : decode cX2_lookAt 4 = .ok (.iconst 0, 1) := by decide +kernel
theorem dX2_lookAt_5 : decode cX2_lookAt 5 = .ok (.invokestatic 15, 3) := by decide +kernel
theorem dX2_lookAt_8 : decode cX2_lookAt 8 = .ok (.iconst 0, 1) := by decide +kernel
theorem dX2_lookAt_9 : decode cX2_lookAt 9 = .ok (.istore_n 2, 1) := by decide +kernel
theorem dX2_lookAt_10 : decode cX2_lookAt 10 = .ok (.iload_n 2, 1) := by decide +kernel
theorem dX2_lookAt_11 : decode cX2_lookAt 11 = .ok (.aload_n 1, 1) := by decide +kernel
theorem dX2_lookAt_12 : decode cX2_lookAt 12 = .ok (.getfield 21, 3) := by decide +kernel
theorem dX2_lookAt_15 : decode cX2_lookAt 15 = .ok (.if_icmp .ge 51, 3) := by decide +kernel
theorem dX2_lookAt_18 : decode cX2_lookAt 18 = .ok (.iconst 0, 1) := by decide +kernel
theorem dX2_lookAt_19 : decode cX2_lookAt 19 = .ok (.istore_n 3, 1) := by decide +kernel
theorem dX2_lookAt_20 : decode cX2_lookAt 20 = .ok (.iload_n 3, 1) := by decide +kernel
theorem dX2_lookAt_21 : decode cX2_lookAt 21 = .ok (.aload_n 1, 1) := by decide +kernel
theorem dX2_lookAt_22 : decode cX2_lookAt 22 = .ok (.getfield 21, 3) := by decide +kernel
theorem dX2_lookAt_25 : decode cX2_lookAt 25 = .ok (.if_icmp .ge 35, 3) := by decide +kernel
theorem dX2_lookAt_28 : decode cX2_lookAt 28 = .ok (.iload_n 2, 1) := by decide +kernel
theorem dX2_lookAt_29 : decode cX2_lookAt 29 = .ok (.iload_n 3, 1) := by decide +kernel
theorem dX2_lookAt_30 : decode cX2_lookAt 30 = .ok (.if_icmp .eq 24, 3) := by decide +kernel
theorem dX2_lookAt_33 : decode cX2_lookAt 33 = .ok (.aload_n 1, 1) := by decide +kernel
theorem dX2_lookAt_34 : decode cX2_lookAt 34 = .ok (.iload_n 2, 1) := by decide +kernel
theorem dX2_lookAt_35 : decode cX2_lookAt 35 = .ok (.iload_n 3, 1) := by decide +kernel
theorem dX2_lookAt_36 : decode cX2_lookAt 36 = .ok (.invokevirtual 27, 3) := by decide +kernel
theorem dX2_lookAt_39 : decode cX2_lookAt 39 = .ok (.ifCond .eq 15, 3) := by decide +kernel
theorem dX2_lookAt_42 : decode cX2_lookAt 42 = .ok (.aload_n 0, 1) := by decide +kernel
theorem dX2_lookAt_43 : decode cX2_lookAt 43 = .ok (.getfield 9, 3) := by decide +kernel
theorem dX2_lookAt_46 : decode cX2_lookAt 46 = .ok (.iload_n 2, 1) := by decide +kernel
theorem dX2_lookAt_47 : decode cX2_lookAt 47 = .ok (.dup2, 1) := by decide +kernel
theorem dX2_lookAt_48 : decode cX2_lookAt 48 = .ok (.iaload, 1) := by decide +kernel
theorem dX2_lookAt_49 : decode cX2_lookAt 49 = .ok (.iconst 1, 1) := by decide +kernel
theorem dX2_lookAt_50 : decode cX2_lookAt 50 = .ok (.iload_n 3, 1) := by decide +kernel
theorem dX2_lookAt_51 : decode cX2_lookAt 51 = .ok (.ishl, 1) := by decide +kernel
theorem dX2_lookAt_52 : decode cX2_lookAt 52 = .ok (.ior, 1) := by decide +kernel
theorem dX2_lookAt_53 : decode cX2_lookAt 53 = .ok (.iastore, 1) := by decide +kernel
theorem dX2_lookAt_54 : decode cX2_lookAt 54 = .ok (.iinc 3 1, 3) := by decide +kernel
theorem dX2_lookAt_57 : decode cX2_lookAt 57 = .ok (.goto (-37), 3) := by decide +kernel
theorem dX2_lookAt_60 : decode cX2_lookAt 60 = .ok (.iinc 2 1, 3) := by decide +kernel
theorem dX2_lookAt_63 : decode cX2_lookAt 63 = .ok (.goto (-53), 3) := by decide +kernel
theorem dX2_lookAt_66 : decode cX2_lookAt 66 = .ok (.return_, 1) := by decide +kernel
theorem dX2_reached_0 : decode cX2_reached 0 = .ok (.iconst 1, 1) := by decide +kernel
theorem dX2_reached_1 : decode cX2_reached 1 = .ok (.iload_n 1, 1) := by decide +kernel
theorem dX2_reached_2 : decode cX2_reached 2 = .ok (.ishl, 1) := by decide +kernel
theorem dX2_reached_3 : decode cX2_reached 3 = .ok (.istore_n 3, 1) := by decide +kernel
theorem dX2_reached_4 : decode cX2_reached 4 = .ok (.iload_n 3, 1) := by decide +kernel
theorem dX2_reached_5 : decode cX2_reached 5 = .ok (.istore 4, 2) := by decide +kernel
theorem dX2_reached_7 : decode cX2_reached 7 = .ok (.iconst 0, 1) := by decide +kernel
theorem dX2_reached_8 : decode cX2_reached 8 = .ok (.istore 5, 2) := by decide +kernel
theorem dX2_reached_10 : decode cX2_reached 10 = .ok (.iload 5, 2) := by decide +kernel
theorem dX2_reached_12 : decode cX2_reached 12 = .ok (.bipush 8, 2) := by decide +kernel
theorem dX2_reached_14 : decode cX2_reached 14 = .ok (.if_icmp .ge 33, 3) := by decide +kernel
theorem dX2_reached_17 : decode cX2_reached 17 = .ok (.iload 4, 2) := by decide +kernel
theorem dX2_reached_19 : decode cX2_reached 19 = .ok (.ifCond .eq 28, 3) := by decide +kernel
theorem dX2_reached_22 : decode cX2_reached 22 = .ok (.aload_n 0, 1) := by decide +kernel
theorem dX2_reached_23 : decode cX2_reached 23 = .ok (.iload 4, 2) := by decide +kernel
theorem dX2_reached_25 : decode cX2_reached 25 = .ok (.invokevirtual 31, 3) := by decide +kernel
theorem dX2_reached_28 : decode cX2_reached 28 = .ok (.iload_n 2, 1) := by decide +kernel
theorem dX2_reached_29 : decode cX2_reached 29 = .ok (.iand, 1) := by decide +kernel
theorem dX2_reached_30 : decode cX2_reached 30 = .ok (.iload_n 3, 1) := by decide +kernel
theorem dX2_reached_31 : decode cX2_reached 31 = .ok (.iconst (-1), 1) := by decide +kernel
theorem dX2_reached_32 : decode cX2_reached 32 = .ok (.ixor, 1) := by decide +kernel
theorem dX2_reached_33 : decode cX2_reached 33 = .ok (.iand, 1) := by decide +kernel
theorem dX2_reached_34 : decode cX2_reached 34 = .ok (.istore 4, 2) := by decide +kernel
theorem dX2_reached_36 : decode cX2_reached 36 = .ok (.iload_n 3, 1) := by decide +kernel
theorem dX2_reached_37 : decode cX2_reached 37 = .ok (.iload 4, 2) := by decide +kernel
theorem dX2_reached_39 : decode cX2_reached 39 = .ok (.ior, 1) := by decide +kernel
theorem dX2_reached_40 : decode cX2_reached 40 = .ok (.istore_n 3, 1) := by decide +kernel
theorem dX2_reached_41 : decode cX2_reached 41 = .ok (.iinc 5 1, 3) := by decide +kernel
theorem dX2_reached_44 : decode cX2_reached 44 = .ok (.goto (-34), 3) := by decide +kernel
theorem dX2_reached_47 : decode cX2_reached 47 = .ok (.iload_n 3, 1) := by decide +kernel
theorem dX2_reached_48 : decode cX2_reached 48 = .ok (.ireturn, 1) := by decide +kernel
theorem dX2_nextTo_0 : decode cX2_nextTo 0 = .ok (.iconst 0, 1) := by decide +kernel
theorem dX2_nextTo_1 : decode cX2_nextTo 1 = .ok (.istore_n 2, 1) := by decide +kernel
theorem dX2_nextTo_2 : decode cX2_nextTo 2 = .ok (.iconst 0, 1) := by decide +kernel
theorem dX2_nextTo_3 : decode cX2_nextTo 3 = .ok (.istore_n 3, 1) := by decide +kernel
theorem dX2_nextTo_4 : decode cX2_nextTo 4 = .ok (.iload_n 3, 1) := by decide +kernel
theorem dX2_nextTo_5 : decode cX2_nextTo 5 = .ok (.bipush 8, 2) := by decide +kernel
theorem dX2_nextTo_7 : decode cX2_nextTo 7 = .ok (.if_icmp .ge 30, 3) := by decide +kernel
theorem dX2_nextTo_10 : decode cX2_nextTo 10 = .ok (.iload_n 2, 1) := by decide +kernel
theorem dX2_nextTo_11 : decode cX2_nextTo 11 = .ok (.iload_n 1, 1) := by decide +kernel
theorem dX2_nextTo_12 : decode cX2_nextTo 12 = .ok (.iload_n 3, 1) := by decide +kernel
theorem dX2_nextTo_13 : decode cX2_nextTo 13 = .ok (.invokestatic 35, 3) := by decide +kernel
theorem dX2_nextTo_16 : decode cX2_nextTo 16 = .ok (.ifCond .eq 12, 3) := by decide +kernel
theorem dX2_nextTo_19 : decode cX2_nextTo 19 = .ok (.aload_n 0, 1) := by decide +kernel
theorem dX2_nextTo_20 : decode cX2_nextTo 20 = .ok (.getfield 9, 3) := by decide +kernel
theorem dX2_nextTo_23 : decode cX2_nextTo 23 = .ok (.iload_n 3, 1) := by decide +kernel
theorem dX2_nextTo_24 : decode cX2_nextTo 24 = .ok (.iaload, 1) := by decide +kernel
theorem dX2_nextTo_25 : decode cX2_nextTo 25 = .ok (.goto 4, 3) := by decide +kernel
theorem dX2_nextTo_28 : decode cX2_nextTo 28 = .ok (.iconst 0, 1) := by decide +kernel
theorem dX2_nextTo_29 : decode cX2_nextTo 29 = .ok (.ior, 1) := by decide +kernel
theorem dX2_nextTo_30 : decode cX2_nextTo 30 = .ok (.istore_n 2, 1) := by decide +kernel
theorem dX2_nextTo_31 : decode cX2_nextTo 31 = .ok (.iinc 3 1, 3) := by decide +kernel
theorem dX2_nextTo_34 : decode cX2_nextTo 34 = .ok (.goto (-30), 3) := by decide +kernel
theorem dX2_nextTo_37 : decode cX2_nextTo 37 = .ok (.iload_n 2, 1) := by decide +kernel
theorem dX2_nextTo_38 : decode cX2_nextTo 38 = .ok (.ireturn, 1) := by decide +kernel
theorem dX3_init_0 : decode cX3_init 0 = .ok (.aload_n 0, 1) := by decide +kernel
theorem dX3_init_1 : decode cX3_init 1 = .ok (.invokespecial 3, 3) := by decide +kernel
theorem dX3_init_4 : decode cX3_init 4 = .ok (.aload_n 0, 1) := by decide +kernel
theorem dX3_init_5 : decode cX3_init 5 = .ok (.bipush 40, 2) := by decide +kernel
theorem dX3_init_7 : decode cX3_init 7 = .ok (.newarray .int, 2) := by decide +kernel
theorem dX3_init_9 : decode cX3_init 9 = .ok (.putfield 9, 3) := by decide +kernel
theorem dX3_init_12 : decode cX3_init 12 = .ok (.return_, 1) := by decide +kernel
theorem dX3_begin_0 : decode cX3_begin 0 = .ok (.aload_n 0, 1) := by decide +kernel
theorem dX3_begin_1 : decode cX3_begin 1 = .ok (.iconst 1, 1) := by decide +kernel
theorem dX3_begin_2 : decode cX3_begin 2 = .ok (.putfield 15, 3) := by decide +kernel
theorem dX3_begin_5 : decode cX3_begin 5 = .ok (.aload_n 0, 1) := by decide +kernel
theorem dX3_begin_6 : decode cX3_begin 6 = .ok (.iload_n 1, 1) := by decide +kernel
theorem dX3_begin_7 : decode cX3_begin 7 = .ok (.putfield 19, 3) := by decide +kernel
theorem dX3_begin_10 : decode cX3_begin 10 = .ok (.aload_n 0, 1) := by decide +kernel
theorem dX3_begin_11 : decode cX3_begin 11 = .ok (.iload_n 2, 1) := by decide +kernel
theorem dX3_begin_12 : decode cX3_begin 12 = .ok (.putfield 23, 3) := by decide +kernel
theorem dX3_begin_15 : decode cX3_begin 15 = .ok (.aload_n 0, 1) := by decide +kernel
theorem dX3_begin_16 : decode cX3_begin 16 = .ok (.getfield 9, 3) := by decide +kernel
theorem dX3_begin_19 : decode cX3_begin 19 = .ok (.iconst 0, 1) := by decide +kernel
theorem dX3_begin_20 : decode cX3_begin 20 = .ok (.invokestatic 26, 3) := by decide +kernel
theorem dX3_begin_23 : decode cX3_begin 23 = .ok (.return_, 1) := by decide +kernel
theorem dX3_narrowed_0 : decode cX3_narrowed 0 = .ok (.aload_n 0, 1) := by decide +kernel
theorem dX3_narrowed_1 : decode cX3_narrowed 1 = .ok (.getfield 19, 3) := by decide +kernel
theorem dX3_narrowed_4 : decode cX3_narrowed 4 = .ok (.lookupswitch 34 #[(0, 28), (1, 31)], 28) := by decide +kernel
theorem dX3_narrowed_32 : decode cX3_narrowed 32 = .ok (.iload_n 1, 1) := by decide +kernel
theorem dX3_narrowed_33 : decode cX3_narrowed 33 = .ok (.i2b, 1) := by decide +kernel
theorem dX3_narrowed_34 : decode cX3_narrowed 34 = .ok (.ireturn, 1) := by decide +kernel
theorem dX3_narrowed_35 : decode cX3_narrowed 35 = .ok (.iload_n 1, 1) := by decide +kernel
theorem dX3_narrowed_36 : decode cX3_narrowed 36 = .ok (.i2s, 1) := by decide +kernel
theorem dX3_narrowed_37 : decode cX3_narrowed 37 = .ok (.ireturn, 1) := by decide +kernel
theorem dX3_narrowed_38 : decode cX3_narrowed 38 = .ok (.iload_n 1, 1) := by decide +kernel
theorem dX3_narrowed_39 : decode cX3_narrowed 39 = .ok (.ireturn, 1) := by decide +kernel
theorem dX3_spans_0 : decode cX3_spans 0 = .ok (.iload_n 2, 1) := by decide +kernel
theorem dX3_spans_1 : decode cX3_spans 1 = .ok (.ifCond .lt 21, 3) := by decide +kernel
theorem dX3_spans_4 : decode cX3_spans 4 = .ok (.iload_n 1, 1) := by decide +kernel
theorem dX3_spans_5 : decode cX3_spans 5 = .ok (.ifCond .lt 17, 3) := by decide +kernel
theorem dX3_spans_8 : decode cX3_spans 8 = .ok (.iload_n 1, 1) := by decide +kernel
theorem dX3_spans_9 : decode cX3_spans 9 = .ok (.aload_n 0, 1) := by decide +kernel
theorem dX3_spans_10 : decode cX3_spans 10 = .ok (.getfield 23, 3) := by decide +kernel
theorem dX3_spans_13 : decode cX3_spans 13 = .ok (.iload_n 2, 1) := by decide +kernel
theorem dX3_spans_14 : decode cX3_spans 14 = .ok (.isub, 1) := by decide +kernel
theorem dX3_spans_15 : decode cX3_spans 15 = .ok (.if_icmp .gt 7, 3) := by decide +kernel
theorem dX3_spans_18 : decode cX3_spans 18 = .ok (.iconst 1, 1) := by decide +kernel
theorem dX3_spans_19 : decode cX3_spans 19 = .ok (.goto 4, 3) := by decide +kernel
theorem dX3_spans_22 : decode cX3_spans 22 = .ok (.iconst 0, 1) := by decide +kernel
theorem dX3_spans_23 : decode cX3_spans 23 = .ok (.ireturn, 1) := by decide +kernel
theorem dX4_init_0 : decode cX4_init 0 = .ok (.aload_n 0, 1) := by decide +kernel
theorem dX4_init_1 : decode cX4_init 1 = .ok (.invokespecial 3, 3) := by decide +kernel
theorem dX4_init_4 : decode cX4_init 4 = .ok (.aload_n 0, 1) := by decide +kernel
theorem dX4_init_5 : decode cX4_init 5 = .ok (.sipush 140, 3) := by decide +kernel
theorem dX4_init_8 : decode cX4_init 8 = .ok (.newarray .int, 2) := by decide +kernel
theorem dX4_init_10 : decode cX4_init 10 = .ok (.putfield 9, 3) := by decide +kernel
theorem dX4_init_13 : decode cX4_init 13 = .ok (.return_, 1) := by decide +kernel
theorem dX4_takes_0 : decode cX4_takes 0 = .ok (.aload_n 0, 1) := by decide +kernel
theorem dX4_takes_1 : decode cX4_takes 1 = .ok (.getfield 15, 3) := by decide +kernel
theorem dX4_takes_4 : decode cX4_takes 4 = .ok (.aload_n 0, 1) := by decide +kernel
theorem dX4_takes_5 : decode cX4_takes 5 = .ok (.getfield 9, 3) := by decide +kernel
theorem dX4_takes_8 : decode cX4_takes 8 = .ok (.arraylength, 1) := by decide +kernel
theorem dX4_takes_9 : decode cX4_takes 9 = .ok (.if_icmp .lt 5, 3) := by decide +kernel
theorem dX4_takes_12 : decode cX4_takes 12 = .ok (.iconst 0, 1) := by decide +kernel
theorem dX4_takes_13 : decode cX4_takes 13 = .ok (.ireturn, 1) := by decide +kernel
theorem dX4_takes_14 : decode cX4_takes 14 = .ok (.aload_n 0, 1) := by decide +kernel
theorem dX4_takes_15 : decode cX4_takes 15 = .ok (.getfield 9, 3) := by decide +kernel
theorem dX4_takes_18 : decode cX4_takes 18 = .ok (.aload_n 0, 1) := by decide +kernel
theorem dX4_takes_19 : decode cX4_takes 19 = .ok (.getfield 15, 3) := by decide +kernel
theorem dX4_takes_22 : decode cX4_takes 22 = .ok (.iload_n 1, 1) := by decide +kernel
theorem dX4_takes_23 : decode cX4_takes 23 = .ok (.iastore, 1) := by decide +kernel
theorem dX4_takes_24 : decode cX4_takes 24 = .ok (.aload_n 0, 1) := by decide +kernel
theorem dX4_takes_25 : decode cX4_takes 25 = .ok (.dup, 1) := by decide +kernel
theorem dX4_takes_26 : decode cX4_takes 26 = .ok (.getfield 15, 3) := by decide +kernel
theorem dX4_takes_29 : decode cX4_takes 29 = .ok (.iconst 1, 1) := by decide +kernel
theorem dX4_takes_30 : decode cX4_takes 30 = .ok (.iadd, 1) := by decide +kernel
theorem dX4_takes_31 : decode cX4_takes 31 = .ok (.putfield 15, 3) := by decide +kernel
theorem dX4_takes_34 : decode cX4_takes 34 = .ok (.iconst 1, 1) := by decide +kernel
theorem dX4_takes_35 : decode cX4_takes 35 = .ok (.ireturn, 1) := by decide +kernel
theorem dX4_tells_0 : decode cX4_tells 0 = .ok (.aload_n 0, 1) := by decide +kernel
theorem dX4_tells_1 : decode cX4_tells 1 = .ok (.iconst 0, 1) := by decide +kernel
theorem dX4_tells_2 : decode cX4_tells 2 = .ok (.putfield 19, 3) := by decide +kernel
theorem dX4_tells_5 : decode cX4_tells 5 = .ok (.aload_n 0, 1) := by decide +kernel
theorem dX4_tells_6 : decode cX4_tells 6 = .ok (.aload_n 1, 1) := by decide +kernel
theorem dX4_tells_7 : decode cX4_tells 7 = .ok (.invokevirtual 22, 3) := by decide +kernel
theorem dX4_tells_10 : decode cX4_tells 10 = .ok (.ifCond .ne 5, 3) := by decide +kernel
theorem dX4_tells_13 : decode cX4_tells 13 = .ok (.iconst 0, 1) := by decide +kernel
theorem dX4_tells_14 : decode cX4_tells 14 = .ok (.ireturn, 1) := by decide +kernel
theorem dX4_tells_15 : decode cX4_tells 15 = .ok (.iconst 0, 1) := by decide +kernel
theorem dX4_tells_16 : decode cX4_tells 16 = .ok (.istore_n 2, 1) := by decide +kernel
theorem dX4_tells_17 : decode cX4_tells 17 = .ok (.iload_n 2, 1) := by decide +kernel
theorem dX4_tells_18 : decode cX4_tells 18 = .ok (.iconst 4, 1) := by decide +kernel
theorem dX4_tells_19 : decode cX4_tells 19 = .ok (.if_icmp .gt 26, 3) := by decide +kernel
theorem dX4_tells_22 : decode cX4_tells 22 = .ok (.aload_n 0, 1) := by decide +kernel
theorem dX4_tells_23 : decode cX4_tells 23 = .ok (.invokevirtual 26, 3) := by decide +kernel
theorem dX4_tells_26 : decode cX4_tells 26 = .ok (.ifCond .eq 19, 3) := by decide +kernel
theorem dX4_tells_29 : decode cX4_tells 29 = .ok (.aload_n 0, 1) := by decide +kernel
theorem dX4_tells_30 : decode cX4_tells 30 = .ok (.aload_n 1, 1) := by decide +kernel
theorem dX4_tells_31 : decode cX4_tells 31 = .ok (.invokevirtual 30, 3) := by decide +kernel
theorem dX4_tells_34 : decode cX4_tells 34 = .ok (.ifCond .ne 5, 3) := by decide +kernel
theorem dX4_tells_37 : decode cX4_tells 37 = .ok (.iconst 0, 1) := by decide +kernel
theorem dX4_tells_38 : decode cX4_tells 38 = .ok (.ireturn, 1) := by decide +kernel
theorem dX4_tells_39 : decode cX4_tells 39 = .ok (.iinc 2 1, 3) := by decide +kernel
theorem dX4_tells_42 : decode cX4_tells 42 = .ok (.goto (-25), 3) := by decide +kernel
theorem dX4_tells_45 : decode cX4_tells 45 = .ok (.iconst 0, 1) := by decide +kernel
theorem dX4_tells_46 : decode cX4_tells 46 = .ok (.istore_n 2, 1) := by decide +kernel
theorem dX4_tells_47 : decode cX4_tells 47 = .ok (.iload_n 2, 1) := by decide +kernel
theorem dX4_tells_48 : decode cX4_tells 48 = .ok (.bipush 8, 2) := by decide +kernel
theorem dX4_tells_50 : decode cX4_tells 50 = .ok (.if_icmp .gt 28, 3) := by decide +kernel
theorem dX4_tells_53 : decode cX4_tells 53 = .ok (.aload_n 0, 1) := by decide +kernel
theorem dX4_tells_54 : decode cX4_tells 54 = .ok (.invokevirtual 33, 3) := by decide +kernel
theorem dX4_tells_57 : decode cX4_tells 57 = .ok (.bipush 99, 2) := by decide +kernel
theorem dX4_tells_59 : decode cX4_tells 59 = .ok (.if_icmp .ne 19, 3) := by decide +kernel
theorem dX4_tells_62 : decode cX4_tells 62 = .ok (.aload_n 0, 1) := by decide +kernel
theorem dX4_tells_63 : decode cX4_tells 63 = .ok (.aload_n 1, 1) := by decide +kernel
theorem dX4_tells_64 : decode cX4_tells 64 = .ok (.invokevirtual 36, 3) := by decide +kernel
theorem dX4_tells_67 : decode cX4_tells 67 = .ok (.ifCond .ne 5, 3) := by decide +kernel
theorem dX4_tells_70 : decode cX4_tells 70 = .ok (.iconst 0, 1) := by decide +kernel
theorem dX4_tells_71 : decode cX4_tells 71 = .ok (.ireturn, 1) := by decide +kernel
theorem dX4_tells_72 : decode cX4_tells 72 = .ok (.iinc 2 1, 3) := by decide +kernel
theorem dX4_tells_75 : decode cX4_tells 75 = .ok (.goto (-28), 3) := by decide +kernel
theorem dX4_tells_78 : decode cX4_tells 78 = .ok (.aload_n 0, 1) := by decide +kernel
theorem dX4_tells_79 : decode cX4_tells 79 = .ok (.getfield 19, 3) := by decide +kernel
theorem dX4_tells_82 : decode cX4_tells 82 = .ok (.aload_n 0, 1) := by decide +kernel
theorem dX4_tells_83 : decode cX4_tells 83 = .ok (.getfield 15, 3) := by decide +kernel
theorem dX4_tells_86 : decode cX4_tells 86 = .ok (.if_icmp .eq 15, 3) := by decide +kernel
theorem dX4_tells_89 : decode cX4_tells 89 = .ok (.aload_n 0, 1) := by decide +kernel
theorem dX4_tells_90 : decode cX4_tells 90 = .ok (.iconst 1, 1) := by decide +kernel
theorem dX4_tells_91 : decode cX4_tells 91 = .ok (.aload_n 0, 1) := by decide +kernel
theorem dX4_tells_92 : decode cX4_tells 92 = .ok (.getfield 19, 3) := by decide +kernel
theorem dX4_tells_95 : decode cX4_tells 95 = .ok (.invokevirtual 39, 3) := by decide +kernel
theorem dX4_tells_98 : decode cX4_tells 98 = .ok (.ifCond .eq 7, 3) := by decide +kernel
theorem dX4_tells_101 : decode cX4_tells 101 = .ok (.iconst 1, 1) := by decide +kernel
theorem dX4_tells_102 : decode cX4_tells 102 = .ok (.goto 4, 3) := by decide +kernel
theorem dX4_tells_105 : decode cX4_tells 105 = .ok (.iconst 0, 1) := by decide +kernel
theorem dX4_tells_106 : decode cX4_tells 106 = .ok (.ireturn, 1) := by decide +kernel
theorem dX4_readsLaw_0 : decode cX4_readsLaw 0 = .ok (.aload_n 0, 1) := by decide +kernel
theorem dX4_readsLaw_1 : decode cX4_readsLaw 1 = .ok (.bipush 119, 2) := by decide +kernel
theorem dX4_readsLaw_3 : decode cX4_readsLaw 3 = .ok (.invokevirtual 43, 3) := by decide +kernel
theorem dX4_readsLaw_6 : decode cX4_readsLaw 6 = .ok (.ifCond .ne 5, 3) := by decide +kernel
theorem dX4_readsLaw_9 : decode cX4_readsLaw 9 = .ok (.iconst 0, 1) := by decide +kernel
theorem dX4_readsLaw_10 : decode cX4_readsLaw 10 = .ok (.ireturn, 1) := by decide +kernel
theorem dX4_readsLaw_11 : decode cX4_readsLaw 11 = .ok (.aload_n 0, 1) := by decide +kernel
theorem dX4_readsLaw_12 : decode cX4_readsLaw 12 = .ok (.iconst 2, 1) := by decide +kernel
theorem dX4_readsLaw_13 : decode cX4_readsLaw 13 = .ok (.bipush 9, 2) := by decide +kernel
theorem dX4_readsLaw_15 : decode cX4_readsLaw 15 = .ok (.invokevirtual 47, 3) := by decide +kernel
theorem dX4_readsLaw_18 : decode cX4_readsLaw 18 = .ok (.istore_n 2, 1) := by decide +kernel
theorem dX4_readsLaw_19 : decode cX4_readsLaw 19 = .ok (.iload_n 2, 1) := by decide +kernel
theorem dX4_readsLaw_20 : decode cX4_readsLaw 20 = .ok (.ifCond .lt 12, 3) := by decide +kernel
theorem dX4_readsLaw_23 : decode cX4_readsLaw 23 = .ok (.aload_n 0, 1) := by decide +kernel
theorem dX4_readsLaw_24 : decode cX4_readsLaw 24 = .ok (.bipush 59, 2) := by decide +kernel
theorem dX4_readsLaw_26 : decode cX4_readsLaw 26 = .ok (.invokevirtual 43, 3) := by decide +kernel
theorem dX4_readsLaw_29 : decode cX4_readsLaw 29 = .ok (.ifCond .ne 5, 3) := by decide +kernel
theorem dX4_readsLaw_32 : decode cX4_readsLaw 32 = .ok (.iconst 0, 1) := by decide +kernel
theorem dX4_readsLaw_33 : decode cX4_readsLaw 33 = .ok (.ireturn, 1) := by decide +kernel
theorem dX4_readsLaw_34 : decode cX4_readsLaw 34 = .ok (.aload_n 1, 1) := by decide +kernel
theorem dX4_readsLaw_35 : decode cX4_readsLaw 35 = .ok (.iload_n 2, 1) := by decide +kernel
theorem dX4_readsLaw_36 : decode cX4_readsLaw 36 = .ok (.invokevirtual 51, 3) := by decide +kernel
theorem dX4_readsLaw_39 : decode cX4_readsLaw 39 = .ok (.iconst 1, 1) := by decide +kernel
theorem dX4_readsLaw_40 : decode cX4_readsLaw 40 = .ok (.ireturn, 1) := by decide +kernel
theorem dX4_readsTree_0 : decode cX4_readsTree 0 = .ok (.aload_n 1, 1) := by decide +kernel
theorem dX4_readsTree_1 : decode cX4_readsTree 1 = .ok (.getfield 57, 3) := by decide +kernel
theorem dX4_readsTree_4 : decode cX4_readsTree 4 = .ok (.iconst 4, 1) := by decide +kernel
theorem dX4_readsTree_5 : decode cX4_readsTree 5 = .ok (.if_icmp .lt 13, 3) := by decide +kernel
theorem dX4_readsTree_8 : decode cX4_readsTree 8 = .ok (.aload_n 0, 1) := by decide +kernel
theorem dX4_readsTree_9 : decode cX4_readsTree 9 = .ok (.iconst 3, 1) := by decide +kernel
theorem dX4_readsTree_10 : decode cX4_readsTree 10 = .ok (.aload_n 0, 1) := by decide +kernel
theorem dX4_readsTree_11 : decode cX4_readsTree 11 = .ok (.getfield 19, 3) := by decide +kernel
theorem dX4_readsTree_14 : decode cX4_readsTree 14 = .ok (.invokevirtual 39, 3) := by decide +kernel
theorem dX4_readsTree_17 : decode cX4_readsTree 17 = .ok (.ireturn, 1) := by decide +kernel
theorem dX4_readsTree_18 : decode cX4_readsTree 18 = .ok (.aload_n 0, 1) := by decide +kernel
theorem dX4_readsTree_19 : decode cX4_readsTree 19 = .ok (.invokevirtual 26, 3) := by decide +kernel
theorem dX4_readsTree_22 : decode cX4_readsTree 22 = .ok (.istore_n 2, 1) := by decide +kernel
theorem dX4_readsTree_23 : decode cX4_readsTree 23 = .ok (.aload_n 0, 1) := by decide +kernel
theorem dX4_readsTree_24 : decode cX4_readsTree 24 = .ok (.dup, 1) := by decide +kernel
theorem dX4_readsTree_25 : decode cX4_readsTree 25 = .ok (.getfield 19, 3) := by decide +kernel
theorem dX4_readsTree_28 : decode cX4_readsTree 28 = .ok (.iconst 1, 1) := by decide +kernel
theorem dX4_readsTree_29 : decode cX4_readsTree 29 = .ok (.iadd, 1) := by decide +kernel
theorem dX4_readsTree_30 : decode cX4_readsTree 30 = .ok (.putfield 19, 3) := by decide +kernel
theorem dX4_readsTree_33 : decode cX4_readsTree 33 = .ok (.aload_n 0, 1) := by decide +kernel
theorem dX4_readsTree_34 : decode cX4_readsTree 34 = .ok (.bipush 10, 2) := by decide +kernel
theorem dX4_readsTree_36 : decode cX4_readsTree 36 = .ok (.bipush 90, 2) := by decide +kernel
theorem dX4_readsTree_38 : decode cX4_readsTree 38 = .ok (.invokevirtual 47, 3) := by decide +kernel
theorem dX4_readsTree_41 : decode cX4_readsTree 41 = .ok (.istore_n 3, 1) := by decide +kernel
theorem dX4_readsTree_42 : decode cX4_readsTree 42 = .ok (.iload_n 3, 1) := by decide +kernel
theorem dX4_readsTree_43 : decode cX4_readsTree 43 = .ok (.ifCond .lt 12, 3) := by decide +kernel
theorem dX4_readsTree_46 : decode cX4_readsTree 46 = .ok (.aload_n 0, 1) := by decide +kernel
theorem dX4_readsTree_47 : decode cX4_readsTree 47 = .ok (.bipush 44, 2) := by decide +kernel
theorem dX4_readsTree_49 : decode cX4_readsTree 49 = .ok (.invokevirtual 43, 3) := by decide +kernel
theorem dX4_readsTree_52 : decode cX4_readsTree 52 = .ok (.ifCond .ne 5, 3) := by decide +kernel
theorem dX4_readsTree_55 : decode cX4_readsTree 55 = .ok (.iconst 0, 1) := by decide +kernel
theorem dX4_readsTree_56 : decode cX4_readsTree 56 = .ok (.ireturn, 1) := by decide +kernel
theorem dX4_readsTree_57 : decode cX4_readsTree 57 = .ok (.aload_n 0, 1) := by decide +kernel
theorem dX4_readsTree_58 : decode cX4_readsTree 58 = .ok (.iconst 0, 1) := by decide +kernel
theorem dX4_readsTree_59 : decode cX4_readsTree 59 = .ok (.bipush 9, 2) := by decide +kernel
theorem dX4_readsTree_61 : decode cX4_readsTree 61 = .ok (.invokevirtual 47, 3) := by decide +kernel
theorem dX4_readsTree_64 : decode cX4_readsTree 64 = .ok (.istore 4, 2) := by decide +kernel
theorem dX4_readsTree_66 : decode cX4_readsTree 66 = .ok (.iload 4, 2) := by decide +kernel
theorem dX4_readsTree_68 : decode cX4_readsTree 68 = .ok (.ifCond .lt 12, 3) := by decide +kernel
theorem dX4_readsTree_71 : decode cX4_readsTree 71 = .ok (.aload_n 0, 1) := by decide +kernel
theorem dX4_readsTree_72 : decode cX4_readsTree 72 = .ok (.bipush 59, 2) := by decide +kernel
theorem dX4_readsTree_74 : decode cX4_readsTree 74 = .ok (.invokevirtual 43, 3) := by decide +kernel
theorem dX4_readsTree_77 : decode cX4_readsTree 77 = .ok (.ifCond .ne 5, 3) := by decide +kernel
theorem dX4_readsTree_80 : decode cX4_readsTree 80 = .ok (.iconst 0, 1) := by decide +kernel
theorem dX4_readsTree_81 : decode cX4_readsTree 81 = .ok (.ireturn, 1) := by decide +kernel
theorem dX4_readsTree_82 : decode cX4_readsTree 82 = .ok (.aload_n 1, 1) := by decide +kernel
theorem dX4_readsTree_83 : decode cX4_readsTree 83 = .ok (.iload_n 2, 1) := by decide +kernel
theorem dX4_readsTree_84 : decode cX4_readsTree 84 = .ok (.iload_n 3, 1) := by decide +kernel
theorem dX4_readsTree_85 : decode cX4_readsTree 85 = .ok (.iload 4, 2) := by decide +kernel
theorem dX4_readsTree_87 : decode cX4_readsTree 87 = .ok (.invokevirtual 60, 3) := by decide +kernel
theorem dX4_readsTree_90 : decode cX4_readsTree 90 = .ok (.iconst 1, 1) := by decide +kernel
theorem dX4_readsTree_91 : decode cX4_readsTree 91 = .ok (.ireturn, 1) := by decide +kernel
theorem dX4_readsCut_0 : decode cX4_readsCut 0 = .ok (.aload_n 1, 1) := by decide +kernel
theorem dX4_readsCut_1 : decode cX4_readsCut 1 = .ok (.getfield 64, 3) := by decide +kernel
theorem dX4_readsCut_4 : decode cX4_readsCut 4 = .ok (.bipush 8, 2) := by decide +kernel
theorem dX4_readsCut_6 : decode cX4_readsCut 6 = .ok (.if_icmp .lt 13, 3) := by decide +kernel
theorem dX4_readsCut_9 : decode cX4_readsCut 9 = .ok (.aload_n 0, 1) := by decide +kernel
theorem dX4_readsCut_10 : decode cX4_readsCut 10 = .ok (.iconst 3, 1) := by decide +kernel
theorem dX4_readsCut_11 : decode cX4_readsCut 11 = .ok (.aload_n 0, 1) := by decide +kernel
theorem dX4_readsCut_12 : decode cX4_readsCut 12 = .ok (.getfield 19, 3) := by decide +kernel
theorem dX4_readsCut_15 : decode cX4_readsCut 15 = .ok (.invokevirtual 39, 3) := by decide +kernel
theorem dX4_readsCut_18 : decode cX4_readsCut 18 = .ok (.ireturn, 1) := by decide +kernel
theorem dX4_readsCut_19 : decode cX4_readsCut 19 = .ok (.aload_n 0, 1) := by decide +kernel
theorem dX4_readsCut_20 : decode cX4_readsCut 20 = .ok (.dup, 1) := by decide +kernel
theorem dX4_readsCut_21 : decode cX4_readsCut 21 = .ok (.getfield 19, 3) := by decide +kernel
theorem dX4_readsCut_24 : decode cX4_readsCut 24 = .ok (.iconst 1, 1) := by decide +kernel
theorem dX4_readsCut_25 : decode cX4_readsCut 25 = .ok (.iadd, 1) := by decide +kernel
theorem dX4_readsCut_26 : decode cX4_readsCut 26 = .ok (.putfield 19, 3) := by decide +kernel
theorem dX4_readsCut_29 : decode cX4_readsCut 29 = .ok (.aload_n 0, 1) := by decide +kernel
theorem dX4_readsCut_30 : decode cX4_readsCut 30 = .ok (.iconst 0, 1) := by decide +kernel
theorem dX4_readsCut_31 : decode cX4_readsCut 31 = .ok (.aload_n 1, 1) := by decide +kernel
theorem dX4_readsCut_32 : decode cX4_readsCut 32 = .ok (.getfield 57, 3) := by decide +kernel
theorem dX4_readsCut_35 : decode cX4_readsCut 35 = .ok (.iconst 1, 1) := by decide +kernel
theorem dX4_readsCut_36 : decode cX4_readsCut 36 = .ok (.isub, 1) := by decide +kernel
theorem dX4_readsCut_37 : decode cX4_readsCut 37 = .ok (.invokevirtual 47, 3) := by decide +kernel
theorem dX4_readsCut_40 : decode cX4_readsCut 40 = .ok (.istore_n 2, 1) := by decide +kernel
theorem dX4_readsCut_41 : decode cX4_readsCut 41 = .ok (.iload_n 2, 1) := by decide +kernel
theorem dX4_readsCut_42 : decode cX4_readsCut 42 = .ok (.ifCond .lt 12, 3) := by decide +kernel
theorem dX4_readsCut_45 : decode cX4_readsCut 45 = .ok (.aload_n 0, 1) := by decide +kernel
theorem dX4_readsCut_46 : decode cX4_readsCut 46 = .ok (.bipush 44, 2) := by decide +kernel
theorem dX4_readsCut_48 : decode cX4_readsCut 48 = .ok (.invokevirtual 43, 3) := by decide +kernel
theorem dX4_readsCut_51 : decode cX4_readsCut 51 = .ok (.ifCond .ne 5, 3) := by decide +kernel
theorem dX4_readsCut_54 : decode cX4_readsCut 54 = .ok (.iconst 0, 1) := by decide +kernel
theorem dX4_readsCut_55 : decode cX4_readsCut 55 = .ok (.ireturn, 1) := by decide +kernel
theorem dX4_readsCut_56 : decode cX4_readsCut 56 = .ok (.aload_n 0, 1) := by decide +kernel
theorem dX4_readsCut_57 : decode cX4_readsCut 57 = .ok (.iconst 0, 1) := by decide +kernel
theorem dX4_readsCut_58 : decode cX4_readsCut 58 = .ok (.bipush 25, 2) := by decide +kernel
theorem dX4_readsCut_60 : decode cX4_readsCut 60 = .ok (.invokevirtual 47, 3) := by decide +kernel
theorem dX4_readsCut_63 : decode cX4_readsCut 63 = .ok (.istore_n 3, 1) := by decide +kernel
theorem dX4_readsCut_64 : decode cX4_readsCut 64 = .ok (.iload_n 3, 1) := by decide +kernel
theorem dX4_readsCut_65 : decode cX4_readsCut 65 = .ok (.ifCond .lt 12, 3) := by decide +kernel
theorem dX4_readsCut_68 : decode cX4_readsCut 68 = .ok (.aload_n 0, 1) := by decide +kernel
theorem dX4_readsCut_69 : decode cX4_readsCut 69 = .ok (.bipush 44, 2) := by decide +kernel
theorem dX4_readsCut_71 : decode cX4_readsCut 71 = .ok (.invokevirtual 43, 3) := by decide +kernel
theorem dX4_readsCut_74 : decode cX4_readsCut 74 = .ok (.ifCond .ne 5, 3) := by decide +kernel
theorem dX4_readsCut_77 : decode cX4_readsCut 77 = .ok (.iconst 0, 1) := by decide +kernel
theorem dX4_readsCut_78 : decode cX4_readsCut 78 = .ok (.ireturn, 1) := by decide +kernel
theorem dX4_readsCut_79 : decode cX4_readsCut 79 = .ok (.aload_n 0, 1) := by decide +kernel
theorem dX4_readsCut_80 : decode cX4_readsCut 80 = .ok (.getfield 19, 3) := by decide +kernel
theorem dX4_readsCut_83 : decode cX4_readsCut 83 = .ok (.istore 4, 2) := by decide +kernel
theorem dX4_readsCut_85 : decode cX4_readsCut 85 = .ok (.aload_n 0, 1) := by decide +kernel
theorem dX4_readsCut_86 : decode cX4_readsCut 86 = .ok (.iconst 0, 1) := by decide +kernel
theorem dX4_readsCut_87 : decode cX4_readsCut 87 = .ok (.bipush 59, 2) := by decide +kernel
theorem dX4_readsCut_89 : decode cX4_readsCut 89 = .ok (.invokevirtual 47, 3) := by decide +kernel
theorem dX4_readsCut_92 : decode cX4_readsCut 92 = .ok (.istore 5, 2) := by decide +kernel
theorem dX4_readsCut_94 : decode cX4_readsCut 94 = .ok (.iload 5, 2) := by decide +kernel
theorem dX4_readsCut_96 : decode cX4_readsCut 96 = .ok (.ifCond .ge 5, 3) := by decide +kernel
theorem dX4_readsCut_99 : decode cX4_readsCut 99 = .ok (.iconst 0, 1) := by decide +kernel
theorem dX4_readsCut_100 : decode cX4_readsCut 100 = .ok (.ireturn, 1) := by decide +kernel
theorem dX4_readsCut_101 : decode cX4_readsCut 101 = .ok (.aload_n 1, 1) := by decide +kernel
theorem dX4_readsCut_102 : decode cX4_readsCut 102 = .ok (.iload_n 2, 1) := by decide +kernel
theorem dX4_readsCut_103 : decode cX4_readsCut 103 = .ok (.iload 5, 2) := by decide +kernel
theorem dX4_readsCut_105 : decode cX4_readsCut 105 = .ok (.invokevirtual 67, 3) := by decide +kernel
theorem dX4_readsCut_108 : decode cX4_readsCut 108 = .ok (.ifCond .eq 11, 3) := by decide +kernel
theorem dX4_readsCut_111 : decode cX4_readsCut 111 = .ok (.aload_n 0, 1) := by decide +kernel
theorem dX4_readsCut_112 : decode cX4_readsCut 112 = .ok (.iconst 2, 1) := by decide +kernel
theorem dX4_readsCut_113 : decode cX4_readsCut 113 = .ok (.iload 4, 2) := by decide +kernel
theorem dX4_readsCut_115 : decode cX4_readsCut 115 = .ok (.invokevirtual 39, 3) := by decide +kernel
theorem dX4_readsCut_118 : decode cX4_readsCut 118 = .ok (.ireturn, 1) := by decide +kernel
theorem dX4_readsCut_119 : decode cX4_readsCut 119 = .ok (.aload_n 0, 1) := by decide +kernel
theorem dX4_readsCut_120 : decode cX4_readsCut 120 = .ok (.bipush 44, 2) := by decide +kernel
theorem dX4_readsCut_122 : decode cX4_readsCut 122 = .ok (.invokevirtual 43, 3) := by decide +kernel
theorem dX4_readsCut_125 : decode cX4_readsCut 125 = .ok (.ifCond .ne 5, 3) := by decide +kernel
theorem dX4_readsCut_128 : decode cX4_readsCut 128 = .ok (.iconst 0, 1) := by decide +kernel
theorem dX4_readsCut_129 : decode cX4_readsCut 129 = .ok (.ireturn, 1) := by decide +kernel
theorem dX4_readsCut_130 : decode cX4_readsCut 130 = .ok (.aload_n 0, 1) := by decide +kernel
theorem dX4_readsCut_131 : decode cX4_readsCut 131 = .ok (.iconst 1, 1) := by decide +kernel
theorem dX4_readsCut_132 : decode cX4_readsCut 132 = .ok (.bipush 20, 2) := by decide +kernel
theorem dX4_readsCut_134 : decode cX4_readsCut 134 = .ok (.invokevirtual 47, 3) := by decide +kernel
theorem dX4_readsCut_137 : decode cX4_readsCut 137 = .ok (.istore 6, 2) := by decide +kernel
theorem dX4_readsCut_139 : decode cX4_readsCut 139 = .ok (.iload 6, 2) := by decide +kernel
theorem dX4_readsCut_141 : decode cX4_readsCut 141 = .ok (.ifCond .lt 12, 3) := by decide +kernel
theorem dX4_readsCut_144 : decode cX4_readsCut 144 = .ok (.aload_n 0, 1) := by decide +kernel
theorem dX4_readsCut_145 : decode cX4_readsCut 145 = .ok (.bipush 59, 2) := by decide +kernel
theorem dX4_readsCut_147 : decode cX4_readsCut 147 = .ok (.invokevirtual 43, 3) := by decide +kernel
theorem dX4_readsCut_150 : decode cX4_readsCut 150 = .ok (.ifCond .ne 5, 3) := by decide +kernel
theorem dX4_readsCut_153 : decode cX4_readsCut 153 = .ok (.iconst 0, 1) := by decide +kernel
theorem dX4_readsCut_154 : decode cX4_readsCut 154 = .ok (.ireturn, 1) := by decide +kernel
theorem dX4_readsCut_155 : decode cX4_readsCut 155 = .ok (.aload_n 1, 1) := by decide +kernel
theorem dX4_readsCut_156 : decode cX4_readsCut 156 = .ok (.iload_n 2, 1) := by decide +kernel
theorem dX4_readsCut_157 : decode cX4_readsCut 157 = .ok (.iload_n 3, 1) := by decide +kernel
theorem dX4_readsCut_158 : decode cX4_readsCut 158 = .ok (.iload 5, 2) := by decide +kernel
theorem dX4_readsCut_160 : decode cX4_readsCut 160 = .ok (.iload 6, 2) := by decide +kernel
theorem dX4_readsCut_162 : decode cX4_readsCut 162 = .ok (.invokevirtual 70, 3) := by decide +kernel
theorem dX4_readsCut_165 : decode cX4_readsCut 165 = .ok (.iconst 1, 1) := by decide +kernel
theorem dX4_readsCut_166 : decode cX4_readsCut 166 = .ok (.ireturn, 1) := by decide +kernel
theorem dX4_numberRead_0 : decode cX4_numberRead 0 = .ok (.aload_n 0, 1) := by decide +kernel
theorem dX4_numberRead_1 : decode cX4_numberRead 1 = .ok (.getfield 19, 3) := by decide +kernel
theorem dX4_numberRead_4 : decode cX4_numberRead 4 = .ok (.istore_n 3, 1) := by decide +kernel
theorem dX4_numberRead_5 : decode cX4_numberRead 5 = .ok (.iconst 0, 1) := by decide +kernel
theorem dX4_numberRead_6 : decode cX4_numberRead 6 = .ok (.istore 4, 2) := by decide +kernel
theorem dX4_numberRead_8 : decode cX4_numberRead 8 = .ok (.aload_n 0, 1) := by decide +kernel
theorem dX4_numberRead_9 : decode cX4_numberRead 9 = .ok (.getfield 19, 3) := by decide +kernel
theorem dX4_numberRead_12 : decode cX4_numberRead 12 = .ok (.istore 5, 2) := by decide +kernel
theorem dX4_numberRead_14 : decode cX4_numberRead 14 = .ok (.iload 5, 2) := by decide +kernel
theorem dX4_numberRead_16 : decode cX4_numberRead 16 = .ok (.aload_n 0, 1) := by decide +kernel
theorem dX4_numberRead_17 : decode cX4_numberRead 17 = .ok (.getfield 15, 3) := by decide +kernel
theorem dX4_numberRead_20 : decode cX4_numberRead 20 = .ok (.if_icmp .ge 53, 3) := by decide +kernel
theorem dX4_numberRead_23 : decode cX4_numberRead 23 = .ok (.aload_n 0, 1) := by decide +kernel
theorem dX4_numberRead_24 : decode cX4_numberRead 24 = .ok (.getfield 9, 3) := by decide +kernel
theorem dX4_numberRead_27 : decode cX4_numberRead 27 = .ok (.iload 5, 2) := by decide +kernel
theorem dX4_numberRead_29 : decode cX4_numberRead 29 = .ok (.iaload, 1) := by decide +kernel
theorem dX4_numberRead_30 : decode cX4_numberRead 30 = .ok (.invokestatic 74, 3) := by decide +kernel
theorem dX4_numberRead_33 : decode cX4_numberRead 33 = .ok (.ifCond .eq 40, 3) := by decide +kernel
theorem dX4_numberRead_36 : decode cX4_numberRead 36 = .ok (.iload 5, 2) := by decide +kernel
theorem dX4_numberRead_38 : decode cX4_numberRead 38 = .ok (.iload_n 3, 1) := by decide +kernel
theorem dX4_numberRead_39 : decode cX4_numberRead 39 = .ok (.isub, 1) := by decide +kernel
theorem dX4_numberRead_40 : decode cX4_numberRead 40 = .ok (.iconst 2, 1) := by decide +kernel
theorem dX4_numberRead_41 : decode cX4_numberRead 41 = .ok (.if_icmp .ge 22, 3) := by decide +kernel
theorem dX4_numberRead_44 : decode cX4_numberRead 44 = .ok (.bipush 10, 2) := by decide +kernel
theorem dX4_numberRead_46 : decode cX4_numberRead 46 = .ok (.iload 4, 2) := by decide +kernel
theorem dX4_numberRead_48 : decode cX4_numberRead 48 = .ok (.imul, 1) := by decide +kernel
theorem dX4_numberRead_49 : decode cX4_numberRead 49 = .ok (.aload_n 0, 1) := by decide +kernel
theorem dX4_numberRead_50 : decode cX4_numberRead 50 = .ok (.getfield 9, 3) := by decide +kernel
theorem dX4_numberRead_53 : decode cX4_numberRead 53 = .ok (.iload 5, 2) := by decide +kernel
theorem dX4_numberRead_55 : decode cX4_numberRead 55 = .ok (.iaload, 1) := by decide +kernel
theorem dX4_numberRead_56 : decode cX4_numberRead 56 = .ok (.iadd, 1) := by decide +kernel
theorem dX4_numberRead_57 : decode cX4_numberRead 57 = .ok (.bipush 48, 2) := by decide +kernel
theorem dX4_numberRead_59 : decode cX4_numberRead 59 = .ok (.isub, 1) := by decide +kernel
theorem dX4_numberRead_60 : decode cX4_numberRead 60 = .ok (.goto 5, 3) := by decide +kernel
theorem dX4_numberRead_63 : decode cX4_numberRead 63 = .ok (.iload 4, 2) := by decide +kernel
theorem dX4_numberRead_65 : decode cX4_numberRead 65 = .ok (.istore 4, 2) := by decide +kernel
theorem dX4_numberRead_67 : decode cX4_numberRead 67 = .ok (.iinc 5 1, 3) := by decide +kernel
theorem dX4_numberRead_70 : decode cX4_numberRead 70 = .ok (.goto (-56), 3) := by decide +kernel
theorem dX4_numberRead_73 : decode cX4_numberRead 73 = .ok (.iload 5, 2) := by decide +kernel
theorem dX4_numberRead_75 : decode cX4_numberRead 75 = .ok (.iload_n 3, 1) := by decide +kernel
theorem dX4_numberRead_76 : decode cX4_numberRead 76 = .ok (.if_icmp .eq 11, 3) := by decide +kernel
theorem dX4_numberRead_79 : decode cX4_numberRead 79 = .ok (.iload 5, 2) := by decide +kernel
theorem dX4_numberRead_81 : decode cX4_numberRead 81 = .ok (.iload_n 3, 1) := by decide +kernel
theorem dX4_numberRead_82 : decode cX4_numberRead 82 = .ok (.isub, 1) := by decide +kernel
theorem dX4_numberRead_83 : decode cX4_numberRead 83 = .ok (.iconst 2, 1) := by decide +kernel
theorem dX4_numberRead_84 : decode cX4_numberRead 84 = .ok (.if_icmp .le 12, 3) := by decide +kernel
theorem dX4_numberRead_87 : decode cX4_numberRead 87 = .ok (.aload_n 0, 1) := by decide +kernel
theorem dX4_numberRead_88 : decode cX4_numberRead 88 = .ok (.iconst 1, 1) := by decide +kernel
theorem dX4_numberRead_89 : decode cX4_numberRead 89 = .ok (.iload_n 3, 1) := by decide +kernel
theorem dX4_numberRead_90 : decode cX4_numberRead 90 = .ok (.invokevirtual 39, 3) := by decide +kernel
theorem dX4_numberRead_93 : decode cX4_numberRead 93 = .ok (.pop, 1) := by decide +kernel
theorem dX4_numberRead_94 : decode cX4_numberRead 94 = .ok (.iconst (-1), 1) := by decide +kernel
theorem dX4_numberRead_95 : decode cX4_numberRead 95 = .ok (.ireturn, 1) := by decide +kernel
theorem dX4_numberRead_96 : decode cX4_numberRead 96 = .ok (.iload 4, 2) := by decide +kernel
theorem dX4_numberRead_98 : decode cX4_numberRead 98 = .ok (.iload_n 1, 1) := by decide +kernel
theorem dX4_numberRead_99 : decode cX4_numberRead 99 = .ok (.if_icmp .lt 9, 3) := by decide +kernel
theorem dX4_numberRead_102 : decode cX4_numberRead 102 = .ok (.iload 4, 2) := by decide +kernel
theorem dX4_numberRead_104 : decode cX4_numberRead 104 = .ok (.iload_n 2, 1) := by decide +kernel
theorem dX4_numberRead_105 : decode cX4_numberRead 105 = .ok (.if_icmp .le 12, 3) := by decide +kernel
theorem dX4_numberRead_108 : decode cX4_numberRead 108 = .ok (.aload_n 0, 1) := by decide +kernel
theorem dX4_numberRead_109 : decode cX4_numberRead 109 = .ok (.iconst 2, 1) := by decide +kernel
theorem dX4_numberRead_110 : decode cX4_numberRead 110 = .ok (.iload_n 3, 1) := by decide +kernel
theorem dX4_numberRead_111 : decode cX4_numberRead 111 = .ok (.invokevirtual 39, 3) := by decide +kernel
theorem dX4_numberRead_114 : decode cX4_numberRead 114 = .ok (.pop, 1) := by decide +kernel
theorem dX4_numberRead_115 : decode cX4_numberRead 115 = .ok (.iconst (-1), 1) := by decide +kernel
theorem dX4_numberRead_116 : decode cX4_numberRead 116 = .ok (.ireturn, 1) := by decide +kernel
theorem dX4_numberRead_117 : decode cX4_numberRead 117 = .ok (.aload_n 0, 1) := by decide +kernel
theorem dX4_numberRead_118 : decode cX4_numberRead 118 = .ok (.iload 5, 2) := by decide +kernel
theorem dX4_numberRead_120 : decode cX4_numberRead 120 = .ok (.putfield 19, 3) := by decide +kernel
theorem dX4_numberRead_123 : decode cX4_numberRead 123 = .ok (.iload 4, 2) := by decide +kernel
theorem dX4_numberRead_125 : decode cX4_numberRead 125 = .ok (.ireturn, 1) := by decide +kernel
theorem dX4_isFigure_0 : decode cX4_isFigure 0 = .ok (.iload_n 0, 1) := by decide +kernel
theorem dX4_isFigure_1 : decode cX4_isFigure 1 = .ok (.bipush 48, 2) := by decide +kernel
theorem dX4_isFigure_3 : decode cX4_isFigure 3 = .ok (.if_icmp .lt 13, 3) := by decide +kernel
theorem dX4_isFigure_6 : decode cX4_isFigure 6 = .ok (.iload_n 0, 1) := by decide +kernel
theorem dX4_isFigure_7 : decode cX4_isFigure 7 = .ok (.bipush 57, 2) := by decide +kernel
theorem dX4_isFigure_9 : decode cX4_isFigure 9 = .ok (.if_icmp .gt 7, 3) := by decide +kernel
theorem dX4_isFigure_12 : decode cX4_isFigure 12 = .ok (.iconst 1, 1) := by decide +kernel
theorem dX4_isFigure_13 : decode cX4_isFigure 13 = .ok (.goto 4, 3) := by decide +kernel
theorem dX4_isFigure_16 : decode cX4_isFigure 16 = .ok (.iconst 0, 1) := by decide +kernel
theorem dX4_isFigure_17 : decode cX4_isFigure 17 = .ok (.ireturn, 1) := by decide +kernel
theorem dX4_reads_0 : decode cX4_reads 0 = .ok (.aload_n 0, 1) := by decide +kernel
theorem dX4_reads_1 : decode cX4_reads 1 = .ok (.invokevirtual 33, 3) := by decide +kernel
theorem dX4_reads_4 : decode cX4_reads 4 = .ok (.iload_n 1, 1) := by decide +kernel
theorem dX4_reads_5 : decode cX4_reads 5 = .ok (.if_icmp .eq 13, 3) := by decide +kernel
theorem dX4_reads_8 : decode cX4_reads 8 = .ok (.aload_n 0, 1) := by decide +kernel
theorem dX4_reads_9 : decode cX4_reads 9 = .ok (.iconst 1, 1) := by decide +kernel
theorem dX4_reads_10 : decode cX4_reads 10 = .ok (.aload_n 0, 1) := by decide +kernel
theorem dX4_reads_11 : decode cX4_reads 11 = .ok (.getfield 19, 3) := by decide +kernel
theorem dX4_reads_14 : decode cX4_reads 14 = .ok (.invokevirtual 39, 3) := by decide +kernel
theorem dX4_reads_17 : decode cX4_reads 17 = .ok (.ireturn, 1) := by decide +kernel
theorem dX4_reads_18 : decode cX4_reads 18 = .ok (.aload_n 0, 1) := by decide +kernel
theorem dX4_reads_19 : decode cX4_reads 19 = .ok (.dup, 1) := by decide +kernel
theorem dX4_reads_20 : decode cX4_reads 20 = .ok (.getfield 19, 3) := by decide +kernel
theorem dX4_reads_23 : decode cX4_reads 23 = .ok (.iconst 1, 1) := by decide +kernel
theorem dX4_reads_24 : decode cX4_reads 24 = .ok (.iadd, 1) := by decide +kernel
theorem dX4_reads_25 : decode cX4_reads 25 = .ok (.putfield 19, 3) := by decide +kernel
theorem dX4_reads_28 : decode cX4_reads 28 = .ok (.iconst 1, 1) := by decide +kernel
theorem dX4_reads_29 : decode cX4_reads 29 = .ok (.ireturn, 1) := by decide +kernel
theorem dX4_here_0 : decode cX4_here 0 = .ok (.aload_n 0, 1) := by decide +kernel
theorem dX4_here_1 : decode cX4_here 1 = .ok (.getfield 19, 3) := by decide +kernel
theorem dX4_here_4 : decode cX4_here 4 = .ok (.aload_n 0, 1) := by decide +kernel
theorem dX4_here_5 : decode cX4_here 5 = .ok (.getfield 15, 3) := by decide +kernel
theorem dX4_here_8 : decode cX4_here 8 = .ok (.if_icmp .ge 15, 3) := by decide +kernel
theorem dX4_here_11 : decode cX4_here 11 = .ok (.aload_n 0, 1) := by decide +kernel
theorem dX4_here_12 : decode cX4_here 12 = .ok (.getfield 9, 3) := by decide +kernel
theorem dX4_here_15 : decode cX4_here 15 = .ok (.aload_n 0, 1) := by decide +kernel
theorem dX4_here_16 : decode cX4_here 16 = .ok (.getfield 19, 3) := by decide +kernel
theorem dX4_here_19 : decode cX4_here 19 = .ok (.iaload, 1) := by decide +kernel
theorem dX4_here_20 : decode cX4_here 20 = .ok (.goto 4, 3) := by decide +kernel
theorem dX4_here_23 : decode cX4_here 23 = .ok (.iconst (-1), 1) := by decide +kernel
theorem dX4_here_24 : decode cX4_here 24 = .ok (.ireturn, 1) := by decide +kernel
theorem dX4_kindHere_0 : decode cX4_kindHere 0 = .ok (.aload_n 0, 1) := by decide +kernel
theorem dX4_kindHere_1 : decode cX4_kindHere 1 = .ok (.invokevirtual 33, 3) := by decide +kernel
theorem dX4_kindHere_4 : decode cX4_kindHere 4 = .ok (.lookupswitch 62 #[(98, 52), (100, 60), (111, 54), (112, 58), (121, 56)], 52) := by decide +kernel
theorem dX4_kindHere_56 : decode cX4_kindHere 56 = .ok (.iconst 1, 1) := by decide +kernel
theorem dX4_kindHere_57 : decode cX4_kindHere 57 = .ok (.ireturn, 1) := by decide +kernel
theorem dX4_kindHere_58 : decode cX4_kindHere 58 = .ok (.iconst 2, 1) := by decide +kernel
theorem dX4_kindHere_59 : decode cX4_kindHere 59 = .ok (.ireturn, 1) := by decide +kernel
theorem dX4_kindHere_60 : decode cX4_kindHere 60 = .ok (.iconst 3, 1) := by decide +kernel
theorem dX4_kindHere_61 : decode cX4_kindHere 61 = .ok (.ireturn, 1) := by decide +kernel
theorem dX4_kindHere_62 : decode cX4_kindHere 62 = .ok (.iconst 4, 1) := by decide +kernel
theorem dX4_kindHere_63 : decode cX4_kindHere 63 = .ok (.ireturn, 1) := by decide +kernel
theorem dX4_kindHere_64 : decode cX4_kindHere 64 = .ok (.iconst 5, 1) := by decide +kernel
theorem dX4_kindHere_65 : decode cX4_kindHere 65 = .ok (.ireturn, 1) := by decide +kernel
theorem dX4_kindHere_66 : decode cX4_kindHere 66 = .ok (.iconst 0, 1) := by decide +kernel
theorem dX4_kindHere_67 : decode cX4_kindHere 67 = .ok (.ireturn, 1) := by decide +kernel
theorem dX4_fails_0 : decode cX4_fails 0 = .ok (.aload_n 0, 1) := by decide +kernel
theorem dX4_fails_1 : decode cX4_fails 1 = .ok (.iload_n 1, 1) := by decide +kernel
theorem dX4_fails_2 : decode cX4_fails 2 = .ok (.putfield 77, 3) := by decide +kernel
theorem dX4_fails_5 : decode cX4_fails 5 = .ok (.aload_n 0, 1) := by decide +kernel
theorem dX4_fails_6 : decode cX4_fails 6 = .ok (.iload_n 2, 1) := by decide +kernel
theorem dX4_fails_7 : decode cX4_fails 7 = .ok (.putfield 80, 3) := by decide +kernel
theorem dX4_fails_10 : decode cX4_fails 10 = .ok (.iconst 0, 1) := by decide +kernel
theorem dX4_fails_11 : decode cX4_fails 11 = .ok (.ireturn, 1) := by decide +kernel
theorem dX5_init_0 : decode cX5_init 0 = .ok (.aload_n 0, 1) := by decide +kernel
theorem dX5_init_1 : decode cX5_init 1 = .ok (.invokespecial 3, 3) := by decide +kernel
theorem dX5_init_4 : decode cX5_init 4 = .ok (.aload_n 0, 1) := by decide +kernel
theorem dX5_init_5 : decode cX5_init 5 = .ok (.iconst 4, 1) := by decide +kernel
theorem dX5_init_6 : decode cX5_init 6 = .ok (.newarray .int, 2) := by decide +kernel
theorem dX5_init_8 : decode cX5_init 8 = .ok (.putfield 9, 3) := by decide +kernel
theorem dX5_init_11 : decode cX5_init 11 = .ok (.aload_n 0, 1) := by decide +kernel
theorem dX5_init_12 : decode cX5_init 12 = .ok (.iconst 4, 1) := by decide +kernel
theorem dX5_init_13 : decode cX5_init 13 = .ok (.newarray .int, 2) := by decide +kernel
theorem dX5_init_15 : decode cX5_init 15 = .ok (.putfield 15, 3) := by decide +kernel
theorem dX5_init_18 : decode cX5_init 18 = .ok (.aload_n 0, 1) := by decide +kernel
theorem dX5_init_19 : decode cX5_init 19 = .ok (.iconst 4, 1) := by decide +kernel
theorem dX5_init_20 : decode cX5_init 20 = .ok (.newarray .int, 2) := by decide +kernel
theorem dX5_init_22 : decode cX5_init 22 = .ok (.putfield 18, 3) := by decide +kernel
theorem dX5_init_25 : decode cX5_init 25 = .ok (.aload_n 0, 1) := by decide +kernel
theorem dX5_init_26 : decode cX5_init 26 = .ok (.bipush 8, 2) := by decide +kernel
theorem dX5_init_28 : decode cX5_init 28 = .ok (.newarray .int, 2) := by decide +kernel
theorem dX5_init_30 : decode cX5_init 30 = .ok (.putfield 21, 3) := by decide +kernel
theorem dX5_init_33 : decode cX5_init 33 = .ok (.aload_n 0, 1) := by decide +kernel
theorem dX5_init_34 : decode cX5_init 34 = .ok (.bipush 8, 2) := by decide +kernel
theorem dX5_init_36 : decode cX5_init 36 = .ok (.newarray .int, 2) := by decide +kernel
theorem dX5_init_38 : decode cX5_init 38 = .ok (.putfield 24, 3) := by decide +kernel
theorem dX5_init_41 : decode cX5_init 41 = .ok (.aload_n 0, 1) := by decide +kernel
theorem dX5_init_42 : decode cX5_init 42 = .ok (.bipush 8, 2) := by decide +kernel
theorem dX5_init_44 : decode cX5_init 44 = .ok (.newarray .int, 2) := by decide +kernel
theorem dX5_init_46 : decode cX5_init 46 = .ok (.putfield 27, 3) := by decide +kernel
theorem dX5_init_49 : decode cX5_init 49 = .ok (.aload_n 0, 1) := by decide +kernel
theorem dX5_init_50 : decode cX5_init 50 = .ok (.bipush 8, 2) := by decide +kernel
theorem dX5_init_52 : decode cX5_init 52 = .ok (.newarray .int, 2) := by decide +kernel
theorem dX5_init_54 : decode cX5_init 54 = .ok (.putfield 30, 3) := by decide +kernel
theorem dX5_init_57 : decode cX5_init 57 = .ok (.return_, 1) := by decide +kernel
theorem dX5_begin_0 : decode cX5_begin 0 = .ok (.aload_n 0, 1) := by decide +kernel
theorem dX5_begin_1 : decode cX5_begin 1 = .ok (.iconst 1, 1) := by decide +kernel
theorem dX5_begin_2 : decode cX5_begin 2 = .ok (.putfield 33, 3) := by decide +kernel
theorem dX5_begin_5 : decode cX5_begin 5 = .ok (.aload_n 0, 1) := by decide +kernel
theorem dX5_begin_6 : decode cX5_begin 6 = .ok (.iload_n 1, 1) := by decide +kernel
theorem dX5_begin_7 : decode cX5_begin 7 = .ok (.putfield 37, 3) := by decide +kernel
theorem dX5_begin_10 : decode cX5_begin 10 = .ok (.aload_n 0, 1) := by decide +kernel
theorem dX5_begin_11 : decode cX5_begin 11 = .ok (.iconst 0, 1) := by decide +kernel
theorem dX5_begin_12 : decode cX5_begin 12 = .ok (.putfield 41, 3) := by decide +kernel
theorem dX5_begin_15 : decode cX5_begin 15 = .ok (.aload_n 0, 1) := by decide +kernel
theorem dX5_begin_16 : decode cX5_begin 16 = .ok (.iconst 0, 1) := by decide +kernel
theorem dX5_begin_17 : decode cX5_begin 17 = .ok (.putfield 44, 3) := by decide +kernel
theorem dX5_begin_20 : decode cX5_begin 20 = .ok (.aload_n 0, 1) := by decide +kernel
theorem dX5_begin_21 : decode cX5_begin 21 = .ok (.iconst 0, 1) := by decide +kernel
theorem dX5_begin_22 : decode cX5_begin 22 = .ok (.putfield 47, 3) := by decide +kernel
theorem dX5_begin_25 : decode cX5_begin 25 = .ok (.return_, 1) := by decide +kernel
theorem dX5_become_0 : decode cX5_become 0 = .ok (.aload_n 0, 1) := by decide +kernel
theorem dX5_become_1 : decode cX5_become 1 = .ok (.aload_n 1, 1) := by decide +kernel
theorem dX5_become_2 : decode cX5_become 2 = .ok (.getfield 33, 3) := by decide +kernel
theorem dX5_become_5 : decode cX5_become 5 = .ok (.putfield 33, 3) := by decide +kernel
theorem dX5_become_8 : decode cX5_become 8 = .ok (.aload_n 0, 1) := by decide +kernel
theorem dX5_become_9 : decode cX5_become 9 = .ok (.aload_n 1, 1) := by decide +kernel
theorem dX5_become_10 : decode cX5_become 10 = .ok (.getfield 37, 3) := by decide +kernel
theorem dX5_become_13 : decode cX5_become 13 = .ok (.putfield 37, 3) := by decide +kernel
theorem dX5_become_16 : decode cX5_become 16 = .ok (.aload_n 0, 1) := by decide +kernel
theorem dX5_become_17 : decode cX5_become 17 = .ok (.aload_n 1, 1) := by decide +kernel
theorem dX5_become_18 : decode cX5_become 18 = .ok (.getfield 41, 3) := by decide +kernel
theorem dX5_become_21 : decode cX5_become 21 = .ok (.putfield 41, 3) := by decide +kernel
theorem dX5_become_24 : decode cX5_become 24 = .ok (.aload_n 0, 1) := by decide +kernel
theorem dX5_become_25 : decode cX5_become 25 = .ok (.aload_n 1, 1) := by decide +kernel
theorem dX5_become_26 : decode cX5_become 26 = .ok (.getfield 44, 3) := by decide +kernel
theorem dX5_become_29 : decode cX5_become 29 = .ok (.putfield 44, 3) := by decide +kernel
theorem dX5_become_32 : decode cX5_become 32 = .ok (.aload_n 0, 1) := by decide +kernel
theorem dX5_become_33 : decode cX5_become 33 = .ok (.aload_n 1, 1) := by decide +kernel
theorem dX5_become_34 : decode cX5_become 34 = .ok (.getfield 47, 3) := by decide +kernel
theorem dX5_become_37 : decode cX5_become 37 = .ok (.putfield 47, 3) := by decide +kernel
theorem dX5_become_40 : decode cX5_become 40 = .ok (.aload_n 1, 1) := by decide +kernel
theorem dX5_become_41 : decode cX5_become 41 = .ok (.getfield 9, 3) := by decide +kernel
theorem dX5_become_44 : decode cX5_become 44 = .ok (.iconst 0, 1) := by decide +kernel
theorem dX5_become_45 : decode cX5_become 45 = .ok (.aload_n 0, 1) := by decide +kernel
theorem dX5_become_46 : decode cX5_become 46 = .ok (.getfield 9, 3) := by decide +kernel
theorem dX5_become_49 : decode cX5_become 49 = .ok (.iconst 0, 1) := by decide +kernel
theorem dX5_become_50 : decode cX5_become 50 = .ok (.iconst 4, 1) := by decide +kernel
theorem dX5_become_51 : decode cX5_become 51 = .ok (.invokestatic 50, 3) := by decide +kernel
theorem dX5_become_54 : decode cX5_become 54 = .ok (.aload_n 1, 1) := by decide +kernel
theorem dX5_become_55 : decode cX5_become 55 = .ok (.getfield 15, 3) := by decide +kernel
theorem dX5_become_58 : decode cX5_become 58 = .ok (.iconst 0, 1) := by decide +kernel
theorem dX5_become_59 : decode cX5_become 59 = .ok (.aload_n 0, 1) := by decide +kernel
theorem dX5_become_60 : decode cX5_become 60 = .ok (.getfield 15, 3) := by decide +kernel
theorem dX5_become_63 : decode cX5_become 63 = .ok (.iconst 0, 1) := by decide +kernel
theorem dX5_become_64 : decode cX5_become 64 = .ok (.iconst 4, 1) := by decide +kernel
theorem dX5_become_65 : decode cX5_become 65 = .ok (.invokestatic 50, 3) := by decide +kernel
theorem dX5_become_68 : decode cX5_become 68 = .ok (.aload_n 1, 1) := by decide +kernel
theorem dX5_become_69 : decode cX5_become 69 = .ok (.getfield 18, 3) := by decide +kernel
theorem dX5_become_72 : decode cX5_become 72 = .ok (.iconst 0, 1) := by decide +kernel
theorem dX5_become_73 : decode cX5_become 73 = .ok (.aload_n 0, 1) := by decide +kernel
theorem dX5_become_74 : decode cX5_become 74 = .ok (.getfield 18, 3) := by decide +kernel
theorem dX5_become_77 : decode cX5_become 77 = .ok (.iconst 0, 1) := by decide +kernel
theorem dX5_become_78 : decode cX5_become 78 = .ok (.iconst 4, 1) := by decide +kernel
theorem dX5_become_79 : decode cX5_become 79 = .ok (.invokestatic 50, 3) := by decide +kernel
theorem dX5_become_82 : decode cX5_become 82 = .ok (.aload_n 1, 1) := by decide +kernel
theorem dX5_become_83 : decode cX5_become 83 = .ok (.getfield 21, 3) := by decide +kernel
theorem dX5_become_86 : decode cX5_become 86 = .ok (.iconst 0, 1) := by decide +kernel
theorem dX5_become_87 : decode cX5_become 87 = .ok (.aload_n 0, 1) := by decide +kernel
theorem dX5_become_88 : decode cX5_become 88 = .ok (.getfield 21, 3) := by decide +kernel
theorem dX5_become_91 : decode cX5_become 91 = .ok (.iconst 0, 1) := by decide +kernel
theorem dX5_become_92 : decode cX5_become 92 = .ok (.bipush 8, 2) := by decide +kernel
theorem dX5_become_94 : decode cX5_become 94 = .ok (.invokestatic 50, 3) := by decide +kernel
theorem dX5_become_97 : decode cX5_become 97 = .ok (.aload_n 1, 1) := by decide +kernel
theorem dX5_become_98 : decode cX5_become 98 = .ok (.getfield 24, 3) := by decide +kernel
theorem dX5_become_101 : decode cX5_become 101 = .ok (.iconst 0, 1) := by decide +kernel
theorem dX5_become_102 : decode cX5_become 102 = .ok (.aload_n 0, 1) := by decide +kernel
theorem dX5_become_103 : decode cX5_become 103 = .ok (.getfield 24, 3) := by decide +kernel
theorem dX5_become_106 : decode cX5_become 106 = .ok (.iconst 0, 1) := by decide +kernel
theorem dX5_become_107 : decode cX5_become 107 = .ok (.bipush 8, 2) := by decide +kernel
theorem dX5_become_109 : decode cX5_become 109 = .ok (.invokestatic 50, 3) := by decide +kernel
theorem dX5_become_112 : decode cX5_become 112 = .ok (.aload_n 1, 1) := by decide +kernel
theorem dX5_become_113 : decode cX5_become 113 = .ok (.getfield 27, 3) := by decide +kernel
theorem dX5_become_116 : decode cX5_become 116 = .ok (.iconst 0, 1) := by decide +kernel
theorem dX5_become_117 : decode cX5_become 117 = .ok (.aload_n 0, 1) := by decide +kernel
theorem dX5_become_118 : decode cX5_become 118 = .ok (.getfield 27, 3) := by decide +kernel
theorem dX5_become_121 : decode cX5_become 121 = .ok (.iconst 0, 1) := by decide +kernel
theorem dX5_become_122 : decode cX5_become 122 = .ok (.bipush 8, 2) := by decide +kernel
theorem dX5_become_124 : decode cX5_become 124 = .ok (.invokestatic 50, 3) := by decide +kernel
theorem dX5_become_127 : decode cX5_become 127 = .ok (.aload_n 1, 1) := by decide +kernel
theorem dX5_become_128 : decode cX5_become 128 = .ok (.getfield 30, 3) := by decide +kernel
theorem dX5_become_131 : decode cX5_become 131 = .ok (.iconst 0, 1) := by decide +kernel
theorem dX5_become_132 : decode cX5_become 132 = .ok (.aload_n 0, 1) := by decide +kernel
theorem dX5_become_133 : decode cX5_become 133 = .ok (.getfield 30, 3) := by decide +kernel
theorem dX5_become_136 : decode cX5_become 136 = .ok (.iconst 0, 1) := by decide +kernel
theorem dX5_become_137 : decode cX5_become 137 = .ok (.bipush 8, 2) := by decide +kernel
theorem dX5_become_139 : decode cX5_become 139 = .ok (.invokestatic 50, 3) := by decide +kernel
theorem dX5_become_142 : decode cX5_become 142 = .ok (.return_, 1) := by decide +kernel
theorem dX5_addTree_0 : decode cX5_addTree 0 = .ok (.aload_n 0, 1) := by decide +kernel
theorem dX5_addTree_1 : decode cX5_addTree 1 = .ok (.getfield 44, 3) := by decide +kernel
theorem dX5_addTree_4 : decode cX5_addTree 4 = .ok (.iconst 4, 1) := by decide +kernel
theorem dX5_addTree_5 : decode cX5_addTree 5 = .ok (.if_icmp .ge 43, 3) := by decide +kernel
theorem dX5_addTree_8 : decode cX5_addTree 8 = .ok (.aload_n 0, 1) := by decide +kernel
theorem dX5_addTree_9 : decode cX5_addTree 9 = .ok (.getfield 9, 3) := by decide +kernel
theorem dX5_addTree_12 : decode cX5_addTree 12 = .ok (.aload_n 0, 1) := by decide +kernel
theorem dX5_addTree_13 : decode cX5_addTree 13 = .ok (.getfield 44, 3) := by decide +kernel
theorem dX5_addTree_16 : decode cX5_addTree 16 = .ok (.iload_n 1, 1) := by decide +kernel
theorem dX5_addTree_17 : decode cX5_addTree 17 = .ok (.iastore, 1) := by decide +kernel
theorem dX5_addTree_18 : decode cX5_addTree 18 = .ok (.aload_n 0, 1) := by decide +kernel
theorem dX5_addTree_19 : decode cX5_addTree 19 = .ok (.getfield 15, 3) := by decide +kernel
theorem dX5_addTree_22 : decode cX5_addTree 22 = .ok (.aload_n 0, 1) := by decide +kernel
theorem dX5_addTree_23 : decode cX5_addTree 23 = .ok (.getfield 44, 3) := by decide +kernel
theorem dX5_addTree_26 : decode cX5_addTree 26 = .ok (.iload_n 2, 1) := by decide +kernel
theorem dX5_addTree_27 : decode cX5_addTree 27 = .ok (.iastore, 1) := by decide +kernel
theorem dX5_addTree_28 : decode cX5_addTree 28 = .ok (.aload_n 0, 1) := by decide +kernel
theorem dX5_addTree_29 : decode cX5_addTree 29 = .ok (.getfield 18, 3) := by decide +kernel
theorem dX5_addTree_32 : decode cX5_addTree 32 = .ok (.aload_n 0, 1) := by decide +kernel
theorem dX5_addTree_33 : decode cX5_addTree 33 = .ok (.getfield 44, 3) := by decide +kernel
theorem dX5_addTree_36 : decode cX5_addTree 36 = .ok (.iload_n 3, 1) := by decide +kernel
theorem dX5_addTree_37 : decode cX5_addTree 37 = .ok (.iastore, 1) := by decide +kernel
theorem dX5_addTree_38 : decode cX5_addTree 38 = .ok (.aload_n 0, 1) := by decide +kernel
theorem dX5_addTree_39 : decode cX5_addTree 39 = .ok (.dup, 1) := by decide +kernel
theorem dX5_addTree_40 : decode cX5_addTree 40 = .ok (.getfield 44, 3) := by decide +kernel
theorem dX5_addTree_43 : decode cX5_addTree 43 = .ok (.iconst 1, 1) := by decide +kernel
theorem dX5_addTree_44 : decode cX5_addTree 44 = .ok (.iadd, 1) := by decide +kernel
theorem dX5_addTree_45 : decode cX5_addTree 45 = .ok (.putfield 44, 3) := by decide +kernel
theorem dX5_addTree_48 : decode cX5_addTree 48 = .ok (.return_, 1) := by decide +kernel
theorem dX5_addCut_0 : decode cX5_addCut 0 = .ok (.aload_n 0, 1) := by decide +kernel
theorem dX5_addCut_1 : decode cX5_addCut 1 = .ok (.getfield 47, 3) := by decide +kernel
theorem dX5_addCut_4 : decode cX5_addCut 4 = .ok (.bipush 8, 2) := by decide +kernel
theorem dX5_addCut_6 : decode cX5_addCut 6 = .ok (.if_icmp .ge 54, 3) := by decide +kernel
theorem dX5_addCut_9 : decode cX5_addCut 9 = .ok (.aload_n 0, 1) := by decide +kernel
theorem dX5_addCut_10 : decode cX5_addCut 10 = .ok (.getfield 21, 3) := by decide +kernel
theorem dX5_addCut_13 : decode cX5_addCut 13 = .ok (.aload_n 0, 1) := by decide +kernel
theorem dX5_addCut_14 : decode cX5_addCut 14 = .ok (.getfield 47, 3) := by decide +kernel
theorem dX5_addCut_17 : decode cX5_addCut 17 = .ok (.iload_n 1, 1) := by decide +kernel
theorem dX5_addCut_18 : decode cX5_addCut 18 = .ok (.iastore, 1) := by decide +kernel
theorem dX5_addCut_19 : decode cX5_addCut 19 = .ok (.aload_n 0, 1) := by decide +kernel
theorem dX5_addCut_20 : decode cX5_addCut 20 = .ok (.getfield 24, 3) := by decide +kernel
theorem dX5_addCut_23 : decode cX5_addCut 23 = .ok (.aload_n 0, 1) := by decide +kernel
theorem dX5_addCut_24 : decode cX5_addCut 24 = .ok (.getfield 47, 3) := by decide +kernel
theorem dX5_addCut_27 : decode cX5_addCut 27 = .ok (.iload_n 2, 1) := by decide +kernel
theorem dX5_addCut_28 : decode cX5_addCut 28 = .ok (.iastore, 1) := by decide +kernel
theorem dX5_addCut_29 : decode cX5_addCut 29 = .ok (.aload_n 0, 1) := by decide +kernel
theorem dX5_addCut_30 : decode cX5_addCut 30 = .ok (.getfield 27, 3) := by decide +kernel
theorem dX5_addCut_33 : decode cX5_addCut 33 = .ok (.aload_n 0, 1) := by decide +kernel
theorem dX5_addCut_34 : decode cX5_addCut 34 = .ok (.getfield 47, 3) := by decide +kernel
theorem dX5_addCut_37 : decode cX5_addCut 37 = .ok (.iload_n 3, 1) := by decide +kernel
theorem dX5_addCut_38 : decode cX5_addCut 38 = .ok (.iastore, 1) := by decide +kernel
theorem dX5_addCut_39 : decode cX5_addCut 39 = .ok (.aload_n 0, 1) := by decide +kernel
theorem dX5_addCut_40 : decode cX5_addCut 40 = .ok (.getfield 30, 3) := by decide +kernel
theorem dX5_addCut_43 : decode cX5_addCut 43 = .ok (.aload_n 0, 1) := by decide +kernel
theorem dX5_addCut_44 : decode cX5_addCut 44 = .ok (.getfield 47, 3) := by decide +kernel
theorem dX5_addCut_47 : decode cX5_addCut 47 = .ok (.iload 4, 2) := by decide +kernel
theorem dX5_addCut_49 : decode cX5_addCut 49 = .ok (.iastore, 1) := by decide +kernel
theorem dX5_addCut_50 : decode cX5_addCut 50 = .ok (.aload_n 0, 1) := by decide +kernel
theorem dX5_addCut_51 : decode cX5_addCut 51 = .ok (.dup, 1) := by decide +kernel
theorem dX5_addCut_52 : decode cX5_addCut 52 = .ok (.getfield 47, 3) := by decide +kernel
theorem dX5_addCut_55 : decode cX5_addCut 55 = .ok (.iconst 1, 1) := by decide +kernel
theorem dX5_addCut_56 : decode cX5_addCut 56 = .ok (.iadd, 1) := by decide +kernel
theorem dX5_addCut_57 : decode cX5_addCut 57 = .ok (.putfield 47, 3) := by decide +kernel
theorem dX5_addCut_60 : decode cX5_addCut 60 = .ok (.return_, 1) := by decide +kernel
theorem dX5_removeCut_0 : decode cX5_removeCut 0 = .ok (.iload_n 1, 1) := by decide +kernel
theorem dX5_removeCut_1 : decode cX5_removeCut 1 = .ok (.istore_n 2, 1) := by decide +kernel
theorem dX5_removeCut_2 : decode cX5_removeCut 2 = .ok (.iload_n 2, 1) := by decide +kernel
theorem dX5_removeCut_3 : decode cX5_removeCut 3 = .ok (.aload_n 0, 1) := by decide +kernel
theorem dX5_removeCut_4 : decode cX5_removeCut 4 = .ok (.getfield 47, 3) := by decide +kernel
theorem dX5_removeCut_7 : decode cX5_removeCut 7 = .ok (.iconst 1, 1) := by decide +kernel
theorem dX5_removeCut_8 : decode cX5_removeCut 8 = .ok (.isub, 1) := by decide +kernel
theorem dX5_removeCut_9 : decode cX5_removeCut 9 = .ok (.if_icmp .ge 65, 3) := by decide +kernel
theorem dX5_removeCut_12 : decode cX5_removeCut 12 = .ok (.aload_n 0, 1) := by decide +kernel
theorem dX5_removeCut_13 : decode cX5_removeCut 13 = .ok (.getfield 21, 3) := by decide +kernel
theorem dX5_removeCut_16 : decode cX5_removeCut 16 = .ok (.iload_n 2, 1) := by decide +kernel
theorem dX5_removeCut_17 : decode cX5_removeCut 17 = .ok (.aload_n 0, 1) := by decide +kernel
theorem dX5_removeCut_18 : decode cX5_removeCut 18 = .ok (.getfield 21, 3) := by decide +kernel
theorem dX5_removeCut_21 : decode cX5_removeCut 21 = .ok (.iload_n 2, 1) := by decide +kernel
theorem dX5_removeCut_22 : decode cX5_removeCut 22 = .ok (.iconst 1, 1) := by decide +kernel
theorem dX5_removeCut_23 : decode cX5_removeCut 23 = .ok (.iadd, 1) := by decide +kernel
theorem dX5_removeCut_24 : decode cX5_removeCut 24 = .ok (.iaload, 1) := by decide +kernel
theorem dX5_removeCut_25 : decode cX5_removeCut 25 = .ok (.iastore, 1) := by decide +kernel
theorem dX5_removeCut_26 : decode cX5_removeCut 26 = .ok (.aload_n 0, 1) := by decide +kernel
theorem dX5_removeCut_27 : decode cX5_removeCut 27 = .ok (.getfield 24, 3) := by decide +kernel
theorem dX5_removeCut_30 : decode cX5_removeCut 30 = .ok (.iload_n 2, 1) := by decide +kernel
theorem dX5_removeCut_31 : decode cX5_removeCut 31 = .ok (.aload_n 0, 1) := by decide +kernel
theorem dX5_removeCut_32 : decode cX5_removeCut 32 = .ok (.getfield 24, 3) := by decide +kernel
theorem dX5_removeCut_35 : decode cX5_removeCut 35 = .ok (.iload_n 2, 1) := by decide +kernel
theorem dX5_removeCut_36 : decode cX5_removeCut 36 = .ok (.iconst 1, 1) := by decide +kernel
theorem dX5_removeCut_37 : decode cX5_removeCut 37 = .ok (.iadd, 1) := by decide +kernel
theorem dX5_removeCut_38 : decode cX5_removeCut 38 = .ok (.iaload, 1) := by decide +kernel
theorem dX5_removeCut_39 : decode cX5_removeCut 39 = .ok (.iastore, 1) := by decide +kernel
theorem dX5_removeCut_40 : decode cX5_removeCut 40 = .ok (.aload_n 0, 1) := by decide +kernel
theorem dX5_removeCut_41 : decode cX5_removeCut 41 = .ok (.getfield 27, 3) := by decide +kernel
theorem dX5_removeCut_44 : decode cX5_removeCut 44 = .ok (.iload_n 2, 1) := by decide +kernel
theorem dX5_removeCut_45 : decode cX5_removeCut 45 = .ok (.aload_n 0, 1) := by decide +kernel
theorem dX5_removeCut_46 : decode cX5_removeCut 46 = .ok (.getfield 27, 3) := by decide +kernel
theorem dX5_removeCut_49 : decode cX5_removeCut 49 = .ok (.iload_n 2, 1) := by decide +kernel
theorem dX5_removeCut_50 : decode cX5_removeCut 50 = .ok (.iconst 1, 1) := by decide +kernel
theorem dX5_removeCut_51 : decode cX5_removeCut 51 = .ok (.iadd, 1) := by decide +kernel
theorem dX5_removeCut_52 : decode cX5_removeCut 52 = .ok (.iaload, 1) := by decide +kernel
theorem dX5_removeCut_53 : decode cX5_removeCut 53 = .ok (.iastore, 1) := by decide +kernel
theorem dX5_removeCut_54 : decode cX5_removeCut 54 = .ok (.aload_n 0, 1) := by decide +kernel
theorem dX5_removeCut_55 : decode cX5_removeCut 55 = .ok (.getfield 30, 3) := by decide +kernel
theorem dX5_removeCut_58 : decode cX5_removeCut 58 = .ok (.iload_n 2, 1) := by decide +kernel
theorem dX5_removeCut_59 : decode cX5_removeCut 59 = .ok (.aload_n 0, 1) := by decide +kernel
theorem dX5_removeCut_60 : decode cX5_removeCut 60 = .ok (.getfield 30, 3) := by decide +kernel
theorem dX5_removeCut_63 : decode cX5_removeCut 63 = .ok (.iload_n 2, 1) := by decide +kernel
theorem dX5_removeCut_64 : decode cX5_removeCut 64 = .ok (.iconst 1, 1) := by decide +kernel
theorem dX5_removeCut_65 : decode cX5_removeCut 65 = .ok (.iadd, 1) := by decide +kernel
theorem dX5_removeCut_66 : decode cX5_removeCut 66 = .ok (.iaload, 1) := by decide +kernel
theorem dX5_removeCut_67 : decode cX5_removeCut 67 = .ok (.iastore, 1) := by decide +kernel
theorem dX5_removeCut_68 : decode cX5_removeCut 68 = .ok (.iinc 2 1, 3) := by decide +kernel
theorem dX5_removeCut_71 : decode cX5_removeCut 71 = .ok (.goto (-69), 3) := by decide +kernel
theorem dX5_removeCut_74 : decode cX5_removeCut 74 = .ok (.aload_n 0, 1) := by decide +kernel
theorem dX5_removeCut_75 : decode cX5_removeCut 75 = .ok (.dup, 1) := by decide +kernel
theorem dX5_removeCut_76 : decode cX5_removeCut 76 = .ok (.getfield 47, 3) := by decide +kernel
theorem dX5_removeCut_79 : decode cX5_removeCut 79 = .ok (.iconst 1, 1) := by decide +kernel
theorem dX5_removeCut_80 : decode cX5_removeCut 80 = .ok (.isub, 1) := by decide +kernel
theorem dX5_removeCut_81 : decode cX5_removeCut 81 = .ok (.putfield 47, 3) := by decide +kernel
theorem dX5_removeCut_84 : decode cX5_removeCut 84 = .ok (.return_, 1) := by decide +kernel
theorem dX5_hasTree_0 : decode cX5_hasTree 0 = .ok (.iload_n 1, 1) := by decide +kernel
theorem dX5_hasTree_1 : decode cX5_hasTree 1 = .ok (.aload_n 0, 1) := by decide +kernel
theorem dX5_hasTree_2 : decode cX5_hasTree 2 = .ok (.getfield 44, 3) := by decide +kernel
theorem dX5_hasTree_5 : decode cX5_hasTree 5 = .ok (.invokestatic 56, 3) := by decide +kernel
theorem dX5_hasTree_8 : decode cX5_hasTree 8 = .ok (.ireturn, 1) := by decide +kernel
theorem dX5_hasCut_0 : decode cX5_hasCut 0 = .ok (.iload_n 1, 1) := by decide +kernel
theorem dX5_hasCut_1 : decode cX5_hasCut 1 = .ok (.aload_n 0, 1) := by decide +kernel
theorem dX5_hasCut_2 : decode cX5_hasCut 2 = .ok (.getfield 47, 3) := by decide +kernel
theorem dX5_hasCut_5 : decode cX5_hasCut 5 = .ok (.invokestatic 56, 3) := by decide +kernel
theorem dX5_hasCut_8 : decode cX5_hasCut 8 = .ok (.ireturn, 1) := by decide +kernel
theorem dX5_hasCutAt_0 : decode cX5_hasCutAt 0 = .ok (.iconst 0, 1) := by decide +kernel
theorem dX5_hasCutAt_1 : decode cX5_hasCutAt 1 = .ok (.istore_n 3, 1) := by decide +kernel
theorem dX5_hasCutAt_2 : decode cX5_hasCutAt 2 = .ok (.iload_n 3, 1) := by decide +kernel
theorem dX5_hasCutAt_3 : decode cX5_hasCutAt 3 = .ok (.aload_n 0, 1) := by decide +kernel
theorem dX5_hasCutAt_4 : decode cX5_hasCutAt 4 = .ok (.getfield 47, 3) := by decide +kernel
theorem dX5_hasCutAt_7 : decode cX5_hasCutAt 7 = .ok (.if_icmp .ge 31, 3) := by decide +kernel
theorem dX5_hasCutAt_10 : decode cX5_hasCutAt 10 = .ok (.aload_n 0, 1) := by decide +kernel
theorem dX5_hasCutAt_11 : decode cX5_hasCutAt 11 = .ok (.getfield 21, 3) := by decide +kernel
theorem dX5_hasCutAt_14 : decode cX5_hasCutAt 14 = .ok (.iload_n 3, 1) := by decide +kernel
theorem dX5_hasCutAt_15 : decode cX5_hasCutAt 15 = .ok (.iaload, 1) := by decide +kernel
theorem dX5_hasCutAt_16 : decode cX5_hasCutAt 16 = .ok (.iload_n 1, 1) := by decide +kernel
theorem dX5_hasCutAt_17 : decode cX5_hasCutAt 17 = .ok (.if_icmp .ne 15, 3) := by decide +kernel
theorem dX5_hasCutAt_20 : decode cX5_hasCutAt 20 = .ok (.aload_n 0, 1) := by decide +kernel
theorem dX5_hasCutAt_21 : decode cX5_hasCutAt 21 = .ok (.getfield 27, 3) := by decide +kernel
theorem dX5_hasCutAt_24 : decode cX5_hasCutAt 24 = .ok (.iload_n 3, 1) := by decide +kernel
theorem dX5_hasCutAt_25 : decode cX5_hasCutAt 25 = .ok (.iaload, 1) := by decide +kernel
theorem dX5_hasCutAt_26 : decode cX5_hasCutAt 26 = .ok (.iload_n 2, 1) := by decide +kernel
theorem dX5_hasCutAt_27 : decode cX5_hasCutAt 27 = .ok (.if_icmp .ne 5, 3) := by decide +kernel
theorem dX5_hasCutAt_30 : decode cX5_hasCutAt 30 = .ok (.iconst 1, 1) := by decide +kernel
theorem dX5_hasCutAt_31 : decode cX5_hasCutAt 31 = .ok (.ireturn, 1) := by decide +kernel
theorem dX5_hasCutAt_32 : decode cX5_hasCutAt 32 = .ok (.iinc 3 1, 3) := by decide +kernel
theorem dX5_hasCutAt_35 : decode cX5_hasCutAt 35 = .ok (.goto (-33), 3) := by decide +kernel
theorem dX5_hasCutAt_38 : decode cX5_hasCutAt 38 = .ok (.iconst 0, 1) := by decide +kernel
theorem dX5_hasCutAt_39 : decode cX5_hasCutAt 39 = .ok (.ireturn, 1) := by decide +kernel
theorem dX5_growth_0 : decode cX5_growth 0 = .ok (.aload_n 0, 1) := by decide +kernel
theorem dX5_growth_1 : decode cX5_growth 1 = .ok (.iload_n 1, 1) := by decide +kernel
theorem dX5_growth_2 : decode cX5_growth 2 = .ok (.invokevirtual 60, 3) := by decide +kernel
theorem dX5_growth_5 : decode cX5_growth 5 = .ok (.sipush 999, 3) := by decide +kernel
theorem dX5_growth_8 : decode cX5_growth 8 = .ok (.aload_n 0, 1) := by decide +kernel
theorem dX5_growth_9 : decode cX5_growth 9 = .ok (.getfield 15, 3) := by decide +kernel
theorem dX5_growth_12 : decode cX5_growth 12 = .ok (.iload_n 1, 1) := by decide +kernel
theorem dX5_growth_13 : decode cX5_growth 13 = .ok (.iaload, 1) := by decide +kernel
theorem dX5_growth_14 : decode cX5_growth 14 = .ok (.isub, 1) := by decide +kernel
theorem dX5_growth_15 : decode cX5_growth 15 = .ok (.invokestatic 64, 3) := by decide +kernel
theorem dX5_growth_18 : decode cX5_growth 18 = .ok (.ireturn, 1) := by decide +kernel
theorem dX5_growthByKind_0 : decode cX5_growthByKind 0 = .ok (.aload_n 0, 1) := by decide +kernel
theorem dX5_growthByKind_1 : decode cX5_growthByKind 1 = .ok (.getfield 18, 3) := by decide +kernel
theorem dX5_growthByKind_4 : decode cX5_growthByKind 4 = .ok (.iload_n 1, 1) := by decide +kernel
theorem dX5_growthByKind_5 : decode cX5_growthByKind 5 = .ok (.iaload, 1) := by decide +kernel
theorem dX5_growthByKind_6 : decode cX5_growthByKind 6 = .ok (.istore_n 2, 1) := by decide +kernel
theorem dX5_growthByKind_7 : decode cX5_growthByKind 7 = .ok (.iconst 1, 1) := by decide +kernel
theorem dX5_growthByKind_8 : decode cX5_growthByKind 8 = .ok (.iload_n 2, 1) := by decide +kernel
theorem dX5_growthByKind_9 : decode cX5_growthByKind 9 = .ok (.iconst 3, 1) := by decide +kernel
theorem dX5_growthByKind_10 : decode cX5_growthByKind 10 = .ok (.idiv, 1) := by decide +kernel
theorem dX5_growthByKind_11 : decode cX5_growthByKind 11 = .ok (.iadd, 1) := by decide +kernel
theorem dX5_growthByKind_12 : decode cX5_growthByKind 12 = .ok (.istore_n 3, 1) := by decide +kernel
theorem dX5_growthByKind_13 : decode cX5_growthByKind 13 = .ok (.aload_n 0, 1) := by decide +kernel
theorem dX5_growthByKind_14 : decode cX5_growthByKind 14 = .ok (.getfield 9, 3) := by decide +kernel
theorem dX5_growthByKind_17 : decode cX5_growthByKind 17 = .ok (.iload_n 1, 1) := by decide +kernel
theorem dX5_growthByKind_18 : decode cX5_growthByKind 18 = .ok (.iaload, 1) := by decide +kernel
theorem dX5_growthByKind_19 : decode cX5_growthByKind 19 = .ok (.tableswitch 54 1 4 #[29, 31, 35, 52], 29) := by decide +kernel
theorem dX5_growthByKind_48 : decode cX5_growthByKind 48 = .ok (.iload_n 3, 1) := by decide +kernel
theorem dX5_growthByKind_49 : decode cX5_growthByKind 49 = .ok (.ireturn, 1) := by decide +kernel
theorem dX5_growthByKind_50 : decode cX5_growthByKind 50 = .ok (.iload_n 3, 1) := by decide +kernel
theorem dX5_growthByKind_51 : decode cX5_growthByKind 51 = .ok (.iconst 2, 1) := by decide +kernel
theorem dX5_growthByKind_52 : decode cX5_growthByKind 52 = .ok (.idiv, 1) := by decide +kernel
theorem dX5_growthByKind_53 : decode cX5_growthByKind 53 = .ok (.ireturn, 1) := by decide +kernel
theorem dX5_growthByKind_54 : decode cX5_growthByKind 54 = .ok (.aload_n 0, 1) := by decide +kernel
theorem dX5_growthByKind_55 : decode cX5_growthByKind 55 = .ok (.getfield 41, 3) := by decide +kernel
theorem dX5_growthByKind_58 : decode cX5_growthByKind 58 = .ok (.iconst 2, 1) := by decide +kernel
theorem dX5_growthByKind_59 : decode cX5_growthByKind 59 = .ok (.irem, 1) := by decide +kernel
theorem dX5_growthByKind_60 : decode cX5_growthByKind 60 = .ok (.ifCond .ne 9, 3) := by decide +kernel
theorem dX5_growthByKind_63 : decode cX5_growthByKind 63 = .ok (.iload_n 3, 1) := by decide +kernel
theorem dX5_growthByKind_64 : decode cX5_growthByKind 64 = .ok (.iconst 2, 1) := by decide +kernel
theorem dX5_growthByKind_65 : decode cX5_growthByKind 65 = .ok (.iadd, 1) := by decide +kernel
theorem dX5_growthByKind_66 : decode cX5_growthByKind 66 = .ok (.goto 4, 3) := by decide +kernel
theorem dX5_growthByKind_69 : decode cX5_growthByKind 69 = .ok (.iload_n 3, 1) := by decide +kernel
theorem dX5_growthByKind_70 : decode cX5_growthByKind 70 = .ok (.ireturn, 1) := by decide +kernel
theorem dX5_growthByKind_71 : decode cX5_growthByKind 71 = .ok (.iload_n 2, 1) := by decide +kernel
theorem dX5_growthByKind_72 : decode cX5_growthByKind 72 = .ok (.ireturn, 1) := by decide +kernel
theorem dX5_growthByKind_73 : decode cX5_growthByKind 73 = .ok (.iconst 0, 1) := by decide +kernel
theorem dX5_growthByKind_74 : decode cX5_growthByKind 74 = .ok (.ireturn, 1) := by decide +kernel
theorem dX5_closesBy_0 : decode cX5_closesBy 0 = .ok (.iload_n 2, 1) := by decide +kernel
theorem dX5_closesBy_1 : decode cX5_closesBy 1 = .ok (.iconst 2, 1) := by decide +kernel
theorem dX5_closesBy_2 : decode cX5_closesBy 2 = .ok (.if_icmp .ne 26, 3) := by decide +kernel
theorem dX5_closesBy_5 : decode cX5_closesBy 5 = .ok (.iload_n 1, 1) := by decide +kernel
theorem dX5_closesBy_6 : decode cX5_closesBy 6 = .ok (.iconst 1, 1) := by decide +kernel
theorem dX5_closesBy_7 : decode cX5_closesBy 7 = .ok (.if_icmp .lt 17, 3) := by decide +kernel
theorem dX5_closesBy_10 : decode cX5_closesBy 10 = .ok (.aload_n 0, 1) := by decide +kernel
theorem dX5_closesBy_11 : decode cX5_closesBy 11 = .ok (.getfield 41, 3) := by decide +kernel
theorem dX5_closesBy_14 : decode cX5_closesBy 14 = .ok (.iconst 2, 1) := by decide +kernel
theorem dX5_closesBy_15 : decode cX5_closesBy 15 = .ok (.irem, 1) := by decide +kernel
theorem dX5_closesBy_16 : decode cX5_closesBy 16 = .ok (.iconst 1, 1) := by decide +kernel
theorem dX5_closesBy_17 : decode cX5_closesBy 17 = .ok (.if_icmp .ne 7, 3) := by decide +kernel
theorem dX5_closesBy_20 : decode cX5_closesBy 20 = .ok (.iconst 1, 1) := by decide +kernel
theorem dX5_closesBy_21 : decode cX5_closesBy 21 = .ok (.goto 17, 3) := by decide +kernel
theorem dX5_closesBy_24 : decode cX5_closesBy 24 = .ok (.iconst 0, 1) := by decide +kernel
theorem dX5_closesBy_25 : decode cX5_closesBy 25 = .ok (.goto 13, 3) := by decide +kernel
theorem dX5_closesBy_28 : decode cX5_closesBy 28 = .ok (.iload_n 1, 1) := by decide +kernel
theorem dX5_closesBy_29 : decode cX5_closesBy 29 = .ok (.iconst 3, 1) := by decide +kernel
theorem dX5_closesBy_30 : decode cX5_closesBy 30 = .ok (.if_icmp .lt 7, 3) := by decide +kernel
theorem dX5_closesBy_33 : decode cX5_closesBy 33 = .ok (.iconst 1, 1) := by decide +kernel
theorem dX5_closesBy_34 : decode cX5_closesBy 34 = .ok (.goto 4, 3) := by decide +kernel
theorem dX5_closesBy_37 : decode cX5_closesBy 37 = .ok (.iconst 0, 1) := by decide +kernel
theorem dX5_closesBy_38 : decode cX5_closesBy 38 = .ok (.ireturn, 1) := by decide +kernel
theorem dX5_passYear_0 : decode cX5_passYear 0 = .ok (.iconst 0, 1) := by decide +kernel
theorem dX5_passYear_1 : decode cX5_passYear 1 = .ok (.istore_n 1, 1) := by decide +kernel
theorem dX5_passYear_2 : decode cX5_passYear 2 = .ok (.iload_n 1, 1) := by decide +kernel
theorem dX5_passYear_3 : decode cX5_passYear 3 = .ok (.aload_n 0, 1) := by decide +kernel
theorem dX5_passYear_4 : decode cX5_passYear 4 = .ok (.getfield 44, 3) := by decide +kernel
theorem dX5_passYear_7 : decode cX5_passYear 7 = .ok (.if_icmp .ge 44, 3) := by decide +kernel
theorem dX5_passYear_10 : decode cX5_passYear 10 = .ok (.aload_n 0, 1) := by decide +kernel
theorem dX5_passYear_11 : decode cX5_passYear 11 = .ok (.iload_n 1, 1) := by decide +kernel
theorem dX5_passYear_12 : decode cX5_passYear 12 = .ok (.invokevirtual 70, 3) := by decide +kernel
theorem dX5_passYear_15 : decode cX5_passYear 15 = .ok (.istore_n 2, 1) := by decide +kernel
theorem dX5_passYear_16 : decode cX5_passYear 16 = .ok (.aload_n 0, 1) := by decide +kernel
theorem dX5_passYear_17 : decode cX5_passYear 17 = .ok (.getfield 15, 3) := by decide +kernel
theorem dX5_passYear_20 : decode cX5_passYear 20 = .ok (.iload_n 1, 1) := by decide +kernel
theorem dX5_passYear_21 : decode cX5_passYear 21 = .ok (.dup2, 1) := by decide +kernel
theorem dX5_passYear_22 : decode cX5_passYear 22 = .ok (.iaload, 1) := by decide +kernel
theorem dX5_passYear_23 : decode cX5_passYear 23 = .ok (.iload_n 2, 1) := by decide +kernel
theorem dX5_passYear_24 : decode cX5_passYear 24 = .ok (.iadd, 1) := by decide +kernel
theorem dX5_passYear_25 : decode cX5_passYear 25 = .ok (.iastore, 1) := by decide +kernel
theorem dX5_passYear_26 : decode cX5_passYear 26 = .ok (.aload_n 0, 1) := by decide +kernel
theorem dX5_passYear_27 : decode cX5_passYear 27 = .ok (.iload_n 2, 1) := by decide +kernel
theorem dX5_passYear_28 : decode cX5_passYear 28 = .ok (.aload_n 0, 1) := by decide +kernel
theorem dX5_passYear_29 : decode cX5_passYear 29 = .ok (.getfield 9, 3) := by decide +kernel
theorem dX5_passYear_32 : decode cX5_passYear 32 = .ok (.iload_n 1, 1) := by decide +kernel
theorem dX5_passYear_33 : decode cX5_passYear 33 = .ok (.iaload, 1) := by decide +kernel
theorem dX5_passYear_34 : decode cX5_passYear 34 = .ok (.invokevirtual 73, 3) := by decide +kernel
theorem dX5_passYear_37 : decode cX5_passYear 37 = .ok (.ifCond .eq 8, 3) := by decide +kernel
theorem dX5_passYear_40 : decode cX5_passYear 40 = .ok (.aload_n 0, 1) := by decide +kernel
theorem dX5_passYear_41 : decode cX5_passYear 41 = .ok (.iload_n 1, 1) := by decide +kernel
theorem dX5_passYear_42 : decode cX5_passYear 42 = .ok (.invokevirtual 76, 3) := by decide +kernel
theorem dX5_passYear_45 : decode cX5_passYear 45 = .ok (.iinc 1 1, 3) := by decide +kernel
theorem dX5_passYear_48 : decode cX5_passYear 48 = .ok (.goto (-46), 3) := by decide +kernel
theorem dX5_passYear_51 : decode cX5_passYear 51 = .ok (.aload_n 0, 1) := by decide +kernel
theorem dX5_passYear_52 : decode cX5_passYear 52 = .ok (.dup, 1) := by decide +kernel
theorem dX5_passYear_53 : decode cX5_passYear 53 = .ok (.getfield 41, 3) := by decide +kernel
theorem dX5_passYear_56 : decode cX5_passYear 56 = .ok (.iconst 1, 1) := by decide +kernel
theorem dX5_passYear_57 : decode cX5_passYear 57 = .ok (.iadd, 1) := by decide +kernel
theorem dX5_passYear_58 : decode cX5_passYear 58 = .ok (.putfield 41, 3) := by decide +kernel
theorem dX5_passYear_61 : decode cX5_passYear 61 = .ok (.return_, 1) := by decide +kernel
theorem dX5_closeCutsOf_0 : decode cX5_closeCutsOf 0 = .ok (.iconst 0, 1) := by decide +kernel
theorem dX5_closeCutsOf_1 : decode cX5_closeCutsOf 1 = .ok (.istore_n 2, 1) := by decide +kernel
theorem dX5_closeCutsOf_2 : decode cX5_closeCutsOf 2 = .ok (.iload_n 2, 1) := by decide +kernel
theorem dX5_closeCutsOf_3 : decode cX5_closeCutsOf 3 = .ok (.aload_n 0, 1) := by decide +kernel
theorem dX5_closeCutsOf_4 : decode cX5_closeCutsOf 4 = .ok (.getfield 47, 3) := by decide +kernel
theorem dX5_closeCutsOf_7 : decode cX5_closeCutsOf 7 = .ok (.if_icmp .ge 38, 3) := by decide +kernel
theorem dX5_closeCutsOf_10 : decode cX5_closeCutsOf 10 = .ok (.aload_n 0, 1) := by decide +kernel
theorem dX5_closeCutsOf_11 : decode cX5_closeCutsOf 11 = .ok (.getfield 21, 3) := by decide +kernel
theorem dX5_closeCutsOf_14 : decode cX5_closeCutsOf 14 = .ok (.iload_n 2, 1) := by decide +kernel
theorem dX5_closeCutsOf_15 : decode cX5_closeCutsOf 15 = .ok (.iaload, 1) := by decide +kernel
theorem dX5_closeCutsOf_16 : decode cX5_closeCutsOf 16 = .ok (.iload_n 1, 1) := by decide +kernel
theorem dX5_closeCutsOf_17 : decode cX5_closeCutsOf 17 = .ok (.if_icmp .ne 22, 3) := by decide +kernel
theorem dX5_closeCutsOf_20 : decode cX5_closeCutsOf 20 = .ok (.aload_n 0, 1) := by decide +kernel
theorem dX5_closeCutsOf_21 : decode cX5_closeCutsOf 21 = .ok (.getfield 30, 3) := by decide +kernel
theorem dX5_closeCutsOf_24 : decode cX5_closeCutsOf 24 = .ok (.iload_n 2, 1) := by decide +kernel
theorem dX5_closeCutsOf_25 : decode cX5_closeCutsOf 25 = .ok (.iaload, 1) := by decide +kernel
theorem dX5_closeCutsOf_26 : decode cX5_closeCutsOf 26 = .ok (.ifCond .le 13, 3) := by decide +kernel
theorem dX5_closeCutsOf_29 : decode cX5_closeCutsOf 29 = .ok (.aload_n 0, 1) := by decide +kernel
theorem dX5_closeCutsOf_30 : decode cX5_closeCutsOf 30 = .ok (.getfield 30, 3) := by decide +kernel
theorem dX5_closeCutsOf_33 : decode cX5_closeCutsOf 33 = .ok (.iload_n 2, 1) := by decide +kernel
theorem dX5_closeCutsOf_34 : decode cX5_closeCutsOf 34 = .ok (.dup2, 1) := by decide +kernel
theorem dX5_closeCutsOf_35 : decode cX5_closeCutsOf 35 = .ok (.iaload, 1) := by decide +kernel
theorem dX5_closeCutsOf_36 : decode cX5_closeCutsOf 36 = .ok (.iconst 1, 1) := by decide +kernel
theorem dX5_closeCutsOf_37 : decode cX5_closeCutsOf 37 = .ok (.isub, 1) := by decide +kernel
theorem dX5_closeCutsOf_38 : decode cX5_closeCutsOf 38 = .ok (.iastore, 1) := by decide +kernel
theorem dX5_closeCutsOf_39 : decode cX5_closeCutsOf 39 = .ok (.iinc 2 1, 3) := by decide +kernel
theorem dX5_closeCutsOf_42 : decode cX5_closeCutsOf 42 = .ok (.goto (-40), 3) := by decide +kernel
theorem dX5_closeCutsOf_45 : decode cX5_closeCutsOf 45 = .ok (.return_, 1) := by decide +kernel
theorem dX5_passYears_0 : decode cX5_passYears 0 = .ok (.iconst 0, 1) := by decide +kernel
theorem dX5_passYears_1 : decode cX5_passYears 1 = .ok (.istore_n 2, 1) := by decide +kernel
theorem dX5_passYears_2 : decode cX5_passYears 2 = .ok (.iload_n 2, 1) := by decide +kernel
theorem dX5_passYears_3 : decode cX5_passYears 3 = .ok (.iload_n 1, 1) := by decide +kernel
theorem dX5_passYears_4 : decode cX5_passYears 4 = .ok (.if_icmp .ge 13, 3) := by decide +kernel
theorem dX5_passYears_7 : decode cX5_passYears 7 = .ok (.aload_n 0, 1) := by decide +kernel
theorem dX5_passYears_8 : decode cX5_passYears 8 = .ok (.invokevirtual 80, 3) := by decide +kernel
theorem dX5_passYears_11 : decode cX5_passYears 11 = .ok (.iinc 2 1, 3) := by decide +kernel
theorem dX5_passYears_14 : decode cX5_passYears 14 = .ok (.goto (-12), 3) := by decide +kernel
theorem dX5_passYears_17 : decode cX5_passYears 17 = .ok (.return_, 1) := by decide +kernel
theorem dX5_readable_0 : decode cX5_readable 0 = .ok (.iconst 0, 1) := by decide +kernel
theorem dX5_readable_1 : decode cX5_readable 1 = .ok (.istore_n 1, 1) := by decide +kernel
theorem dX5_readable_2 : decode cX5_readable 2 = .ok (.iconst 0, 1) := by decide +kernel
theorem dX5_readable_3 : decode cX5_readable 3 = .ok (.istore_n 2, 1) := by decide +kernel
theorem dX5_readable_4 : decode cX5_readable 4 = .ok (.iload_n 2, 1) := by decide +kernel
theorem dX5_readable_5 : decode cX5_readable 5 = .ok (.aload_n 0, 1) := by decide +kernel
theorem dX5_readable_6 : decode cX5_readable 6 = .ok (.getfield 47, 3) := by decide +kernel
theorem dX5_readable_9 : decode cX5_readable 9 = .ok (.if_icmp .ge 28, 3) := by decide +kernel
theorem dX5_readable_12 : decode cX5_readable 12 = .ok (.iload_n 1, 1) := by decide +kernel
theorem dX5_readable_13 : decode cX5_readable 13 = .ok (.aload_n 0, 1) := by decide +kernel
theorem dX5_readable_14 : decode cX5_readable 14 = .ok (.getfield 30, 3) := by decide +kernel
theorem dX5_readable_17 : decode cX5_readable 17 = .ok (.iload_n 2, 1) := by decide +kernel
theorem dX5_readable_18 : decode cX5_readable 18 = .ok (.iaload, 1) := by decide +kernel
theorem dX5_readable_19 : decode cX5_readable 19 = .ok (.ifCond .le 9, 3) := by decide +kernel
theorem dX5_readable_22 : decode cX5_readable 22 = .ok (.iconst 1, 1) := by decide +kernel
theorem dX5_readable_23 : decode cX5_readable 23 = .ok (.iload_n 2, 1) := by decide +kernel
theorem dX5_readable_24 : decode cX5_readable 24 = .ok (.ishl, 1) := by decide +kernel
theorem dX5_readable_25 : decode cX5_readable 25 = .ok (.goto 4, 3) := by decide +kernel
theorem dX5_readable_28 : decode cX5_readable 28 = .ok (.iconst 0, 1) := by decide +kernel
theorem dX5_readable_29 : decode cX5_readable 29 = .ok (.ior, 1) := by decide +kernel
theorem dX5_readable_30 : decode cX5_readable 30 = .ok (.istore_n 1, 1) := by decide +kernel
theorem dX5_readable_31 : decode cX5_readable 31 = .ok (.iinc 2 1, 3) := by decide +kernel
theorem dX5_readable_34 : decode cX5_readable 34 = .ok (.goto (-30), 3) := by decide +kernel
theorem dX5_readable_37 : decode cX5_readable 37 = .ok (.iload_n 1, 1) := by decide +kernel
theorem dX5_readable_38 : decode cX5_readable 38 = .ok (.ireturn, 1) := by decide +kernel
theorem dX5_readableOn_0 : decode cX5_readableOn 0 = .ok (.aload_n 0, 1) := by decide +kernel
theorem dX5_readableOn_1 : decode cX5_readableOn 1 = .ok (.invokevirtual 83, 3) := by decide +kernel
theorem dX5_readableOn_4 : decode cX5_readableOn 4 = .ok (.istore_n 2, 1) := by decide +kernel
theorem dX5_readableOn_5 : decode cX5_readableOn 5 = .ok (.iconst 0, 1) := by decide +kernel
theorem dX5_readableOn_6 : decode cX5_readableOn 6 = .ok (.istore_n 3, 1) := by decide +kernel
theorem dX5_readableOn_7 : decode cX5_readableOn 7 = .ok (.iload_n 3, 1) := by decide +kernel
theorem dX5_readableOn_8 : decode cX5_readableOn 8 = .ok (.aload_n 0, 1) := by decide +kernel
theorem dX5_readableOn_9 : decode cX5_readableOn 9 = .ok (.getfield 47, 3) := by decide +kernel
theorem dX5_readableOn_12 : decode cX5_readableOn 12 = .ok (.if_icmp .ge 33, 3) := by decide +kernel
theorem dX5_readableOn_15 : decode cX5_readableOn 15 = .ok (.iload_n 2, 1) := by decide +kernel
theorem dX5_readableOn_16 : decode cX5_readableOn 16 = .ok (.aload_n 0, 1) := by decide +kernel
theorem dX5_readableOn_17 : decode cX5_readableOn 17 = .ok (.getfield 21, 3) := by decide +kernel
theorem dX5_readableOn_20 : decode cX5_readableOn 20 = .ok (.iload_n 3, 1) := by decide +kernel
theorem dX5_readableOn_21 : decode cX5_readableOn 21 = .ok (.iaload, 1) := by decide +kernel
theorem dX5_readableOn_22 : decode cX5_readableOn 22 = .ok (.iload_n 1, 1) := by decide +kernel
theorem dX5_readableOn_23 : decode cX5_readableOn 23 = .ok (.if_icmp .ne 9, 3) := by decide +kernel
theorem dX5_readableOn_26 : decode cX5_readableOn 26 = .ok (.sipush 255, 3) := by decide +kernel
theorem dX5_readableOn_29 : decode cX5_readableOn 29 = .ok (.goto 8, 3) := by decide +kernel
theorem dX5_readableOn_32 : decode cX5_readableOn 32 = .ok (.iconst 1, 1) := by decide +kernel
theorem dX5_readableOn_33 : decode cX5_readableOn 33 = .ok (.iload_n 3, 1) := by decide +kernel
theorem dX5_readableOn_34 : decode cX5_readableOn 34 = .ok (.ishl, 1) := by decide +kernel
theorem dX5_readableOn_35 : decode cX5_readableOn 35 = .ok (.iconst (-1), 1) := by decide +kernel
theorem dX5_readableOn_36 : decode cX5_readableOn 36 = .ok (.ixor, 1) := by decide +kernel
theorem dX5_readableOn_37 : decode cX5_readableOn 37 = .ok (.iand, 1) := by decide +kernel
theorem dX5_readableOn_38 : decode cX5_readableOn 38 = .ok (.istore_n 2, 1) := by decide +kernel
theorem dX5_readableOn_39 : decode cX5_readableOn 39 = .ok (.iinc 3 1, 3) := by decide +kernel
theorem dX5_readableOn_42 : decode cX5_readableOn 42 = .ok (.goto (-35), 3) := by decide +kernel
theorem dX5_readableOn_45 : decode cX5_readableOn 45 = .ok (.iload_n 2, 1) := by decide +kernel
theorem dX5_readableOn_46 : decode cX5_readableOn 46 = .ok (.ireturn, 1) := by decide +kernel
theorem dX5_bothReadable_0 : decode cX5_bothReadable 0 = .ok (.aload_n 0, 1) := by decide +kernel
theorem dX5_bothReadable_1 : decode cX5_bothReadable 1 = .ok (.getfield 21, 3) := by decide +kernel
theorem dX5_bothReadable_4 : decode cX5_bothReadable 4 = .ok (.iload_n 1, 1) := by decide +kernel
theorem dX5_bothReadable_5 : decode cX5_bothReadable 5 = .ok (.iaload, 1) := by decide +kernel
theorem dX5_bothReadable_6 : decode cX5_bothReadable 6 = .ok (.aload_n 0, 1) := by decide +kernel
theorem dX5_bothReadable_7 : decode cX5_bothReadable 7 = .ok (.getfield 21, 3) := by decide +kernel
theorem dX5_bothReadable_10 : decode cX5_bothReadable 10 = .ok (.iload_n 2, 1) := by decide +kernel
theorem dX5_bothReadable_11 : decode cX5_bothReadable 11 = .ok (.iaload, 1) := by decide +kernel
theorem dX5_bothReadable_12 : decode cX5_bothReadable 12 = .ok (.if_icmp .ne 25, 3) := by decide +kernel
theorem dX5_bothReadable_15 : decode cX5_bothReadable 15 = .ok (.aload_n 0, 1) := by decide +kernel
theorem dX5_bothReadable_16 : decode cX5_bothReadable 16 = .ok (.getfield 30, 3) := by decide +kernel
theorem dX5_bothReadable_19 : decode cX5_bothReadable 19 = .ok (.iload_n 1, 1) := by decide +kernel
theorem dX5_bothReadable_20 : decode cX5_bothReadable 20 = .ok (.iaload, 1) := by decide +kernel
theorem dX5_bothReadable_21 : decode cX5_bothReadable 21 = .ok (.ifCond .le 16, 3) := by decide +kernel
theorem dX5_bothReadable_24 : decode cX5_bothReadable 24 = .ok (.aload_n 0, 1) := by decide +kernel
theorem dX5_bothReadable_25 : decode cX5_bothReadable 25 = .ok (.getfield 30, 3) := by decide +kernel
theorem dX5_bothReadable_28 : decode cX5_bothReadable 28 = .ok (.iload_n 2, 1) := by decide +kernel
theorem dX5_bothReadable_29 : decode cX5_bothReadable 29 = .ok (.iaload, 1) := by decide +kernel
theorem dX5_bothReadable_30 : decode cX5_bothReadable 30 = .ok (.ifCond .le 7, 3) := by decide +kernel
theorem dX5_bothReadable_33 : decode cX5_bothReadable 33 = .ok (.iconst 1, 1) := by decide +kernel
theorem dX5_bothReadable_34 : decode cX5_bothReadable 34 = .ok (.goto 4, 3) := by decide +kernel
theorem dX5_bothReadable_37 : decode cX5_bothReadable 37 = .ok (.iconst 0, 1) := by decide +kernel
theorem dX5_bothReadable_38 : decode cX5_bothReadable 38 = .ok (.ireturn, 1) := by decide +kernel
theorem dX5_placesApart_0 : decode cX5_placesApart 0 = .ok (.aload_n 0, 1) := by decide +kernel
theorem dX5_placesApart_1 : decode cX5_placesApart 1 = .ok (.getfield 27, 3) := by decide +kernel
theorem dX5_placesApart_4 : decode cX5_placesApart 4 = .ok (.iload_n 1, 1) := by decide +kernel
theorem dX5_placesApart_5 : decode cX5_placesApart 5 = .ok (.iaload, 1) := by decide +kernel
theorem dX5_placesApart_6 : decode cX5_placesApart 6 = .ok (.aload_n 0, 1) := by decide +kernel
theorem dX5_placesApart_7 : decode cX5_placesApart 7 = .ok (.getfield 27, 3) := by decide +kernel
theorem dX5_placesApart_10 : decode cX5_placesApart 10 = .ok (.iload_n 2, 1) := by decide +kernel
theorem dX5_placesApart_11 : decode cX5_placesApart 11 = .ok (.iaload, 1) := by decide +kernel
theorem dX5_placesApart_12 : decode cX5_placesApart 12 = .ok (.isub, 1) := by decide +kernel
theorem dX5_placesApart_13 : decode cX5_placesApart 13 = .ok (.invokestatic 87, 3) := by decide +kernel
theorem dX5_placesApart_16 : decode cX5_placesApart 16 = .ok (.istore_n 3, 1) := by decide +kernel
theorem dX5_placesApart_17 : decode cX5_placesApart 17 = .ok (.iload_n 3, 1) := by decide +kernel
theorem dX5_placesApart_18 : decode cX5_placesApart 18 = .ok (.bipush 60, 2) := by decide +kernel
theorem dX5_placesApart_20 : decode cX5_placesApart 20 = .ok (.iload_n 3, 1) := by decide +kernel
theorem dX5_placesApart_21 : decode cX5_placesApart 21 = .ok (.isub, 1) := by decide +kernel
theorem dX5_placesApart_22 : decode cX5_placesApart 22 = .ok (.invokestatic 64, 3) := by decide +kernel
theorem dX5_placesApart_25 : decode cX5_placesApart 25 = .ok (.ireturn, 1) := by decide +kernel
theorem dX5_distance_0 : decode cX5_distance 0 = .ok (.aload_n 0, 1) := by decide +kernel
theorem dX5_distance_1 : decode cX5_distance 1 = .ok (.iload_n 1, 1) := by decide +kernel
theorem dX5_distance_2 : decode cX5_distance 2 = .ok (.iload_n 2, 1) := by decide +kernel
theorem dX5_distance_3 : decode cX5_distance 3 = .ok (.invokevirtual 90, 3) := by decide +kernel
theorem dX5_distance_6 : decode cX5_distance 6 = .ok (.aload_n 0, 1) := by decide +kernel
theorem dX5_distance_7 : decode cX5_distance 7 = .ok (.getfield 15, 3) := by decide +kernel
theorem dX5_distance_10 : decode cX5_distance 10 = .ok (.aload_n 0, 1) := by decide +kernel
theorem dX5_distance_11 : decode cX5_distance 11 = .ok (.getfield 21, 3) := by decide +kernel
theorem dX5_distance_14 : decode cX5_distance 14 = .ok (.iload_n 1, 1) := by decide +kernel
theorem dX5_distance_15 : decode cX5_distance 15 = .ok (.iaload, 1) := by decide +kernel
theorem dX5_distance_16 : decode cX5_distance 16 = .ok (.iaload, 1) := by decide +kernel
theorem dX5_distance_17 : decode cX5_distance 17 = .ok (.imul, 1) := by decide +kernel
theorem dX5_distance_18 : decode cX5_distance 18 = .ok (.bipush 60, 2) := by decide +kernel
theorem dX5_distance_20 : decode cX5_distance 20 = .ok (.idiv, 1) := by decide +kernel
theorem dX5_distance_21 : decode cX5_distance 21 = .ok (.ireturn, 1) := by decide +kernel
theorem dX5_readAsOne_0 : decode cX5_readAsOne 0 = .ok (.aload_n 0, 1) := by decide +kernel
theorem dX5_readAsOne_1 : decode cX5_readAsOne 1 = .ok (.iload_n 1, 1) := by decide +kernel
theorem dX5_readAsOne_2 : decode cX5_readAsOne 2 = .ok (.iload_n 2, 1) := by decide +kernel
theorem dX5_readAsOne_3 : decode cX5_readAsOne 3 = .ok (.invokevirtual 93, 3) := by decide +kernel
theorem dX5_readAsOne_6 : decode cX5_readAsOne 6 = .ok (.ifCond .eq 20, 3) := by decide +kernel
theorem dX5_readAsOne_9 : decode cX5_readAsOne 9 = .ok (.aload_n 0, 1) := by decide +kernel
theorem dX5_readAsOne_10 : decode cX5_readAsOne 10 = .ok (.iload_n 1, 1) := by decide +kernel
theorem dX5_readAsOne_11 : decode cX5_readAsOne 11 = .ok (.iload_n 2, 1) := by decide +kernel
theorem dX5_readAsOne_12 : decode cX5_readAsOne 12 = .ok (.invokevirtual 96, 3) := by decide +kernel
theorem dX5_readAsOne_15 : decode cX5_readAsOne 15 = .ok (.aload_n 0, 1) := by decide +kernel
theorem dX5_readAsOne_16 : decode cX5_readAsOne 16 = .ok (.getfield 37, 3) := by decide +kernel
theorem dX5_readAsOne_19 : decode cX5_readAsOne 19 = .ok (.if_icmp .gt 7, 3) := by decide +kernel
theorem dX5_readAsOne_22 : decode cX5_readAsOne 22 = .ok (.iconst 1, 1) := by decide +kernel
theorem dX5_readAsOne_23 : decode cX5_readAsOne 23 = .ok (.goto 4, 3) := by decide +kernel
theorem dX5_readAsOne_26 : decode cX5_readAsOne 26 = .ok (.iconst 0, 1) := by decide +kernel
theorem dX5_readAsOne_27 : decode cX5_readAsOne 27 = .ok (.ireturn, 1) := by decide +kernel
theorem dX5_meetBehind_0 : decode cX5_meetBehind 0 = .ok (.aload_n 0, 1) := by decide +kernel
theorem dX5_meetBehind_1 : decode cX5_meetBehind 1 = .ok (.iload_n 1, 1) := by decide +kernel
theorem dX5_meetBehind_2 : decode cX5_meetBehind 2 = .ok (.iload_n 2, 1) := by decide +kernel
theorem dX5_meetBehind_3 : decode cX5_meetBehind 3 = .ok (.invokevirtual 93, 3) := by decide +kernel
theorem dX5_meetBehind_6 : decode cX5_meetBehind 6 = .ok (.ifCond .eq 18, 3) := by decide +kernel
theorem dX5_meetBehind_9 : decode cX5_meetBehind 9 = .ok (.aload_n 0, 1) := by decide +kernel
theorem dX5_meetBehind_10 : decode cX5_meetBehind 10 = .ok (.iload_n 1, 1) := by decide +kernel
theorem dX5_meetBehind_11 : decode cX5_meetBehind 11 = .ok (.iload_n 2, 1) := by decide +kernel
theorem dX5_meetBehind_12 : decode cX5_meetBehind 12 = .ok (.invokevirtual 90, 3) := by decide +kernel
theorem dX5_meetBehind_15 : decode cX5_meetBehind 15 = .ok (.bipush 29, 2) := by decide +kernel
theorem dX5_meetBehind_17 : decode cX5_meetBehind 17 = .ok (.if_icmp .lt 7, 3) := by decide +kernel
theorem dX5_meetBehind_20 : decode cX5_meetBehind 20 = .ok (.iconst 1, 1) := by decide +kernel
theorem dX5_meetBehind_21 : decode cX5_meetBehind 21 = .ok (.goto 4, 3) := by decide +kernel
theorem dX5_meetBehind_24 : decode cX5_meetBehind 24 = .ok (.iconst 0, 1) := by decide +kernel
theorem dX5_meetBehind_25 : decode cX5_meetBehind 25 = .ok (.ireturn, 1) := by decide +kernel
theorem dX6_init_0 : decode cX6_init 0 = .ok (.aload_n 0, 1) := by decide +kernel
theorem dX6_init_1 : decode cX6_init 1 = .ok (.invokespecial 1, 3) := by decide +kernel
theorem dX6_init_4 : decode cX6_init 4 = .ok (.aload_n 0, 1) := by decide +kernel
theorem dX6_init_5 : decode cX6_init 5 = .ok (.bipush 8, 2) := by decide +kernel
theorem dX6_init_7 : decode cX6_init 7 = .ok (.anewarray 9, 3) := by decide +kernel
theorem dX6_init_10 : decode cX6_init 10 = .ok (.putfield 11, 3) := by decide +kernel
theorem dX6_init_13 : decode cX6_init 13 = .ok (.aload_n 0, 1) := by decide +kernel
theorem dX6_init_14 : decode cX6_init 14 = .ok (.new 15, 3) := by decide +kernel
theorem dX6_init_17 : decode cX6_init 17 = .ok (.dup, 1) := by decide +kernel
theorem dX6_init_18 : decode cX6_init 18 = .ok (.invokespecial 17, 3) := by decide +kernel
theorem dX6_init_21 : decode cX6_init 21 = .ok (.putfield 18, 3) := by decide +kernel
theorem dX6_init_24 : decode cX6_init 24 = .ok (.aload_n 0, 1) := by decide +kernel
theorem dX6_init_25 : decode cX6_init 25 = .ok (.new 22, 3) := by decide +kernel
theorem dX6_init_28 : decode cX6_init 28 = .ok (.dup, 1) := by decide +kernel
theorem dX6_init_29 : decode cX6_init 29 = .ok (.invokespecial 24, 3) := by decide +kernel
theorem dX6_init_32 : decode cX6_init 32 = .ok (.putfield 25, 3) := by decide +kernel
theorem dX6_init_35 : decode cX6_init 35 = .ok (.aload_n 0, 1) := by decide +kernel
theorem dX6_init_36 : decode cX6_init 36 = .ok (.new 22, 3) := by decide +kernel
theorem dX6_init_39 : decode cX6_init 39 = .ok (.dup, 1) := by decide +kernel
theorem dX6_init_40 : decode cX6_init 40 = .ok (.invokespecial 24, 3) := by decide +kernel
theorem dX6_init_43 : decode cX6_init 43 = .ok (.putfield 29, 3) := by decide +kernel
theorem dX6_init_46 : decode cX6_init 46 = .ok (.aload_n 0, 1) := by decide +kernel
theorem dX6_init_47 : decode cX6_init 47 = .ok (.iconst 2, 1) := by decide +kernel
theorem dX6_init_48 : decode cX6_init 48 = .ok (.anewarray 22, 3) := by decide +kernel
theorem dX6_init_51 : decode cX6_init 51 = .ok (.putfield 32, 3) := by decide +kernel
theorem dX6_init_54 : decode cX6_init 54 = .ok (.aload_n 0, 1) := by decide +kernel
theorem dX6_init_55 : decode cX6_init 55 = .ok (.new 36, 3) := by decide +kernel
theorem dX6_init_58 : decode cX6_init 58 = .ok (.dup, 1) := by decide +kernel
theorem dX6_init_59 : decode cX6_init 59 = .ok (.invokespecial 38, 3) := by decide +kernel
theorem dX6_init_62 : decode cX6_init 62 = .ok (.putfield 39, 3) := by decide +kernel
theorem dX6_init_65 : decode cX6_init 65 = .ok (.aload_n 0, 1) := by decide +kernel
theorem dX6_init_66 : decode cX6_init 66 = .ok (.new 43, 3) := by decide +kernel
theorem dX6_init_69 : decode cX6_init 69 = .ok (.dup, 1) := by decide +kernel
theorem dX6_init_70 : decode cX6_init 70 = .ok (.invokespecial 45, 3) := by decide +kernel
theorem dX6_init_73 : decode cX6_init 73 = .ok (.putfield 46, 3) := by decide +kernel
theorem dX6_init_76 : decode cX6_init 76 = .ok (.aload_n 0, 1) := by decide +kernel
theorem dX6_init_77 : decode cX6_init 77 = .ok (.new 50, 3) := by decide +kernel
theorem dX6_init_80 : decode cX6_init 80 = .ok (.dup, 1) := by decide +kernel
theorem dX6_init_81 : decode cX6_init 81 = .ok (.invokespecial 52, 3) := by decide +kernel
theorem dX6_init_84 : decode cX6_init 84 = .ok (.putfield 53, 3) := by decide +kernel
theorem dX6_init_87 : decode cX6_init 87 = .ok (.iconst 0, 1) := by decide +kernel
theorem dX6_init_88 : decode cX6_init 88 = .ok (.istore_n 1, 1) := by decide +kernel
theorem dX6_init_89 : decode cX6_init 89 = .ok (.iload_n 1, 1) := by decide +kernel
theorem dX6_init_90 : decode cX6_init 90 = .ok (.aload_n 0, 1) := by decide +kernel
theorem dX6_init_91 : decode cX6_init 91 = .ok (.getfield 11, 3) := by decide +kernel
theorem dX6_init_94 : decode cX6_init 94 = .ok (.arraylength, 1) := by decide +kernel
theorem dX6_init_95 : decode cX6_init 95 = .ok (.if_icmp .ge 22, 3) := by decide +kernel
theorem dX6_init_98 : decode cX6_init 98 = .ok (.aload_n 0, 1) := by decide +kernel
theorem dX6_init_99 : decode cX6_init 99 = .ok (.getfield 11, 3) := by decide +kernel
theorem dX6_init_102 : decode cX6_init 102 = .ok (.iload_n 1, 1) := by decide +kernel
theorem dX6_init_103 : decode cX6_init 103 = .ok (.new 9, 3) := by decide +kernel
theorem dX6_init_106 : decode cX6_init 106 = .ok (.dup, 1) := by decide +kernel
theorem dX6_init_107 : decode cX6_init 107 = .ok (.invokespecial 57, 3) := by decide +kernel
theorem dX6_init_110 : decode cX6_init 110 = .ok (.aastore, 1) := by decide +kernel
theorem dX6_init_111 : decode cX6_init 111 = .ok (.iinc 1 1, 3) := by decide +kernel
theorem dX6_init_114 : decode cX6_init 114 = .ok (.goto (-25), 3) := by decide +kernel
theorem dX6_init_117 : decode cX6_init 117 = .ok (.iconst 0, 1) := by decide +kernel
theorem dX6_init_118 : decode cX6_init 118 = .ok (.istore_n 1, 1) := by decide +kernel
theorem dX6_init_119 : decode cX6_init 119 = .ok (.iload_n 1, 1) := by decide +kernel
theorem dX6_init_120 : decode cX6_init 120 = .ok (.aload_n 0, 1) := by decide +kernel
theorem dX6_init_121 : decode cX6_init 121 = .ok (.getfield 32, 3) := by decide +kernel
theorem dX6_init_124 : decode cX6_init 124 = .ok (.arraylength, 1) := by decide +kernel
theorem dX6_init_125 : decode cX6_init 125 = .ok (.if_icmp .ge 22, 3) := by decide +kernel
theorem dX6_init_128 : decode cX6_init 128 = .ok (.aload_n 0, 1) := by decide +kernel
theorem dX6_init_129 : decode cX6_init 129 = .ok (.getfield 32, 3) := by decide +kernel
theorem dX6_init_132 : decode cX6_init 132 = .ok (.iload_n 1, 1) := by decide +kernel
theorem dX6_init_133 : decode cX6_init 133 = .ok (.new 22, 3) := by decide +kernel
theorem dX6_init_136 : decode cX6_init 136 = .ok (.dup, 1) := by decide +kernel
theorem dX6_init_137 : decode cX6_init 137 = .ok (.invokespecial 24, 3) := by decide +kernel
theorem dX6_init_140 : decode cX6_init 140 = .ok (.aastore, 1) := by decide +kernel
theorem dX6_init_141 : decode cX6_init 141 = .ok (.iinc 1 1, 3) := by decide +kernel
theorem dX6_init_144 : decode cX6_init 144 = .ok (.goto (-25), 3) := by decide +kernel
theorem dX6_init_147 : decode cX6_init 147 = .ok (.return_, 1) := by decide +kernel
theorem dX6_row_0 : decode cX6_row 0 = .ok (.iload_n 1, 1) := by decide +kernel
theorem dX6_row_1 : decode cX6_row 1 = .ok (.invokestatic 58, 3) := by decide +kernel
theorem dX6_row_4 : decode cX6_row 4 = .ok (.ifCond .eq 18, 3) := by decide +kernel
theorem dX6_row_7 : decode cX6_row 7 = .ok (.iload_n 2, 1) := by decide +kernel
theorem dX6_row_8 : decode cX6_row 8 = .ok (.ifCond .lt 14, 3) := by decide +kernel
theorem dX6_row_11 : decode cX6_row 11 = .ok (.iload_n 2, 1) := by decide +kernel
theorem dX6_row_12 : decode cX6_row 12 = .ok (.iconst 2, 1) := by decide +kernel
theorem dX6_row_13 : decode cX6_row 13 = .ok (.if_icmp .gt 9, 3) := by decide +kernel
theorem dX6_row_16 : decode cX6_row 16 = .ok (.iload_n 3, 1) := by decide +kernel
theorem dX6_row_17 : decode cX6_row 17 = .ok (.bipush 40, 2) := by decide +kernel
theorem dX6_row_19 : decode cX6_row 19 = .ok (.if_icmp .le 6, 3) := by decide +kernel
theorem dX6_row_22 : decode cX6_row 22 = .ok (.ldc 62, 2) := by decide +kernel
theorem dX6_row_24 : decode cX6_row 24 = .ok (.ireturn, 1) := by decide +kernel
theorem dX6_row_25 : decode cX6_row 25 = .ok (.iload_n 3, 1) := by decide +kernel
theorem dX6_row_26 : decode cX6_row 26 = .ok (.ifCond .ge 9, 3) := by decide +kernel
theorem dX6_row_29 : decode cX6_row 29 = .ok (.aload_n 0, 1) := by decide +kernel
theorem dX6_row_30 : decode cX6_row 30 = .ok (.iconst 4, 1) := by decide +kernel
theorem dX6_row_31 : decode cX6_row 31 = .ok (.invokevirtual 63, 3) := by decide +kernel
theorem dX6_row_34 : decode cX6_row 34 = .ok (.ireturn, 1) := by decide +kernel
theorem dX6_row_35 : decode cX6_row 35 = .ok (.aload_n 0, 1) := by decide +kernel
theorem dX6_row_36 : decode cX6_row 36 = .ok (.getfield 11, 3) := by decide +kernel
theorem dX6_row_39 : decode cX6_row 39 = .ok (.iload_n 1, 1) := by decide +kernel
theorem dX6_row_40 : decode cX6_row 40 = .ok (.aaload, 1) := by decide +kernel
theorem dX6_row_41 : decode cX6_row 41 = .ok (.iload_n 2, 1) := by decide +kernel
theorem dX6_row_42 : decode cX6_row 42 = .ok (.iload_n 3, 1) := by decide +kernel
theorem dX6_row_43 : decode cX6_row 43 = .ok (.invokevirtual 67, 3) := by decide +kernel
theorem dX6_row_46 : decode cX6_row 46 = .ok (.aload_n 0, 1) := by decide +kernel
theorem dX6_row_47 : decode cX6_row 47 = .ok (.iload_n 3, 1) := by decide +kernel
theorem dX6_row_48 : decode cX6_row 48 = .ok (.invokevirtual 71, 3) := by decide +kernel
theorem dX6_row_51 : decode cX6_row 51 = .ok (.ireturn, 1) := by decide +kernel
theorem dX6_set_0 : decode cX6_set 0 = .ok (.iload_n 1, 1) := by decide +kernel
theorem dX6_set_1 : decode cX6_set 1 = .ok (.invokestatic 58, 3) := by decide +kernel
theorem dX6_set_4 : decode cX6_set 4 = .ok (.ifCond .ne 6, 3) := by decide +kernel
theorem dX6_set_7 : decode cX6_set 7 = .ok (.ldc 62, 2) := by decide +kernel
theorem dX6_set_9 : decode cX6_set 9 = .ok (.ireturn, 1) := by decide +kernel
theorem dX6_set_10 : decode cX6_set 10 = .ok (.aload_n 0, 1) := by decide +kernel
theorem dX6_set_11 : decode cX6_set 11 = .ok (.getfield 11, 3) := by decide +kernel
theorem dX6_set_14 : decode cX6_set 14 = .ok (.iload_n 1, 1) := by decide +kernel
theorem dX6_set_15 : decode cX6_set 15 = .ok (.aaload, 1) := by decide +kernel
theorem dX6_set_16 : decode cX6_set 16 = .ok (.iload_n 2, 1) := by decide +kernel
theorem dX6_set_17 : decode cX6_set 17 = .ok (.iconst 1, 1) := by decide +kernel
theorem dX6_set_18 : decode cX6_set 18 = .ok (.invokestatic 74, 3) := by decide +kernel
theorem dX6_set_21 : decode cX6_set 21 = .ok (.istore 4, 2) := by decide +kernel
theorem dX6_set_23 : decode cX6_set 23 = .ok (.iload 4, 2) := by decide +kernel
theorem dX6_set_25 : decode cX6_set 25 = .ok (.ifCond .eq 10, 3) := by decide +kernel
theorem dX6_set_28 : decode cX6_set 28 = .ok (.aload_n 0, 1) := by decide +kernel
theorem dX6_set_29 : decode cX6_set 29 = .ok (.iload 4, 2) := by decide +kernel
theorem dX6_set_31 : decode cX6_set 31 = .ok (.invokevirtual 63, 3) := by decide +kernel
theorem dX6_set_34 : decode cX6_set 34 = .ok (.ireturn, 1) := by decide +kernel
theorem dX6_set_35 : decode cX6_set 35 = .ok (.aload_n 0, 1) := by decide +kernel
theorem dX6_set_36 : decode cX6_set 36 = .ok (.getfield 11, 3) := by decide +kernel
theorem dX6_set_39 : decode cX6_set 39 = .ok (.iload_n 1, 1) := by decide +kernel
theorem dX6_set_40 : decode cX6_set 40 = .ok (.aaload, 1) := by decide +kernel
theorem dX6_set_41 : decode cX6_set 41 = .ok (.getfield 78, 3) := by decide +kernel
theorem dX6_set_44 : decode cX6_set 44 = .ok (.iload_n 2, 1) := by decide +kernel
theorem dX6_set_45 : decode cX6_set 45 = .ok (.aload_n 0, 1) := by decide +kernel
theorem dX6_set_46 : decode cX6_set 46 = .ok (.getfield 11, 3) := by decide +kernel
theorem dX6_set_49 : decode cX6_set 49 = .ok (.iload_n 1, 1) := by decide +kernel
theorem dX6_set_50 : decode cX6_set 50 = .ok (.aaload, 1) := by decide +kernel
theorem dX6_set_51 : decode cX6_set 51 = .ok (.iload_n 3, 1) := by decide +kernel
theorem dX6_set_52 : decode cX6_set 52 = .ok (.invokevirtual 82, 3) := by decide +kernel
theorem dX6_set_55 : decode cX6_set 55 = .ok (.iastore, 1) := by decide +kernel
theorem dX6_set_56 : decode cX6_set 56 = .ok (.aload_n 0, 1) := by decide +kernel
theorem dX6_set_57 : decode cX6_set 57 = .ok (.aload_n 0, 1) := by decide +kernel
theorem dX6_set_58 : decode cX6_set 58 = .ok (.getfield 11, 3) := by decide +kernel
theorem dX6_set_61 : decode cX6_set 61 = .ok (.iload_n 1, 1) := by decide +kernel
theorem dX6_set_62 : decode cX6_set 62 = .ok (.aaload, 1) := by decide +kernel
theorem dX6_set_63 : decode cX6_set 63 = .ok (.getfield 78, 3) := by decide +kernel
theorem dX6_set_66 : decode cX6_set 66 = .ok (.iload_n 2, 1) := by decide +kernel
theorem dX6_set_67 : decode cX6_set 67 = .ok (.iaload, 1) := by decide +kernel
theorem dX6_set_68 : decode cX6_set 68 = .ok (.invokevirtual 71, 3) := by decide +kernel
theorem dX6_set_71 : decode cX6_set 71 = .ok (.ireturn, 1) := by decide +kernel
theorem dX6_copy_0 : decode cX6_copy 0 = .ok (.iload_n 1, 1) := by decide +kernel
theorem dX6_copy_1 : decode cX6_copy 1 = .ok (.invokestatic 58, 3) := by decide +kernel
theorem dX6_copy_4 : decode cX6_copy 4 = .ok (.ifCond .eq 10, 3) := by decide +kernel
theorem dX6_copy_7 : decode cX6_copy 7 = .ok (.iload_n 3, 1) := by decide +kernel
theorem dX6_copy_8 : decode cX6_copy 8 = .ok (.invokestatic 58, 3) := by decide +kernel
theorem dX6_copy_11 : decode cX6_copy 11 = .ok (.ifCond .ne 6, 3) := by decide +kernel
theorem dX6_copy_14 : decode cX6_copy 14 = .ok (.ldc 62, 2) := by decide +kernel
theorem dX6_copy_16 : decode cX6_copy 16 = .ok (.ireturn, 1) := by decide +kernel
theorem dX6_copy_17 : decode cX6_copy 17 = .ok (.aload_n 0, 1) := by decide +kernel
theorem dX6_copy_18 : decode cX6_copy 18 = .ok (.getfield 11, 3) := by decide +kernel
theorem dX6_copy_21 : decode cX6_copy 21 = .ok (.iload_n 1, 1) := by decide +kernel
theorem dX6_copy_22 : decode cX6_copy 22 = .ok (.aaload, 1) := by decide +kernel
theorem dX6_copy_23 : decode cX6_copy 23 = .ok (.astore 6, 2) := by decide +kernel
theorem dX6_copy_25 : decode cX6_copy 25 = .ok (.aload_n 0, 1) := by decide +kernel
theorem dX6_copy_26 : decode cX6_copy 26 = .ok (.getfield 11, 3) := by decide +kernel
theorem dX6_copy_29 : decode cX6_copy 29 = .ok (.iload_n 3, 1) := by decide +kernel
theorem dX6_copy_30 : decode cX6_copy 30 = .ok (.aaload, 1) := by decide +kernel
theorem dX6_copy_31 : decode cX6_copy 31 = .ok (.astore 7, 2) := by decide +kernel
theorem dX6_copy_33 : decode cX6_copy 33 = .ok (.aload 6, 2) := by decide +kernel
theorem dX6_copy_35 : decode cX6_copy 35 = .ok (.getfield 85, 3) := by decide +kernel
theorem dX6_copy_38 : decode cX6_copy 38 = .ok (.ifCond .eq 11, 3) := by decide +kernel
theorem dX6_copy_41 : decode cX6_copy 41 = .ok (.aload 7, 2) := by decide +kernel
theorem dX6_copy_43 : decode cX6_copy 43 = .ok (.getfield 85, 3) := by decide +kernel
theorem dX6_copy_46 : decode cX6_copy 46 = .ok (.ifCond .ne 9, 3) := by decide +kernel
theorem dX6_copy_49 : decode cX6_copy 49 = .ok (.aload_n 0, 1) := by decide +kernel
theorem dX6_copy_50 : decode cX6_copy 50 = .ok (.iconst 1, 1) := by decide +kernel
theorem dX6_copy_51 : decode cX6_copy 51 = .ok (.invokevirtual 63, 3) := by decide +kernel
theorem dX6_copy_54 : decode cX6_copy 54 = .ok (.ireturn, 1) := by decide +kernel
theorem dX6_copy_55 : decode cX6_copy 55 = .ok (.aload 6, 2) := by decide +kernel
theorem dX6_copy_57 : decode cX6_copy 57 = .ok (.getfield 89, 3) := by decide +kernel
theorem dX6_copy_60 : decode cX6_copy 60 = .ok (.aload 7, 2) := by decide +kernel
theorem dX6_copy_62 : decode cX6_copy 62 = .ok (.getfield 89, 3) := by decide +kernel
theorem dX6_copy_65 : decode cX6_copy 65 = .ok (.if_icmp .eq 9, 3) := by decide +kernel
theorem dX6_copy_68 : decode cX6_copy 68 = .ok (.aload_n 0, 1) := by decide +kernel
theorem dX6_copy_69 : decode cX6_copy 69 = .ok (.iconst 5, 1) := by decide +kernel
theorem dX6_copy_70 : decode cX6_copy 70 = .ok (.invokevirtual 63, 3) := by decide +kernel
theorem dX6_copy_73 : decode cX6_copy 73 = .ok (.ireturn, 1) := by decide +kernel
theorem dX6_copy_74 : decode cX6_copy 74 = .ok (.aload 6, 2) := by decide +kernel
theorem dX6_copy_76 : decode cX6_copy 76 = .ok (.iload_n 2, 1) := by decide +kernel
theorem dX6_copy_77 : decode cX6_copy 77 = .ok (.iload 5, 2) := by decide +kernel
theorem dX6_copy_79 : decode cX6_copy 79 = .ok (.invokevirtual 93, 3) := by decide +kernel
theorem dX6_copy_82 : decode cX6_copy 82 = .ok (.ifCond .eq 15, 3) := by decide +kernel
theorem dX6_copy_85 : decode cX6_copy 85 = .ok (.aload 7, 2) := by decide +kernel
theorem dX6_copy_87 : decode cX6_copy 87 = .ok (.iload 4, 2) := by decide +kernel
theorem dX6_copy_89 : decode cX6_copy 89 = .ok (.iload 5, 2) := by decide +kernel
theorem dX6_copy_91 : decode cX6_copy 91 = .ok (.invokevirtual 93, 3) := by decide +kernel
theorem dX6_copy_94 : decode cX6_copy 94 = .ok (.ifCond .ne 9, 3) := by decide +kernel
theorem dX6_copy_97 : decode cX6_copy 97 = .ok (.aload_n 0, 1) := by decide +kernel
theorem dX6_copy_98 : decode cX6_copy 98 = .ok (.iconst 2, 1) := by decide +kernel
theorem dX6_copy_99 : decode cX6_copy 99 = .ok (.invokevirtual 63, 3) := by decide +kernel
theorem dX6_copy_102 : decode cX6_copy 102 = .ok (.ireturn, 1) := by decide +kernel
theorem dX6_copy_103 : decode cX6_copy 103 = .ok (.aload 6, 2) := by decide +kernel
theorem dX6_copy_105 : decode cX6_copy 105 = .ok (.getfield 78, 3) := by decide +kernel
theorem dX6_copy_108 : decode cX6_copy 108 = .ok (.iload_n 2, 1) := by decide +kernel
theorem dX6_copy_109 : decode cX6_copy 109 = .ok (.aload 7, 2) := by decide +kernel
theorem dX6_copy_111 : decode cX6_copy 111 = .ok (.getfield 78, 3) := by decide +kernel
theorem dX6_copy_114 : decode cX6_copy 114 = .ok (.iload 4, 2) := by decide +kernel
theorem dX6_copy_116 : decode cX6_copy 116 = .ok (.iload 5, 2) := by decide +kernel
theorem dX6_copy_118 : decode cX6_copy 118 = .ok (.invokestatic 97, 3) := by decide +kernel
theorem dX6_copy_121 : decode cX6_copy 121 = .ok (.aload_n 0, 1) := by decide +kernel
theorem dX6_copy_122 : decode cX6_copy 122 = .ok (.iload 5, 2) := by decide +kernel
theorem dX6_copy_124 : decode cX6_copy 124 = .ok (.invokevirtual 71, 3) := by decide +kernel
theorem dX6_copy_127 : decode cX6_copy 127 = .ok (.ireturn, 1) := by decide +kernel
theorem dX6_drop_0 : decode cX6_drop 0 = .ok (.iload_n 1, 1) := by decide +kernel
theorem dX6_drop_1 : decode cX6_drop 1 = .ok (.invokestatic 58, 3) := by decide +kernel
theorem dX6_drop_4 : decode cX6_drop 4 = .ok (.ifCond .ne 6, 3) := by decide +kernel
theorem dX6_drop_7 : decode cX6_drop 7 = .ok (.ldc 62, 2) := by decide +kernel
theorem dX6_drop_9 : decode cX6_drop 9 = .ok (.ireturn, 1) := by decide +kernel
theorem dX6_drop_10 : decode cX6_drop 10 = .ok (.aload_n 0, 1) := by decide +kernel
theorem dX6_drop_11 : decode cX6_drop 11 = .ok (.getfield 11, 3) := by decide +kernel
theorem dX6_drop_14 : decode cX6_drop 14 = .ok (.iload_n 1, 1) := by decide +kernel
theorem dX6_drop_15 : decode cX6_drop 15 = .ok (.aaload, 1) := by decide +kernel
theorem dX6_drop_16 : decode cX6_drop 16 = .ok (.getfield 85, 3) := by decide +kernel
theorem dX6_drop_19 : decode cX6_drop 19 = .ok (.ifCond .ne 9, 3) := by decide +kernel
theorem dX6_drop_22 : decode cX6_drop 22 = .ok (.aload_n 0, 1) := by decide +kernel
theorem dX6_drop_23 : decode cX6_drop 23 = .ok (.iconst 1, 1) := by decide +kernel
theorem dX6_drop_24 : decode cX6_drop 24 = .ok (.invokevirtual 63, 3) := by decide +kernel
theorem dX6_drop_27 : decode cX6_drop 27 = .ok (.ireturn, 1) := by decide +kernel
theorem dX6_drop_28 : decode cX6_drop 28 = .ok (.aload_n 0, 1) := by decide +kernel
theorem dX6_drop_29 : decode cX6_drop 29 = .ok (.getfield 11, 3) := by decide +kernel
theorem dX6_drop_32 : decode cX6_drop 32 = .ok (.iload_n 1, 1) := by decide +kernel
theorem dX6_drop_33 : decode cX6_drop 33 = .ok (.aaload, 1) := by decide +kernel
theorem dX6_drop_34 : decode cX6_drop 34 = .ok (.iconst 0, 1) := by decide +kernel
theorem dX6_drop_35 : decode cX6_drop 35 = .ok (.putfield 85, 3) := by decide +kernel
theorem dX6_drop_38 : decode cX6_drop 38 = .ok (.aload_n 0, 1) := by decide +kernel
theorem dX6_drop_39 : decode cX6_drop 39 = .ok (.aload_n 0, 1) := by decide +kernel
theorem dX6_drop_40 : decode cX6_drop 40 = .ok (.getfield 11, 3) := by decide +kernel
theorem dX6_drop_43 : decode cX6_drop 43 = .ok (.iload_n 1, 1) := by decide +kernel
theorem dX6_drop_44 : decode cX6_drop 44 = .ok (.aaload, 1) := by decide +kernel
theorem dX6_drop_45 : decode cX6_drop 45 = .ok (.getfield 103, 3) := by decide +kernel
theorem dX6_drop_48 : decode cX6_drop 48 = .ok (.invokevirtual 71, 3) := by decide +kernel
theorem dX6_drop_51 : decode cX6_drop 51 = .ok (.ireturn, 1) := by decide +kernel
theorem dX6_feed_0 : decode cX6_feed 0 = .ok (.iload_n 1, 1) := by decide +kernel
theorem dX6_feed_1 : decode cX6_feed 1 = .ok (.ifCond .lt 10, 3) := by decide +kernel
theorem dX6_feed_4 : decode cX6_feed 4 = .ok (.iload_n 1, 1) := by decide +kernel
theorem dX6_feed_5 : decode cX6_feed 5 = .ok (.sipush 255, 3) := by decide +kernel
theorem dX6_feed_8 : decode cX6_feed 8 = .ok (.if_icmp .le 6, 3) := by decide +kernel
theorem dX6_feed_11 : decode cX6_feed 11 = .ok (.ldc 62, 2) := by decide +kernel
theorem dX6_feed_13 : decode cX6_feed 13 = .ok (.ireturn, 1) := by decide +kernel
theorem dX6_feed_14 : decode cX6_feed 14 = .ok (.aload_n 0, 1) := by decide +kernel
theorem dX6_feed_15 : decode cX6_feed 15 = .ok (.getfield 18, 3) := by decide +kernel
theorem dX6_feed_18 : decode cX6_feed 18 = .ok (.iload_n 1, 1) := by decide +kernel
theorem dX6_feed_19 : decode cX6_feed 19 = .ok (.invokevirtual 106, 3) := by decide +kernel
theorem dX6_feed_22 : decode cX6_feed 22 = .ok (.ifCond .eq 13, 3) := by decide +kernel
theorem dX6_feed_25 : decode cX6_feed 25 = .ok (.aload_n 0, 1) := by decide +kernel
theorem dX6_feed_26 : decode cX6_feed 26 = .ok (.getfield 18, 3) := by decide +kernel
theorem dX6_feed_29 : decode cX6_feed 29 = .ok (.getfield 109, 3) := by decide +kernel
theorem dX6_feed_32 : decode cX6_feed 32 = .ok (.goto 5, 3) := by decide +kernel
theorem dX6_feed_35 : decode cX6_feed 35 = .ok (.ldc 112, 2) := by decide +kernel
theorem dX6_feed_37 : decode cX6_feed 37 = .ok (.ireturn, 1) := by decide +kernel
theorem dX6_wood_0 : decode cX6_wood 0 = .ok (.aload_n 0, 1) := by decide +kernel
theorem dX6_wood_1 : decode cX6_wood 1 = .ok (.getfield 18, 3) := by decide +kernel
theorem dX6_wood_4 : decode cX6_wood 4 = .ok (.aload_n 0, 1) := by decide +kernel
theorem dX6_wood_5 : decode cX6_wood 5 = .ok (.getfield 29, 3) := by decide +kernel
theorem dX6_wood_8 : decode cX6_wood 8 = .ok (.invokevirtual 113, 3) := by decide +kernel
theorem dX6_wood_11 : decode cX6_wood 11 = .ok (.istore_n 1, 1) := by decide +kernel
theorem dX6_wood_12 : decode cX6_wood 12 = .ok (.aload_n 0, 1) := by decide +kernel
theorem dX6_wood_13 : decode cX6_wood 13 = .ok (.getfield 18, 3) := by decide +kernel
theorem dX6_wood_16 : decode cX6_wood 16 = .ok (.iconst 0, 1) := by decide +kernel
theorem dX6_wood_17 : decode cX6_wood 17 = .ok (.putfield 109, 3) := by decide +kernel
theorem dX6_wood_20 : decode cX6_wood 20 = .ok (.iload_n 1, 1) := by decide +kernel
theorem dX6_wood_21 : decode cX6_wood 21 = .ok (.ifCond .ne 25, 3) := by decide +kernel
theorem dX6_wood_24 : decode cX6_wood 24 = .ok (.aload_n 0, 1) := by decide +kernel
theorem dX6_wood_25 : decode cX6_wood 25 = .ok (.aload_n 0, 1) := by decide +kernel
theorem dX6_wood_26 : decode cX6_wood 26 = .ok (.getfield 18, 3) := by decide +kernel
theorem dX6_wood_29 : decode cX6_wood 29 = .ok (.getfield 117, 3) := by decide +kernel
theorem dX6_wood_32 : decode cX6_wood 32 = .ok (.putfield 120, 3) := by decide +kernel
theorem dX6_wood_35 : decode cX6_wood 35 = .ok (.ldc 123, 2) := by decide +kernel
theorem dX6_wood_37 : decode cX6_wood 37 = .ok (.aload_n 0, 1) := by decide +kernel
theorem dX6_wood_38 : decode cX6_wood 38 = .ok (.getfield 18, 3) := by decide +kernel
theorem dX6_wood_41 : decode cX6_wood 41 = .ok (.getfield 124, 3) := by decide +kernel
theorem dX6_wood_44 : decode cX6_wood 44 = .ok (.isub, 1) := by decide +kernel
theorem dX6_wood_45 : decode cX6_wood 45 = .ok (.ireturn, 1) := by decide +kernel
theorem dX6_wood_46 : decode cX6_wood 46 = .ok (.aload_n 0, 1) := by decide +kernel
theorem dX6_wood_47 : decode cX6_wood 47 = .ok (.getfield 25, 3) := by decide +kernel
theorem dX6_wood_50 : decode cX6_wood 50 = .ok (.aload_n 0, 1) := by decide +kernel
theorem dX6_wood_51 : decode cX6_wood 51 = .ok (.getfield 29, 3) := by decide +kernel
theorem dX6_wood_54 : decode cX6_wood 54 = .ok (.invokevirtual 127, 3) := by decide +kernel
theorem dX6_wood_57 : decode cX6_wood 57 = .ok (.aload_n 0, 1) := by decide +kernel
theorem dX6_wood_58 : decode cX6_wood 58 = .ok (.getfield 39, 3) := by decide +kernel
theorem dX6_wood_61 : decode cX6_wood 61 = .ok (.invokevirtual 131, 3) := by decide +kernel
theorem dX6_wood_64 : decode cX6_wood 64 = .ok (.aload_n 0, 1) := by decide +kernel
theorem dX6_wood_65 : decode cX6_wood 65 = .ok (.getfield 25, 3) := by decide +kernel
theorem dX6_wood_68 : decode cX6_wood 68 = .ok (.getfield 134, 3) := by decide +kernel
theorem dX6_wood_71 : decode cX6_wood 71 = .ok (.ireturn, 1) := by decide +kernel
theorem dX6_fault_0 : decode cX6_fault 0 = .ok (.aload_n 0, 1) := by decide +kernel
theorem dX6_fault_1 : decode cX6_fault 1 = .ok (.getfield 120, 3) := by decide +kernel
theorem dX6_fault_4 : decode cX6_fault 4 = .ok (.ireturn, 1) := by decide +kernel
theorem dX6_years_0 : decode cX6_years 0 = .ok (.aload_n 0, 1) := by decide +kernel
theorem dX6_years_1 : decode cX6_years 1 = .ok (.getfield 25, 3) := by decide +kernel
theorem dX6_years_4 : decode cX6_years 4 = .ok (.getfield 137, 3) := by decide +kernel
theorem dX6_years_7 : decode cX6_years 7 = .ok (.ifCond .ne 6, 3) := by decide +kernel
theorem dX6_years_10 : decode cX6_years 10 = .ok (.ldc 140, 2) := by decide +kernel
theorem dX6_years_12 : decode cX6_years 12 = .ok (.ireturn, 1) := by decide +kernel
theorem dX6_years_13 : decode cX6_years 13 = .ok (.iload_n 1, 1) := by decide +kernel
theorem dX6_years_14 : decode cX6_years 14 = .ok (.iconst 1, 1) := by decide +kernel
theorem dX6_years_15 : decode cX6_years 15 = .ok (.if_icmp .lt 9, 3) := by decide +kernel
theorem dX6_years_18 : decode cX6_years 18 = .ok (.iload_n 1, 1) := by decide +kernel
theorem dX6_years_19 : decode cX6_years 19 = .ok (.bipush 20, 2) := by decide +kernel
theorem dX6_years_21 : decode cX6_years 21 = .ok (.if_icmp .le 6, 3) := by decide +kernel
theorem dX6_years_24 : decode cX6_years 24 = .ok (.ldc 62, 2) := by decide +kernel
theorem dX6_years_26 : decode cX6_years 26 = .ok (.ireturn, 1) := by decide +kernel
theorem dX6_years_27 : decode cX6_years 27 = .ok (.aload_n 0, 1) := by decide +kernel
theorem dX6_years_28 : decode cX6_years 28 = .ok (.getfield 25, 3) := by decide +kernel
theorem dX6_years_31 : decode cX6_years 31 = .ok (.getfield 141, 3) := by decide +kernel
theorem dX6_years_34 : decode cX6_years 34 = .ok (.iload_n 1, 1) := by decide +kernel
theorem dX6_years_35 : decode cX6_years 35 = .ok (.iadd, 1) := by decide +kernel
theorem dX6_years_36 : decode cX6_years 36 = .ok (.sipush 999, 3) := by decide +kernel
theorem dX6_years_39 : decode cX6_years 39 = .ok (.if_icmp .le 6, 3) := by decide +kernel
theorem dX6_years_42 : decode cX6_years 42 = .ok (.ldc 112, 2) := by decide +kernel
theorem dX6_years_44 : decode cX6_years 44 = .ok (.ireturn, 1) := by decide +kernel
theorem dX6_years_45 : decode cX6_years 45 = .ok (.iconst 0, 1) := by decide +kernel
theorem dX6_years_46 : decode cX6_years 46 = .ok (.istore_n 2, 1) := by decide +kernel
theorem dX6_years_47 : decode cX6_years 47 = .ok (.iload_n 2, 1) := by decide +kernel
theorem dX6_years_48 : decode cX6_years 48 = .ok (.iload_n 1, 1) := by decide +kernel
theorem dX6_years_49 : decode cX6_years 49 = .ok (.if_icmp .ge 27, 3) := by decide +kernel
theorem dX6_years_52 : decode cX6_years 52 = .ok (.aload_n 0, 1) := by decide +kernel
theorem dX6_years_53 : decode cX6_years 53 = .ok (.getfield 39, 3) := by decide +kernel
theorem dX6_years_56 : decode cX6_years 56 = .ok (.aload_n 0, 1) := by decide +kernel
theorem dX6_years_57 : decode cX6_years 57 = .ok (.getfield 25, 3) := by decide +kernel
theorem dX6_years_60 : decode cX6_years 60 = .ok (.invokevirtual 144, 3) := by decide +kernel
theorem dX6_years_63 : decode cX6_years 63 = .ok (.aload_n 0, 1) := by decide +kernel
theorem dX6_years_64 : decode cX6_years 64 = .ok (.getfield 25, 3) := by decide +kernel
theorem dX6_years_67 : decode cX6_years 67 = .ok (.invokevirtual 147, 3) := by decide +kernel
theorem dX6_years_70 : decode cX6_years 70 = .ok (.iinc 2 1, 3) := by decide +kernel
theorem dX6_years_73 : decode cX6_years 73 = .ok (.goto (-26), 3) := by decide +kernel
theorem dX6_years_76 : decode cX6_years 76 = .ok (.aload_n 0, 1) := by decide +kernel
theorem dX6_years_77 : decode cX6_years 77 = .ok (.getfield 25, 3) := by decide +kernel
theorem dX6_years_80 : decode cX6_years 80 = .ok (.invokevirtual 150, 3) := by decide +kernel
theorem dX6_years_83 : decode cX6_years 83 = .ok (.invokestatic 154, 3) := by decide +kernel
theorem dX6_years_86 : decode cX6_years 86 = .ok (.ireturn, 1) := by decide +kernel
theorem dX6_cut_0 : decode cX6_cut 0 = .ok (.aload_n 0, 1) := by decide +kernel
theorem dX6_cut_1 : decode cX6_cut 1 = .ok (.getfield 25, 3) := by decide +kernel
theorem dX6_cut_4 : decode cX6_cut 4 = .ok (.iload_n 1, 1) := by decide +kernel
theorem dX6_cut_5 : decode cX6_cut 5 = .ok (.invokevirtual 159, 3) := by decide +kernel
theorem dX6_cut_8 : decode cX6_cut 8 = .ok (.ifCond .eq 29, 3) := by decide +kernel
theorem dX6_cut_11 : decode cX6_cut 11 = .ok (.iload_n 2, 1) := by decide +kernel
theorem dX6_cut_12 : decode cX6_cut 12 = .ok (.bipush 26, 2) := by decide +kernel
theorem dX6_cut_14 : decode cX6_cut 14 = .ok (.invokestatic 162, 3) := by decide +kernel
theorem dX6_cut_17 : decode cX6_cut 17 = .ok (.ifCond .eq 20, 3) := by decide +kernel
theorem dX6_cut_20 : decode cX6_cut 20 = .ok (.iload_n 3, 1) := by decide +kernel
theorem dX6_cut_21 : decode cX6_cut 21 = .ok (.bipush 60, 2) := by decide +kernel
theorem dX6_cut_23 : decode cX6_cut 23 = .ok (.invokestatic 162, 3) := by decide +kernel
theorem dX6_cut_26 : decode cX6_cut 26 = .ok (.ifCond .eq 11, 3) := by decide +kernel
theorem dX6_cut_29 : decode cX6_cut 29 = .ok (.iload 4, 2) := by decide +kernel
theorem dX6_cut_31 : decode cX6_cut 31 = .ok (.invokestatic 165, 3) := by decide +kernel
theorem dX6_cut_34 : decode cX6_cut 34 = .ok (.ifCond .ne 6, 3) := by decide +kernel
theorem dX6_cut_37 : decode cX6_cut 37 = .ok (.ldc 62, 2) := by decide +kernel
theorem dX6_cut_39 : decode cX6_cut 39 = .ok (.ireturn, 1) := by decide +kernel
theorem dX6_cut_40 : decode cX6_cut 40 = .ok (.aload_n 0, 1) := by decide +kernel
theorem dX6_cut_41 : decode cX6_cut 41 = .ok (.getfield 25, 3) := by decide +kernel
theorem dX6_cut_44 : decode cX6_cut 44 = .ok (.iload_n 1, 1) := by decide +kernel
theorem dX6_cut_45 : decode cX6_cut 45 = .ok (.iload_n 3, 1) := by decide +kernel
theorem dX6_cut_46 : decode cX6_cut 46 = .ok (.invokevirtual 168, 3) := by decide +kernel
theorem dX6_cut_49 : decode cX6_cut 49 = .ok (.ifCond .eq 6, 3) := by decide +kernel
theorem dX6_cut_52 : decode cX6_cut 52 = .ok (.ldc 140, 2) := by decide +kernel
theorem dX6_cut_54 : decode cX6_cut 54 = .ok (.ireturn, 1) := by decide +kernel
theorem dX6_cut_55 : decode cX6_cut 55 = .ok (.aload_n 0, 1) := by decide +kernel
theorem dX6_cut_56 : decode cX6_cut 56 = .ok (.getfield 25, 3) := by decide +kernel
theorem dX6_cut_59 : decode cX6_cut 59 = .ok (.getfield 134, 3) := by decide +kernel
theorem dX6_cut_62 : decode cX6_cut 62 = .ok (.bipush 8, 2) := by decide +kernel
theorem dX6_cut_64 : decode cX6_cut 64 = .ok (.if_icmp .lt 6, 3) := by decide +kernel
theorem dX6_cut_67 : decode cX6_cut 67 = .ok (.ldc 112, 2) := by decide +kernel
theorem dX6_cut_69 : decode cX6_cut 69 = .ok (.ireturn, 1) := by decide +kernel
theorem dX6_cut_70 : decode cX6_cut 70 = .ok (.aload_n 0, 1) := by decide +kernel
theorem dX6_cut_71 : decode cX6_cut 71 = .ok (.getfield 39, 3) := by decide +kernel
theorem dX6_cut_74 : decode cX6_cut 74 = .ok (.aload_n 0, 1) := by decide +kernel
theorem dX6_cut_75 : decode cX6_cut 75 = .ok (.getfield 25, 3) := by decide +kernel
theorem dX6_cut_78 : decode cX6_cut 78 = .ok (.invokevirtual 144, 3) := by decide +kernel
theorem dX6_cut_81 : decode cX6_cut 81 = .ok (.aload_n 0, 1) := by decide +kernel
theorem dX6_cut_82 : decode cX6_cut 82 = .ok (.getfield 25, 3) := by decide +kernel
theorem dX6_cut_85 : decode cX6_cut 85 = .ok (.iload_n 1, 1) := by decide +kernel
theorem dX6_cut_86 : decode cX6_cut 86 = .ok (.iload_n 2, 1) := by decide +kernel
theorem dX6_cut_87 : decode cX6_cut 87 = .ok (.iload_n 3, 1) := by decide +kernel
theorem dX6_cut_88 : decode cX6_cut 88 = .ok (.iload 4, 2) := by decide +kernel
theorem dX6_cut_90 : decode cX6_cut 90 = .ok (.invokevirtual 171, 3) := by decide +kernel
theorem dX6_cut_93 : decode cX6_cut 93 = .ok (.aload_n 0, 1) := by decide +kernel
theorem dX6_cut_94 : decode cX6_cut 94 = .ok (.getfield 25, 3) := by decide +kernel
theorem dX6_cut_97 : decode cX6_cut 97 = .ok (.getfield 134, 3) := by decide +kernel
theorem dX6_cut_100 : decode cX6_cut 100 = .ok (.iconst 1, 1) := by decide +kernel
theorem dX6_cut_101 : decode cX6_cut 101 = .ok (.isub, 1) := by decide +kernel
theorem dX6_cut_102 : decode cX6_cut 102 = .ok (.ireturn, 1) := by decide +kernel
theorem dX6_anew_0 : decode cX6_anew 0 = .ok (.aload_n 0, 1) := by decide +kernel
theorem dX6_anew_1 : decode cX6_anew 1 = .ok (.getfield 25, 3) := by decide +kernel
theorem dX6_anew_4 : decode cX6_anew 4 = .ok (.iload_n 1, 1) := by decide +kernel
theorem dX6_anew_5 : decode cX6_anew 5 = .ok (.invokevirtual 175, 3) := by decide +kernel
theorem dX6_anew_8 : decode cX6_anew 8 = .ok (.ifCond .eq 10, 3) := by decide +kernel
theorem dX6_anew_11 : decode cX6_anew 11 = .ok (.iload_n 2, 1) := by decide +kernel
theorem dX6_anew_12 : decode cX6_anew 12 = .ok (.invokestatic 165, 3) := by decide +kernel
theorem dX6_anew_15 : decode cX6_anew 15 = .ok (.ifCond .ne 6, 3) := by decide +kernel
theorem dX6_anew_18 : decode cX6_anew 18 = .ok (.ldc 62, 2) := by decide +kernel
theorem dX6_anew_20 : decode cX6_anew 20 = .ok (.ireturn, 1) := by decide +kernel
theorem dX6_anew_21 : decode cX6_anew 21 = .ok (.aload_n 0, 1) := by decide +kernel
theorem dX6_anew_22 : decode cX6_anew 22 = .ok (.getfield 25, 3) := by decide +kernel
theorem dX6_anew_25 : decode cX6_anew 25 = .ok (.getfield 178, 3) := by decide +kernel
theorem dX6_anew_28 : decode cX6_anew 28 = .ok (.iload_n 1, 1) := by decide +kernel
theorem dX6_anew_29 : decode cX6_anew 29 = .ok (.iaload, 1) := by decide +kernel
theorem dX6_anew_30 : decode cX6_anew 30 = .ok (.istore_n 3, 1) := by decide +kernel
theorem dX6_anew_31 : decode cX6_anew 31 = .ok (.iload_n 3, 1) := by decide +kernel
theorem dX6_anew_32 : decode cX6_anew 32 = .ok (.ifCond .ne 6, 3) := by decide +kernel
theorem dX6_anew_35 : decode cX6_anew 35 = .ok (.ldc 140, 2) := by decide +kernel
theorem dX6_anew_37 : decode cX6_anew 37 = .ok (.ireturn, 1) := by decide +kernel
theorem dX6_anew_38 : decode cX6_anew 38 = .ok (.aload_n 0, 1) := by decide +kernel
theorem dX6_anew_39 : decode cX6_anew 39 = .ok (.getfield 39, 3) := by decide +kernel
theorem dX6_anew_42 : decode cX6_anew 42 = .ok (.aload_n 0, 1) := by decide +kernel
theorem dX6_anew_43 : decode cX6_anew 43 = .ok (.getfield 25, 3) := by decide +kernel
theorem dX6_anew_46 : decode cX6_anew 46 = .ok (.invokevirtual 144, 3) := by decide +kernel
theorem dX6_anew_49 : decode cX6_anew 49 = .ok (.aload_n 0, 1) := by decide +kernel
theorem dX6_anew_50 : decode cX6_anew 50 = .ok (.getfield 25, 3) := by decide +kernel
theorem dX6_anew_53 : decode cX6_anew 53 = .ok (.getfield 178, 3) := by decide +kernel
theorem dX6_anew_56 : decode cX6_anew 56 = .ok (.iload_n 1, 1) := by decide +kernel
theorem dX6_anew_57 : decode cX6_anew 57 = .ok (.iload_n 2, 1) := by decide +kernel
theorem dX6_anew_58 : decode cX6_anew 58 = .ok (.iastore, 1) := by decide +kernel
theorem dX6_anew_59 : decode cX6_anew 59 = .ok (.iload_n 3, 1) := by decide +kernel
theorem dX6_anew_60 : decode cX6_anew 60 = .ok (.ireturn, 1) := by decide +kernel
theorem dX6_scrape_0 : decode cX6_scrape 0 = .ok (.aload_n 0, 1) := by decide +kernel
theorem dX6_scrape_1 : decode cX6_scrape 1 = .ok (.getfield 25, 3) := by decide +kernel
theorem dX6_scrape_4 : decode cX6_scrape 4 = .ok (.iload_n 1, 1) := by decide +kernel
theorem dX6_scrape_5 : decode cX6_scrape 5 = .ok (.invokevirtual 175, 3) := by decide +kernel
theorem dX6_scrape_8 : decode cX6_scrape 8 = .ok (.ifCond .ne 6, 3) := by decide +kernel
theorem dX6_scrape_11 : decode cX6_scrape 11 = .ok (.ldc 62, 2) := by decide +kernel
theorem dX6_scrape_13 : decode cX6_scrape 13 = .ok (.ireturn, 1) := by decide +kernel
theorem dX6_scrape_14 : decode cX6_scrape 14 = .ok (.aload_n 0, 1) := by decide +kernel
theorem dX6_scrape_15 : decode cX6_scrape 15 = .ok (.getfield 39, 3) := by decide +kernel
theorem dX6_scrape_18 : decode cX6_scrape 18 = .ok (.aload_n 0, 1) := by decide +kernel
theorem dX6_scrape_19 : decode cX6_scrape 19 = .ok (.getfield 25, 3) := by decide +kernel
theorem dX6_scrape_22 : decode cX6_scrape 22 = .ok (.invokevirtual 144, 3) := by decide +kernel
theorem dX6_scrape_25 : decode cX6_scrape 25 = .ok (.aload_n 0, 1) := by decide +kernel
theorem dX6_scrape_26 : decode cX6_scrape 26 = .ok (.getfield 25, 3) := by decide +kernel
theorem dX6_scrape_29 : decode cX6_scrape 29 = .ok (.iload_n 1, 1) := by decide +kernel
theorem dX6_scrape_30 : decode cX6_scrape 30 = .ok (.invokevirtual 181, 3) := by decide +kernel
theorem dX6_scrape_33 : decode cX6_scrape 33 = .ok (.aload_n 0, 1) := by decide +kernel
theorem dX6_scrape_34 : decode cX6_scrape 34 = .ok (.getfield 25, 3) := by decide +kernel
theorem dX6_scrape_37 : decode cX6_scrape 37 = .ok (.getfield 134, 3) := by decide +kernel
theorem dX6_scrape_40 : decode cX6_scrape 40 = .ok (.ireturn, 1) := by decide +kernel
theorem dX6_undo_0 : decode cX6_undo 0 = .ok (.aload_n 0, 1) := by decide +kernel
theorem dX6_undo_1 : decode cX6_undo 1 = .ok (.getfield 39, 3) := by decide +kernel
theorem dX6_undo_4 : decode cX6_undo 4 = .ok (.getfield 185, 3) := by decide +kernel
theorem dX6_undo_7 : decode cX6_undo 7 = .ok (.ifCond .ne 6, 3) := by decide +kernel
theorem dX6_undo_10 : decode cX6_undo 10 = .ok (.ldc 140, 2) := by decide +kernel
theorem dX6_undo_12 : decode cX6_undo 12 = .ok (.ireturn, 1) := by decide +kernel
theorem dX6_undo_13 : decode cX6_undo 13 = .ok (.aload_n 0, 1) := by decide +kernel
theorem dX6_undo_14 : decode cX6_undo 14 = .ok (.getfield 39, 3) := by decide +kernel
theorem dX6_undo_17 : decode cX6_undo 17 = .ok (.aload_n 0, 1) := by decide +kernel
theorem dX6_undo_18 : decode cX6_undo 18 = .ok (.getfield 25, 3) := by decide +kernel
theorem dX6_undo_21 : decode cX6_undo 21 = .ok (.invokevirtual 188, 3) := by decide +kernel
theorem dX6_undo_24 : decode cX6_undo 24 = .ok (.aload_n 0, 1) := by decide +kernel
theorem dX6_undo_25 : decode cX6_undo 25 = .ok (.getfield 39, 3) := by decide +kernel
theorem dX6_undo_28 : decode cX6_undo 28 = .ok (.getfield 185, 3) := by decide +kernel
theorem dX6_undo_31 : decode cX6_undo 31 = .ok (.ireturn, 1) := by decide +kernel
theorem dX6_tree_0 : decode cX6_tree 0 = .ok (.aload_n 0, 1) := by decide +kernel
theorem dX6_tree_1 : decode cX6_tree 1 = .ok (.getfield 25, 3) := by decide +kernel
theorem dX6_tree_4 : decode cX6_tree 4 = .ok (.iload_n 1, 1) := by decide +kernel
theorem dX6_tree_5 : decode cX6_tree 5 = .ok (.invokevirtual 159, 3) := by decide +kernel
theorem dX6_tree_8 : decode cX6_tree 8 = .ok (.ifCond .ne 6, 3) := by decide +kernel
theorem dX6_tree_11 : decode cX6_tree 11 = .ok (.ldc 62, 2) := by decide +kernel
theorem dX6_tree_13 : decode cX6_tree 13 = .ok (.ireturn, 1) := by decide +kernel
theorem dX6_tree_14 : decode cX6_tree 14 = .ok (.iload_n 2, 1) := by decide +kernel
theorem dX6_tree_15 : decode cX6_tree 15 = .ok (.tableswitch 67 0 3 #[29, 39, 49, 58], 29) := by decide +kernel
theorem dX6_tree_44 : decode cX6_tree 44 = .ok (.aload_n 0, 1) := by decide +kernel
theorem dX6_tree_45 : decode cX6_tree 45 = .ok (.getfield 25, 3) := by decide +kernel
theorem dX6_tree_48 : decode cX6_tree 48 = .ok (.getfield 191, 3) := by decide +kernel
theorem dX6_tree_51 : decode cX6_tree 51 = .ok (.iload_n 1, 1) := by decide +kernel
theorem dX6_tree_52 : decode cX6_tree 52 = .ok (.iaload, 1) := by decide +kernel
theorem dX6_tree_53 : decode cX6_tree 53 = .ok (.ireturn, 1) := by decide +kernel
theorem dX6_tree_54 : decode cX6_tree 54 = .ok (.aload_n 0, 1) := by decide +kernel
theorem dX6_tree_55 : decode cX6_tree 55 = .ok (.getfield 25, 3) := by decide +kernel
theorem dX6_tree_58 : decode cX6_tree 58 = .ok (.getfield 194, 3) := by decide +kernel
theorem dX6_tree_61 : decode cX6_tree 61 = .ok (.iload_n 1, 1) := by decide +kernel
theorem dX6_tree_62 : decode cX6_tree 62 = .ok (.iaload, 1) := by decide +kernel
theorem dX6_tree_63 : decode cX6_tree 63 = .ok (.ireturn, 1) := by decide +kernel
theorem dX6_tree_64 : decode cX6_tree 64 = .ok (.aload_n 0, 1) := by decide +kernel
theorem dX6_tree_65 : decode cX6_tree 65 = .ok (.getfield 25, 3) := by decide +kernel
theorem dX6_tree_68 : decode cX6_tree 68 = .ok (.iload_n 1, 1) := by decide +kernel
theorem dX6_tree_69 : decode cX6_tree 69 = .ok (.invokevirtual 197, 3) := by decide +kernel
theorem dX6_tree_72 : decode cX6_tree 72 = .ok (.ireturn, 1) := by decide +kernel
theorem dX6_tree_73 : decode cX6_tree 73 = .ok (.aload_n 0, 1) := by decide +kernel
theorem dX6_tree_74 : decode cX6_tree 74 = .ok (.getfield 25, 3) := by decide +kernel
theorem dX6_tree_77 : decode cX6_tree 77 = .ok (.iload_n 1, 1) := by decide +kernel
theorem dX6_tree_78 : decode cX6_tree 78 = .ok (.invokevirtual 200, 3) := by decide +kernel
theorem dX6_tree_81 : decode cX6_tree 81 = .ok (.ireturn, 1) := by decide +kernel
theorem dX6_tree_82 : decode cX6_tree 82 = .ok (.ldc 62, 2) := by decide +kernel
theorem dX6_tree_84 : decode cX6_tree 84 = .ok (.ireturn, 1) := by decide +kernel
theorem dX6_cutHas_0 : decode cX6_cutHas 0 = .ok (.aload_n 0, 1) := by decide +kernel
theorem dX6_cutHas_1 : decode cX6_cutHas 1 = .ok (.getfield 25, 3) := by decide +kernel
theorem dX6_cutHas_4 : decode cX6_cutHas 4 = .ok (.iload_n 1, 1) := by decide +kernel
theorem dX6_cutHas_5 : decode cX6_cutHas 5 = .ok (.invokevirtual 175, 3) := by decide +kernel
theorem dX6_cutHas_8 : decode cX6_cutHas 8 = .ok (.ifCond .ne 6, 3) := by decide +kernel
theorem dX6_cutHas_11 : decode cX6_cutHas 11 = .ok (.ldc 62, 2) := by decide +kernel
theorem dX6_cutHas_13 : decode cX6_cutHas 13 = .ok (.ireturn, 1) := by decide +kernel
theorem dX6_cutHas_14 : decode cX6_cutHas 14 = .ok (.iload_n 2, 1) := by decide +kernel
theorem dX6_cutHas_15 : decode cX6_cutHas 15 = .ok (.tableswitch 69 0 3 #[29, 39, 49, 59], 29) := by decide +kernel
theorem dX6_cutHas_44 : decode cX6_cutHas 44 = .ok (.aload_n 0, 1) := by decide +kernel
theorem dX6_cutHas_45 : decode cX6_cutHas 45 = .ok (.getfield 25, 3) := by decide +kernel
theorem dX6_cutHas_48 : decode cX6_cutHas 48 = .ok (.getfield 203, 3) := by decide +kernel
theorem dX6_cutHas_51 : decode cX6_cutHas 51 = .ok (.iload_n 1, 1) := by decide +kernel
theorem dX6_cutHas_52 : decode cX6_cutHas 52 = .ok (.iaload, 1) := by decide +kernel
theorem dX6_cutHas_53 : decode cX6_cutHas 53 = .ok (.ireturn, 1) := by decide +kernel
theorem dX6_cutHas_54 : decode cX6_cutHas 54 = .ok (.aload_n 0, 1) := by decide +kernel
theorem dX6_cutHas_55 : decode cX6_cutHas 55 = .ok (.getfield 25, 3) := by decide +kernel
theorem dX6_cutHas_58 : decode cX6_cutHas 58 = .ok (.getfield 206, 3) := by decide +kernel
theorem dX6_cutHas_61 : decode cX6_cutHas 61 = .ok (.iload_n 1, 1) := by decide +kernel
theorem dX6_cutHas_62 : decode cX6_cutHas 62 = .ok (.iaload, 1) := by decide +kernel
theorem dX6_cutHas_63 : decode cX6_cutHas 63 = .ok (.ireturn, 1) := by decide +kernel
theorem dX6_cutHas_64 : decode cX6_cutHas 64 = .ok (.aload_n 0, 1) := by decide +kernel
theorem dX6_cutHas_65 : decode cX6_cutHas 65 = .ok (.getfield 25, 3) := by decide +kernel
theorem dX6_cutHas_68 : decode cX6_cutHas 68 = .ok (.getfield 209, 3) := by decide +kernel
theorem dX6_cutHas_71 : decode cX6_cutHas 71 = .ok (.iload_n 1, 1) := by decide +kernel
theorem dX6_cutHas_72 : decode cX6_cutHas 72 = .ok (.iaload, 1) := by decide +kernel
theorem dX6_cutHas_73 : decode cX6_cutHas 73 = .ok (.ireturn, 1) := by decide +kernel
theorem dX6_cutHas_74 : decode cX6_cutHas 74 = .ok (.aload_n 0, 1) := by decide +kernel
theorem dX6_cutHas_75 : decode cX6_cutHas 75 = .ok (.getfield 25, 3) := by decide +kernel
theorem dX6_cutHas_78 : decode cX6_cutHas 78 = .ok (.getfield 178, 3) := by decide +kernel
theorem dX6_cutHas_81 : decode cX6_cutHas 81 = .ok (.iload_n 1, 1) := by decide +kernel
theorem dX6_cutHas_82 : decode cX6_cutHas 82 = .ok (.iaload, 1) := by decide +kernel
theorem dX6_cutHas_83 : decode cX6_cutHas 83 = .ok (.ireturn, 1) := by decide +kernel
theorem dX6_cutHas_84 : decode cX6_cutHas 84 = .ok (.ldc 62, 2) := by decide +kernel
theorem dX6_cutHas_86 : decode cX6_cutHas 86 = .ok (.ireturn, 1) := by decide +kernel
theorem dX6_apart_0 : decode cX6_apart 0 = .ok (.aload_n 0, 1) := by decide +kernel
theorem dX6_apart_1 : decode cX6_apart 1 = .ok (.getfield 25, 3) := by decide +kernel
theorem dX6_apart_4 : decode cX6_apart 4 = .ok (.iload_n 1, 1) := by decide +kernel
theorem dX6_apart_5 : decode cX6_apart 5 = .ok (.invokevirtual 175, 3) := by decide +kernel
theorem dX6_apart_8 : decode cX6_apart 8 = .ok (.ifCond .eq 19, 3) := by decide +kernel
theorem dX6_apart_11 : decode cX6_apart 11 = .ok (.aload_n 0, 1) := by decide +kernel
theorem dX6_apart_12 : decode cX6_apart 12 = .ok (.getfield 25, 3) := by decide +kernel
theorem dX6_apart_15 : decode cX6_apart 15 = .ok (.iload_n 2, 1) := by decide +kernel
theorem dX6_apart_16 : decode cX6_apart 16 = .ok (.invokevirtual 175, 3) := by decide +kernel
theorem dX6_apart_19 : decode cX6_apart 19 = .ok (.ifCond .eq 8, 3) := by decide +kernel
theorem dX6_apart_22 : decode cX6_apart 22 = .ok (.iload_n 1, 1) := by decide +kernel
theorem dX6_apart_23 : decode cX6_apart 23 = .ok (.iload_n 2, 1) := by decide +kernel
theorem dX6_apart_24 : decode cX6_apart 24 = .ok (.if_icmp .ne 6, 3) := by decide +kernel
theorem dX6_apart_27 : decode cX6_apart 27 = .ok (.ldc 62, 2) := by decide +kernel
theorem dX6_apart_29 : decode cX6_apart 29 = .ok (.ireturn, 1) := by decide +kernel
theorem dX6_apart_30 : decode cX6_apart 30 = .ok (.aload_n 0, 1) := by decide +kernel
theorem dX6_apart_31 : decode cX6_apart 31 = .ok (.getfield 25, 3) := by decide +kernel
theorem dX6_apart_34 : decode cX6_apart 34 = .ok (.iload_n 1, 1) := by decide +kernel
theorem dX6_apart_35 : decode cX6_apart 35 = .ok (.iload_n 2, 1) := by decide +kernel
theorem dX6_apart_36 : decode cX6_apart 36 = .ok (.invokevirtual 212, 3) := by decide +kernel
theorem dX6_apart_39 : decode cX6_apart 39 = .ok (.ifCond .eq 15, 3) := by decide +kernel
theorem dX6_apart_42 : decode cX6_apart 42 = .ok (.aload_n 0, 1) := by decide +kernel
theorem dX6_apart_43 : decode cX6_apart 43 = .ok (.getfield 25, 3) := by decide +kernel
theorem dX6_apart_46 : decode cX6_apart 46 = .ok (.iload_n 1, 1) := by decide +kernel
theorem dX6_apart_47 : decode cX6_apart 47 = .ok (.iload_n 2, 1) := by decide +kernel
theorem dX6_apart_48 : decode cX6_apart 48 = .ok (.invokevirtual 215, 3) := by decide +kernel
theorem dX6_apart_51 : decode cX6_apart 51 = .ok (.goto 5, 3) := by decide +kernel
theorem dX6_apart_54 : decode cX6_apart 54 = .ok (.ldc 219, 2) := by decide +kernel
theorem dX6_apart_56 : decode cX6_apart 56 = .ok (.ireturn, 1) := by decide +kernel
theorem dX6_together_0 : decode cX6_together 0 = .ok (.aload_n 0, 1) := by decide +kernel
theorem dX6_together_1 : decode cX6_together 1 = .ok (.iload_n 1, 1) := by decide +kernel
theorem dX6_together_2 : decode cX6_together 2 = .ok (.iload_n 2, 1) := by decide +kernel
theorem dX6_together_3 : decode cX6_together 3 = .ok (.invokevirtual 220, 3) := by decide +kernel
theorem dX6_together_6 : decode cX6_together 6 = .ok (.ifCond .ne 6, 3) := by decide +kernel
theorem dX6_together_9 : decode cX6_together 9 = .ok (.ldc 62, 2) := by decide +kernel
theorem dX6_together_11 : decode cX6_together 11 = .ok (.ireturn, 1) := by decide +kernel
theorem dX6_together_12 : decode cX6_together 12 = .ok (.aload_n 0, 1) := by decide +kernel
theorem dX6_together_13 : decode cX6_together 13 = .ok (.aload_n 0, 1) := by decide +kernel
theorem dX6_together_14 : decode cX6_together 14 = .ok (.getfield 25, 3) := by decide +kernel
theorem dX6_together_17 : decode cX6_together 17 = .ok (.iload_n 1, 1) := by decide +kernel
theorem dX6_together_18 : decode cX6_together 18 = .ok (.iload_n 2, 1) := by decide +kernel
theorem dX6_together_19 : decode cX6_together 19 = .ok (.invokevirtual 223, 3) := by decide +kernel
theorem dX6_together_22 : decode cX6_together 22 = .ok (.ifCond .eq 7, 3) := by decide +kernel
theorem dX6_together_25 : decode cX6_together 25 = .ok (.iconst 1, 1) := by decide +kernel
theorem dX6_together_26 : decode cX6_together 26 = .ok (.goto 4, 3) := by decide +kernel
theorem dX6_together_29 : decode cX6_together 29 = .ok (.iconst 0, 1) := by decide +kernel
theorem dX6_together_30 : decode cX6_together 30 = .ok (.ireturn, 1) := by decide +kernel
theorem dX6_girth_0 : decode cX6_girth 0 = .ok (.aload_n 0, 1) := by decide +kernel
theorem dX6_girth_1 : decode cX6_girth 1 = .ok (.getfield 25, 3) := by decide +kernel
theorem dX6_girth_4 : decode cX6_girth 4 = .ok (.iload_n 1, 1) := by decide +kernel
theorem dX6_girth_5 : decode cX6_girth 5 = .ok (.invokevirtual 159, 3) := by decide +kernel
theorem dX6_girth_8 : decode cX6_girth 8 = .ok (.ifCond .eq 10, 3) := by decide +kernel
theorem dX6_girth_11 : decode cX6_girth 11 = .ok (.iload_n 2, 1) := by decide +kernel
theorem dX6_girth_12 : decode cX6_girth 12 = .ok (.invokestatic 227, 3) := by decide +kernel
theorem dX6_girth_15 : decode cX6_girth 15 = .ok (.ifCond .ne 6, 3) := by decide +kernel
theorem dX6_girth_18 : decode cX6_girth 18 = .ok (.ldc 62, 2) := by decide +kernel
theorem dX6_girth_20 : decode cX6_girth 20 = .ok (.ireturn, 1) := by decide +kernel
theorem dX6_girth_21 : decode cX6_girth 21 = .ok (.aload_n 0, 1) := by decide +kernel
theorem dX6_girth_22 : decode cX6_girth 22 = .ok (.iload_n 2, 1) := by decide +kernel
theorem dX6_girth_23 : decode cX6_girth 23 = .ok (.invokevirtual 230, 3) := by decide +kernel
theorem dX6_girth_26 : decode cX6_girth 26 = .ok (.aload_n 0, 1) := by decide +kernel
theorem dX6_girth_27 : decode cX6_girth 27 = .ok (.getfield 29, 3) := by decide +kernel
theorem dX6_girth_30 : decode cX6_girth 30 = .ok (.getfield 191, 3) := by decide +kernel
theorem dX6_girth_33 : decode cX6_girth 33 = .ok (.iload_n 1, 1) := by decide +kernel
theorem dX6_girth_34 : decode cX6_girth 34 = .ok (.iaload, 1) := by decide +kernel
theorem dX6_girth_35 : decode cX6_girth 35 = .ok (.ireturn, 1) := by decide +kernel
theorem dX6_left_0 : decode cX6_left 0 = .ok (.aload_n 0, 1) := by decide +kernel
theorem dX6_left_1 : decode cX6_left 1 = .ok (.getfield 25, 3) := by decide +kernel
theorem dX6_left_4 : decode cX6_left 4 = .ok (.getfield 137, 3) := by decide +kernel
theorem dX6_left_7 : decode cX6_left 7 = .ok (.ifCond .ne 6, 3) := by decide +kernel
theorem dX6_left_10 : decode cX6_left 10 = .ok (.ldc 140, 2) := by decide +kernel
theorem dX6_left_12 : decode cX6_left 12 = .ok (.ireturn, 1) := by decide +kernel
theorem dX6_left_13 : decode cX6_left 13 = .ok (.iload_n 1, 1) := by decide +kernel
theorem dX6_left_14 : decode cX6_left 14 = .ok (.invokestatic 227, 3) := by decide +kernel
theorem dX6_left_17 : decode cX6_left 17 = .ok (.ifCond .ne 6, 3) := by decide +kernel
theorem dX6_left_20 : decode cX6_left 20 = .ok (.ldc 62, 2) := by decide +kernel
theorem dX6_left_22 : decode cX6_left 22 = .ok (.ireturn, 1) := by decide +kernel
theorem dX6_left_23 : decode cX6_left 23 = .ok (.aload_n 0, 1) := by decide +kernel
theorem dX6_left_24 : decode cX6_left 24 = .ok (.iload_n 1, 1) := by decide +kernel
theorem dX6_left_25 : decode cX6_left 25 = .ok (.invokevirtual 230, 3) := by decide +kernel
theorem dX6_left_28 : decode cX6_left 28 = .ok (.aload_n 0, 1) := by decide +kernel
theorem dX6_left_29 : decode cX6_left 29 = .ok (.getfield 29, 3) := by decide +kernel
theorem dX6_left_32 : decode cX6_left 32 = .ok (.invokevirtual 150, 3) := by decide +kernel
theorem dX6_left_35 : decode cX6_left 35 = .ok (.ireturn, 1) := by decide +kernel
theorem dX6_free_0 : decode cX6_free 0 = .ok (.aload_n 0, 1) := by decide +kernel
theorem dX6_free_1 : decode cX6_free 1 = .ok (.iload_n 1, 1) := by decide +kernel
theorem dX6_free_2 : decode cX6_free 2 = .ok (.iload_n 2, 1) := by decide +kernel
theorem dX6_free_3 : decode cX6_free 3 = .ok (.invokevirtual 220, 3) := by decide +kernel
theorem dX6_free_6 : decode cX6_free 6 = .ok (.ifCond .ne 6, 3) := by decide +kernel
theorem dX6_free_9 : decode cX6_free 9 = .ok (.ldc 62, 2) := by decide +kernel
theorem dX6_free_11 : decode cX6_free 11 = .ok (.ireturn, 1) := by decide +kernel
theorem dX6_free_12 : decode cX6_free 12 = .ok (.aload_n 0, 1) := by decide +kernel
theorem dX6_free_13 : decode cX6_free 13 = .ok (.getfield 29, 3) := by decide +kernel
theorem dX6_free_16 : decode cX6_free 16 = .ok (.aload_n 0, 1) := by decide +kernel
theorem dX6_free_17 : decode cX6_free 17 = .ok (.getfield 25, 3) := by decide +kernel
theorem dX6_free_20 : decode cX6_free 20 = .ok (.invokevirtual 127, 3) := by decide +kernel
theorem dX6_free_23 : decode cX6_free 23 = .ok (.iconst 0, 1) := by decide +kernel
theorem dX6_free_24 : decode cX6_free 24 = .ok (.istore_n 3, 1) := by decide +kernel
theorem dX6_free_25 : decode cX6_free 25 = .ok (.iload_n 3, 1) := by decide +kernel
theorem dX6_free_26 : decode cX6_free 26 = .ok (.bipush 50, 2) := by decide +kernel
theorem dX6_free_28 : decode cX6_free 28 = .ok (.if_icmp .gt 31, 3) := by decide +kernel
theorem dX6_free_31 : decode cX6_free 31 = .ok (.aload_n 0, 1) := by decide +kernel
theorem dX6_free_32 : decode cX6_free 32 = .ok (.aload_n 0, 1) := by decide +kernel
theorem dX6_free_33 : decode cX6_free 33 = .ok (.getfield 29, 3) := by decide +kernel
theorem dX6_free_36 : decode cX6_free 36 = .ok (.iload_n 1, 1) := by decide +kernel
theorem dX6_free_37 : decode cX6_free 37 = .ok (.iload_n 2, 1) := by decide +kernel
theorem dX6_free_38 : decode cX6_free 38 = .ok (.invokevirtual 223, 3) := by decide +kernel
theorem dX6_free_41 : decode cX6_free 41 = .ok (.ifCond .ne 5, 3) := by decide +kernel
theorem dX6_free_44 : decode cX6_free 44 = .ok (.iload_n 3, 1) := by decide +kernel
theorem dX6_free_45 : decode cX6_free 45 = .ok (.ireturn, 1) := by decide +kernel
theorem dX6_free_46 : decode cX6_free 46 = .ok (.aload_n 0, 1) := by decide +kernel
theorem dX6_free_47 : decode cX6_free 47 = .ok (.getfield 29, 3) := by decide +kernel
theorem dX6_free_50 : decode cX6_free 50 = .ok (.invokevirtual 147, 3) := by decide +kernel
theorem dX6_free_53 : decode cX6_free 53 = .ok (.iinc 3 1, 3) := by decide +kernel
theorem dX6_free_56 : decode cX6_free 56 = .ok (.goto (-31), 3) := by decide +kernel
theorem dX6_free_59 : decode cX6_free 59 = .ok (.ldc 219, 2) := by decide +kernel
theorem dX6_free_61 : decode cX6_free 61 = .ok (.ireturn, 1) := by decide +kernel
theorem dX6_holds_0 : decode cX6_holds 0 = .ok (.aload_n 0, 1) := by decide +kernel
theorem dX6_holds_1 : decode cX6_holds 1 = .ok (.getfield 25, 3) := by decide +kernel
theorem dX6_holds_4 : decode cX6_holds 4 = .ok (.getfield 137, 3) := by decide +kernel
theorem dX6_holds_7 : decode cX6_holds 7 = .ok (.ifCond .ne 6, 3) := by decide +kernel
theorem dX6_holds_10 : decode cX6_holds 10 = .ok (.ldc 140, 2) := by decide +kernel
theorem dX6_holds_12 : decode cX6_holds 12 = .ok (.ireturn, 1) := by decide +kernel
theorem dX6_holds_13 : decode cX6_holds 13 = .ok (.iload_n 1, 1) := by decide +kernel
theorem dX6_holds_14 : decode cX6_holds 14 = .ok (.iconst 1, 1) := by decide +kernel
theorem dX6_holds_15 : decode cX6_holds 15 = .ok (.if_icmp .lt 23, 3) := by decide +kernel
theorem dX6_holds_18 : decode cX6_holds 18 = .ok (.iload_n 1, 1) := by decide +kernel
theorem dX6_holds_19 : decode cX6_holds 19 = .ok (.bipush 30, 2) := by decide +kernel
theorem dX6_holds_21 : decode cX6_holds 21 = .ok (.if_icmp .gt 17, 3) := by decide +kernel
theorem dX6_holds_24 : decode cX6_holds 24 = .ok (.iload_n 2, 1) := by decide +kernel
theorem dX6_holds_25 : decode cX6_holds 25 = .ok (.invokestatic 165, 3) := by decide +kernel
theorem dX6_holds_28 : decode cX6_holds 28 = .ok (.ifCond .eq 10, 3) := by decide +kernel
theorem dX6_holds_31 : decode cX6_holds 31 = .ok (.iload_n 3, 1) := by decide +kernel
theorem dX6_holds_32 : decode cX6_holds 32 = .ok (.invokestatic 227, 3) := by decide +kernel
theorem dX6_holds_35 : decode cX6_holds 35 = .ok (.ifCond .ne 6, 3) := by decide +kernel
theorem dX6_holds_38 : decode cX6_holds 38 = .ok (.ldc 62, 2) := by decide +kernel
theorem dX6_holds_40 : decode cX6_holds 40 = .ok (.ireturn, 1) := by decide +kernel
theorem dX6_holds_41 : decode cX6_holds 41 = .ok (.aload_n 0, 1) := by decide +kernel
theorem dX6_holds_42 : decode cX6_holds 42 = .ok (.getfield 29, 3) := by decide +kernel
theorem dX6_holds_45 : decode cX6_holds 45 = .ok (.aload_n 0, 1) := by decide +kernel
theorem dX6_holds_46 : decode cX6_holds 46 = .ok (.getfield 25, 3) := by decide +kernel
theorem dX6_holds_49 : decode cX6_holds 49 = .ok (.invokevirtual 127, 3) := by decide +kernel
theorem dX6_holds_52 : decode cX6_holds 52 = .ok (.aload_n 0, 1) := by decide +kernel
theorem dX6_holds_53 : decode cX6_holds 53 = .ok (.getfield 29, 3) := by decide +kernel
theorem dX6_holds_56 : decode cX6_holds 56 = .ok (.iconst 0, 1) := by decide +kernel
theorem dX6_holds_57 : decode cX6_holds 57 = .ok (.putfield 134, 3) := by decide +kernel
theorem dX6_holds_60 : decode cX6_holds 60 = .ok (.iconst 0, 1) := by decide +kernel
theorem dX6_holds_61 : decode cX6_holds 61 = .ok (.istore 4, 2) := by decide +kernel
theorem dX6_holds_63 : decode cX6_holds 63 = .ok (.iload 4, 2) := by decide +kernel
theorem dX6_holds_65 : decode cX6_holds 65 = .ok (.aload_n 0, 1) := by decide +kernel
theorem dX6_holds_66 : decode cX6_holds 66 = .ok (.getfield 29, 3) := by decide +kernel
theorem dX6_holds_69 : decode cX6_holds 69 = .ok (.getfield 233, 3) := by decide +kernel
theorem dX6_holds_72 : decode cX6_holds 72 = .ok (.if_icmp .ge 33, 3) := by decide +kernel
theorem dX6_holds_75 : decode cX6_holds 75 = .ok (.aload_n 0, 1) := by decide +kernel
theorem dX6_holds_76 : decode cX6_holds 76 = .ok (.getfield 29, 3) := by decide +kernel
theorem dX6_holds_79 : decode cX6_holds 79 = .ok (.iload 4, 2) := by decide +kernel
theorem dX6_holds_81 : decode cX6_holds 81 = .ok (.iconst 0, 1) := by decide +kernel
theorem dX6_holds_82 : decode cX6_holds 82 = .ok (.iconst 0, 1) := by decide +kernel
theorem dX6_holds_83 : decode cX6_holds 83 = .ok (.iload_n 2, 1) := by decide +kernel
theorem dX6_holds_84 : decode cX6_holds 84 = .ok (.invokevirtual 171, 3) := by decide +kernel
theorem dX6_holds_87 : decode cX6_holds 87 = .ok (.aload_n 0, 1) := by decide +kernel
theorem dX6_holds_88 : decode cX6_holds 88 = .ok (.getfield 29, 3) := by decide +kernel
theorem dX6_holds_91 : decode cX6_holds 91 = .ok (.iload 4, 2) := by decide +kernel
theorem dX6_holds_93 : decode cX6_holds 93 = .ok (.iconst 0, 1) := by decide +kernel
theorem dX6_holds_94 : decode cX6_holds 94 = .ok (.iload_n 1, 1) := by decide +kernel
theorem dX6_holds_95 : decode cX6_holds 95 = .ok (.iload_n 2, 1) := by decide +kernel
theorem dX6_holds_96 : decode cX6_holds 96 = .ok (.invokevirtual 171, 3) := by decide +kernel
theorem dX6_holds_99 : decode cX6_holds 99 = .ok (.iinc 4 1, 3) := by decide +kernel
theorem dX6_holds_102 : decode cX6_holds 102 = .ok (.goto (-39), 3) := by decide +kernel
theorem dX6_holds_105 : decode cX6_holds 105 = .ok (.aload_n 0, 1) := by decide +kernel
theorem dX6_holds_106 : decode cX6_holds 106 = .ok (.invokevirtual 236, 3) := by decide +kernel
theorem dX6_holds_109 : decode cX6_holds 109 = .ok (.istore 4, 2) := by decide +kernel
theorem dX6_holds_111 : decode cX6_holds 111 = .ok (.iconst 1, 1) := by decide +kernel
theorem dX6_holds_112 : decode cX6_holds 112 = .ok (.istore 5, 2) := by decide +kernel
theorem dX6_holds_114 : decode cX6_holds 114 = .ok (.iload 5, 2) := by decide +kernel
theorem dX6_holds_116 : decode cX6_holds 116 = .ok (.iload_n 3, 1) := by decide +kernel
theorem dX6_holds_117 : decode cX6_holds 117 = .ok (.if_icmp .gt 25, 3) := by decide +kernel
theorem dX6_holds_120 : decode cX6_holds 120 = .ok (.aload_n 0, 1) := by decide +kernel
theorem dX6_holds_121 : decode cX6_holds 121 = .ok (.getfield 29, 3) := by decide +kernel
theorem dX6_holds_124 : decode cX6_holds 124 = .ok (.invokevirtual 147, 3) := by decide +kernel
theorem dX6_holds_127 : decode cX6_holds 127 = .ok (.iload 4, 2) := by decide +kernel
theorem dX6_holds_129 : decode cX6_holds 129 = .ok (.aload_n 0, 1) := by decide +kernel
theorem dX6_holds_130 : decode cX6_holds 130 = .ok (.invokevirtual 236, 3) := by decide +kernel
theorem dX6_holds_133 : decode cX6_holds 133 = .ok (.iand, 1) := by decide +kernel
theorem dX6_holds_134 : decode cX6_holds 134 = .ok (.istore 4, 2) := by decide +kernel
theorem dX6_holds_136 : decode cX6_holds 136 = .ok (.iinc 5 1, 3) := by decide +kernel
theorem dX6_holds_139 : decode cX6_holds 139 = .ok (.goto (-25), 3) := by decide +kernel
theorem dX6_holds_142 : decode cX6_holds 142 = .ok (.iload 4, 2) := by decide +kernel
theorem dX6_holds_144 : decode cX6_holds 144 = .ok (.ireturn, 1) := by decide +kernel
theorem dX6_deep_0 : decode cX6_deep 0 = .ok (.aload_n 0, 1) := by decide +kernel
theorem dX6_deep_1 : decode cX6_deep 1 = .ok (.getfield 25, 3) := by decide +kernel
theorem dX6_deep_4 : decode cX6_deep 4 = .ok (.iload_n 1, 1) := by decide +kernel
theorem dX6_deep_5 : decode cX6_deep 5 = .ok (.invokevirtual 159, 3) := by decide +kernel
theorem dX6_deep_8 : decode cX6_deep 8 = .ok (.ifCond .eq 10, 3) := by decide +kernel
theorem dX6_deep_11 : decode cX6_deep 11 = .ok (.iload_n 2, 1) := by decide +kernel
theorem dX6_deep_12 : decode cX6_deep 12 = .ok (.invokestatic 227, 3) := by decide +kernel
theorem dX6_deep_15 : decode cX6_deep 15 = .ok (.ifCond .ne 6, 3) := by decide +kernel
theorem dX6_deep_18 : decode cX6_deep 18 = .ok (.ldc 62, 2) := by decide +kernel
theorem dX6_deep_20 : decode cX6_deep 20 = .ok (.ireturn, 1) := by decide +kernel
theorem dX6_deep_21 : decode cX6_deep 21 = .ok (.aload_n 0, 1) := by decide +kernel
theorem dX6_deep_22 : decode cX6_deep 22 = .ok (.getfield 29, 3) := by decide +kernel
theorem dX6_deep_25 : decode cX6_deep 25 = .ok (.aload_n 0, 1) := by decide +kernel
theorem dX6_deep_26 : decode cX6_deep 26 = .ok (.getfield 25, 3) := by decide +kernel
theorem dX6_deep_29 : decode cX6_deep 29 = .ok (.invokevirtual 127, 3) := by decide +kernel
theorem dX6_deep_32 : decode cX6_deep 32 = .ok (.aload_n 0, 1) := by decide +kernel
theorem dX6_deep_33 : decode cX6_deep 33 = .ok (.getfield 29, 3) := by decide +kernel
theorem dX6_deep_36 : decode cX6_deep 36 = .ok (.iconst 0, 1) := by decide +kernel
theorem dX6_deep_37 : decode cX6_deep 37 = .ok (.putfield 134, 3) := by decide +kernel
theorem dX6_deep_40 : decode cX6_deep 40 = .ok (.aload_n 0, 1) := by decide +kernel
theorem dX6_deep_41 : decode cX6_deep 41 = .ok (.getfield 29, 3) := by decide +kernel
theorem dX6_deep_44 : decode cX6_deep 44 = .ok (.iload_n 1, 1) := by decide +kernel
theorem dX6_deep_45 : decode cX6_deep 45 = .ok (.iconst 0, 1) := by decide +kernel
theorem dX6_deep_46 : decode cX6_deep 46 = .ok (.iconst 0, 1) := by decide +kernel
theorem dX6_deep_47 : decode cX6_deep 47 = .ok (.bipush 20, 2) := by decide +kernel
theorem dX6_deep_49 : decode cX6_deep 49 = .ok (.invokevirtual 171, 3) := by decide +kernel
theorem dX6_deep_52 : decode cX6_deep 52 = .ok (.aload_n 0, 1) := by decide +kernel
theorem dX6_deep_53 : decode cX6_deep 53 = .ok (.getfield 29, 3) := by decide +kernel
theorem dX6_deep_56 : decode cX6_deep 56 = .ok (.iload_n 2, 1) := by decide +kernel
theorem dX6_deep_57 : decode cX6_deep 57 = .ok (.invokevirtual 239, 3) := by decide +kernel
theorem dX6_deep_60 : decode cX6_deep 60 = .ok (.aload_n 0, 1) := by decide +kernel
theorem dX6_deep_61 : decode cX6_deep 61 = .ok (.getfield 29, 3) := by decide +kernel
theorem dX6_deep_64 : decode cX6_deep 64 = .ok (.getfield 178, 3) := by decide +kernel
theorem dX6_deep_67 : decode cX6_deep 67 = .ok (.iconst 0, 1) := by decide +kernel
theorem dX6_deep_68 : decode cX6_deep 68 = .ok (.iaload, 1) := by decide +kernel
theorem dX6_deep_69 : decode cX6_deep 69 = .ok (.istore_n 3, 1) := by decide +kernel
theorem dX6_deep_70 : decode cX6_deep 70 = .ok (.iload_n 3, 1) := by decide +kernel
theorem dX6_deep_71 : decode cX6_deep 71 = .ok (.ifCond .ne 8, 3) := by decide +kernel
theorem dX6_deep_74 : decode cX6_deep 74 = .ok (.ldc 219, 2) := by decide +kernel
theorem dX6_deep_76 : decode cX6_deep 76 = .ok (.goto 9, 3) := by decide +kernel
theorem dX6_deep_79 : decode cX6_deep 79 = .ok (.bipush 20, 2) := by decide +kernel
theorem dX6_deep_81 : decode cX6_deep 81 = .ok (.iload_n 3, 1) := by decide +kernel
theorem dX6_deep_82 : decode cX6_deep 82 = .ok (.isub, 1) := by decide +kernel
theorem dX6_deep_83 : decode cX6_deep 83 = .ok (.iconst 1, 1) := by decide +kernel
theorem dX6_deep_84 : decode cX6_deep 84 = .ok (.iadd, 1) := by decide +kernel
theorem dX6_deep_85 : decode cX6_deep 85 = .ok (.ireturn, 1) := by decide +kernel
theorem dX6_meet_0 : decode cX6_meet 0 = .ok (.aload_n 0, 1) := by decide +kernel
theorem dX6_meet_1 : decode cX6_meet 1 = .ok (.getfield 25, 3) := by decide +kernel
theorem dX6_meet_4 : decode cX6_meet 4 = .ok (.iload_n 1, 1) := by decide +kernel
theorem dX6_meet_5 : decode cX6_meet 5 = .ok (.invokevirtual 159, 3) := by decide +kernel
theorem dX6_meet_8 : decode cX6_meet 8 = .ok (.ifCond .eq 10, 3) := by decide +kernel
theorem dX6_meet_11 : decode cX6_meet 11 = .ok (.iload_n 2, 1) := by decide +kernel
theorem dX6_meet_12 : decode cX6_meet 12 = .ok (.invokestatic 242, 3) := by decide +kernel
theorem dX6_meet_15 : decode cX6_meet 15 = .ok (.ifCond .ne 6, 3) := by decide +kernel
theorem dX6_meet_18 : decode cX6_meet 18 = .ok (.ldc 62, 2) := by decide +kernel
theorem dX6_meet_20 : decode cX6_meet 20 = .ok (.ireturn, 1) := by decide +kernel
theorem dX6_meet_21 : decode cX6_meet 21 = .ok (.iconst 0, 1) := by decide +kernel
theorem dX6_meet_22 : decode cX6_meet 22 = .ok (.istore_n 3, 1) := by decide +kernel
theorem dX6_meet_23 : decode cX6_meet 23 = .ok (.ldc 219, 2) := by decide +kernel
theorem dX6_meet_25 : decode cX6_meet 25 = .ok (.istore 4, 2) := by decide +kernel
theorem dX6_meet_27 : decode cX6_meet 27 = .ok (.iconst 0, 1) := by decide +kernel
theorem dX6_meet_28 : decode cX6_meet 28 = .ok (.istore 5, 2) := by decide +kernel
theorem dX6_meet_30 : decode cX6_meet 30 = .ok (.iload 5, 2) := by decide +kernel
theorem dX6_meet_32 : decode cX6_meet 32 = .ok (.aload_n 0, 1) := by decide +kernel
theorem dX6_meet_33 : decode cX6_meet 33 = .ok (.getfield 25, 3) := by decide +kernel
theorem dX6_meet_36 : decode cX6_meet 36 = .ok (.getfield 134, 3) := by decide +kernel
theorem dX6_meet_39 : decode cX6_meet 39 = .ok (.if_icmp .ge 83, 3) := by decide +kernel
theorem dX6_meet_42 : decode cX6_meet 42 = .ok (.iload 5, 2) := by decide +kernel
theorem dX6_meet_44 : decode cX6_meet 44 = .ok (.iconst 1, 1) := by decide +kernel
theorem dX6_meet_45 : decode cX6_meet 45 = .ok (.iadd, 1) := by decide +kernel
theorem dX6_meet_46 : decode cX6_meet 46 = .ok (.istore 6, 2) := by decide +kernel
theorem dX6_meet_48 : decode cX6_meet 48 = .ok (.iload 6, 2) := by decide +kernel
theorem dX6_meet_50 : decode cX6_meet 50 = .ok (.aload_n 0, 1) := by decide +kernel
theorem dX6_meet_51 : decode cX6_meet 51 = .ok (.getfield 25, 3) := by decide +kernel
theorem dX6_meet_54 : decode cX6_meet 54 = .ok (.getfield 134, 3) := by decide +kernel
theorem dX6_meet_57 : decode cX6_meet 57 = .ok (.if_icmp .ge 59, 3) := by decide +kernel
theorem dX6_meet_60 : decode cX6_meet 60 = .ok (.aload_n 0, 1) := by decide +kernel
theorem dX6_meet_61 : decode cX6_meet 61 = .ok (.getfield 25, 3) := by decide +kernel
theorem dX6_meet_64 : decode cX6_meet 64 = .ok (.getfield 203, 3) := by decide +kernel
theorem dX6_meet_67 : decode cX6_meet 67 = .ok (.iload 5, 2) := by decide +kernel
theorem dX6_meet_69 : decode cX6_meet 69 = .ok (.iaload, 1) := by decide +kernel
theorem dX6_meet_70 : decode cX6_meet 70 = .ok (.iload_n 1, 1) := by decide +kernel
theorem dX6_meet_71 : decode cX6_meet 71 = .ok (.if_icmp .ne 39, 3) := by decide +kernel
theorem dX6_meet_74 : decode cX6_meet 74 = .ok (.aload_n 0, 1) := by decide +kernel
theorem dX6_meet_75 : decode cX6_meet 75 = .ok (.getfield 25, 3) := by decide +kernel
theorem dX6_meet_78 : decode cX6_meet 78 = .ok (.iload 5, 2) := by decide +kernel
theorem dX6_meet_80 : decode cX6_meet 80 = .ok (.iload 6, 2) := by decide +kernel
theorem dX6_meet_82 : decode cX6_meet 82 = .ok (.invokevirtual 245, 3) := by decide +kernel
theorem dX6_meet_85 : decode cX6_meet 85 = .ok (.ifCond .eq 25, 3) := by decide +kernel
theorem dX6_meet_88 : decode cX6_meet 88 = .ok (.iload_n 3, 1) := by decide +kernel
theorem dX6_meet_89 : decode cX6_meet 89 = .ok (.ifCond .ne 14, 3) := by decide +kernel
theorem dX6_meet_92 : decode cX6_meet 92 = .ok (.bipush 10, 2) := by decide +kernel
theorem dX6_meet_94 : decode cX6_meet 94 = .ok (.iload 5, 2) := by decide +kernel
theorem dX6_meet_96 : decode cX6_meet 96 = .ok (.imul, 1) := by decide +kernel
theorem dX6_meet_97 : decode cX6_meet 97 = .ok (.iload 6, 2) := by decide +kernel
theorem dX6_meet_99 : decode cX6_meet 99 = .ok (.iadd, 1) := by decide +kernel
theorem dX6_meet_100 : decode cX6_meet 100 = .ok (.goto 5, 3) := by decide +kernel
theorem dX6_meet_103 : decode cX6_meet 103 = .ok (.iload 4, 2) := by decide +kernel
theorem dX6_meet_105 : decode cX6_meet 105 = .ok (.istore 4, 2) := by decide +kernel
theorem dX6_meet_107 : decode cX6_meet 107 = .ok (.iinc 3 1, 3) := by decide +kernel
theorem dX6_meet_110 : decode cX6_meet 110 = .ok (.iinc 6 1, 3) := by decide +kernel
theorem dX6_meet_113 : decode cX6_meet 113 = .ok (.goto (-65), 3) := by decide +kernel
theorem dX6_meet_116 : decode cX6_meet 116 = .ok (.iinc 5 1, 3) := by decide +kernel
theorem dX6_meet_119 : decode cX6_meet 119 = .ok (.goto (-89), 3) := by decide +kernel
theorem dX6_meet_122 : decode cX6_meet 122 = .ok (.iload_n 2, 1) := by decide +kernel
theorem dX6_meet_123 : decode cX6_meet 123 = .ok (.ifCond .ne 7, 3) := by decide +kernel
theorem dX6_meet_126 : decode cX6_meet 126 = .ok (.iload_n 3, 1) := by decide +kernel
theorem dX6_meet_127 : decode cX6_meet 127 = .ok (.goto 5, 3) := by decide +kernel
theorem dX6_meet_130 : decode cX6_meet 130 = .ok (.iload 4, 2) := by decide +kernel
theorem dX6_meet_132 : decode cX6_meet 132 = .ok (.ireturn, 1) := by decide +kernel
theorem dX6_rings_0 : decode cX6_rings 0 = .ok (.aload_n 0, 1) := by decide +kernel
theorem dX6_rings_1 : decode cX6_rings 1 = .ok (.getfield 25, 3) := by decide +kernel
theorem dX6_rings_4 : decode cX6_rings 4 = .ok (.iload_n 1, 1) := by decide +kernel
theorem dX6_rings_5 : decode cX6_rings 5 = .ok (.invokevirtual 159, 3) := by decide +kernel
theorem dX6_rings_8 : decode cX6_rings 8 = .ok (.ifCond .eq 10, 3) := by decide +kernel
theorem dX6_rings_11 : decode cX6_rings 11 = .ok (.iload_n 2, 1) := by decide +kernel
theorem dX6_rings_12 : decode cX6_rings 12 = .ok (.invokestatic 242, 3) := by decide +kernel
theorem dX6_rings_15 : decode cX6_rings 15 = .ok (.ifCond .ne 6, 3) := by decide +kernel
theorem dX6_rings_18 : decode cX6_rings 18 = .ok (.ldc 62, 2) := by decide +kernel
theorem dX6_rings_20 : decode cX6_rings 20 = .ok (.ireturn, 1) := by decide +kernel
theorem dX6_rings_21 : decode cX6_rings 21 = .ok (.aload_n 0, 1) := by decide +kernel
theorem dX6_rings_22 : decode cX6_rings 22 = .ok (.getfield 46, 3) := by decide +kernel
theorem dX6_rings_25 : decode cX6_rings 25 = .ok (.aload_n 0, 1) := by decide +kernel
theorem dX6_rings_26 : decode cX6_rings 26 = .ok (.getfield 25, 3) := by decide +kernel
theorem dX6_rings_29 : decode cX6_rings 29 = .ok (.invokevirtual 248, 3) := by decide +kernel
theorem dX6_rings_32 : decode cX6_rings 32 = .ok (.aload_n 0, 1) := by decide +kernel
theorem dX6_rings_33 : decode cX6_rings 33 = .ok (.getfield 25, 3) := by decide +kernel
theorem dX6_rings_36 : decode cX6_rings 36 = .ok (.iload_n 1, 1) := by decide +kernel
theorem dX6_rings_37 : decode cX6_rings 37 = .ok (.invokevirtual 197, 3) := by decide +kernel
theorem dX6_rings_40 : decode cX6_rings 40 = .ok (.istore_n 3, 1) := by decide +kernel
theorem dX6_rings_41 : decode cX6_rings 41 = .ok (.iconst 0, 1) := by decide +kernel
theorem dX6_rings_42 : decode cX6_rings 42 = .ok (.istore 4, 2) := by decide +kernel
theorem dX6_rings_44 : decode cX6_rings 44 = .ok (.iconst 0, 1) := by decide +kernel
theorem dX6_rings_45 : decode cX6_rings 45 = .ok (.istore 5, 2) := by decide +kernel
theorem dX6_rings_47 : decode cX6_rings 47 = .ok (.iconst 0, 1) := by decide +kernel
theorem dX6_rings_48 : decode cX6_rings 48 = .ok (.istore 6, 2) := by decide +kernel
theorem dX6_rings_50 : decode cX6_rings 50 = .ok (.iload 6, 2) := by decide +kernel
theorem dX6_rings_52 : decode cX6_rings 52 = .ok (.aload_n 0, 1) := by decide +kernel
theorem dX6_rings_53 : decode cX6_rings 53 = .ok (.getfield 25, 3) := by decide +kernel
theorem dX6_rings_56 : decode cX6_rings 56 = .ok (.getfield 134, 3) := by decide +kernel
theorem dX6_rings_59 : decode cX6_rings 59 = .ok (.if_icmp .ge 52, 3) := by decide +kernel
theorem dX6_rings_62 : decode cX6_rings 62 = .ok (.iload_n 3, 1) := by decide +kernel
theorem dX6_rings_63 : decode cX6_rings 63 = .ok (.iload 6, 2) := by decide +kernel
theorem dX6_rings_65 : decode cX6_rings 65 = .ok (.invokestatic 251, 3) := by decide +kernel
theorem dX6_rings_68 : decode cX6_rings 68 = .ok (.ifCond .eq 37, 3) := by decide +kernel
theorem dX6_rings_71 : decode cX6_rings 71 = .ok (.aload_n 0, 1) := by decide +kernel
theorem dX6_rings_72 : decode cX6_rings 72 = .ok (.getfield 46, 3) := by decide +kernel
theorem dX6_rings_75 : decode cX6_rings 75 = .ok (.iload 6, 2) := by decide +kernel
theorem dX6_rings_77 : decode cX6_rings 77 = .ok (.iload_n 3, 1) := by decide +kernel
theorem dX6_rings_78 : decode cX6_rings 78 = .ok (.invokevirtual 254, 3) := by decide +kernel
theorem dX6_rings_81 : decode cX6_rings 81 = .ok (.istore 7, 2) := by decide +kernel
theorem dX6_rings_83 : decode cX6_rings 83 = .ok (.iload_n 3, 1) := by decide +kernel
theorem dX6_rings_84 : decode cX6_rings 84 = .ok (.iload 7, 2) := by decide +kernel
theorem dX6_rings_86 : decode cX6_rings 86 = .ok (.iconst (-1), 1) := by decide +kernel
theorem dX6_rings_87 : decode cX6_rings 87 = .ok (.ixor, 1) := by decide +kernel
theorem dX6_rings_88 : decode cX6_rings 88 = .ok (.iand, 1) := by decide +kernel
theorem dX6_rings_89 : decode cX6_rings 89 = .ok (.istore_n 3, 1) := by decide +kernel
theorem dX6_rings_90 : decode cX6_rings 90 = .ok (.iinc 4 1, 3) := by decide +kernel
theorem dX6_rings_93 : decode cX6_rings 93 = .ok (.iload 5, 2) := by decide +kernel
theorem dX6_rings_95 : decode cX6_rings 95 = .ok (.iload 7, 2) := by decide +kernel
theorem dX6_rings_97 : decode cX6_rings 97 = .ok (.invokestatic 154, 3) := by decide +kernel
theorem dX6_rings_100 : decode cX6_rings 100 = .ok (.invokestatic 257, 3) := by decide +kernel
theorem dX6_rings_103 : decode cX6_rings 103 = .ok (.istore 5, 2) := by decide +kernel
theorem dX6_rings_105 : decode cX6_rings 105 = .ok (.iinc 6 1, 3) := by decide +kernel
theorem dX6_rings_108 : decode cX6_rings 108 = .ok (.goto (-58), 3) := by decide +kernel
theorem dX6_rings_111 : decode cX6_rings 111 = .ok (.iload_n 2, 1) := by decide +kernel
theorem dX6_rings_112 : decode cX6_rings 112 = .ok (.ifCond .ne 8, 3) := by decide +kernel
theorem dX6_rings_115 : decode cX6_rings 115 = .ok (.iload 4, 2) := by decide +kernel
theorem dX6_rings_117 : decode cX6_rings 117 = .ok (.goto 5, 3) := by decide +kernel
theorem dX6_rings_120 : decode cX6_rings 120 = .ok (.iload 5, 2) := by decide +kernel
theorem dX6_rings_122 : decode cX6_rings 122 = .ok (.ireturn, 1) := by decide +kernel
theorem dX6_gaps_0 : decode cX6_gaps 0 = .ok (.aload_n 0, 1) := by decide +kernel
theorem dX6_gaps_1 : decode cX6_gaps 1 = .ok (.getfield 25, 3) := by decide +kernel
theorem dX6_gaps_4 : decode cX6_gaps 4 = .ok (.iload_n 1, 1) := by decide +kernel
theorem dX6_gaps_5 : decode cX6_gaps 5 = .ok (.invokevirtual 175, 3) := by decide +kernel
theorem dX6_gaps_8 : decode cX6_gaps 8 = .ok (.ifCond .eq 18, 3) := by decide +kernel
theorem dX6_gaps_11 : decode cX6_gaps 11 = .ok (.iload_n 2, 1) := by decide +kernel
theorem dX6_gaps_12 : decode cX6_gaps 12 = .ok (.invokestatic 58, 3) := by decide +kernel
theorem dX6_gaps_15 : decode cX6_gaps 15 = .ok (.ifCond .eq 11, 3) := by decide +kernel
theorem dX6_gaps_18 : decode cX6_gaps 18 = .ok (.iload 4, 2) := by decide +kernel
theorem dX6_gaps_20 : decode cX6_gaps 20 = .ok (.invokestatic 262, 3) := by decide +kernel
theorem dX6_gaps_23 : decode cX6_gaps 23 = .ok (.ifCond .ne 6, 3) := by decide +kernel
theorem dX6_gaps_26 : decode cX6_gaps 26 = .ok (.ldc 62, 2) := by decide +kernel
theorem dX6_gaps_28 : decode cX6_gaps 28 = .ok (.ireturn, 1) := by decide +kernel
theorem dX6_gaps_29 : decode cX6_gaps 29 = .ok (.aload_n 0, 1) := by decide +kernel
theorem dX6_gaps_30 : decode cX6_gaps 30 = .ok (.getfield 11, 3) := by decide +kernel
theorem dX6_gaps_33 : decode cX6_gaps 33 = .ok (.iload_n 2, 1) := by decide +kernel
theorem dX6_gaps_34 : decode cX6_gaps 34 = .ok (.aaload, 1) := by decide +kernel
theorem dX6_gaps_35 : decode cX6_gaps 35 = .ok (.iload_n 3, 1) := by decide +kernel
theorem dX6_gaps_36 : decode cX6_gaps 36 = .ok (.iload 4, 2) := by decide +kernel
theorem dX6_gaps_38 : decode cX6_gaps 38 = .ok (.invokestatic 74, 3) := by decide +kernel
theorem dX6_gaps_41 : decode cX6_gaps 41 = .ok (.istore 5, 2) := by decide +kernel
theorem dX6_gaps_43 : decode cX6_gaps 43 = .ok (.iload 5, 2) := by decide +kernel
theorem dX6_gaps_45 : decode cX6_gaps 45 = .ok (.ifCond .eq 10, 3) := by decide +kernel
theorem dX6_gaps_48 : decode cX6_gaps 48 = .ok (.aload_n 0, 1) := by decide +kernel
theorem dX6_gaps_49 : decode cX6_gaps 49 = .ok (.iload 5, 2) := by decide +kernel
theorem dX6_gaps_51 : decode cX6_gaps 51 = .ok (.invokevirtual 63, 3) := by decide +kernel
theorem dX6_gaps_54 : decode cX6_gaps 54 = .ok (.ireturn, 1) := by decide +kernel
theorem dX6_gaps_55 : decode cX6_gaps 55 = .ok (.iconst 0, 1) := by decide +kernel
theorem dX6_gaps_56 : decode cX6_gaps 56 = .ok (.istore 6, 2) := by decide +kernel
theorem dX6_gaps_58 : decode cX6_gaps 58 = .ok (.iconst 1, 1) := by decide +kernel
theorem dX6_gaps_59 : decode cX6_gaps 59 = .ok (.istore 7, 2) := by decide +kernel
theorem dX6_gaps_61 : decode cX6_gaps 61 = .ok (.iload 7, 2) := by decide +kernel
theorem dX6_gaps_63 : decode cX6_gaps 63 = .ok (.bipush 20, 2) := by decide +kernel
theorem dX6_gaps_65 : decode cX6_gaps 65 = .ok (.if_icmp .gt 64, 3) := by decide +kernel
theorem dX6_gaps_68 : decode cX6_gaps 68 = .ok (.aload_n 0, 1) := by decide +kernel
theorem dX6_gaps_69 : decode cX6_gaps 69 = .ok (.getfield 29, 3) := by decide +kernel
theorem dX6_gaps_72 : decode cX6_gaps 72 = .ok (.aload_n 0, 1) := by decide +kernel
theorem dX6_gaps_73 : decode cX6_gaps 73 = .ok (.getfield 25, 3) := by decide +kernel
theorem dX6_gaps_76 : decode cX6_gaps 76 = .ok (.invokevirtual 127, 3) := by decide +kernel
theorem dX6_gaps_79 : decode cX6_gaps 79 = .ok (.aload_n 0, 1) := by decide +kernel
theorem dX6_gaps_80 : decode cX6_gaps 80 = .ok (.getfield 29, 3) := by decide +kernel
theorem dX6_gaps_83 : decode cX6_gaps 83 = .ok (.getfield 178, 3) := by decide +kernel
theorem dX6_gaps_86 : decode cX6_gaps 86 = .ok (.iload_n 1, 1) := by decide +kernel
theorem dX6_gaps_87 : decode cX6_gaps 87 = .ok (.iload 7, 2) := by decide +kernel
theorem dX6_gaps_89 : decode cX6_gaps 89 = .ok (.iastore, 1) := by decide +kernel
theorem dX6_gaps_90 : decode cX6_gaps 90 = .ok (.aload_n 0, 1) := by decide +kernel
theorem dX6_gaps_91 : decode cX6_gaps 91 = .ok (.aload_n 0, 1) := by decide +kernel
theorem dX6_gaps_92 : decode cX6_gaps 92 = .ok (.getfield 29, 3) := by decide +kernel
theorem dX6_gaps_95 : decode cX6_gaps 95 = .ok (.getfield 178, 3) := by decide +kernel
theorem dX6_gaps_98 : decode cX6_gaps 98 = .ok (.iload_n 1, 1) := by decide +kernel
theorem dX6_gaps_99 : decode cX6_gaps 99 = .ok (.aload_n 0, 1) := by decide +kernel
theorem dX6_gaps_100 : decode cX6_gaps 100 = .ok (.getfield 11, 3) := by decide +kernel
theorem dX6_gaps_103 : decode cX6_gaps 103 = .ok (.iload_n 2, 1) := by decide +kernel
theorem dX6_gaps_104 : decode cX6_gaps 104 = .ok (.aaload, 1) := by decide +kernel
theorem dX6_gaps_105 : decode cX6_gaps 105 = .ok (.iload_n 3, 1) := by decide +kernel
theorem dX6_gaps_106 : decode cX6_gaps 106 = .ok (.iload 4, 2) := by decide +kernel
theorem dX6_gaps_108 : decode cX6_gaps 108 = .ok (.invokevirtual 265, 3) := by decide +kernel
theorem dX6_gaps_111 : decode cX6_gaps 111 = .ok (.ifCond .eq 12, 3) := by decide +kernel
theorem dX6_gaps_114 : decode cX6_gaps 114 = .ok (.iload 6, 2) := by decide +kernel
theorem dX6_gaps_116 : decode cX6_gaps 116 = .ok (.iconst 1, 1) := by decide +kernel
theorem dX6_gaps_117 : decode cX6_gaps 117 = .ok (.iload 7, 2) := by decide +kernel
theorem dX6_gaps_119 : decode cX6_gaps 119 = .ok (.ishl, 1) := by decide +kernel
theorem dX6_gaps_120 : decode cX6_gaps 120 = .ok (.ior, 1) := by decide +kernel
theorem dX6_gaps_121 : decode cX6_gaps 121 = .ok (.istore 6, 2) := by decide +kernel
theorem dX6_gaps_123 : decode cX6_gaps 123 = .ok (.iinc 7 1, 3) := by decide +kernel
theorem dX6_gaps_126 : decode cX6_gaps 126 = .ok (.goto (-65), 3) := by decide +kernel
theorem dX6_gaps_129 : decode cX6_gaps 129 = .ok (.aload_n 0, 1) := by decide +kernel
theorem dX6_gaps_130 : decode cX6_gaps 130 = .ok (.iload 6, 2) := by decide +kernel
theorem dX6_gaps_132 : decode cX6_gaps 132 = .ok (.invokevirtual 71, 3) := by decide +kernel
theorem dX6_gaps_135 : decode cX6_gaps 135 = .ok (.ireturn, 1) := by decide +kernel
theorem dX6_which_0 : decode cX6_which 0 = .ok (.aload_n 0, 1) := by decide +kernel
theorem dX6_which_1 : decode cX6_which 1 = .ok (.getfield 25, 3) := by decide +kernel
theorem dX6_which_4 : decode cX6_which 4 = .ok (.iload_n 1, 1) := by decide +kernel
theorem dX6_which_5 : decode cX6_which 5 = .ok (.invokevirtual 159, 3) := by decide +kernel
theorem dX6_which_8 : decode cX6_which 8 = .ok (.ifCond .eq 26, 3) := by decide +kernel
theorem dX6_which_11 : decode cX6_which 11 = .ok (.iload_n 2, 1) := by decide +kernel
theorem dX6_which_12 : decode cX6_which 12 = .ok (.invokestatic 58, 3) := by decide +kernel
theorem dX6_which_15 : decode cX6_which 15 = .ok (.ifCond .eq 19, 3) := by decide +kernel
theorem dX6_which_18 : decode cX6_which 18 = .ok (.iload 4, 2) := by decide +kernel
theorem dX6_which_20 : decode cX6_which 20 = .ok (.invokestatic 262, 3) := by decide +kernel
theorem dX6_which_23 : decode cX6_which 23 = .ok (.ifCond .eq 11, 3) := by decide +kernel
theorem dX6_which_26 : decode cX6_which 26 = .ok (.iload 5, 2) := by decide +kernel
theorem dX6_which_28 : decode cX6_which 28 = .ok (.invokestatic 242, 3) := by decide +kernel
theorem dX6_which_31 : decode cX6_which 31 = .ok (.ifCond .ne 6, 3) := by decide +kernel
theorem dX6_which_34 : decode cX6_which 34 = .ok (.ldc 62, 2) := by decide +kernel
theorem dX6_which_36 : decode cX6_which 36 = .ok (.ireturn, 1) := by decide +kernel
theorem dX6_which_37 : decode cX6_which 37 = .ok (.aload_n 0, 1) := by decide +kernel
theorem dX6_which_38 : decode cX6_which 38 = .ok (.getfield 11, 3) := by decide +kernel
theorem dX6_which_41 : decode cX6_which 41 = .ok (.iload_n 2, 1) := by decide +kernel
theorem dX6_which_42 : decode cX6_which 42 = .ok (.aaload, 1) := by decide +kernel
theorem dX6_which_43 : decode cX6_which 43 = .ok (.iload_n 3, 1) := by decide +kernel
theorem dX6_which_44 : decode cX6_which 44 = .ok (.iload 4, 2) := by decide +kernel
theorem dX6_which_46 : decode cX6_which 46 = .ok (.invokestatic 74, 3) := by decide +kernel
theorem dX6_which_49 : decode cX6_which 49 = .ok (.istore 6, 2) := by decide +kernel
theorem dX6_which_51 : decode cX6_which 51 = .ok (.iload 6, 2) := by decide +kernel
theorem dX6_which_53 : decode cX6_which 53 = .ok (.ifCond .eq 10, 3) := by decide +kernel
theorem dX6_which_56 : decode cX6_which 56 = .ok (.aload_n 0, 1) := by decide +kernel
theorem dX6_which_57 : decode cX6_which 57 = .ok (.iload 6, 2) := by decide +kernel
theorem dX6_which_59 : decode cX6_which 59 = .ok (.invokevirtual 63, 3) := by decide +kernel
theorem dX6_which_62 : decode cX6_which 62 = .ok (.ireturn, 1) := by decide +kernel
theorem dX6_which_63 : decode cX6_which 63 = .ok (.aload_n 0, 1) := by decide +kernel
theorem dX6_which_64 : decode cX6_which 64 = .ok (.iload 5, 2) := by decide +kernel
theorem dX6_which_66 : decode cX6_which 66 = .ok (.ifCond .ne 20, 3) := by decide +kernel
theorem dX6_which_69 : decode cX6_which 69 = .ok (.aload_n 0, 1) := by decide +kernel
theorem dX6_which_70 : decode cX6_which 70 = .ok (.iload_n 1, 1) := by decide +kernel
theorem dX6_which_71 : decode cX6_which 71 = .ok (.aload_n 0, 1) := by decide +kernel
theorem dX6_which_72 : decode cX6_which 72 = .ok (.getfield 11, 3) := by decide +kernel
theorem dX6_which_75 : decode cX6_which 75 = .ok (.iload_n 2, 1) := by decide +kernel
theorem dX6_which_76 : decode cX6_which 76 = .ok (.aaload, 1) := by decide +kernel
theorem dX6_which_77 : decode cX6_which 77 = .ok (.iload_n 3, 1) := by decide +kernel
theorem dX6_which_78 : decode cX6_which 78 = .ok (.iload 4, 2) := by decide +kernel
theorem dX6_which_80 : decode cX6_which 80 = .ok (.invokevirtual 269, 3) := by decide +kernel
theorem dX6_which_83 : decode cX6_which 83 = .ok (.goto 17, 3) := by decide +kernel
theorem dX6_which_86 : decode cX6_which 86 = .ok (.aload_n 0, 1) := by decide +kernel
theorem dX6_which_87 : decode cX6_which 87 = .ok (.iload_n 1, 1) := by decide +kernel
theorem dX6_which_88 : decode cX6_which 88 = .ok (.aload_n 0, 1) := by decide +kernel
theorem dX6_which_89 : decode cX6_which 89 = .ok (.getfield 11, 3) := by decide +kernel
theorem dX6_which_92 : decode cX6_which 92 = .ok (.iload_n 2, 1) := by decide +kernel
theorem dX6_which_93 : decode cX6_which 93 = .ok (.aaload, 1) := by decide +kernel
theorem dX6_which_94 : decode cX6_which 94 = .ok (.iload_n 3, 1) := by decide +kernel
theorem dX6_which_95 : decode cX6_which 95 = .ok (.iload 4, 2) := by decide +kernel
theorem dX6_which_97 : decode cX6_which 97 = .ok (.invokevirtual 273, 3) := by decide +kernel
theorem dX6_which_100 : decode cX6_which 100 = .ok (.invokevirtual 71, 3) := by decide +kernel
theorem dX6_which_103 : decode cX6_which 103 = .ok (.ireturn, 1) := by decide +kernel
theorem dX6_storm_0 : decode cX6_storm 0 = .ok (.aload_n 0, 1) := by decide +kernel
theorem dX6_storm_1 : decode cX6_storm 1 = .ok (.iload_n 1, 1) := by decide +kernel
theorem dX6_storm_2 : decode cX6_storm 2 = .ok (.iload_n 2, 1) := by decide +kernel
theorem dX6_storm_3 : decode cX6_storm 3 = .ok (.invokevirtual 220, 3) := by decide +kernel
theorem dX6_storm_6 : decode cX6_storm 6 = .ok (.ifCond .eq 21, 3) := by decide +kernel
theorem dX6_storm_9 : decode cX6_storm 9 = .ok (.iload_n 3, 1) := by decide +kernel
theorem dX6_storm_10 : decode cX6_storm 10 = .ok (.ifCond .lt 17, 3) := by decide +kernel
theorem dX6_storm_13 : decode cX6_storm 13 = .ok (.iload_n 3, 1) := by decide +kernel
theorem dX6_storm_14 : decode cX6_storm 14 = .ok (.bipush 10, 2) := by decide +kernel
theorem dX6_storm_16 : decode cX6_storm 16 = .ok (.if_icmp .gt 11, 3) := by decide +kernel
theorem dX6_storm_19 : decode cX6_storm 19 = .ok (.iload 4, 2) := by decide +kernel
theorem dX6_storm_21 : decode cX6_storm 21 = .ok (.invokestatic 242, 3) := by decide +kernel
theorem dX6_storm_24 : decode cX6_storm 24 = .ok (.ifCond .ne 6, 3) := by decide +kernel
theorem dX6_storm_27 : decode cX6_storm 27 = .ok (.ldc 62, 2) := by decide +kernel
theorem dX6_storm_29 : decode cX6_storm 29 = .ok (.ireturn, 1) := by decide +kernel
theorem dX6_storm_30 : decode cX6_storm 30 = .ok (.aload_n 0, 1) := by decide +kernel
theorem dX6_storm_31 : decode cX6_storm 31 = .ok (.iload_n 1, 1) := by decide +kernel
theorem dX6_storm_32 : decode cX6_storm 32 = .ok (.iload_n 2, 1) := by decide +kernel
theorem dX6_storm_33 : decode cX6_storm 33 = .ok (.iload_n 3, 1) := by decide +kernel
theorem dX6_storm_34 : decode cX6_storm 34 = .ok (.invokevirtual 276, 3) := by decide +kernel
theorem dX6_storm_37 : decode cX6_storm 37 = .ok (.istore 5, 2) := by decide +kernel
theorem dX6_storm_39 : decode cX6_storm 39 = .ok (.bipush 10, 2) := by decide +kernel
theorem dX6_storm_41 : decode cX6_storm 41 = .ok (.aload_n 0, 1) := by decide +kernel
theorem dX6_storm_42 : decode cX6_storm 42 = .ok (.getfield 25, 3) := by decide +kernel
theorem dX6_storm_45 : decode cX6_storm 45 = .ok (.aload_n 0, 1) := by decide +kernel
theorem dX6_storm_46 : decode cX6_storm 46 = .ok (.getfield 25, 3) := by decide +kernel
theorem dX6_storm_49 : decode cX6_storm 49 = .ok (.getfield 203, 3) := by decide +kernel
theorem dX6_storm_52 : decode cX6_storm 52 = .ok (.iload_n 1, 1) := by decide +kernel
theorem dX6_storm_53 : decode cX6_storm 53 = .ok (.iaload, 1) := by decide +kernel
theorem dX6_storm_54 : decode cX6_storm 54 = .ok (.invokevirtual 197, 3) := by decide +kernel
theorem dX6_storm_57 : decode cX6_storm 57 = .ok (.invokestatic 154, 3) := by decide +kernel
theorem dX6_storm_60 : decode cX6_storm 60 = .ok (.invokestatic 280, 3) := by decide +kernel
theorem dX6_storm_63 : decode cX6_storm 63 = .ok (.istore 6, 2) := by decide +kernel
theorem dX6_storm_65 : decode cX6_storm 65 = .ok (.iload 5, 2) := by decide +kernel
theorem dX6_storm_67 : decode cX6_storm 67 = .ok (.iload 6, 2) := by decide +kernel
theorem dX6_storm_69 : decode cX6_storm 69 = .ok (.invokestatic 283, 3) := by decide +kernel
theorem dX6_storm_72 : decode cX6_storm 72 = .ok (.istore 7, 2) := by decide +kernel
theorem dX6_storm_74 : decode cX6_storm 74 = .ok (.iload 4, 2) := by decide +kernel
theorem dX6_storm_76 : decode cX6_storm 76 = .ok (.ifCond .ne 8, 3) := by decide +kernel
theorem dX6_storm_79 : decode cX6_storm 79 = .ok (.iload 5, 2) := by decide +kernel
theorem dX6_storm_81 : decode cX6_storm 81 = .ok (.goto 5, 3) := by decide +kernel
theorem dX6_storm_84 : decode cX6_storm 84 = .ok (.iload 6, 2) := by decide +kernel
theorem dX6_storm_86 : decode cX6_storm 86 = .ok (.iload 7, 2) := by decide +kernel
theorem dX6_storm_88 : decode cX6_storm 88 = .ok (.idiv, 1) := by decide +kernel
theorem dX6_storm_89 : decode cX6_storm 89 = .ok (.ireturn, 1) := by decide +kernel
theorem dX6_image_0 : decode cX6_image 0 = .ok (.iload_n 1, 1) := by decide +kernel
theorem dX6_image_1 : decode cX6_image 1 = .ok (.iconst 2, 1) := by decide +kernel
theorem dX6_image_2 : decode cX6_image 2 = .ok (.invokestatic 162, 3) := by decide +kernel
theorem dX6_image_5 : decode cX6_image 5 = .ok (.ifCond .ne 6, 3) := by decide +kernel
theorem dX6_image_8 : decode cX6_image 8 = .ok (.ldc 62, 2) := by decide +kernel
theorem dX6_image_10 : decode cX6_image 10 = .ok (.ireturn, 1) := by decide +kernel
theorem dX6_image_11 : decode cX6_image 11 = .ok (.aload_n 0, 1) := by decide +kernel
theorem dX6_image_12 : decode cX6_image 12 = .ok (.getfield 25, 3) := by decide +kernel
theorem dX6_image_15 : decode cX6_image 15 = .ok (.getfield 137, 3) := by decide +kernel
theorem dX6_image_18 : decode cX6_image 18 = .ok (.ifCond .ne 6, 3) := by decide +kernel
theorem dX6_image_21 : decode cX6_image 21 = .ok (.ldc 140, 2) := by decide +kernel
theorem dX6_image_23 : decode cX6_image 23 = .ok (.ireturn, 1) := by decide +kernel
theorem dX6_image_24 : decode cX6_image 24 = .ok (.aload_n 0, 1) := by decide +kernel
theorem dX6_image_25 : decode cX6_image 25 = .ok (.getfield 32, 3) := by decide +kernel
theorem dX6_image_28 : decode cX6_image 28 = .ok (.iload_n 1, 1) := by decide +kernel
theorem dX6_image_29 : decode cX6_image 29 = .ok (.aaload, 1) := by decide +kernel
theorem dX6_image_30 : decode cX6_image 30 = .ok (.aload_n 0, 1) := by decide +kernel
theorem dX6_image_31 : decode cX6_image 31 = .ok (.getfield 25, 3) := by decide +kernel
theorem dX6_image_34 : decode cX6_image 34 = .ok (.invokevirtual 127, 3) := by decide +kernel
theorem dX6_image_37 : decode cX6_image 37 = .ok (.iconst 1, 1) := by decide +kernel
theorem dX6_image_38 : decode cX6_image 38 = .ok (.ireturn, 1) := by decide +kernel
theorem dX6_restore_0 : decode cX6_restore 0 = .ok (.iload_n 1, 1) := by decide +kernel
theorem dX6_restore_1 : decode cX6_restore 1 = .ok (.iconst 2, 1) := by decide +kernel
theorem dX6_restore_2 : decode cX6_restore 2 = .ok (.invokestatic 162, 3) := by decide +kernel
theorem dX6_restore_5 : decode cX6_restore 5 = .ok (.ifCond .ne 6, 3) := by decide +kernel
theorem dX6_restore_8 : decode cX6_restore 8 = .ok (.ldc 62, 2) := by decide +kernel
theorem dX6_restore_10 : decode cX6_restore 10 = .ok (.ireturn, 1) := by decide +kernel
theorem dX6_restore_11 : decode cX6_restore 11 = .ok (.aload_n 0, 1) := by decide +kernel
theorem dX6_restore_12 : decode cX6_restore 12 = .ok (.getfield 32, 3) := by decide +kernel
theorem dX6_restore_15 : decode cX6_restore 15 = .ok (.iload_n 1, 1) := by decide +kernel
theorem dX6_restore_16 : decode cX6_restore 16 = .ok (.aaload, 1) := by decide +kernel
theorem dX6_restore_17 : decode cX6_restore 17 = .ok (.getfield 137, 3) := by decide +kernel
theorem dX6_restore_20 : decode cX6_restore 20 = .ok (.ifCond .ne 6, 3) := by decide +kernel
theorem dX6_restore_23 : decode cX6_restore 23 = .ok (.ldc 140, 2) := by decide +kernel
theorem dX6_restore_25 : decode cX6_restore 25 = .ok (.ireturn, 1) := by decide +kernel
theorem dX6_restore_26 : decode cX6_restore 26 = .ok (.aload_n 0, 1) := by decide +kernel
theorem dX6_restore_27 : decode cX6_restore 27 = .ok (.getfield 25, 3) := by decide +kernel
theorem dX6_restore_30 : decode cX6_restore 30 = .ok (.aload_n 0, 1) := by decide +kernel
theorem dX6_restore_31 : decode cX6_restore 31 = .ok (.getfield 32, 3) := by decide +kernel
theorem dX6_restore_34 : decode cX6_restore 34 = .ok (.iload_n 1, 1) := by decide +kernel
theorem dX6_restore_35 : decode cX6_restore 35 = .ok (.aaload, 1) := by decide +kernel
theorem dX6_restore_36 : decode cX6_restore 36 = .ok (.invokevirtual 127, 3) := by decide +kernel
theorem dX6_restore_39 : decode cX6_restore 39 = .ok (.aload_n 0, 1) := by decide +kernel
theorem dX6_restore_40 : decode cX6_restore 40 = .ok (.getfield 39, 3) := by decide +kernel
theorem dX6_restore_43 : decode cX6_restore 43 = .ok (.invokevirtual 131, 3) := by decide +kernel
theorem dX6_restore_46 : decode cX6_restore 46 = .ok (.iconst 1, 1) := by decide +kernel
theorem dX6_restore_47 : decode cX6_restore 47 = .ok (.ireturn, 1) := by decide +kernel
theorem dX6_kind_0 : decode cX6_kind 0 = .ok (.aload_n 0, 1) := by decide +kernel
theorem dX6_kind_1 : decode cX6_kind 1 = .ok (.getfield 25, 3) := by decide +kernel
theorem dX6_kind_4 : decode cX6_kind 4 = .ok (.iload_n 1, 1) := by decide +kernel
theorem dX6_kind_5 : decode cX6_kind 5 = .ok (.invokevirtual 159, 3) := by decide +kernel
theorem dX6_kind_8 : decode cX6_kind 8 = .ok (.ifCond .eq 15, 3) := by decide +kernel
theorem dX6_kind_11 : decode cX6_kind 11 = .ok (.aload_n 0, 1) := by decide +kernel
theorem dX6_kind_12 : decode cX6_kind 12 = .ok (.getfield 25, 3) := by decide +kernel
theorem dX6_kind_15 : decode cX6_kind 15 = .ok (.getfield 286, 3) := by decide +kernel
theorem dX6_kind_18 : decode cX6_kind 18 = .ok (.iload_n 1, 1) := by decide +kernel
theorem dX6_kind_19 : decode cX6_kind 19 = .ok (.iaload, 1) := by decide +kernel
theorem dX6_kind_20 : decode cX6_kind 20 = .ok (.goto 5, 3) := by decide +kernel
theorem dX6_kind_23 : decode cX6_kind 23 = .ok (.ldc 62, 2) := by decide +kernel
theorem dX6_kind_25 : decode cX6_kind 25 = .ok (.ireturn, 1) := by decide +kernel
theorem dX6_as_0 : decode cX6_as 0 = .ok (.aload_n 0, 1) := by decide +kernel
theorem dX6_as_1 : decode cX6_as 1 = .ok (.getfield 25, 3) := by decide +kernel
theorem dX6_as_4 : decode cX6_as 4 = .ok (.iload_n 1, 1) := by decide +kernel
theorem dX6_as_5 : decode cX6_as 5 = .ok (.invokevirtual 159, 3) := by decide +kernel
theorem dX6_as_8 : decode cX6_as 8 = .ok (.ifCond .eq 14, 3) := by decide +kernel
theorem dX6_as_11 : decode cX6_as 11 = .ok (.iload_n 2, 1) := by decide +kernel
theorem dX6_as_12 : decode cX6_as 12 = .ok (.getstatic 289, 3) := by decide +kernel
theorem dX6_as_15 : decode cX6_as 15 = .ok (.arraylength, 1) := by decide +kernel
theorem dX6_as_16 : decode cX6_as 16 = .ok (.invokestatic 162, 3) := by decide +kernel
theorem dX6_as_19 : decode cX6_as 19 = .ok (.ifCond .ne 6, 3) := by decide +kernel
theorem dX6_as_22 : decode cX6_as 22 = .ok (.ldc 62, 2) := by decide +kernel
theorem dX6_as_24 : decode cX6_as 24 = .ok (.ireturn, 1) := by decide +kernel
theorem dX6_as_25 : decode cX6_as 25 = .ok (.aload_n 0, 1) := by decide +kernel
theorem dX6_as_26 : decode cX6_as 26 = .ok (.getfield 25, 3) := by decide +kernel
theorem dX6_as_29 : decode cX6_as 29 = .ok (.getfield 286, 3) := by decide +kernel
theorem dX6_as_32 : decode cX6_as 32 = .ok (.iload_n 1, 1) := by decide +kernel
theorem dX6_as_33 : decode cX6_as 33 = .ok (.iaload, 1) := by decide +kernel
theorem dX6_as_34 : decode cX6_as 34 = .ok (.iload_n 2, 1) := by decide +kernel
theorem dX6_as_35 : decode cX6_as 35 = .ok (.invokestatic 292, 3) := by decide +kernel
theorem dX6_as_38 : decode cX6_as 38 = .ok (.ifCond .eq 11, 3) := by decide +kernel
theorem dX6_as_41 : decode cX6_as 41 = .ok (.aload_n 0, 1) := by decide +kernel
theorem dX6_as_42 : decode cX6_as 42 = .ok (.iload_n 1, 1) := by decide +kernel
theorem dX6_as_43 : decode cX6_as 43 = .ok (.invokevirtual 71, 3) := by decide +kernel
theorem dX6_as_46 : decode cX6_as 46 = .ok (.goto 8, 3) := by decide +kernel
theorem dX6_as_49 : decode cX6_as 49 = .ok (.aload_n 0, 1) := by decide +kernel
theorem dX6_as_50 : decode cX6_as 50 = .ok (.iconst 3, 1) := by decide +kernel
theorem dX6_as_51 : decode cX6_as 51 = .ok (.invokevirtual 63, 3) := by decide +kernel
theorem dX6_as_54 : decode cX6_as 54 = .ok (.ireturn, 1) := by decide +kernel
theorem dX6_ask_0 : decode cX6_ask 0 = .ok (.aload_n 0, 1) := by decide +kernel
theorem dX6_ask_1 : decode cX6_ask 1 = .ok (.getfield 25, 3) := by decide +kernel
theorem dX6_ask_4 : decode cX6_ask 4 = .ok (.iload_n 1, 1) := by decide +kernel
theorem dX6_ask_5 : decode cX6_ask 5 = .ok (.invokevirtual 159, 3) := by decide +kernel
theorem dX6_ask_8 : decode cX6_ask 8 = .ok (.ifCond .eq 10, 3) := by decide +kernel
theorem dX6_ask_11 : decode cX6_ask 11 = .ok (.iload_n 2, 1) := by decide +kernel
theorem dX6_ask_12 : decode cX6_ask 12 = .ok (.invokestatic 242, 3) := by decide +kernel
theorem dX6_ask_15 : decode cX6_ask 15 = .ok (.ifCond .ne 6, 3) := by decide +kernel
theorem dX6_ask_18 : decode cX6_ask 18 = .ok (.ldc 62, 2) := by decide +kernel
theorem dX6_ask_20 : decode cX6_ask 20 = .ok (.ireturn, 1) := by decide +kernel
theorem dX6_ask_21 : decode cX6_ask 21 = .ok (.aload_n 0, 1) := by decide +kernel
theorem dX6_ask_22 : decode cX6_ask 22 = .ok (.getfield 53, 3) := by decide +kernel
theorem dX6_ask_25 : decode cX6_ask 25 = .ok (.iconst 0, 1) := by decide +kernel
theorem dX6_ask_26 : decode cX6_ask 26 = .ok (.putfield 295, 3) := by decide +kernel
theorem dX6_ask_29 : decode cX6_ask 29 = .ok (.iload_n 2, 1) := by decide +kernel
theorem dX6_ask_30 : decode cX6_ask 30 = .ok (.ifCond .ne 18, 3) := by decide +kernel
theorem dX6_ask_33 : decode cX6_ask 33 = .ok (.aload_n 0, 1) := by decide +kernel
theorem dX6_ask_34 : decode cX6_ask 34 = .ok (.getfield 53, 3) := by decide +kernel
theorem dX6_ask_37 : decode cX6_ask 37 = .ok (.aload_n 0, 1) := by decide +kernel
theorem dX6_ask_38 : decode cX6_ask 38 = .ok (.getfield 25, 3) := by decide +kernel
theorem dX6_ask_41 : decode cX6_ask 41 = .ok (.iload_n 1, 1) := by decide +kernel
theorem dX6_ask_42 : decode cX6_ask 42 = .ok (.invokevirtual 298, 3) := by decide +kernel
theorem dX6_ask_45 : decode cX6_ask 45 = .ok (.goto 15, 3) := by decide +kernel
theorem dX6_ask_48 : decode cX6_ask 48 = .ok (.aload_n 0, 1) := by decide +kernel
theorem dX6_ask_49 : decode cX6_ask 49 = .ok (.getfield 53, 3) := by decide +kernel
theorem dX6_ask_52 : decode cX6_ask 52 = .ok (.aload_n 0, 1) := by decide +kernel
theorem dX6_ask_53 : decode cX6_ask 53 = .ok (.getfield 25, 3) := by decide +kernel
theorem dX6_ask_56 : decode cX6_ask 56 = .ok (.iload_n 1, 1) := by decide +kernel
theorem dX6_ask_57 : decode cX6_ask 57 = .ok (.invokevirtual 302, 3) := by decide +kernel
theorem dX6_ask_60 : decode cX6_ask 60 = .ok (.ireturn, 1) := by decide +kernel
theorem dX6_trace_0 : decode cX6_trace 0 = .ok (.iload_n 1, 1) := by decide +kernel
theorem dX6_trace_1 : decode cX6_trace 1 = .ok (.aload_n 0, 1) := by decide +kernel
theorem dX6_trace_2 : decode cX6_trace 2 = .ok (.getfield 53, 3) := by decide +kernel
theorem dX6_trace_5 : decode cX6_trace 5 = .ok (.getfield 295, 3) := by decide +kernel
theorem dX6_trace_8 : decode cX6_trace 8 = .ok (.invokestatic 162, 3) := by decide +kernel
theorem dX6_trace_11 : decode cX6_trace 11 = .ok (.ifCond .eq 15, 3) := by decide +kernel
theorem dX6_trace_14 : decode cX6_trace 14 = .ok (.aload_n 0, 1) := by decide +kernel
theorem dX6_trace_15 : decode cX6_trace 15 = .ok (.getfield 53, 3) := by decide +kernel
theorem dX6_trace_18 : decode cX6_trace 18 = .ok (.getfield 305, 3) := by decide +kernel
theorem dX6_trace_21 : decode cX6_trace 21 = .ok (.iload_n 1, 1) := by decide +kernel
theorem dX6_trace_22 : decode cX6_trace 22 = .ok (.iaload, 1) := by decide +kernel
theorem dX6_trace_23 : decode cX6_trace 23 = .ok (.goto 5, 3) := by decide +kernel
theorem dX6_trace_26 : decode cX6_trace 26 = .ok (.ldc 219, 2) := by decide +kernel
theorem dX6_trace_28 : decode cX6_trace 28 = .ok (.ireturn, 1) := by decide +kernel
theorem dX6_count_0 : decode cX6_count 0 = .ok (.iload_n 1, 1) := by decide +kernel
theorem dX6_count_1 : decode cX6_count 1 = .ok (.tableswitch 111 0 7 #[47, 52, 60, 68, 79, 87, 95, 103], 47) := by decide +kernel
theorem dX6_count_48 : decode cX6_count 48 = .ok (.aload_n 0, 1) := by decide +kernel
theorem dX6_count_49 : decode cX6_count 49 = .ok (.invokevirtual 308, 3) := by decide +kernel
theorem dX6_count_52 : decode cX6_count 52 = .ok (.ireturn, 1) := by decide +kernel
theorem dX6_count_53 : decode cX6_count 53 = .ok (.aload_n 0, 1) := by decide +kernel
theorem dX6_count_54 : decode cX6_count 54 = .ok (.getfield 25, 3) := by decide +kernel
theorem dX6_count_57 : decode cX6_count 57 = .ok (.getfield 233, 3) := by decide +kernel
theorem dX6_count_60 : decode cX6_count 60 = .ok (.ireturn, 1) := by decide +kernel
theorem dX6_count_61 : decode cX6_count 61 = .ok (.aload_n 0, 1) := by decide +kernel
theorem dX6_count_62 : decode cX6_count 62 = .ok (.getfield 25, 3) := by decide +kernel
theorem dX6_count_65 : decode cX6_count 65 = .ok (.getfield 134, 3) := by decide +kernel
theorem dX6_count_68 : decode cX6_count 68 = .ok (.ireturn, 1) := by decide +kernel
theorem dX6_count_69 : decode cX6_count 69 = .ok (.aload_n 0, 1) := by decide +kernel
theorem dX6_count_70 : decode cX6_count 70 = .ok (.getfield 25, 3) := by decide +kernel
theorem dX6_count_73 : decode cX6_count 73 = .ok (.invokevirtual 150, 3) := by decide +kernel
theorem dX6_count_76 : decode cX6_count 76 = .ok (.invokestatic 154, 3) := by decide +kernel
theorem dX6_count_79 : decode cX6_count 79 = .ok (.ireturn, 1) := by decide +kernel
theorem dX6_count_80 : decode cX6_count 80 = .ok (.aload_n 0, 1) := by decide +kernel
theorem dX6_count_81 : decode cX6_count 81 = .ok (.getfield 25, 3) := by decide +kernel
theorem dX6_count_84 : decode cX6_count 84 = .ok (.getfield 141, 3) := by decide +kernel
theorem dX6_count_87 : decode cX6_count 87 = .ok (.ireturn, 1) := by decide +kernel
theorem dX6_count_88 : decode cX6_count 88 = .ok (.aload_n 0, 1) := by decide +kernel
theorem dX6_count_89 : decode cX6_count 89 = .ok (.getfield 25, 3) := by decide +kernel
theorem dX6_count_92 : decode cX6_count 92 = .ok (.getfield 311, 3) := by decide +kernel
theorem dX6_count_95 : decode cX6_count 95 = .ok (.ireturn, 1) := by decide +kernel
theorem dX6_count_96 : decode cX6_count 96 = .ok (.aload_n 0, 1) := by decide +kernel
theorem dX6_count_97 : decode cX6_count 97 = .ok (.getfield 39, 3) := by decide +kernel
theorem dX6_count_100 : decode cX6_count 100 = .ok (.getfield 185, 3) := by decide +kernel
theorem dX6_count_103 : decode cX6_count 103 = .ok (.ireturn, 1) := by decide +kernel
theorem dX6_count_104 : decode cX6_count 104 = .ok (.aload_n 0, 1) := by decide +kernel
theorem dX6_count_105 : decode cX6_count 105 = .ok (.getfield 18, 3) := by decide +kernel
theorem dX6_count_108 : decode cX6_count 108 = .ok (.getfield 109, 3) := by decide +kernel
theorem dX6_count_111 : decode cX6_count 111 = .ok (.ireturn, 1) := by decide +kernel
theorem dX6_count_112 : decode cX6_count 112 = .ok (.ldc 62, 2) := by decide +kernel
theorem dX6_count_114 : decode cX6_count 114 = .ok (.ireturn, 1) := by decide +kernel
theorem dX6_status_0 : decode cX6_status 0 = .ok (.aload_n 0, 1) := by decide +kernel
theorem dX6_status_1 : decode cX6_status 1 = .ok (.getfield 314, 3) := by decide +kernel
theorem dX6_status_4 : decode cX6_status 4 = .ok (.ireturn, 1) := by decide +kernel
theorem dX6_isBelow_0 : decode cX6_isBelow 0 = .ok (.iload_n 0, 1) := by decide +kernel
theorem dX6_isBelow_1 : decode cX6_isBelow 1 = .ok (.ifCond .lt 12, 3) := by decide +kernel
theorem dX6_isBelow_4 : decode cX6_isBelow 4 = .ok (.iload_n 0, 1) := by decide +kernel
theorem dX6_isBelow_5 : decode cX6_isBelow 5 = .ok (.iload_n 1, 1) := by decide +kernel
theorem dX6_isBelow_6 : decode cX6_isBelow 6 = .ok (.if_icmp .ge 7, 3) := by decide +kernel
theorem dX6_isBelow_9 : decode cX6_isBelow 9 = .ok (.iconst 1, 1) := by decide +kernel
theorem dX6_isBelow_10 : decode cX6_isBelow 10 = .ok (.goto 4, 3) := by decide +kernel
theorem dX6_isBelow_13 : decode cX6_isBelow 13 = .ok (.iconst 0, 1) := by decide +kernel
theorem dX6_isBelow_14 : decode cX6_isBelow 14 = .ok (.ireturn, 1) := by decide +kernel
theorem dX6_isRow_0 : decode cX6_isRow 0 = .ok (.iload_n 0, 1) := by decide +kernel
theorem dX6_isRow_1 : decode cX6_isRow 1 = .ok (.bipush 8, 2) := by decide +kernel
theorem dX6_isRow_3 : decode cX6_isRow 3 = .ok (.invokestatic 162, 3) := by decide +kernel
theorem dX6_isRow_6 : decode cX6_isRow 6 = .ok (.ireturn, 1) := by decide +kernel
theorem dX6_isDepth_0 : decode cX6_isDepth 0 = .ok (.iload_n 0, 1) := by decide +kernel
theorem dX6_isDepth_1 : decode cX6_isDepth 1 = .ok (.iconst 1, 1) := by decide +kernel
theorem dX6_isDepth_2 : decode cX6_isDepth 2 = .ok (.if_icmp .lt 13, 3) := by decide +kernel
theorem dX6_isDepth_5 : decode cX6_isDepth 5 = .ok (.iload_n 0, 1) := by decide +kernel
theorem dX6_isDepth_6 : decode cX6_isDepth 6 = .ok (.bipush 20, 2) := by decide +kernel
theorem dX6_isDepth_8 : decode cX6_isDepth 8 = .ok (.if_icmp .gt 7, 3) := by decide +kernel
theorem dX6_isDepth_11 : decode cX6_isDepth 11 = .ok (.iconst 1, 1) := by decide +kernel
theorem dX6_isDepth_12 : decode cX6_isDepth 12 = .ok (.goto 4, 3) := by decide +kernel
theorem dX6_isDepth_15 : decode cX6_isDepth 15 = .ok (.iconst 0, 1) := by decide +kernel
theorem dX6_isDepth_16 : decode cX6_isDepth 16 = .ok (.ireturn, 1) := by decide +kernel
theorem dX6_isForetold_0 : decode cX6_isForetold 0 = .ok (.iload_n 0, 1) := by decide +kernel
theorem dX6_isForetold_1 : decode cX6_isForetold 1 = .ok (.bipush 51, 2) := by decide +kernel
theorem dX6_isForetold_3 : decode cX6_isForetold 3 = .ok (.invokestatic 162, 3) := by decide +kernel
theorem dX6_isForetold_6 : decode cX6_isForetold 6 = .ok (.ireturn, 1) := by decide +kernel
theorem dX6_isTold_0 : decode cX6_isTold 0 = .ok (.iload_n 0, 1) := by decide +kernel
theorem dX6_isTold_1 : decode cX6_isTold 1 = .ok (.iconst 1, 1) := by decide +kernel
theorem dX6_isTold_2 : decode cX6_isTold 2 = .ok (.if_icmp .lt 13, 3) := by decide +kernel
theorem dX6_isTold_5 : decode cX6_isTold 5 = .ok (.iload_n 0, 1) := by decide +kernel
theorem dX6_isTold_6 : decode cX6_isTold 6 = .ok (.bipush 16, 2) := by decide +kernel
theorem dX6_isTold_8 : decode cX6_isTold 8 = .ok (.if_icmp .gt 7, 3) := by decide +kernel
theorem dX6_isTold_11 : decode cX6_isTold 11 = .ok (.iconst 1, 1) := by decide +kernel
theorem dX6_isTold_12 : decode cX6_isTold 12 = .ok (.goto 4, 3) := by decide +kernel
theorem dX6_isTold_15 : decode cX6_isTold 15 = .ok (.iconst 0, 1) := by decide +kernel
theorem dX6_isTold_16 : decode cX6_isTold 16 = .ok (.ireturn, 1) := by decide +kernel
theorem dX6_isChoice_0 : decode cX6_isChoice 0 = .ok (.iload_n 0, 1) := by decide +kernel
theorem dX6_isChoice_1 : decode cX6_isChoice 1 = .ok (.iconst 2, 1) := by decide +kernel
theorem dX6_isChoice_2 : decode cX6_isChoice 2 = .ok (.invokestatic 162, 3) := by decide +kernel
theorem dX6_isChoice_5 : decode cX6_isChoice 5 = .ok (.ireturn, 1) := by decide +kernel
theorem dX6_isIn_0 : decode cX6_isIn 0 = .ok (.iload_n 0, 1) := by decide +kernel
theorem dX6_isIn_1 : decode cX6_isIn 1 = .ok (.iload_n 1, 1) := by decide +kernel
theorem dX6_isIn_2 : decode cX6_isIn 2 = .ok (.ishr, 1) := by decide +kernel
theorem dX6_isIn_3 : decode cX6_isIn 3 = .ok (.iconst 1, 1) := by decide +kernel
theorem dX6_isIn_4 : decode cX6_isIn 4 = .ok (.iand, 1) := by decide +kernel
theorem dX6_isIn_5 : decode cX6_isIn 5 = .ok (.ifCond .eq 7, 3) := by decide +kernel
theorem dX6_isIn_8 : decode cX6_isIn 8 = .ok (.iconst 1, 1) := by decide +kernel
theorem dX6_isIn_9 : decode cX6_isIn 9 = .ok (.goto 4, 3) := by decide +kernel
theorem dX6_isIn_12 : decode cX6_isIn 12 = .ok (.iconst 0, 1) := by decide +kernel
theorem dX6_isIn_13 : decode cX6_isIn 13 = .ok (.ireturn, 1) := by decide +kernel
theorem dX6_isPair_0 : decode cX6_isPair 0 = .ok (.aload_n 0, 1) := by decide +kernel
theorem dX6_isPair_1 : decode cX6_isPair 1 = .ok (.getfield 25, 3) := by decide +kernel
theorem dX6_isPair_4 : decode cX6_isPair 4 = .ok (.iload_n 1, 1) := by decide +kernel
theorem dX6_isPair_5 : decode cX6_isPair 5 = .ok (.invokevirtual 175, 3) := by decide +kernel
theorem dX6_isPair_8 : decode cX6_isPair 8 = .ok (.ifCond .eq 44, 3) := by decide +kernel
theorem dX6_isPair_11 : decode cX6_isPair 11 = .ok (.aload_n 0, 1) := by decide +kernel
theorem dX6_isPair_12 : decode cX6_isPair 12 = .ok (.getfield 25, 3) := by decide +kernel
theorem dX6_isPair_15 : decode cX6_isPair 15 = .ok (.iload_n 2, 1) := by decide +kernel
theorem dX6_isPair_16 : decode cX6_isPair 16 = .ok (.invokevirtual 175, 3) := by decide +kernel
theorem dX6_isPair_19 : decode cX6_isPair 19 = .ok (.ifCond .eq 33, 3) := by decide +kernel
theorem dX6_isPair_22 : decode cX6_isPair 22 = .ok (.iload_n 1, 1) := by decide +kernel
theorem dX6_isPair_23 : decode cX6_isPair 23 = .ok (.iload_n 2, 1) := by decide +kernel
theorem dX6_isPair_24 : decode cX6_isPair 24 = .ok (.if_icmp .eq 28, 3) := by decide +kernel
theorem dX6_isPair_27 : decode cX6_isPair 27 = .ok (.aload_n 0, 1) := by decide +kernel
theorem dX6_isPair_28 : decode cX6_isPair 28 = .ok (.getfield 25, 3) := by decide +kernel
theorem dX6_isPair_31 : decode cX6_isPair 31 = .ok (.getfield 203, 3) := by decide +kernel
theorem dX6_isPair_34 : decode cX6_isPair 34 = .ok (.iload_n 1, 1) := by decide +kernel
theorem dX6_isPair_35 : decode cX6_isPair 35 = .ok (.iaload, 1) := by decide +kernel
theorem dX6_isPair_36 : decode cX6_isPair 36 = .ok (.aload_n 0, 1) := by decide +kernel
theorem dX6_isPair_37 : decode cX6_isPair 37 = .ok (.getfield 25, 3) := by decide +kernel
theorem dX6_isPair_40 : decode cX6_isPair 40 = .ok (.getfield 203, 3) := by decide +kernel
theorem dX6_isPair_43 : decode cX6_isPair 43 = .ok (.iload_n 2, 1) := by decide +kernel
theorem dX6_isPair_44 : decode cX6_isPair 44 = .ok (.iaload, 1) := by decide +kernel
theorem dX6_isPair_45 : decode cX6_isPair 45 = .ok (.if_icmp .ne 7, 3) := by decide +kernel
theorem dX6_isPair_48 : decode cX6_isPair 48 = .ok (.iconst 1, 1) := by decide +kernel
theorem dX6_isPair_49 : decode cX6_isPair 49 = .ok (.goto 4, 3) := by decide +kernel
theorem dX6_isPair_52 : decode cX6_isPair 52 = .ok (.iconst 0, 1) := by decide +kernel
theorem dX6_isPair_53 : decode cX6_isPair 53 = .ok (.ireturn, 1) := by decide +kernel
theorem dX6_isOfKind_0 : decode cX6_isOfKind 0 = .ok (.iload_n 0, 1) := by decide +kernel
theorem dX6_isOfKind_1 : decode cX6_isOfKind 1 = .ok (.istore_n 2, 1) := by decide +kernel
theorem dX6_isOfKind_2 : decode cX6_isOfKind 2 = .ok (.iconst 0, 1) := by decide +kernel
theorem dX6_isOfKind_3 : decode cX6_isOfKind 3 = .ok (.istore_n 3, 1) := by decide +kernel
theorem dX6_isOfKind_4 : decode cX6_isOfKind 4 = .ok (.iload_n 3, 1) := by decide +kernel
theorem dX6_isOfKind_5 : decode cX6_isOfKind 5 = .ok (.getstatic 289, 3) := by decide +kernel
theorem dX6_isOfKind_8 : decode cX6_isOfKind 8 = .ok (.arraylength, 1) := by decide +kernel
theorem dX6_isOfKind_9 : decode cX6_isOfKind 9 = .ok (.if_icmp .ge 26, 3) := by decide +kernel
theorem dX6_isOfKind_12 : decode cX6_isOfKind 12 = .ok (.iload_n 2, 1) := by decide +kernel
theorem dX6_isOfKind_13 : decode cX6_isOfKind 13 = .ok (.ifCond .lt 22, 3) := by decide +kernel
theorem dX6_isOfKind_16 : decode cX6_isOfKind 16 = .ok (.iload_n 2, 1) := by decide +kernel
theorem dX6_isOfKind_17 : decode cX6_isOfKind 17 = .ok (.iload_n 1, 1) := by decide +kernel
theorem dX6_isOfKind_18 : decode cX6_isOfKind 18 = .ok (.if_icmp .ne 5, 3) := by decide +kernel
theorem dX6_isOfKind_21 : decode cX6_isOfKind 21 = .ok (.iconst 1, 1) := by decide +kernel
theorem dX6_isOfKind_22 : decode cX6_isOfKind 22 = .ok (.ireturn, 1) := by decide +kernel
theorem dX6_isOfKind_23 : decode cX6_isOfKind 23 = .ok (.getstatic 289, 3) := by decide +kernel
theorem dX6_isOfKind_26 : decode cX6_isOfKind 26 = .ok (.iload_n 2, 1) := by decide +kernel
theorem dX6_isOfKind_27 : decode cX6_isOfKind 27 = .ok (.iaload, 1) := by decide +kernel
theorem dX6_isOfKind_28 : decode cX6_isOfKind 28 = .ok (.istore_n 2, 1) := by decide +kernel
theorem dX6_isOfKind_29 : decode cX6_isOfKind 29 = .ok (.iinc 3 1, 3) := by decide +kernel
theorem dX6_isOfKind_32 : decode cX6_isOfKind 32 = .ok (.goto (-28), 3) := by decide +kernel
theorem dX6_isOfKind_35 : decode cX6_isOfKind 35 = .ok (.iconst 0, 1) := by decide +kernel
theorem dX6_isOfKind_36 : decode cX6_isOfKind 36 = .ok (.ireturn, 1) := by decide +kernel
theorem dX6_found_0 : decode cX6_found 0 = .ok (.aload_n 0, 1) := by decide +kernel
theorem dX6_found_1 : decode cX6_found 1 = .ok (.iload_n 1, 1) := by decide +kernel
theorem dX6_found_2 : decode cX6_found 2 = .ok (.putfield 314, 3) := by decide +kernel
theorem dX6_found_5 : decode cX6_found 5 = .ok (.ldc_w 317, 3) := by decide +kernel
theorem dX6_found_8 : decode cX6_found 8 = .ok (.iload_n 1, 1) := by decide +kernel
theorem dX6_found_9 : decode cX6_found 9 = .ok (.isub, 1) := by decide +kernel
theorem dX6_found_10 : decode cX6_found 10 = .ok (.ireturn, 1) := by decide +kernel
theorem dX6_foundNothing_0 : decode cX6_foundNothing 0 = .ok (.aload_n 0, 1) := by decide +kernel
theorem dX6_foundNothing_1 : decode cX6_foundNothing 1 = .ok (.iconst 0, 1) := by decide +kernel
theorem dX6_foundNothing_2 : decode cX6_foundNothing 2 = .ok (.putfield 314, 3) := by decide +kernel
theorem dX6_foundNothing_5 : decode cX6_foundNothing 5 = .ok (.iload_n 1, 1) := by decide +kernel
theorem dX6_foundNothing_6 : decode cX6_foundNothing 6 = .ok (.ireturn, 1) := by decide +kernel
theorem dX6_findingIn_0 : decode cX6_findingIn 0 = .ok (.aload_n 0, 1) := by decide +kernel
theorem dX6_findingIn_1 : decode cX6_findingIn 1 = .ok (.getfield 85, 3) := by decide +kernel
theorem dX6_findingIn_4 : decode cX6_findingIn 4 = .ok (.ifCond .ne 5, 3) := by decide +kernel
theorem dX6_findingIn_7 : decode cX6_findingIn 7 = .ok (.iconst 1, 1) := by decide +kernel
theorem dX6_findingIn_8 : decode cX6_findingIn 8 = .ok (.ireturn, 1) := by decide +kernel
theorem dX6_findingIn_9 : decode cX6_findingIn 9 = .ok (.aload_n 0, 1) := by decide +kernel
theorem dX6_findingIn_10 : decode cX6_findingIn 10 = .ok (.iload_n 1, 1) := by decide +kernel
theorem dX6_findingIn_11 : decode cX6_findingIn 11 = .ok (.iload_n 2, 1) := by decide +kernel
theorem dX6_findingIn_12 : decode cX6_findingIn 12 = .ok (.invokevirtual 93, 3) := by decide +kernel
theorem dX6_findingIn_15 : decode cX6_findingIn 15 = .ok (.ifCond .eq 7, 3) := by decide +kernel
theorem dX6_findingIn_18 : decode cX6_findingIn 18 = .ok (.iconst 0, 1) := by decide +kernel
theorem dX6_findingIn_19 : decode cX6_findingIn 19 = .ok (.goto 4, 3) := by decide +kernel
theorem dX6_findingIn_22 : decode cX6_findingIn 22 = .ok (.iconst 2, 1) := by decide +kernel
theorem dX6_findingIn_23 : decode cX6_findingIn 23 = .ok (.ireturn, 1) := by decide +kernel
theorem dX6_rowsThere_0 : decode cX6_rowsThere 0 = .ok (.iconst 0, 1) := by decide +kernel
theorem dX6_rowsThere_1 : decode cX6_rowsThere 1 = .ok (.istore_n 1, 1) := by decide +kernel
theorem dX6_rowsThere_2 : decode cX6_rowsThere 2 = .ok (.iconst 0, 1) := by decide +kernel
theorem dX6_rowsThere_3 : decode cX6_rowsThere 3 = .ok (.istore_n 2, 1) := by decide +kernel
theorem dX6_rowsThere_4 : decode cX6_rowsThere 4 = .ok (.iload_n 2, 1) := by decide +kernel
theorem dX6_rowsThere_5 : decode cX6_rowsThere 5 = .ok (.aload_n 0, 1) := by decide +kernel
theorem dX6_rowsThere_6 : decode cX6_rowsThere 6 = .ok (.getfield 11, 3) := by decide +kernel
theorem dX6_rowsThere_9 : decode cX6_rowsThere 9 = .ok (.arraylength, 1) := by decide +kernel
theorem dX6_rowsThere_10 : decode cX6_rowsThere 10 = .ok (.if_icmp .ge 29, 3) := by decide +kernel
theorem dX6_rowsThere_13 : decode cX6_rowsThere 13 = .ok (.iload_n 1, 1) := by decide +kernel
theorem dX6_rowsThere_14 : decode cX6_rowsThere 14 = .ok (.aload_n 0, 1) := by decide +kernel
theorem dX6_rowsThere_15 : decode cX6_rowsThere 15 = .ok (.getfield 11, 3) := by decide +kernel
theorem dX6_rowsThere_18 : decode cX6_rowsThere 18 = .ok (.iload_n 2, 1) := by decide +kernel
theorem dX6_rowsThere_19 : decode cX6_rowsThere 19 = .ok (.aaload, 1) := by decide +kernel
theorem dX6_rowsThere_20 : decode cX6_rowsThere 20 = .ok (.getfield 85, 3) := by decide +kernel
theorem dX6_rowsThere_23 : decode cX6_rowsThere 23 = .ok (.ifCond .eq 7, 3) := by decide +kernel
theorem dX6_rowsThere_26 : decode cX6_rowsThere 26 = .ok (.iconst 1, 1) := by decide +kernel
theorem dX6_rowsThere_27 : decode cX6_rowsThere 27 = .ok (.goto 4, 3) := by decide +kernel
theorem dX6_rowsThere_30 : decode cX6_rowsThere 30 = .ok (.iconst 0, 1) := by decide +kernel
theorem dX6_rowsThere_31 : decode cX6_rowsThere 31 = .ok (.iadd, 1) := by decide +kernel
theorem dX6_rowsThere_32 : decode cX6_rowsThere 32 = .ok (.istore_n 1, 1) := by decide +kernel
theorem dX6_rowsThere_33 : decode cX6_rowsThere 33 = .ok (.iinc 2 1, 3) := by decide +kernel
theorem dX6_rowsThere_36 : decode cX6_rowsThere 36 = .ok (.goto (-32), 3) := by decide +kernel
theorem dX6_rowsThere_39 : decode cX6_rowsThere 39 = .ok (.iload_n 1, 1) := by decide +kernel
theorem dX6_rowsThere_40 : decode cX6_rowsThere 40 = .ok (.ireturn, 1) := by decide +kernel
theorem dX6_foretell_0 : decode cX6_foretell 0 = .ok (.aload_n 0, 1) := by decide +kernel
theorem dX6_foretell_1 : decode cX6_foretell 1 = .ok (.getfield 29, 3) := by decide +kernel
theorem dX6_foretell_4 : decode cX6_foretell 4 = .ok (.aload_n 0, 1) := by decide +kernel
theorem dX6_foretell_5 : decode cX6_foretell 5 = .ok (.getfield 25, 3) := by decide +kernel
theorem dX6_foretell_8 : decode cX6_foretell 8 = .ok (.invokevirtual 127, 3) := by decide +kernel
theorem dX6_foretell_11 : decode cX6_foretell 11 = .ok (.aload_n 0, 1) := by decide +kernel
theorem dX6_foretell_12 : decode cX6_foretell 12 = .ok (.getfield 29, 3) := by decide +kernel
theorem dX6_foretell_15 : decode cX6_foretell 15 = .ok (.iload_n 1, 1) := by decide +kernel
theorem dX6_foretell_16 : decode cX6_foretell 16 = .ok (.invokevirtual 239, 3) := by decide +kernel
theorem dX6_foretell_19 : decode cX6_foretell 19 = .ok (.return_, 1) := by decide +kernel
theorem dX6_areTogether_0 : decode cX6_areTogether 0 = .ok (.aload_n 0, 1) := by decide +kernel
theorem dX6_areTogether_1 : decode cX6_areTogether 1 = .ok (.getfield 46, 3) := by decide +kernel
theorem dX6_areTogether_4 : decode cX6_areTogether 4 = .ok (.aload_n 1, 1) := by decide +kernel
theorem dX6_areTogether_5 : decode cX6_areTogether 5 = .ok (.invokevirtual 248, 3) := by decide +kernel
theorem dX6_areTogether_8 : decode cX6_areTogether 8 = .ok (.aload_n 0, 1) := by decide +kernel
theorem dX6_areTogether_9 : decode cX6_areTogether 9 = .ok (.getfield 46, 3) := by decide +kernel
theorem dX6_areTogether_12 : decode cX6_areTogether 12 = .ok (.iload_n 2, 1) := by decide +kernel
theorem dX6_areTogether_13 : decode cX6_areTogether 13 = .ok (.sipush 255, 3) := by decide +kernel
theorem dX6_areTogether_16 : decode cX6_areTogether 16 = .ok (.invokevirtual 254, 3) := by decide +kernel
theorem dX6_areTogether_19 : decode cX6_areTogether 19 = .ok (.iload_n 3, 1) := by decide +kernel
theorem dX6_areTogether_20 : decode cX6_areTogether 20 = .ok (.invokestatic 251, 3) := by decide +kernel
theorem dX6_areTogether_23 : decode cX6_areTogether 23 = .ok (.ireturn, 1) := by decide +kernel
theorem dX6_treesOfPairsReadAsOne_0 : decode cX6_treesOfPairsReadAsOne 0 = .ok (.iconst 0, 1) := by decide +kernel
theorem dX6_treesOfPairsReadAsOne_1 : decode cX6_treesOfPairsReadAsOne 1 = .ok (.istore_n 1, 1) := by decide +kernel
theorem dX6_treesOfPairsReadAsOne_2 : decode cX6_treesOfPairsReadAsOne 2 = .ok (.iconst 0, 1) := by decide +kernel
theorem dX6_treesOfPairsReadAsOne_3 : decode cX6_treesOfPairsReadAsOne 3 = .ok (.istore_n 2, 1) := by decide +kernel
theorem dX6_treesOfPairsReadAsOne_4 : decode cX6_treesOfPairsReadAsOne 4 = .ok (.iload_n 2, 1) := by decide +kernel
theorem dX6_treesOfPairsReadAsOne_5 : decode cX6_treesOfPairsReadAsOne 5 = .ok (.aload_n 0, 1) := by decide +kernel
theorem dX6_treesOfPairsReadAsOne_6 : decode cX6_treesOfPairsReadAsOne 6 = .ok (.getfield 29, 3) := by decide +kernel
theorem dX6_treesOfPairsReadAsOne_9 : decode cX6_treesOfPairsReadAsOne 9 = .ok (.getfield 233, 3) := by decide +kernel
theorem dX6_treesOfPairsReadAsOne_12 : decode cX6_treesOfPairsReadAsOne 12 = .ok (.if_icmp .ge 33, 3) := by decide +kernel
theorem dX6_treesOfPairsReadAsOne_15 : decode cX6_treesOfPairsReadAsOne 15 = .ok (.aload_n 0, 1) := by decide +kernel
theorem dX6_treesOfPairsReadAsOne_16 : decode cX6_treesOfPairsReadAsOne 16 = .ok (.getfield 29, 3) := by decide +kernel
theorem dX6_treesOfPairsReadAsOne_19 : decode cX6_treesOfPairsReadAsOne 19 = .ok (.iconst 2, 1) := by decide +kernel
theorem dX6_treesOfPairsReadAsOne_20 : decode cX6_treesOfPairsReadAsOne 20 = .ok (.iload_n 2, 1) := by decide +kernel
theorem dX6_treesOfPairsReadAsOne_21 : decode cX6_treesOfPairsReadAsOne 21 = .ok (.imul, 1) := by decide +kernel
theorem dX6_treesOfPairsReadAsOne_22 : decode cX6_treesOfPairsReadAsOne 22 = .ok (.iconst 2, 1) := by decide +kernel
theorem dX6_treesOfPairsReadAsOne_23 : decode cX6_treesOfPairsReadAsOne 23 = .ok (.iload_n 2, 1) := by decide +kernel
theorem dX6_treesOfPairsReadAsOne_24 : decode cX6_treesOfPairsReadAsOne 24 = .ok (.imul, 1) := by decide +kernel
theorem dX6_treesOfPairsReadAsOne_25 : decode cX6_treesOfPairsReadAsOne 25 = .ok (.iconst 1, 1) := by decide +kernel
theorem dX6_treesOfPairsReadAsOne_26 : decode cX6_treesOfPairsReadAsOne 26 = .ok (.iadd, 1) := by decide +kernel
theorem dX6_treesOfPairsReadAsOne_27 : decode cX6_treesOfPairsReadAsOne 27 = .ok (.invokevirtual 318, 3) := by decide +kernel
theorem dX6_treesOfPairsReadAsOne_30 : decode cX6_treesOfPairsReadAsOne 30 = .ok (.ifCond .eq 9, 3) := by decide +kernel
theorem dX6_treesOfPairsReadAsOne_33 : decode cX6_treesOfPairsReadAsOne 33 = .ok (.iload_n 1, 1) := by decide +kernel
theorem dX6_treesOfPairsReadAsOne_34 : decode cX6_treesOfPairsReadAsOne 34 = .ok (.iconst 1, 1) := by decide +kernel
theorem dX6_treesOfPairsReadAsOne_35 : decode cX6_treesOfPairsReadAsOne 35 = .ok (.iload_n 2, 1) := by decide +kernel
theorem dX6_treesOfPairsReadAsOne_36 : decode cX6_treesOfPairsReadAsOne 36 = .ok (.ishl, 1) := by decide +kernel
theorem dX6_treesOfPairsReadAsOne_37 : decode cX6_treesOfPairsReadAsOne 37 = .ok (.ior, 1) := by decide +kernel
theorem dX6_treesOfPairsReadAsOne_38 : decode cX6_treesOfPairsReadAsOne 38 = .ok (.istore_n 1, 1) := by decide +kernel
theorem dX6_treesOfPairsReadAsOne_39 : decode cX6_treesOfPairsReadAsOne 39 = .ok (.iinc 2 1, 3) := by decide +kernel
theorem dX6_treesOfPairsReadAsOne_42 : decode cX6_treesOfPairsReadAsOne 42 = .ok (.goto (-38), 3) := by decide +kernel
theorem dX6_treesOfPairsReadAsOne_45 : decode cX6_treesOfPairsReadAsOne 45 = .ok (.iload_n 1, 1) := by decide +kernel
theorem dX6_treesOfPairsReadAsOne_46 : decode cX6_treesOfPairsReadAsOne 46 = .ok (.ireturn, 1) := by decide +kernel
theorem dX6_goesSo_0 : decode cX6_goesSo 0 = .ok (.iconst 0, 1) := by decide +kernel
theorem dX6_goesSo_1 : decode cX6_goesSo 1 = .ok (.istore 6, 2) := by decide +kernel
theorem dX6_goesSo_3 : decode cX6_goesSo 3 = .ok (.iload 6, 2) := by decide +kernel
theorem dX6_goesSo_5 : decode cX6_goesSo 5 = .ok (.iload 5, 2) := by decide +kernel
theorem dX6_goesSo_7 : decode cX6_goesSo 7 = .ok (.if_icmp .ge 34, 3) := by decide +kernel
theorem dX6_goesSo_10 : decode cX6_goesSo 10 = .ok (.aload_n 0, 1) := by decide +kernel
theorem dX6_goesSo_11 : decode cX6_goesSo 11 = .ok (.getfield 29, 3) := by decide +kernel
theorem dX6_goesSo_14 : decode cX6_goesSo 14 = .ok (.invokevirtual 147, 3) := by decide +kernel
theorem dX6_goesSo_17 : decode cX6_goesSo 17 = .ok (.aload_n 1, 1) := by decide +kernel
theorem dX6_goesSo_18 : decode cX6_goesSo 18 = .ok (.iload_n 2, 1) := by decide +kernel
theorem dX6_goesSo_19 : decode cX6_goesSo 19 = .ok (.iaload, 1) := by decide +kernel
theorem dX6_goesSo_20 : decode cX6_goesSo 20 = .ok (.aload_n 3, 1) := by decide +kernel
theorem dX6_goesSo_21 : decode cX6_goesSo 21 = .ok (.getfield 78, 3) := by decide +kernel
theorem dX6_goesSo_24 : decode cX6_goesSo 24 = .ok (.iload 4, 2) := by decide +kernel
theorem dX6_goesSo_26 : decode cX6_goesSo 26 = .ok (.iload 6, 2) := by decide +kernel
theorem dX6_goesSo_28 : decode cX6_goesSo 28 = .ok (.iadd, 1) := by decide +kernel
theorem dX6_goesSo_29 : decode cX6_goesSo 29 = .ok (.iaload, 1) := by decide +kernel
theorem dX6_goesSo_30 : decode cX6_goesSo 30 = .ok (.if_icmp .eq 5, 3) := by decide +kernel
theorem dX6_goesSo_33 : decode cX6_goesSo 33 = .ok (.iconst 0, 1) := by decide +kernel
theorem dX6_goesSo_34 : decode cX6_goesSo 34 = .ok (.ireturn, 1) := by decide +kernel
theorem dX6_goesSo_35 : decode cX6_goesSo 35 = .ok (.iinc 6 1, 3) := by decide +kernel
theorem dX6_goesSo_38 : decode cX6_goesSo 38 = .ok (.goto (-35), 3) := by decide +kernel
theorem dX6_goesSo_41 : decode cX6_goesSo 41 = .ok (.iconst 1, 1) := by decide +kernel
theorem dX6_goesSo_42 : decode cX6_goesSo 42 = .ok (.ireturn, 1) := by decide +kernel
theorem dX6_kindsThatGoSo_0 : decode cX6_kindsThatGoSo 0 = .ok (.iconst 0, 1) := by decide +kernel
theorem dX6_kindsThatGoSo_1 : decode cX6_kindsThatGoSo 1 = .ok (.istore 5, 2) := by decide +kernel
theorem dX6_kindsThatGoSo_3 : decode cX6_kindsThatGoSo 3 = .ok (.iconst 1, 1) := by decide +kernel
theorem dX6_kindsThatGoSo_4 : decode cX6_kindsThatGoSo 4 = .ok (.istore 6, 2) := by decide +kernel
theorem dX6_kindsThatGoSo_6 : decode cX6_kindsThatGoSo 6 = .ok (.iload 6, 2) := by decide +kernel
theorem dX6_kindsThatGoSo_8 : decode cX6_kindsThatGoSo 8 = .ok (.iconst 5, 1) := by decide +kernel
theorem dX6_kindsThatGoSo_9 : decode cX6_kindsThatGoSo 9 = .ok (.if_icmp .gt 59, 3) := by decide +kernel
theorem dX6_kindsThatGoSo_12 : decode cX6_kindsThatGoSo 12 = .ok (.aload_n 0, 1) := by decide +kernel
theorem dX6_kindsThatGoSo_13 : decode cX6_kindsThatGoSo 13 = .ok (.getfield 29, 3) := by decide +kernel
theorem dX6_kindsThatGoSo_16 : decode cX6_kindsThatGoSo 16 = .ok (.aload_n 0, 1) := by decide +kernel
theorem dX6_kindsThatGoSo_17 : decode cX6_kindsThatGoSo 17 = .ok (.getfield 25, 3) := by decide +kernel
theorem dX6_kindsThatGoSo_20 : decode cX6_kindsThatGoSo 20 = .ok (.invokevirtual 127, 3) := by decide +kernel
theorem dX6_kindsThatGoSo_23 : decode cX6_kindsThatGoSo 23 = .ok (.aload_n 0, 1) := by decide +kernel
theorem dX6_kindsThatGoSo_24 : decode cX6_kindsThatGoSo 24 = .ok (.getfield 29, 3) := by decide +kernel
theorem dX6_kindsThatGoSo_27 : decode cX6_kindsThatGoSo 27 = .ok (.getfield 286, 3) := by decide +kernel
theorem dX6_kindsThatGoSo_30 : decode cX6_kindsThatGoSo 30 = .ok (.iload_n 1, 1) := by decide +kernel
theorem dX6_kindsThatGoSo_31 : decode cX6_kindsThatGoSo 31 = .ok (.iload 6, 2) := by decide +kernel
theorem dX6_kindsThatGoSo_33 : decode cX6_kindsThatGoSo 33 = .ok (.iastore, 1) := by decide +kernel
theorem dX6_kindsThatGoSo_34 : decode cX6_kindsThatGoSo 34 = .ok (.aload_n 0, 1) := by decide +kernel
theorem dX6_kindsThatGoSo_35 : decode cX6_kindsThatGoSo 35 = .ok (.aload_n 0, 1) := by decide +kernel
theorem dX6_kindsThatGoSo_36 : decode cX6_kindsThatGoSo 36 = .ok (.getfield 29, 3) := by decide +kernel
theorem dX6_kindsThatGoSo_39 : decode cX6_kindsThatGoSo 39 = .ok (.getfield 191, 3) := by decide +kernel
theorem dX6_kindsThatGoSo_42 : decode cX6_kindsThatGoSo 42 = .ok (.iload_n 1, 1) := by decide +kernel
theorem dX6_kindsThatGoSo_43 : decode cX6_kindsThatGoSo 43 = .ok (.aload_n 2, 1) := by decide +kernel
theorem dX6_kindsThatGoSo_44 : decode cX6_kindsThatGoSo 44 = .ok (.iload_n 3, 1) := by decide +kernel
theorem dX6_kindsThatGoSo_45 : decode cX6_kindsThatGoSo 45 = .ok (.iload 4, 2) := by decide +kernel
theorem dX6_kindsThatGoSo_47 : decode cX6_kindsThatGoSo 47 = .ok (.invokevirtual 265, 3) := by decide +kernel
theorem dX6_kindsThatGoSo_50 : decode cX6_kindsThatGoSo 50 = .ok (.ifCond .eq 12, 3) := by decide +kernel
theorem dX6_kindsThatGoSo_53 : decode cX6_kindsThatGoSo 53 = .ok (.iload 5, 2) := by decide +kernel
theorem dX6_kindsThatGoSo_55 : decode cX6_kindsThatGoSo 55 = .ok (.iconst 1, 1) := by decide +kernel
theorem dX6_kindsThatGoSo_56 : decode cX6_kindsThatGoSo 56 = .ok (.iload 6, 2) := by decide +kernel
theorem dX6_kindsThatGoSo_58 : decode cX6_kindsThatGoSo 58 = .ok (.ishl, 1) := by decide +kernel
theorem dX6_kindsThatGoSo_59 : decode cX6_kindsThatGoSo 59 = .ok (.ior, 1) := by decide +kernel
theorem dX6_kindsThatGoSo_60 : decode cX6_kindsThatGoSo 60 = .ok (.istore 5, 2) := by decide +kernel
theorem dX6_kindsThatGoSo_62 : decode cX6_kindsThatGoSo 62 = .ok (.iinc 6 1, 3) := by decide +kernel
theorem dX6_kindsThatGoSo_65 : decode cX6_kindsThatGoSo 65 = .ok (.goto (-59), 3) := by decide +kernel
theorem dX6_kindsThatGoSo_68 : decode cX6_kindsThatGoSo 68 = .ok (.iload 5, 2) := by decide +kernel
theorem dX6_kindsThatGoSo_70 : decode cX6_kindsThatGoSo 70 = .ok (.ireturn, 1) := by decide +kernel
theorem dX6_sunsThatGoSo_0 : decode cX6_sunsThatGoSo 0 = .ok (.iconst 0, 1) := by decide +kernel
theorem dX6_sunsThatGoSo_1 : decode cX6_sunsThatGoSo 1 = .ok (.istore 5, 2) := by decide +kernel
theorem dX6_sunsThatGoSo_3 : decode cX6_sunsThatGoSo 3 = .ok (.iconst 0, 1) := by decide +kernel
theorem dX6_sunsThatGoSo_4 : decode cX6_sunsThatGoSo 4 = .ok (.istore 6, 2) := by decide +kernel
theorem dX6_sunsThatGoSo_6 : decode cX6_sunsThatGoSo 6 = .ok (.iload 6, 2) := by decide +kernel
theorem dX6_sunsThatGoSo_8 : decode cX6_sunsThatGoSo 8 = .ok (.bipush 9, 2) := by decide +kernel
theorem dX6_sunsThatGoSo_10 : decode cX6_sunsThatGoSo 10 = .ok (.if_icmp .gt 59, 3) := by decide +kernel
theorem dX6_sunsThatGoSo_13 : decode cX6_sunsThatGoSo 13 = .ok (.aload_n 0, 1) := by decide +kernel
theorem dX6_sunsThatGoSo_14 : decode cX6_sunsThatGoSo 14 = .ok (.getfield 29, 3) := by decide +kernel
theorem dX6_sunsThatGoSo_17 : decode cX6_sunsThatGoSo 17 = .ok (.aload_n 0, 1) := by decide +kernel
theorem dX6_sunsThatGoSo_18 : decode cX6_sunsThatGoSo 18 = .ok (.getfield 25, 3) := by decide +kernel
theorem dX6_sunsThatGoSo_21 : decode cX6_sunsThatGoSo 21 = .ok (.invokevirtual 127, 3) := by decide +kernel
theorem dX6_sunsThatGoSo_24 : decode cX6_sunsThatGoSo 24 = .ok (.aload_n 0, 1) := by decide +kernel
theorem dX6_sunsThatGoSo_25 : decode cX6_sunsThatGoSo 25 = .ok (.getfield 29, 3) := by decide +kernel
theorem dX6_sunsThatGoSo_28 : decode cX6_sunsThatGoSo 28 = .ok (.getfield 194, 3) := by decide +kernel
theorem dX6_sunsThatGoSo_31 : decode cX6_sunsThatGoSo 31 = .ok (.iload_n 1, 1) := by decide +kernel
theorem dX6_sunsThatGoSo_32 : decode cX6_sunsThatGoSo 32 = .ok (.iload 6, 2) := by decide +kernel
theorem dX6_sunsThatGoSo_34 : decode cX6_sunsThatGoSo 34 = .ok (.iastore, 1) := by decide +kernel
theorem dX6_sunsThatGoSo_35 : decode cX6_sunsThatGoSo 35 = .ok (.aload_n 0, 1) := by decide +kernel
theorem dX6_sunsThatGoSo_36 : decode cX6_sunsThatGoSo 36 = .ok (.aload_n 0, 1) := by decide +kernel
theorem dX6_sunsThatGoSo_37 : decode cX6_sunsThatGoSo 37 = .ok (.getfield 29, 3) := by decide +kernel
theorem dX6_sunsThatGoSo_40 : decode cX6_sunsThatGoSo 40 = .ok (.getfield 191, 3) := by decide +kernel
theorem dX6_sunsThatGoSo_43 : decode cX6_sunsThatGoSo 43 = .ok (.iload_n 1, 1) := by decide +kernel
theorem dX6_sunsThatGoSo_44 : decode cX6_sunsThatGoSo 44 = .ok (.aload_n 2, 1) := by decide +kernel
theorem dX6_sunsThatGoSo_45 : decode cX6_sunsThatGoSo 45 = .ok (.iload_n 3, 1) := by decide +kernel
theorem dX6_sunsThatGoSo_46 : decode cX6_sunsThatGoSo 46 = .ok (.iload 4, 2) := by decide +kernel
theorem dX6_sunsThatGoSo_48 : decode cX6_sunsThatGoSo 48 = .ok (.invokevirtual 265, 3) := by decide +kernel
theorem dX6_sunsThatGoSo_51 : decode cX6_sunsThatGoSo 51 = .ok (.ifCond .eq 12, 3) := by decide +kernel
theorem dX6_sunsThatGoSo_54 : decode cX6_sunsThatGoSo 54 = .ok (.iload 5, 2) := by decide +kernel
theorem dX6_sunsThatGoSo_56 : decode cX6_sunsThatGoSo 56 = .ok (.iconst 1, 1) := by decide +kernel
theorem dX6_sunsThatGoSo_57 : decode cX6_sunsThatGoSo 57 = .ok (.iload 6, 2) := by decide +kernel
theorem dX6_sunsThatGoSo_59 : decode cX6_sunsThatGoSo 59 = .ok (.ishl, 1) := by decide +kernel
theorem dX6_sunsThatGoSo_60 : decode cX6_sunsThatGoSo 60 = .ok (.ior, 1) := by decide +kernel
theorem dX6_sunsThatGoSo_61 : decode cX6_sunsThatGoSo 61 = .ok (.istore 5, 2) := by decide +kernel
theorem dX6_sunsThatGoSo_63 : decode cX6_sunsThatGoSo 63 = .ok (.iinc 6 1, 3) := by decide +kernel
theorem dX6_sunsThatGoSo_66 : decode cX6_sunsThatGoSo 66 = .ok (.goto (-60), 3) := by decide +kernel
theorem dX6_sunsThatGoSo_69 : decode cX6_sunsThatGoSo 69 = .ok (.iload 5, 2) := by decide +kernel
theorem dX6_sunsThatGoSo_71 : decode cX6_sunsThatGoSo 71 = .ok (.ireturn, 1) := by decide +kernel
theorem dX6_stormWays_0 : decode cX6_stormWays 0 = .ok (.aload_n 0, 1) := by decide +kernel
theorem dX6_stormWays_1 : decode cX6_stormWays 1 = .ok (.getfield 46, 3) := by decide +kernel
theorem dX6_stormWays_4 : decode cX6_stormWays 4 = .ok (.aload_n 0, 1) := by decide +kernel
theorem dX6_stormWays_5 : decode cX6_stormWays 5 = .ok (.getfield 25, 3) := by decide +kernel
theorem dX6_stormWays_8 : decode cX6_stormWays 8 = .ok (.invokevirtual 248, 3) := by decide +kernel
theorem dX6_stormWays_11 : decode cX6_stormWays 11 = .ok (.aload_n 0, 1) := by decide +kernel
theorem dX6_stormWays_12 : decode cX6_stormWays 12 = .ok (.getfield 25, 3) := by decide +kernel
theorem dX6_stormWays_15 : decode cX6_stormWays 15 = .ok (.aload_n 0, 1) := by decide +kernel
theorem dX6_stormWays_16 : decode cX6_stormWays 16 = .ok (.getfield 25, 3) := by decide +kernel
theorem dX6_stormWays_19 : decode cX6_stormWays 19 = .ok (.getfield 203, 3) := by decide +kernel
theorem dX6_stormWays_22 : decode cX6_stormWays 22 = .ok (.iload_n 1, 1) := by decide +kernel
theorem dX6_stormWays_23 : decode cX6_stormWays 23 = .ok (.iaload, 1) := by decide +kernel
theorem dX6_stormWays_24 : decode cX6_stormWays 24 = .ok (.invokevirtual 197, 3) := by decide +kernel
theorem dX6_stormWays_27 : decode cX6_stormWays 27 = .ok (.istore 4, 2) := by decide +kernel
theorem dX6_stormWays_29 : decode cX6_stormWays 29 = .ok (.iconst 0, 1) := by decide +kernel
theorem dX6_stormWays_30 : decode cX6_stormWays 30 = .ok (.istore 5, 2) := by decide +kernel
theorem dX6_stormWays_32 : decode cX6_stormWays 32 = .ok (.iconst 0, 1) := by decide +kernel
theorem dX6_stormWays_33 : decode cX6_stormWays 33 = .ok (.istore 6, 2) := by decide +kernel
theorem dX6_stormWays_35 : decode cX6_stormWays 35 = .ok (.iload 6, 2) := by decide +kernel
theorem dX6_stormWays_37 : decode cX6_stormWays 37 = .ok (.iload 4, 2) := by decide +kernel
theorem dX6_stormWays_39 : decode cX6_stormWays 39 = .ok (.if_icmp .gt 98, 3) := by decide +kernel
theorem dX6_stormWays_42 : decode cX6_stormWays 42 = .ok (.iload 6, 2) := by decide +kernel
theorem dX6_stormWays_44 : decode cX6_stormWays 44 = .ok (.iload 4, 2) := by decide +kernel
theorem dX6_stormWays_46 : decode cX6_stormWays 46 = .ok (.iconst (-1), 1) := by decide +kernel
theorem dX6_stormWays_47 : decode cX6_stormWays 47 = .ok (.ixor, 1) := by decide +kernel
theorem dX6_stormWays_48 : decode cX6_stormWays 48 = .ok (.iand, 1) := by decide +kernel
theorem dX6_stormWays_49 : decode cX6_stormWays 49 = .ok (.ifCond .ne 25, 3) := by decide +kernel
theorem dX6_stormWays_52 : decode cX6_stormWays 52 = .ok (.iload 6, 2) := by decide +kernel
theorem dX6_stormWays_54 : decode cX6_stormWays 54 = .ok (.iload_n 1, 1) := by decide +kernel
theorem dX6_stormWays_55 : decode cX6_stormWays 55 = .ok (.invokestatic 251, 3) := by decide +kernel
theorem dX6_stormWays_58 : decode cX6_stormWays 58 = .ok (.ifCond .eq 16, 3) := by decide +kernel
theorem dX6_stormWays_61 : decode cX6_stormWays 61 = .ok (.iload 6, 2) := by decide +kernel
theorem dX6_stormWays_63 : decode cX6_stormWays 63 = .ok (.iload_n 2, 1) := by decide +kernel
theorem dX6_stormWays_64 : decode cX6_stormWays 64 = .ok (.invokestatic 251, 3) := by decide +kernel
theorem dX6_stormWays_67 : decode cX6_stormWays 67 = .ok (.ifCond .eq 7, 3) := by decide +kernel
theorem dX6_stormWays_70 : decode cX6_stormWays 70 = .ok (.iconst 1, 1) := by decide +kernel
theorem dX6_stormWays_71 : decode cX6_stormWays 71 = .ok (.goto 4, 3) := by decide +kernel
theorem dX6_stormWays_74 : decode cX6_stormWays 74 = .ok (.iconst 0, 1) := by decide +kernel
theorem dX6_stormWays_75 : decode cX6_stormWays 75 = .ok (.istore 7, 2) := by decide +kernel
theorem dX6_stormWays_77 : decode cX6_stormWays 77 = .ok (.iload 7, 2) := by decide +kernel
theorem dX6_stormWays_79 : decode cX6_stormWays 79 = .ok (.ifCond .eq 52, 3) := by decide +kernel
theorem dX6_stormWays_82 : decode cX6_stormWays 82 = .ok (.aload_n 0, 1) := by decide +kernel
theorem dX6_stormWays_83 : decode cX6_stormWays 83 = .ok (.getfield 46, 3) := by decide +kernel
theorem dX6_stormWays_86 : decode cX6_stormWays 86 = .ok (.iload_n 1, 1) := by decide +kernel
theorem dX6_stormWays_87 : decode cX6_stormWays 87 = .ok (.iload 6, 2) := by decide +kernel
theorem dX6_stormWays_89 : decode cX6_stormWays 89 = .ok (.invokevirtual 254, 3) := by decide +kernel
theorem dX6_stormWays_92 : decode cX6_stormWays 92 = .ok (.iload_n 2, 1) := by decide +kernel
theorem dX6_stormWays_93 : decode cX6_stormWays 93 = .ok (.invokestatic 251, 3) := by decide +kernel
theorem dX6_stormWays_96 : decode cX6_stormWays 96 = .ok (.ifCond .eq 35, 3) := by decide +kernel
theorem dX6_stormWays_99 : decode cX6_stormWays 99 = .ok (.iload 5, 2) := by decide +kernel
theorem dX6_stormWays_101 : decode cX6_stormWays 101 = .ok (.bipush 10, 2) := by decide +kernel
theorem dX6_stormWays_103 : decode cX6_stormWays 103 = .ok (.iload_n 3, 1) := by decide +kernel
theorem dX6_stormWays_104 : decode cX6_stormWays 104 = .ok (.isub, 1) := by decide +kernel
theorem dX6_stormWays_105 : decode cX6_stormWays 105 = .ok (.iload 6, 2) := by decide +kernel
theorem dX6_stormWays_107 : decode cX6_stormWays 107 = .ok (.invokestatic 154, 3) := by decide +kernel
theorem dX6_stormWays_110 : decode cX6_stormWays 110 = .ok (.invokestatic 280, 3) := by decide +kernel
theorem dX6_stormWays_113 : decode cX6_stormWays 113 = .ok (.iload_n 3, 1) := by decide +kernel
theorem dX6_stormWays_114 : decode cX6_stormWays 114 = .ok (.iload 4, 2) := by decide +kernel
theorem dX6_stormWays_116 : decode cX6_stormWays 116 = .ok (.iload 6, 2) := by decide +kernel
theorem dX6_stormWays_118 : decode cX6_stormWays 118 = .ok (.iconst (-1), 1) := by decide +kernel
theorem dX6_stormWays_119 : decode cX6_stormWays 119 = .ok (.ixor, 1) := by decide +kernel
theorem dX6_stormWays_120 : decode cX6_stormWays 120 = .ok (.iand, 1) := by decide +kernel
theorem dX6_stormWays_121 : decode cX6_stormWays 121 = .ok (.invokestatic 154, 3) := by decide +kernel
theorem dX6_stormWays_124 : decode cX6_stormWays 124 = .ok (.invokestatic 280, 3) := by decide +kernel
theorem dX6_stormWays_127 : decode cX6_stormWays 127 = .ok (.imul, 1) := by decide +kernel
theorem dX6_stormWays_128 : decode cX6_stormWays 128 = .ok (.iadd, 1) := by decide +kernel
theorem dX6_stormWays_129 : decode cX6_stormWays 129 = .ok (.istore 5, 2) := by decide +kernel
theorem dX6_stormWays_131 : decode cX6_stormWays 131 = .ok (.iinc 6 1, 3) := by decide +kernel
theorem dX6_stormWays_134 : decode cX6_stormWays 134 = .ok (.goto (-99), 3) := by decide +kernel
theorem dX6_stormWays_137 : decode cX6_stormWays 137 = .ok (.iload 5, 2) := by decide +kernel
theorem dX6_stormWays_139 : decode cX6_stormWays 139 = .ok (.ireturn, 1) := by decide +kernel
theorem dX6_power_0 : decode cX6_power 0 = .ok (.iconst 1, 1) := by decide +kernel
theorem dX6_power_1 : decode cX6_power 1 = .ok (.istore_n 2, 1) := by decide +kernel
theorem dX6_power_2 : decode cX6_power 2 = .ok (.iconst 0, 1) := by decide +kernel
theorem dX6_power_3 : decode cX6_power 3 = .ok (.istore_n 3, 1) := by decide +kernel
theorem dX6_power_4 : decode cX6_power 4 = .ok (.iload_n 3, 1) := by decide +kernel
theorem dX6_power_5 : decode cX6_power 5 = .ok (.iload_n 1, 1) := by decide +kernel
theorem dX6_power_6 : decode cX6_power 6 = .ok (.if_icmp .ge 13, 3) := by decide +kernel
theorem dX6_power_9 : decode cX6_power 9 = .ok (.iload_n 2, 1) := by decide +kernel
theorem dX6_power_10 : decode cX6_power 10 = .ok (.iload_n 0, 1) := by decide +kernel
theorem dX6_power_11 : decode cX6_power 11 = .ok (.imul, 1) := by decide +kernel
theorem dX6_power_12 : decode cX6_power 12 = .ok (.istore_n 2, 1) := by decide +kernel
theorem dX6_power_13 : decode cX6_power 13 = .ok (.iinc 3 1, 3) := by decide +kernel
theorem dX6_power_16 : decode cX6_power 16 = .ok (.goto (-12), 3) := by decide +kernel
theorem dX6_power_19 : decode cX6_power 19 = .ok (.iload_n 2, 1) := by decide +kernel
theorem dX6_power_20 : decode cX6_power 20 = .ok (.ireturn, 1) := by decide +kernel
theorem dX6_greatestDivisor_0 : decode cX6_greatestDivisor 0 = .ok (.iload_n 0, 1) := by decide +kernel
theorem dX6_greatestDivisor_1 : decode cX6_greatestDivisor 1 = .ok (.iload_n 1, 1) := by decide +kernel
theorem dX6_greatestDivisor_2 : decode cX6_greatestDivisor 2 = .ok (.invokestatic 257, 3) := by decide +kernel
theorem dX6_greatestDivisor_5 : decode cX6_greatestDivisor 5 = .ok (.istore_n 2, 1) := by decide +kernel
theorem dX6_greatestDivisor_6 : decode cX6_greatestDivisor 6 = .ok (.iload_n 0, 1) := by decide +kernel
theorem dX6_greatestDivisor_7 : decode cX6_greatestDivisor 7 = .ok (.iload_n 1, 1) := by decide +kernel
theorem dX6_greatestDivisor_8 : decode cX6_greatestDivisor 8 = .ok (.invokestatic 321, 3) := by decide +kernel
theorem dX6_greatestDivisor_11 : decode cX6_greatestDivisor 11 = .ok (.istore_n 3, 1) := by decide +kernel
theorem dX6_greatestDivisor_12 : decode cX6_greatestDivisor 12 = .ok (.iconst 0, 1) := by decide +kernel
theorem dX6_greatestDivisor_13 : decode cX6_greatestDivisor 13 = .ok (.istore 4, 2) := by decide +kernel
theorem dX6_greatestDivisor_15 : decode cX6_greatestDivisor 15 = .ok (.iload 4, 2) := by decide +kernel
theorem dX6_greatestDivisor_17 : decode cX6_greatestDivisor 17 = .ok (.bipush 64, 2) := by decide +kernel
theorem dX6_greatestDivisor_19 : decode cX6_greatestDivisor 19 = .ok (.if_icmp .ge 23, 3) := by decide +kernel
theorem dX6_greatestDivisor_22 : decode cX6_greatestDivisor 22 = .ok (.iload_n 3, 1) := by decide +kernel
theorem dX6_greatestDivisor_23 : decode cX6_greatestDivisor 23 = .ok (.ifCond .le 19, 3) := by decide +kernel
theorem dX6_greatestDivisor_26 : decode cX6_greatestDivisor 26 = .ok (.iload_n 2, 1) := by decide +kernel
theorem dX6_greatestDivisor_27 : decode cX6_greatestDivisor 27 = .ok (.iload_n 3, 1) := by decide +kernel
theorem dX6_greatestDivisor_28 : decode cX6_greatestDivisor 28 = .ok (.irem, 1) := by decide +kernel
theorem dX6_greatestDivisor_29 : decode cX6_greatestDivisor 29 = .ok (.istore 5, 2) := by decide +kernel
theorem dX6_greatestDivisor_31 : decode cX6_greatestDivisor 31 = .ok (.iload_n 3, 1) := by decide +kernel
theorem dX6_greatestDivisor_32 : decode cX6_greatestDivisor 32 = .ok (.istore_n 2, 1) := by decide +kernel
theorem dX6_greatestDivisor_33 : decode cX6_greatestDivisor 33 = .ok (.iload 5, 2) := by decide +kernel
theorem dX6_greatestDivisor_35 : decode cX6_greatestDivisor 35 = .ok (.istore_n 3, 1) := by decide +kernel
theorem dX6_greatestDivisor_36 : decode cX6_greatestDivisor 36 = .ok (.iinc 4 1, 3) := by decide +kernel
theorem dX6_greatestDivisor_39 : decode cX6_greatestDivisor 39 = .ok (.goto (-24), 3) := by decide +kernel
theorem dX6_greatestDivisor_42 : decode cX6_greatestDivisor 42 = .ok (.iload_n 2, 1) := by decide +kernel
theorem dX6_greatestDivisor_43 : decode cX6_greatestDivisor 43 = .ok (.iconst 1, 1) := by decide +kernel
theorem dX6_greatestDivisor_44 : decode cX6_greatestDivisor 44 = .ok (.invokestatic 257, 3) := by decide +kernel
theorem dX6_greatestDivisor_47 : decode cX6_greatestDivisor 47 = .ok (.ireturn, 1) := by decide +kernel
theorem dJ6_bitCount_0f7a4_0 : decode cJ6_bitCount_0f7a4 0 = .ok (.iload_n 0, 1) := by decide +kernel
theorem dJ6_bitCount_0f7a4_1 : decode cJ6_bitCount_0f7a4 1 = .ok (.iload_n 0, 1) := by decide +kernel
theorem dJ6_bitCount_0f7a4_2 : decode cJ6_bitCount_0f7a4 2 = .ok (.iconst 1, 1) := by decide +kernel
theorem dJ6_bitCount_0f7a4_3 : decode cJ6_bitCount_0f7a4 3 = .ok (.iushr, 1) := by decide +kernel
theorem dJ6_bitCount_0f7a4_4 : decode cJ6_bitCount_0f7a4 4 = .ok (.ldc_w 265, 3) := by decide +kernel
theorem dJ6_bitCount_0f7a4_7 : decode cJ6_bitCount_0f7a4 7 = .ok (.iand, 1) := by decide +kernel
theorem dJ6_bitCount_0f7a4_8 : decode cJ6_bitCount_0f7a4 8 = .ok (.isub, 1) := by decide +kernel
theorem dJ6_bitCount_0f7a4_9 : decode cJ6_bitCount_0f7a4 9 = .ok (.istore_n 0, 1) := by decide +kernel
theorem dJ6_bitCount_0f7a4_10 : decode cJ6_bitCount_0f7a4 10 = .ok (.iload_n 0, 1) := by decide +kernel
theorem dJ6_bitCount_0f7a4_11 : decode cJ6_bitCount_0f7a4 11 = .ok (.ldc_w 266, 3) := by decide +kernel
theorem dJ6_bitCount_0f7a4_14 : decode cJ6_bitCount_0f7a4 14 = .ok (.iand, 1) := by decide +kernel
theorem dJ6_bitCount_0f7a4_15 : decode cJ6_bitCount_0f7a4 15 = .ok (.iload_n 0, 1) := by decide +kernel
theorem dJ6_bitCount_0f7a4_16 : decode cJ6_bitCount_0f7a4 16 = .ok (.iconst 2, 1) := by decide +kernel
theorem dJ6_bitCount_0f7a4_17 : decode cJ6_bitCount_0f7a4 17 = .ok (.iushr, 1) := by decide +kernel
theorem dJ6_bitCount_0f7a4_18 : decode cJ6_bitCount_0f7a4 18 = .ok (.ldc_w 266, 3) := by decide +kernel
theorem dJ6_bitCount_0f7a4_21 : decode cJ6_bitCount_0f7a4 21 = .ok (.iand, 1) := by decide +kernel
theorem dJ6_bitCount_0f7a4_22 : decode cJ6_bitCount_0f7a4 22 = .ok (.iadd, 1) := by decide +kernel
theorem dJ6_bitCount_0f7a4_23 : decode cJ6_bitCount_0f7a4 23 = .ok (.istore_n 0, 1) := by decide +kernel
theorem dJ6_bitCount_0f7a4_24 : decode cJ6_bitCount_0f7a4 24 = .ok (.iload_n 0, 1) := by decide +kernel
theorem dJ6_bitCount_0f7a4_25 : decode cJ6_bitCount_0f7a4 25 = .ok (.iload_n 0, 1) := by decide +kernel
theorem dJ6_bitCount_0f7a4_26 : decode cJ6_bitCount_0f7a4 26 = .ok (.iconst 4, 1) := by decide +kernel
theorem dJ6_bitCount_0f7a4_27 : decode cJ6_bitCount_0f7a4 27 = .ok (.iushr, 1) := by decide +kernel
theorem dJ6_bitCount_0f7a4_28 : decode cJ6_bitCount_0f7a4 28 = .ok (.iadd, 1) := by decide +kernel
theorem dJ6_bitCount_0f7a4_29 : decode cJ6_bitCount_0f7a4 29 = .ok (.ldc_w 267, 3) := by decide +kernel
theorem dJ6_bitCount_0f7a4_32 : decode cJ6_bitCount_0f7a4 32 = .ok (.iand, 1) := by decide +kernel
theorem dJ6_bitCount_0f7a4_33 : decode cJ6_bitCount_0f7a4 33 = .ok (.istore_n 0, 1) := by decide +kernel
theorem dJ6_bitCount_0f7a4_34 : decode cJ6_bitCount_0f7a4 34 = .ok (.iload_n 0, 1) := by decide +kernel
theorem dJ6_bitCount_0f7a4_35 : decode cJ6_bitCount_0f7a4 35 = .ok (.iload_n 0, 1) := by decide +kernel
theorem dJ6_bitCount_0f7a4_36 : decode cJ6_bitCount_0f7a4 36 = .ok (.bipush 8, 2) := by decide +kernel
theorem dJ6_bitCount_0f7a4_38 : decode cJ6_bitCount_0f7a4 38 = .ok (.iushr, 1) := by decide +kernel
theorem dJ6_bitCount_0f7a4_39 : decode cJ6_bitCount_0f7a4 39 = .ok (.iadd, 1) := by decide +kernel
theorem dJ6_bitCount_0f7a4_40 : decode cJ6_bitCount_0f7a4 40 = .ok (.istore_n 0, 1) := by decide +kernel
theorem dJ6_bitCount_0f7a4_41 : decode cJ6_bitCount_0f7a4 41 = .ok (.iload_n 0, 1) := by decide +kernel
theorem dJ6_bitCount_0f7a4_42 : decode cJ6_bitCount_0f7a4 42 = .ok (.iload_n 0, 1) := by decide +kernel
theorem dJ6_bitCount_0f7a4_43 : decode cJ6_bitCount_0f7a4 43 = .ok (.bipush 16, 2) := by decide +kernel
theorem dJ6_bitCount_0f7a4_45 : decode cJ6_bitCount_0f7a4 45 = .ok (.iushr, 1) := by decide +kernel
theorem dJ6_bitCount_0f7a4_46 : decode cJ6_bitCount_0f7a4 46 = .ok (.iadd, 1) := by decide +kernel
theorem dJ6_bitCount_0f7a4_47 : decode cJ6_bitCount_0f7a4 47 = .ok (.istore_n 0, 1) := by decide +kernel
theorem dJ6_bitCount_0f7a4_48 : decode cJ6_bitCount_0f7a4 48 = .ok (.iload_n 0, 1) := by decide +kernel
theorem dJ6_bitCount_0f7a4_49 : decode cJ6_bitCount_0f7a4 49 = .ok (.bipush 63, 2) := by decide +kernel
theorem dJ6_bitCount_0f7a4_51 : decode cJ6_bitCount_0f7a4 51 = .ok (.iand, 1) := by decide +kernel
theorem dJ6_bitCount_0f7a4_52 : decode cJ6_bitCount_0f7a4 52 = .ok (.ireturn, 1) := by decide +kernel
theorem dJ7_fill_53178_0 : decode cJ7_fill_53178 0 = .ok (.iconst 0, 1) := by decide +kernel
theorem dJ7_fill_53178_1 : decode cJ7_fill_53178 1 = .ok (.istore_n 2, 1) := by decide +kernel
theorem dJ7_fill_53178_2 : decode cJ7_fill_53178 2 = .ok (.aload_n 0, 1) := by decide +kernel
theorem dJ7_fill_53178_3 : decode cJ7_fill_53178 3 = .ok (.arraylength, 1) := by decide +kernel
theorem dJ7_fill_53178_4 : decode cJ7_fill_53178 4 = .ok (.istore_n 3, 1) := by decide +kernel
theorem dJ7_fill_53178_5 : decode cJ7_fill_53178 5 = .ok (.iload_n 2, 1) := by decide +kernel
theorem dJ7_fill_53178_6 : decode cJ7_fill_53178 6 = .ok (.iload_n 3, 1) := by decide +kernel
theorem dJ7_fill_53178_7 : decode cJ7_fill_53178 7 = .ok (.if_icmp .ge 13, 3) := by decide +kernel
theorem dJ7_fill_53178_10 : decode cJ7_fill_53178 10 = .ok (.aload_n 0, 1) := by decide +kernel
theorem dJ7_fill_53178_11 : decode cJ7_fill_53178 11 = .ok (.iload_n 2, 1) := by decide +kernel
theorem dJ7_fill_53178_12 : decode cJ7_fill_53178 12 = .ok (.iload_n 1, 1) := by decide +kernel
theorem dJ7_fill_53178_13 : decode cJ7_fill_53178 13 = .ok (.iastore, 1) := by decide +kernel
theorem dJ7_fill_53178_14 : decode cJ7_fill_53178 14 = .ok (.iinc 2 1, 3) := by decide +kernel
theorem dJ7_fill_53178_17 : decode cJ7_fill_53178 17 = .ok (.goto (-12), 3) := by decide +kernel
theorem dJ7_fill_53178_20 : decode cJ7_fill_53178 20 = .ok (.return_, 1) := by decide +kernel
