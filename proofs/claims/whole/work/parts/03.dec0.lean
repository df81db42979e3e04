theorem dX0_init_0 : decode cX0_init 0 = .ok (.aload_n 0, 1) := by decide +kernel
theorem dX0_init_1 : decode cX0_init 1 = .ok (.invokespecial 3, 3) := by decide +kernel
theorem dX0_init_4 : decode cX0_init 4 = .ok (.aload_n 0, 1) := by decide +kernel
theorem dX0_init_5 : decode cX0_init 5 = .ok (.sipush 600, 3) := by decide +kernel
theorem dX0_init_8 : decode cX0_init 8 = .ok (.newarray .int, 2) := by decide +kernel
theorem dX0_init_10 : decode cX0_init 10 = .ok (.putfield 9, 3) := by decide +kernel
theorem dX0_init_13 : decode cX0_init 13 = .ok (.aload_n 0, 1) := by decide +kernel
theorem dX0_init_14 : decode cX0_init 14 = .ok (.sipush 601, 3) := by decide +kernel
theorem dX0_init_17 : decode cX0_init 17 = .ok (.newarray .int, 2) := by decide +kernel
theorem dX0_init_19 : decode cX0_init 19 = .ok (.putfield 15, 3) := by decide +kernel
theorem dX0_init_22 : decode cX0_init 22 = .ok (.aload_n 0, 1) := by decide +kernel
theorem dX0_init_23 : decode cX0_init 23 = .ok (.aload_n 1, 1) := by decide +kernel
theorem dX0_init_24 : decode cX0_init 24 = .ok (.putfield 18, 3) := by decide +kernel
theorem dX0_init_27 : decode cX0_init 27 = .ok (.return_, 1) := by decide +kernel
theorem dX0_startOf_0 : decode cX0_startOf 0 = .ok (.aload_n 0, 1) := by decide +kernel
theorem dX0_startOf_1 : decode cX0_startOf 1 = .ok (.getfield 18, 3) := by decide +kernel
theorem dX0_startOf_4 : decode cX0_startOf 4 = .ok (.aload_n 0, 1) := by decide +kernel
theorem dX0_startOf_5 : decode cX0_startOf 5 = .ok (.getfield 22, 3) := by decide +kernel
theorem dX0_startOf_8 : decode cX0_startOf 8 = .ok (.invokevirtual 26, 3) := by decide +kernel
theorem dX0_startOf_11 : decode cX0_startOf 11 = .ok (.aload_n 0, 1) := by decide +kernel
theorem dX0_startOf_12 : decode cX0_startOf 12 = .ok (.getfield 15, 3) := by decide +kernel
theorem dX0_startOf_15 : decode cX0_startOf 15 = .ok (.iload_n 1, 1) := by decide +kernel
theorem dX0_startOf_16 : decode cX0_startOf 16 = .ok (.iaload, 1) := by decide +kernel
theorem dX0_startOf_17 : decode cX0_startOf 17 = .ok (.iadd, 1) := by decide +kernel
theorem dX0_startOf_18 : decode cX0_startOf 18 = .ok (.ireturn, 1) := by decide +kernel
theorem dX0_lengthOf_0 : decode cX0_lengthOf 0 = .ok (.aload_n 0, 1) := by decide +kernel
theorem dX0_lengthOf_1 : decode cX0_lengthOf 1 = .ok (.getfield 15, 3) := by decide +kernel
theorem dX0_lengthOf_4 : decode cX0_lengthOf 4 = .ok (.iload_n 1, 1) := by decide +kernel
theorem dX0_lengthOf_5 : decode cX0_lengthOf 5 = .ok (.iconst 1, 1) := by decide +kernel
theorem dX0_lengthOf_6 : decode cX0_lengthOf 6 = .ok (.iadd, 1) := by decide +kernel
theorem dX0_lengthOf_7 : decode cX0_lengthOf 7 = .ok (.iaload, 1) := by decide +kernel
theorem dX0_lengthOf_8 : decode cX0_lengthOf 8 = .ok (.aload_n 0, 1) := by decide +kernel
theorem dX0_lengthOf_9 : decode cX0_lengthOf 9 = .ok (.getfield 15, 3) := by decide +kernel
theorem dX0_lengthOf_12 : decode cX0_lengthOf 12 = .ok (.iload_n 1, 1) := by decide +kernel
theorem dX0_lengthOf_13 : decode cX0_lengthOf 13 = .ok (.iaload, 1) := by decide +kernel
theorem dX0_lengthOf_14 : decode cX0_lengthOf 14 = .ok (.isub, 1) := by decide +kernel
theorem dX0_lengthOf_15 : decode cX0_lengthOf 15 = .ok (.ireturn, 1) := by decide +kernel
theorem dX0_addUp_0 : decode cX0_addUp 0 = .ok (.iconst 1, 1) := by decide +kernel
theorem dX0_addUp_1 : decode cX0_addUp 1 = .ok (.istore_n 3, 1) := by decide +kernel
theorem dX0_addUp_2 : decode cX0_addUp 2 = .ok (.iconst 0, 1) := by decide +kernel
theorem dX0_addUp_3 : decode cX0_addUp 3 = .ok (.istore 4, 2) := by decide +kernel
theorem dX0_addUp_5 : decode cX0_addUp 5 = .ok (.iload 4, 2) := by decide +kernel
theorem dX0_addUp_7 : decode cX0_addUp 7 = .ok (.aload_n 1, 1) := by decide +kernel
theorem dX0_addUp_8 : decode cX0_addUp 8 = .ok (.getfield 32, 3) := by decide +kernel
theorem dX0_addUp_11 : decode cX0_addUp 11 = .ok (.if_icmp .ge 14, 3) := by decide +kernel
theorem dX0_addUp_14 : decode cX0_addUp 14 = .ok (.iload_n 3, 1) := by decide +kernel
theorem dX0_addUp_15 : decode cX0_addUp 15 = .ok (.bipush 31, 2) := by decide +kernel
theorem dX0_addUp_17 : decode cX0_addUp 17 = .ok (.imul, 1) := by decide +kernel
theorem dX0_addUp_18 : decode cX0_addUp 18 = .ok (.istore_n 3, 1) := by decide +kernel
theorem dX0_addUp_19 : decode cX0_addUp 19 = .ok (.iinc 4 1, 3) := by decide +kernel
theorem dX0_addUp_22 : decode cX0_addUp 22 = .ok (.goto (-17), 3) := by decide +kernel
theorem dX0_addUp_25 : decode cX0_addUp 25 = .ok (.iconst 0, 1) := by decide +kernel
theorem dX0_addUp_26 : decode cX0_addUp 26 = .ok (.istore 4, 2) := by decide +kernel
theorem dX0_addUp_28 : decode cX0_addUp 28 = .ok (.iconst 0, 1) := by decide +kernel
theorem dX0_addUp_29 : decode cX0_addUp 29 = .ok (.istore 5, 2) := by decide +kernel
theorem dX0_addUp_31 : decode cX0_addUp 31 = .ok (.iload 5, 2) := by decide +kernel
theorem dX0_addUp_33 : decode cX0_addUp 33 = .ok (.aload_n 0, 1) := by decide +kernel
theorem dX0_addUp_34 : decode cX0_addUp 34 = .ok (.getfield 18, 3) := by decide +kernel
theorem dX0_addUp_37 : decode cX0_addUp 37 = .ok (.getfield 37, 3) := by decide +kernel
theorem dX0_addUp_40 : decode cX0_addUp 40 = .ok (.iload_n 2, 1) := by decide +kernel
theorem dX0_addUp_41 : decode cX0_addUp 41 = .ok (.iaload, 1) := by decide +kernel
theorem dX0_addUp_42 : decode cX0_addUp 42 = .ok (.if_icmp .ge 74, 3) := by decide +kernel
theorem dX0_addUp_45 : decode cX0_addUp 45 = .ok (.iload 4, 2) := by decide +kernel
theorem dX0_addUp_47 : decode cX0_addUp 47 = .ok (.bipush 31, 2) := by decide +kernel
theorem dX0_addUp_49 : decode cX0_addUp 49 = .ok (.imul, 1) := by decide +kernel
theorem dX0_addUp_50 : decode cX0_addUp 50 = .ok (.aload_n 0, 1) := by decide +kernel
theorem dX0_addUp_51 : decode cX0_addUp 51 = .ok (.getfield 18, 3) := by decide +kernel
theorem dX0_addUp_54 : decode cX0_addUp 54 = .ok (.iload_n 2, 1) := by decide +kernel
theorem dX0_addUp_55 : decode cX0_addUp 55 = .ok (.iload 5, 2) := by decide +kernel
theorem dX0_addUp_57 : decode cX0_addUp 57 = .ok (.invokevirtual 40, 3) := by decide +kernel
theorem dX0_addUp_60 : decode cX0_addUp 60 = .ok (.iadd, 1) := by decide +kernel
theorem dX0_addUp_61 : decode cX0_addUp 61 = .ok (.iconst 1, 1) := by decide +kernel
theorem dX0_addUp_62 : decode cX0_addUp 62 = .ok (.iadd, 1) := by decide +kernel
theorem dX0_addUp_63 : decode cX0_addUp 63 = .ok (.istore 4, 2) := by decide +kernel
theorem dX0_addUp_65 : decode cX0_addUp 65 = .ok (.iload 5, 2) := by decide +kernel
theorem dX0_addUp_67 : decode cX0_addUp 67 = .ok (.aload_n 1, 1) := by decide +kernel
theorem dX0_addUp_68 : decode cX0_addUp 68 = .ok (.getfield 32, 3) := by decide +kernel
theorem dX0_addUp_71 : decode cX0_addUp 71 = .ok (.if_icmp .lt 27, 3) := by decide +kernel
theorem dX0_addUp_74 : decode cX0_addUp 74 = .ok (.iload 4, 2) := by decide +kernel
theorem dX0_addUp_76 : decode cX0_addUp 76 = .ok (.iload_n 3, 1) := by decide +kernel
theorem dX0_addUp_77 : decode cX0_addUp 77 = .ok (.aload_n 0, 1) := by decide +kernel
theorem dX0_addUp_78 : decode cX0_addUp 78 = .ok (.getfield 18, 3) := by decide +kernel
theorem dX0_addUp_81 : decode cX0_addUp 81 = .ok (.iload_n 2, 1) := by decide +kernel
theorem dX0_addUp_82 : decode cX0_addUp 82 = .ok (.iload 5, 2) := by decide +kernel
theorem dX0_addUp_84 : decode cX0_addUp 84 = .ok (.aload_n 1, 1) := by decide +kernel
theorem dX0_addUp_85 : decode cX0_addUp 85 = .ok (.getfield 32, 3) := by decide +kernel
theorem dX0_addUp_88 : decode cX0_addUp 88 = .ok (.isub, 1) := by decide +kernel
theorem dX0_addUp_89 : decode cX0_addUp 89 = .ok (.invokevirtual 40, 3) := by decide +kernel
theorem dX0_addUp_92 : decode cX0_addUp 92 = .ok (.iconst 1, 1) := by decide +kernel
theorem dX0_addUp_93 : decode cX0_addUp 93 = .ok (.iadd, 1) := by decide +kernel
theorem dX0_addUp_94 : decode cX0_addUp 94 = .ok (.imul, 1) := by decide +kernel
theorem dX0_addUp_95 : decode cX0_addUp 95 = .ok (.isub, 1) := by decide +kernel
theorem dX0_addUp_96 : decode cX0_addUp 96 = .ok (.istore 4, 2) := by decide +kernel
theorem dX0_addUp_98 : decode cX0_addUp 98 = .ok (.aload_n 0, 1) := by decide +kernel
theorem dX0_addUp_99 : decode cX0_addUp 99 = .ok (.getfield 9, 3) := by decide +kernel
theorem dX0_addUp_102 : decode cX0_addUp 102 = .ok (.iload 5, 2) := by decide +kernel
theorem dX0_addUp_104 : decode cX0_addUp 104 = .ok (.iload 4, 2) := by decide +kernel
theorem dX0_addUp_106 : decode cX0_addUp 106 = .ok (.ldc 44, 2) := by decide +kernel
theorem dX0_addUp_108 : decode cX0_addUp 108 = .ok (.iand, 1) := by decide +kernel
theorem dX0_addUp_109 : decode cX0_addUp 109 = .ok (.iastore, 1) := by decide +kernel
theorem dX0_addUp_110 : decode cX0_addUp 110 = .ok (.iinc 5 1, 3) := by decide +kernel
theorem dX0_addUp_113 : decode cX0_addUp 113 = .ok (.goto (-82), 3) := by decide +kernel
theorem dX0_addUp_116 : decode cX0_addUp 116 = .ok (.return_, 1) := by decide +kernel
theorem dX0_divide_0 : decode cX0_divide 0 = .ok (.aload_n 1, 1) := by decide +kernel
theorem dX0_divide_1 : decode cX0_divide 1 = .ok (.invokevirtual 45, 3) := by decide +kernel
theorem dX0_divide_4 : decode cX0_divide 4 = .ok (.ifCond .eq 9, 3) := by decide +kernel
theorem dX0_divide_7 : decode cX0_divide 7 = .ok (.aload_n 0, 1) := by decide +kernel
theorem dX0_divide_8 : decode cX0_divide 8 = .ok (.aload_n 1, 1) := by decide +kernel
theorem dX0_divide_9 : decode cX0_divide 9 = .ok (.iload_n 2, 1) := by decide +kernel
theorem dX0_divide_10 : decode cX0_divide 10 = .ok (.invokevirtual 49, 3) := by decide +kernel
theorem dX0_divide_13 : decode cX0_divide 13 = .ok (.aload_n 0, 1) := by decide +kernel
theorem dX0_divide_14 : decode cX0_divide 14 = .ok (.iload_n 2, 1) := by decide +kernel
theorem dX0_divide_15 : decode cX0_divide 15 = .ok (.putfield 22, 3) := by decide +kernel
theorem dX0_divide_18 : decode cX0_divide 18 = .ok (.aload_n 0, 1) := by decide +kernel
theorem dX0_divide_19 : decode cX0_divide 19 = .ok (.iconst 0, 1) := by decide +kernel
theorem dX0_divide_20 : decode cX0_divide 20 = .ok (.putfield 53, 3) := by decide +kernel
theorem dX0_divide_23 : decode cX0_divide 23 = .ok (.aload_n 0, 1) := by decide +kernel
theorem dX0_divide_24 : decode cX0_divide 24 = .ok (.getfield 53, 3) := by decide +kernel
theorem dX0_divide_27 : decode cX0_divide 27 = .ok (.sipush 600, 3) := by decide +kernel
theorem dX0_divide_30 : decode cX0_divide 30 = .ok (.if_icmp .ge 62, 3) := by decide +kernel
theorem dX0_divide_33 : decode cX0_divide 33 = .ok (.aload_n 0, 1) := by decide +kernel
theorem dX0_divide_34 : decode cX0_divide 34 = .ok (.getfield 15, 3) := by decide +kernel
theorem dX0_divide_37 : decode cX0_divide 37 = .ok (.aload_n 0, 1) := by decide +kernel
theorem dX0_divide_38 : decode cX0_divide 38 = .ok (.getfield 53, 3) := by decide +kernel
theorem dX0_divide_41 : decode cX0_divide 41 = .ok (.iaload, 1) := by decide +kernel
theorem dX0_divide_42 : decode cX0_divide 42 = .ok (.aload_n 0, 1) := by decide +kernel
theorem dX0_divide_43 : decode cX0_divide 43 = .ok (.getfield 18, 3) := by decide +kernel
theorem dX0_divide_46 : decode cX0_divide 46 = .ok (.getfield 37, 3) := by decide +kernel
theorem dX0_divide_49 : decode cX0_divide 49 = .ok (.iload_n 2, 1) := by decide +kernel
theorem dX0_divide_50 : decode cX0_divide 50 = .ok (.iaload, 1) := by decide +kernel
theorem dX0_divide_51 : decode cX0_divide 51 = .ok (.if_icmp .ge 41, 3) := by decide +kernel
theorem dX0_divide_54 : decode cX0_divide 54 = .ok (.aload_n 0, 1) := by decide +kernel
theorem dX0_divide_55 : decode cX0_divide 55 = .ok (.getfield 15, 3) := by decide +kernel
theorem dX0_divide_58 : decode cX0_divide 58 = .ok (.aload_n 0, 1) := by decide +kernel
theorem dX0_divide_59 : decode cX0_divide 59 = .ok (.getfield 53, 3) := by decide +kernel
theorem dX0_divide_62 : decode cX0_divide 62 = .ok (.iconst 1, 1) := by decide +kernel
theorem dX0_divide_63 : decode cX0_divide 63 = .ok (.iadd, 1) := by decide +kernel
theorem dX0_divide_64 : decode cX0_divide 64 = .ok (.aload_n 0, 1) := by decide +kernel
theorem dX0_divide_65 : decode cX0_divide 65 = .ok (.aload_n 1, 1) := by decide +kernel
theorem dX0_divide_66 : decode cX0_divide 66 = .ok (.aload_n 0, 1) := by decide +kernel
theorem dX0_divide_67 : decode cX0_divide 67 = .ok (.getfield 15, 3) := by decide +kernel
theorem dX0_divide_70 : decode cX0_divide 70 = .ok (.aload_n 0, 1) := by decide +kernel
theorem dX0_divide_71 : decode cX0_divide 71 = .ok (.getfield 53, 3) := by decide +kernel
theorem dX0_divide_74 : decode cX0_divide 74 = .ok (.iaload, 1) := by decide +kernel
theorem dX0_divide_75 : decode cX0_divide 75 = .ok (.invokevirtual 56, 3) := by decide +kernel
theorem dX0_divide_78 : decode cX0_divide 78 = .ok (.iastore, 1) := by decide +kernel
theorem dX0_divide_79 : decode cX0_divide 79 = .ok (.aload_n 0, 1) := by decide +kernel
theorem dX0_divide_80 : decode cX0_divide 80 = .ok (.dup, 1) := by decide +kernel
theorem dX0_divide_81 : decode cX0_divide 81 = .ok (.getfield 53, 3) := by decide +kernel
theorem dX0_divide_84 : decode cX0_divide 84 = .ok (.iconst 1, 1) := by decide +kernel
theorem dX0_divide_85 : decode cX0_divide 85 = .ok (.iadd, 1) := by decide +kernel
theorem dX0_divide_86 : decode cX0_divide 86 = .ok (.putfield 53, 3) := by decide +kernel
theorem dX0_divide_89 : decode cX0_divide 89 = .ok (.goto (-66), 3) := by decide +kernel
theorem dX0_divide_92 : decode cX0_divide 92 = .ok (.return_, 1) := by decide +kernel
theorem dX0_endOfPiece_0 : decode cX0_endOfPiece 0 = .ok (.iload_n 2, 1) := by decide +kernel
theorem dX0_endOfPiece_1 : decode cX0_endOfPiece 1 = .ok (.aload_n 1, 1) := by decide +kernel
theorem dX0_endOfPiece_2 : decode cX0_endOfPiece 2 = .ok (.getfield 60, 3) := by decide +kernel
theorem dX0_endOfPiece_5 : decode cX0_endOfPiece 5 = .ok (.iadd, 1) := by decide +kernel
theorem dX0_endOfPiece_6 : decode cX0_endOfPiece 6 = .ok (.istore_n 3, 1) := by decide +kernel
theorem dX0_endOfPiece_7 : decode cX0_endOfPiece 7 = .ok (.iload_n 3, 1) := by decide +kernel
theorem dX0_endOfPiece_8 : decode cX0_endOfPiece 8 = .ok (.aload_n 0, 1) := by decide +kernel
theorem dX0_endOfPiece_9 : decode cX0_endOfPiece 9 = .ok (.getfield 18, 3) := by decide +kernel
theorem dX0_endOfPiece_12 : decode cX0_endOfPiece 12 = .ok (.getfield 37, 3) := by decide +kernel
theorem dX0_endOfPiece_15 : decode cX0_endOfPiece 15 = .ok (.aload_n 0, 1) := by decide +kernel
theorem dX0_endOfPiece_16 : decode cX0_endOfPiece 16 = .ok (.getfield 22, 3) := by decide +kernel
theorem dX0_endOfPiece_19 : decode cX0_endOfPiece 19 = .ok (.iaload, 1) := by decide +kernel
theorem dX0_endOfPiece_20 : decode cX0_endOfPiece 20 = .ok (.invokestatic 63, 3) := by decide +kernel
theorem dX0_endOfPiece_23 : decode cX0_endOfPiece 23 = .ok (.istore 4, 2) := by decide +kernel
theorem dX0_endOfPiece_25 : decode cX0_endOfPiece 25 = .ok (.iload 4, 2) := by decide +kernel
theorem dX0_endOfPiece_27 : decode cX0_endOfPiece 27 = .ok (.istore 5, 2) := by decide +kernel
theorem dX0_endOfPiece_29 : decode cX0_endOfPiece 29 = .ok (.iload_n 2, 1) := by decide +kernel
theorem dX0_endOfPiece_30 : decode cX0_endOfPiece 30 = .ok (.aload_n 1, 1) := by decide +kernel
theorem dX0_endOfPiece_31 : decode cX0_endOfPiece 31 = .ok (.getfield 68, 3) := by decide +kernel
theorem dX0_endOfPiece_34 : decode cX0_endOfPiece 34 = .ok (.iadd, 1) := by decide +kernel
theorem dX0_endOfPiece_35 : decode cX0_endOfPiece 35 = .ok (.istore 6, 2) := by decide +kernel
theorem dX0_endOfPiece_37 : decode cX0_endOfPiece 37 = .ok (.iload 6, 2) := by decide +kernel
theorem dX0_endOfPiece_39 : decode cX0_endOfPiece 39 = .ok (.iload 4, 2) := by decide +kernel
theorem dX0_endOfPiece_41 : decode cX0_endOfPiece 41 = .ok (.if_icmp .gt 63, 3) := by decide +kernel
theorem dX0_endOfPiece_44 : decode cX0_endOfPiece 44 = .ok (.aload_n 1, 1) := by decide +kernel
theorem dX0_endOfPiece_45 : decode cX0_endOfPiece 45 = .ok (.aload_n 0, 1) := by decide +kernel
theorem dX0_endOfPiece_46 : decode cX0_endOfPiece 46 = .ok (.getfield 18, 3) := by decide +kernel
theorem dX0_endOfPiece_49 : decode cX0_endOfPiece 49 = .ok (.aload_n 0, 1) := by decide +kernel
theorem dX0_endOfPiece_50 : decode cX0_endOfPiece 50 = .ok (.getfield 22, 3) := by decide +kernel
theorem dX0_endOfPiece_53 : decode cX0_endOfPiece 53 = .ok (.iload 6, 2) := by decide +kernel
theorem dX0_endOfPiece_55 : decode cX0_endOfPiece 55 = .ok (.iconst 1, 1) := by decide +kernel
theorem dX0_endOfPiece_56 : decode cX0_endOfPiece 56 = .ok (.isub, 1) := by decide +kernel
theorem dX0_endOfPiece_57 : decode cX0_endOfPiece 57 = .ok (.invokevirtual 40, 3) := by decide +kernel
theorem dX0_endOfPiece_60 : decode cX0_endOfPiece 60 = .ok (.aload_n 0, 1) := by decide +kernel
theorem dX0_endOfPiece_61 : decode cX0_endOfPiece 61 = .ok (.getfield 9, 3) := by decide +kernel
theorem dX0_endOfPiece_64 : decode cX0_endOfPiece 64 = .ok (.iload 6, 2) := by decide +kernel
theorem dX0_endOfPiece_66 : decode cX0_endOfPiece 66 = .ok (.iconst 1, 1) := by decide +kernel
theorem dX0_endOfPiece_67 : decode cX0_endOfPiece 67 = .ok (.isub, 1) := by decide +kernel
theorem dX0_endOfPiece_68 : decode cX0_endOfPiece 68 = .ok (.iaload, 1) := by decide +kernel
theorem dX0_endOfPiece_69 : decode cX0_endOfPiece 69 = .ok (.invokevirtual 71, 3) := by decide +kernel
theorem dX0_endOfPiece_72 : decode cX0_endOfPiece 72 = .ok (.ifCond .eq 6, 3) := by decide +kernel
theorem dX0_endOfPiece_75 : decode cX0_endOfPiece 75 = .ok (.iload 6, 2) := by decide +kernel
theorem dX0_endOfPiece_77 : decode cX0_endOfPiece 77 = .ok (.ireturn, 1) := by decide +kernel
theorem dX0_endOfPiece_78 : decode cX0_endOfPiece 78 = .ok (.aload_n 1, 1) := by decide +kernel
theorem dX0_endOfPiece_79 : decode cX0_endOfPiece 79 = .ok (.aload_n 0, 1) := by decide +kernel
theorem dX0_endOfPiece_80 : decode cX0_endOfPiece 80 = .ok (.getfield 9, 3) := by decide +kernel
theorem dX0_endOfPiece_83 : decode cX0_endOfPiece 83 = .ok (.iload 6, 2) := by decide +kernel
theorem dX0_endOfPiece_85 : decode cX0_endOfPiece 85 = .ok (.iconst 1, 1) := by decide +kernel
theorem dX0_endOfPiece_86 : decode cX0_endOfPiece 86 = .ok (.isub, 1) := by decide +kernel
theorem dX0_endOfPiece_87 : decode cX0_endOfPiece 87 = .ok (.iaload, 1) := by decide +kernel
theorem dX0_endOfPiece_88 : decode cX0_endOfPiece 88 = .ok (.invokevirtual 75, 3) := by decide +kernel
theorem dX0_endOfPiece_91 : decode cX0_endOfPiece 91 = .ok (.ifCond .eq 7, 3) := by decide +kernel
theorem dX0_endOfPiece_94 : decode cX0_endOfPiece 94 = .ok (.iload 6, 2) := by decide +kernel
theorem dX0_endOfPiece_96 : decode cX0_endOfPiece 96 = .ok (.istore 5, 2) := by decide +kernel
theorem dX0_endOfPiece_98 : decode cX0_endOfPiece 98 = .ok (.iinc 6 1, 3) := by decide +kernel
theorem dX0_endOfPiece_101 : decode cX0_endOfPiece 101 = .ok (.goto (-64), 3) := by decide +kernel
theorem dX0_endOfPiece_104 : decode cX0_endOfPiece 104 = .ok (.iload 4, 2) := by decide +kernel
theorem dX0_endOfPiece_106 : decode cX0_endOfPiece 106 = .ok (.iload_n 3, 1) := by decide +kernel
theorem dX0_endOfPiece_107 : decode cX0_endOfPiece 107 = .ok (.if_icmp .ne 8, 3) := by decide +kernel
theorem dX0_endOfPiece_110 : decode cX0_endOfPiece 110 = .ok (.iload 5, 2) := by decide +kernel
theorem dX0_endOfPiece_112 : decode cX0_endOfPiece 112 = .ok (.goto 5, 3) := by decide +kernel
theorem dX0_endOfPiece_115 : decode cX0_endOfPiece 115 = .ok (.iload 4, 2) := by decide +kernel
theorem dX0_endOfPiece_117 : decode cX0_endOfPiece 117 = .ok (.ireturn, 1) := by decide +kernel
theorem dX1_init_0 : decode cX1_init 0 = .ok (.aload_n 0, 1) := by decide +kernel
theorem dX1_init_1 : decode cX1_init 1 = .ok (.invokespecial 3, 3) := by decide +kernel
theorem dX1_init_4 : decode cX1_init 4 = .ok (.aload_n 0, 1) := by decide +kernel
theorem dX1_init_5 : decode cX1_init 5 = .ok (.sipush 8192, 3) := by decide +kernel
theorem dX1_init_8 : decode cX1_init 8 = .ok (.newarray .int, 2) := by decide +kernel
theorem dX1_init_10 : decode cX1_init 10 = .ok (.putfield 9, 3) := by decide +kernel
theorem dX1_init_13 : decode cX1_init 13 = .ok (.aload_n 0, 1) := by decide +kernel
theorem dX1_init_14 : decode cX1_init 14 = .ok (.sipush 8192, 3) := by decide +kernel
theorem dX1_init_17 : decode cX1_init 17 = .ok (.newarray .int, 2) := by decide +kernel
theorem dX1_init_19 : decode cX1_init 19 = .ok (.putfield 15, 3) := by decide +kernel
theorem dX1_init_22 : decode cX1_init 22 = .ok (.aload_n 0, 1) := by decide +kernel
theorem dX1_init_23 : decode cX1_init 23 = .ok (.aload_n 1, 1) := by decide +kernel
theorem dX1_init_24 : decode cX1_init 24 = .ok (.putfield 18, 3) := by decide +kernel
theorem dX1_init_27 : decode cX1_init 27 = .ok (.return_, 1) := by decide +kernel
theorem dX1_clear_0 : decode cX1_clear 0 = .ok (.aload_n 0, 1) := by decide +kernel
theorem dX1_clear_1 : decode cX1_clear 1 = .ok (.getfield 15, 3) := by decide +kernel
theorem dX1_clear_4 : decode cX1_clear 4 = .ok (.iconst 0, 1) := by decide +kernel
theorem dX1_clear_5 : decode cX1_clear 5 = .ok (.invokestatic 22, 3) := by decide +kernel
theorem dX1_clear_8 : decode cX1_clear 8 = .ok (.aload_n 0, 1) := by decide +kernel
theorem dX1_clear_9 : decode cX1_clear 9 = .ok (.iconst 0, 1) := by decide +kernel
theorem dX1_clear_10 : decode cX1_clear 10 = .ok (.putfield 28, 3) := by decide +kernel
theorem dX1_clear_13 : decode cX1_clear 13 = .ok (.return_, 1) := by decide +kernel
theorem dX1_addPieces_0 : decode cX1_addPieces 0 = .ok (.iconst 0, 1) := by decide +kernel
theorem dX1_addPieces_1 : decode cX1_addPieces 1 = .ok (.istore_n 2, 1) := by decide +kernel
theorem dX1_addPieces_2 : decode cX1_addPieces 2 = .ok (.iconst 0, 1) := by decide +kernel
theorem dX1_addPieces_3 : decode cX1_addPieces 3 = .ok (.istore_n 3, 1) := by decide +kernel
theorem dX1_addPieces_4 : decode cX1_addPieces 4 = .ok (.iload_n 3, 1) := by decide +kernel
theorem dX1_addPieces_5 : decode cX1_addPieces 5 = .ok (.aload_n 1, 1) := by decide +kernel
theorem dX1_addPieces_6 : decode cX1_addPieces 6 = .ok (.getfield 32, 3) := by decide +kernel
theorem dX1_addPieces_9 : decode cX1_addPieces 9 = .ok (.if_icmp .ge 34, 3) := by decide +kernel
theorem dX1_addPieces_12 : decode cX1_addPieces 12 = .ok (.aload_n 0, 1) := by decide +kernel
theorem dX1_addPieces_13 : decode cX1_addPieces 13 = .ok (.aload_n 1, 1) := by decide +kernel
theorem dX1_addPieces_14 : decode cX1_addPieces 14 = .ok (.iload_n 3, 1) := by decide +kernel
theorem dX1_addPieces_15 : decode cX1_addPieces 15 = .ok (.invokevirtual 37, 3) := by decide +kernel
theorem dX1_addPieces_18 : decode cX1_addPieces 18 = .ok (.aload_n 1, 1) := by decide +kernel
theorem dX1_addPieces_19 : decode cX1_addPieces 19 = .ok (.iload_n 3, 1) := by decide +kernel
theorem dX1_addPieces_20 : decode cX1_addPieces 20 = .ok (.invokevirtual 41, 3) := by decide +kernel
theorem dX1_addPieces_23 : decode cX1_addPieces 23 = .ok (.invokevirtual 44, 3) := by decide +kernel
theorem dX1_addPieces_26 : decode cX1_addPieces 26 = .ok (.ifCond .eq 11, 3) := by decide +kernel
theorem dX1_addPieces_29 : decode cX1_addPieces 29 = .ok (.iload_n 2, 1) := by decide +kernel
theorem dX1_addPieces_30 : decode cX1_addPieces 30 = .ok (.aload_n 1, 1) := by decide +kernel
theorem dX1_addPieces_31 : decode cX1_addPieces 31 = .ok (.iload_n 3, 1) := by decide +kernel
theorem dX1_addPieces_32 : decode cX1_addPieces 32 = .ok (.invokevirtual 41, 3) := by decide +kernel
theorem dX1_addPieces_35 : decode cX1_addPieces 35 = .ok (.iadd, 1) := by decide +kernel
theorem dX1_addPieces_36 : decode cX1_addPieces 36 = .ok (.istore_n 2, 1) := by decide +kernel
theorem dX1_addPieces_37 : decode cX1_addPieces 37 = .ok (.iinc 3 1, 3) := by decide +kernel
theorem dX1_addPieces_40 : decode cX1_addPieces 40 = .ok (.goto (-36), 3) := by decide +kernel
theorem dX1_addPieces_43 : decode cX1_addPieces 43 = .ok (.iload_n 2, 1) := by decide +kernel
theorem dX1_addPieces_44 : decode cX1_addPieces 44 = .ok (.ireturn, 1) := by decide +kernel
theorem dX1_addPiece_0 : decode cX1_addPiece 0 = .ok (.aload_n 0, 1) := by decide +kernel
theorem dX1_addPiece_1 : decode cX1_addPiece 1 = .ok (.iload_n 1, 1) := by decide +kernel
theorem dX1_addPiece_2 : decode cX1_addPiece 2 = .ok (.iload_n 2, 1) := by decide +kernel
theorem dX1_addPiece_3 : decode cX1_addPiece 3 = .ok (.invokevirtual 48, 3) := by decide +kernel
theorem dX1_addPiece_6 : decode cX1_addPiece 6 = .ok (.istore_n 3, 1) := by decide +kernel
theorem dX1_addPiece_7 : decode cX1_addPiece 7 = .ok (.iconst 0, 1) := by decide +kernel
theorem dX1_addPiece_8 : decode cX1_addPiece 8 = .ok (.istore 4, 2) := by decide +kernel
theorem dX1_addPiece_10 : decode cX1_addPiece 10 = .ok (.iload 4, 2) := by decide +kernel
theorem dX1_addPiece_12 : decode cX1_addPiece 12 = .ok (.sipush 8192, 3) := by decide +kernel
theorem dX1_addPiece_15 : decode cX1_addPiece 15 = .ok (.if_icmp .ge 99, 3) := by decide +kernel
theorem dX1_addPiece_18 : decode cX1_addPiece 18 = .ok (.iload_n 3, 1) := by decide +kernel
theorem dX1_addPiece_19 : decode cX1_addPiece 19 = .ok (.iload 4, 2) := by decide +kernel
theorem dX1_addPiece_21 : decode cX1_addPiece 21 = .ok (.iadd, 1) := by decide +kernel
theorem dX1_addPiece_22 : decode cX1_addPiece 22 = .ok (.sipush 8191, 3) := by decide +kernel
theorem dX1_addPiece_25 : decode cX1_addPiece 25 = .ok (.iand, 1) := by decide +kernel
theorem dX1_addPiece_26 : decode cX1_addPiece 26 = .ok (.istore 5, 2) := by decide +kernel
theorem dX1_addPiece_28 : decode cX1_addPiece 28 = .ok (.aload_n 0, 1) := by decide +kernel
theorem dX1_addPiece_29 : decode cX1_addPiece 29 = .ok (.getfield 15, 3) := by decide +kernel
theorem dX1_addPiece_32 : decode cX1_addPiece 32 = .ok (.iload 5, 2) := by decide +kernel
theorem dX1_addPiece_34 : decode cX1_addPiece 34 = .ok (.iaload, 1) := by decide +kernel
theorem dX1_addPiece_35 : decode cX1_addPiece 35 = .ok (.ifCond .ne 31, 3) := by decide +kernel
theorem dX1_addPiece_38 : decode cX1_addPiece 38 = .ok (.aload_n 0, 1) := by decide +kernel
theorem dX1_addPiece_39 : decode cX1_addPiece 39 = .ok (.getfield 9, 3) := by decide +kernel
theorem dX1_addPiece_42 : decode cX1_addPiece 42 = .ok (.iload 5, 2) := by decide +kernel
theorem dX1_addPiece_44 : decode cX1_addPiece 44 = .ok (.iload_n 1, 1) := by decide +kernel
theorem dX1_addPiece_45 : decode cX1_addPiece 45 = .ok (.iastore, 1) := by decide +kernel
theorem dX1_addPiece_46 : decode cX1_addPiece 46 = .ok (.aload_n 0, 1) := by decide +kernel
theorem dX1_addPiece_47 : decode cX1_addPiece 47 = .ok (.getfield 15, 3) := by decide +kernel
theorem dX1_addPiece_50 : decode cX1_addPiece 50 = .ok (.iload 5, 2) := by decide +kernel
theorem dX1_addPiece_52 : decode cX1_addPiece 52 = .ok (.iload_n 2, 1) := by decide +kernel
theorem dX1_addPiece_53 : decode cX1_addPiece 53 = .ok (.iastore, 1) := by decide +kernel
theorem dX1_addPiece_54 : decode cX1_addPiece 54 = .ok (.aload_n 0, 1) := by decide +kernel
theorem dX1_addPiece_55 : decode cX1_addPiece 55 = .ok (.dup, 1) := by decide +kernel
theorem dX1_addPiece_56 : decode cX1_addPiece 56 = .ok (.getfield 28, 3) := by decide +kernel
theorem dX1_addPiece_59 : decode cX1_addPiece 59 = .ok (.iconst 1, 1) := by decide +kernel
theorem dX1_addPiece_60 : decode cX1_addPiece 60 = .ok (.iadd, 1) := by decide +kernel
theorem dX1_addPiece_61 : decode cX1_addPiece 61 = .ok (.putfield 28, 3) := by decide +kernel
theorem dX1_addPiece_64 : decode cX1_addPiece 64 = .ok (.iconst 1, 1) := by decide +kernel
theorem dX1_addPiece_65 : decode cX1_addPiece 65 = .ok (.ireturn, 1) := by decide +kernel
theorem dX1_addPiece_66 : decode cX1_addPiece 66 = .ok (.aload_n 0, 1) := by decide +kernel
theorem dX1_addPiece_67 : decode cX1_addPiece 67 = .ok (.getfield 15, 3) := by decide +kernel
theorem dX1_addPiece_70 : decode cX1_addPiece 70 = .ok (.iload 5, 2) := by decide +kernel
theorem dX1_addPiece_72 : decode cX1_addPiece 72 = .ok (.iaload, 1) := by decide +kernel
theorem dX1_addPiece_73 : decode cX1_addPiece 73 = .ok (.iload_n 2, 1) := by decide +kernel
theorem dX1_addPiece_74 : decode cX1_addPiece 74 = .ok (.if_icmp .ne 34, 3) := by decide +kernel
theorem dX1_addPiece_77 : decode cX1_addPiece 77 = .ok (.aload_n 0, 1) := by decide +kernel
theorem dX1_addPiece_78 : decode cX1_addPiece 78 = .ok (.getfield 18, 3) := by decide +kernel
theorem dX1_addPiece_81 : decode cX1_addPiece 81 = .ok (.getfield 52, 3) := by decide +kernel
theorem dX1_addPiece_84 : decode cX1_addPiece 84 = .ok (.aload_n 0, 1) := by decide +kernel
theorem dX1_addPiece_85 : decode cX1_addPiece 85 = .ok (.getfield 9, 3) := by decide +kernel
theorem dX1_addPiece_88 : decode cX1_addPiece 88 = .ok (.iload 5, 2) := by decide +kernel
theorem dX1_addPiece_90 : decode cX1_addPiece 90 = .ok (.iaload, 1) := by decide +kernel
theorem dX1_addPiece_91 : decode cX1_addPiece 91 = .ok (.aload_n 0, 1) := by decide +kernel
theorem dX1_addPiece_92 : decode cX1_addPiece 92 = .ok (.getfield 18, 3) := by decide +kernel
theorem dX1_addPiece_95 : decode cX1_addPiece 95 = .ok (.getfield 52, 3) := by decide +kernel
theorem dX1_addPiece_98 : decode cX1_addPiece 98 = .ok (.iload_n 1, 1) := by decide +kernel
theorem dX1_addPiece_99 : decode cX1_addPiece 99 = .ok (.iload_n 2, 1) := by decide +kernel
theorem dX1_addPiece_100 : decode cX1_addPiece 100 = .ok (.invokestatic 58, 3) := by decide +kernel
theorem dX1_addPiece_103 : decode cX1_addPiece 103 = .ok (.ifCond .eq 5, 3) := by decide +kernel
theorem dX1_addPiece_106 : decode cX1_addPiece 106 = .ok (.iconst 0, 1) := by decide +kernel
theorem dX1_addPiece_107 : decode cX1_addPiece 107 = .ok (.ireturn, 1) := by decide +kernel
theorem dX1_addPiece_108 : decode cX1_addPiece 108 = .ok (.iinc 4 1, 3) := by decide +kernel
theorem dX1_addPiece_111 : decode cX1_addPiece 111 = .ok (.goto (-101), 3) := by decide +kernel
theorem dX1_addPiece_114 : decode cX1_addPiece 114 = .ok (.iconst 0, 1) := by decide +kernel
theorem dX1_addPiece_115 : decode cX1_addPiece 115 = .ok (.ireturn, 1) := by decide +kernel
theorem dX1_homeOf_0 : decode cX1_homeOf 0 = .ok (.iload_n 2, 1) := by decide +kernel
theorem dX1_homeOf_1 : decode cX1_homeOf 1 = .ok (.istore_n 3, 1) := by decide +kernel
theorem dX1_homeOf_2 : decode cX1_homeOf 2 = .ok (.iconst 0, 1) := by decide +kernel
theorem dX1_homeOf_3 : decode cX1_homeOf 3 = .ok (.istore 4, 2) := by decide +kernel
theorem dX1_homeOf_5 : decode cX1_homeOf 5 = .ok (.iload 4, 2) := by decide +kernel
theorem dX1_homeOf_7 : decode cX1_homeOf 7 = .ok (.iload_n 2, 1) := by decide +kernel
theorem dX1_homeOf_8 : decode cX1_homeOf 8 = .ok (.if_icmp .ge 27, 3) := by decide +kernel
theorem dX1_homeOf_11 : decode cX1_homeOf 11 = .ok (.iload_n 3, 1) := by decide +kernel
theorem dX1_homeOf_12 : decode cX1_homeOf 12 = .ok (.bipush 31, 2) := by decide +kernel
theorem dX1_homeOf_14 : decode cX1_homeOf 14 = .ok (.imul, 1) := by decide +kernel
theorem dX1_homeOf_15 : decode cX1_homeOf 15 = .ok (.aload_n 0, 1) := by decide +kernel
theorem dX1_homeOf_16 : decode cX1_homeOf 16 = .ok (.getfield 18, 3) := by decide +kernel
theorem dX1_homeOf_19 : decode cX1_homeOf 19 = .ok (.getfield 52, 3) := by decide +kernel
theorem dX1_homeOf_22 : decode cX1_homeOf 22 = .ok (.iload_n 1, 1) := by decide +kernel
theorem dX1_homeOf_23 : decode cX1_homeOf 23 = .ok (.iload 4, 2) := by decide +kernel
theorem dX1_homeOf_25 : decode cX1_homeOf 25 = .ok (.iadd, 1) := by decide +kernel
theorem dX1_homeOf_26 : decode cX1_homeOf 26 = .ok (.baload, 1) := by decide +kernel
theorem dX1_homeOf_27 : decode cX1_homeOf 27 = .ok (.iadd, 1) := by decide +kernel
theorem dX1_homeOf_28 : decode cX1_homeOf 28 = .ok (.istore_n 3, 1) := by decide +kernel
theorem dX1_homeOf_29 : decode cX1_homeOf 29 = .ok (.iinc 4 1, 3) := by decide +kernel
theorem dX1_homeOf_32 : decode cX1_homeOf 32 = .ok (.goto (-27), 3) := by decide +kernel
theorem dX1_homeOf_35 : decode cX1_homeOf 35 = .ok (.iload_n 3, 1) := by decide +kernel
theorem dX1_homeOf_36 : decode cX1_homeOf 36 = .ok (.invokestatic 62, 3) := by decide +kernel
theorem dX1_homeOf_39 : decode cX1_homeOf 39 = .ok (.ireturn, 1) := by decide +kernel
theorem dX2_init_0 : decode cX2_init 0 = .ok (.aload_n 0, 1) := by decide +kernel
theorem dX2_init_1 : decode cX2_init 1 = .ok (.invokespecial 3, 3) := by decide +kernel
theorem dX2_init_4 : decode cX2_init 4 = .ok (.aload_n 0, 1) := by decide +kernel
theorem dX2_init_5 : decode cX2_init 5 = .ok (.sipush 4800, 3) := by decide +kernel
theorem dX2_init_8 : decode cX2_init 8 = .ok (.newarray .byte, 2) := by decide +kernel
theorem dX2_init_10 : decode cX2_init 10 = .ok (.putfield 9, 3) := by decide +kernel
theorem dX2_init_13 : decode cX2_init 13 = .ok (.aload_n 0, 1) := by decide +kernel
theorem dX2_init_14 : decode cX2_init 14 = .ok (.bipush 8, 2) := by decide +kernel
theorem dX2_init_16 : decode cX2_init 16 = .ok (.newarray .int, 2) := by decide +kernel
theorem dX2_init_18 : decode cX2_init 18 = .ok (.putfield 15, 3) := by decide +kernel
theorem dX2_init_21 : decode cX2_init 21 = .ok (.return_, 1) := by decide +kernel
theorem dX2_startOf_0 : decode cX2_startOf 0 = .ok (.iload_n 1, 1) := by decide +kernel
theorem dX2_startOf_1 : decode cX2_startOf 1 = .ok (.sipush 600, 3) := by decide +kernel
theorem dX2_startOf_4 : decode cX2_startOf 4 = .ok (.imul, 1) := by decide +kernel
theorem dX2_startOf_5 : decode cX2_startOf 5 = .ok (.ireturn, 1) := by decide +kernel
theorem dX2_byteAt_0 : decode cX2_byteAt 0 = .ok (.aload_n 0, 1) := by decide +kernel
theorem dX2_byteAt_1 : decode cX2_byteAt 1 = .ok (.getfield 9, 3) := by decide +kernel
theorem dX2_byteAt_4 : decode cX2_byteAt 4 = .ok (.aload_n 0, 1) := by decide +kernel
theorem dX2_byteAt_5 : decode cX2_byteAt 5 = .ok (.iload_n 1, 1) := by decide +kernel
theorem dX2_byteAt_6 : decode cX2_byteAt 6 = .ok (.invokevirtual 19, 3) := by decide +kernel
theorem dX2_byteAt_9 : decode cX2_byteAt 9 = .ok (.iload_n 2, 1) := by decide +kernel
theorem dX2_byteAt_10 : decode cX2_byteAt 10 = .ok (.iadd, 1) := by decide +kernel
theorem dX2_byteAt_11 : decode cX2_byteAt 11 = .ok (.baload, 1) := by decide +kernel
theorem dX2_byteAt_12 : decode cX2_byteAt 12 = .ok (.sipush 255, 3) := by decide +kernel
theorem dX2_byteAt_15 : decode cX2_byteAt 15 = .ok (.iand, 1) := by decide +kernel
theorem dX2_byteAt_16 : decode cX2_byteAt 16 = .ok (.ireturn, 1) := by decide +kernel
theorem dX2_addByte_0 : decode cX2_addByte 0 = .ok (.aload_n 0, 1) := by decide +kernel
theorem dX2_addByte_1 : decode cX2_addByte 1 = .ok (.getfield 9, 3) := by decide +kernel
theorem dX2_addByte_4 : decode cX2_addByte 4 = .ok (.aload_n 0, 1) := by decide +kernel
theorem dX2_addByte_5 : decode cX2_addByte 5 = .ok (.iload_n 1, 1) := by decide +kernel
theorem dX2_addByte_6 : decode cX2_addByte 6 = .ok (.invokevirtual 19, 3) := by decide +kernel
theorem dX2_addByte_9 : decode cX2_addByte 9 = .ok (.aload_n 0, 1) := by decide +kernel
theorem dX2_addByte_10 : decode cX2_addByte 10 = .ok (.getfield 15, 3) := by decide +kernel
theorem dX2_addByte_13 : decode cX2_addByte 13 = .ok (.iload_n 1, 1) := by decide +kernel
theorem dX2_addByte_14 : decode cX2_addByte 14 = .ok (.iaload, 1) := by decide +kernel
theorem dX2_addByte_15 : decode cX2_addByte 15 = .ok (.iadd, 1) := by decide +kernel
theorem dX2_addByte_16 : decode cX2_addByte 16 = .ok (.iload_n 2, 1) := by decide +kernel
theorem dX2_addByte_17 : decode cX2_addByte 17 = .ok (.i2b, 1) := by decide +kernel
theorem dX2_addByte_18 : decode cX2_addByte 18 = .ok (.bastore, 1) := by decide +kernel
theorem dX2_addByte_19 : decode cX2_addByte 19 = .ok (.aload_n 0, 1) := by decide +kernel
theorem dX2_addByte_20 : decode cX2_addByte 20 = .ok (.getfield 15, 3) := by decide +kernel
theorem dX2_addByte_23 : decode cX2_addByte 23 = .ok (.iload_n 1, 1) := by decide +kernel
theorem dX2_addByte_24 : decode cX2_addByte 24 = .ok (.dup2, 1) := by decide +kernel
theorem dX2_addByte_25 : decode cX2_addByte 25 = .ok (.iaload, 1) := by decide +kernel
theorem dX2_addByte_26 : decode cX2_addByte 26 = .ok (.iconst 1, 1) := by decide +kernel
theorem dX2_addByte_27 : decode cX2_addByte 27 = .ok (.iadd, 1) := by decide +kernel
theorem dX2_addByte_28 : decode cX2_addByte 28 = .ok (.iastore, 1) := by decide +kernel
theorem dX2_addByte_29 : decode cX2_addByte 29 = .ok (.return_, 1) := by decide +kernel
theorem dX2_addBytes_0 : decode cX2_addBytes 0 = .ok (.aload_n 2, 1) := by decide +kernel
theorem dX2_addBytes_1 : decode cX2_addBytes 1 = .ok (.iload_n 3, 1) := by decide +kernel
theorem dX2_addBytes_2 : decode cX2_addBytes 2 = .ok (.aload_n 0, 1) := by decide +kernel
theorem dX2_addBytes_3 : decode cX2_addBytes 3 = .ok (.getfield 9, 3) := by decide +kernel
theorem dX2_addBytes_6 : decode cX2_addBytes 6 = .ok (.aload_n 0, 1) := by decide +kernel
theorem dX2_addBytes_7 : decode cX2_addBytes 7 = .ok (.iload_n 1, 1) := by decide +kernel
theorem dX2_addBytes_8 : decode cX2_addBytes 8 = .ok (.invokevirtual 19, 3) := by decide +kernel
theorem dX2_addBytes_11 : decode cX2_addBytes 11 = .ok (.aload_n 0, 1) := by decide +kernel
theorem dX2_addBytes_12 : decode cX2_addBytes 12 = .ok (.getfield 15, 3) := by decide +kernel
theorem dX2_addBytes_15 : decode cX2_addBytes 15 = .ok (.iload_n 1, 1) := by decide +kernel
theorem dX2_addBytes_16 : decode cX2_addBytes 16 = .ok (.iaload, 1) := by decide +kernel
theorem dX2_addBytes_17 : decode cX2_addBytes 17 = .ok (.iadd, 1) := by decide +kernel
theorem dX2_addBytes_18 : decode cX2_addBytes 18 = .ok (.iload 4, 2) := by decide +kernel
theorem dX2_addBytes_20 : decode cX2_addBytes 20 = .ok (.invokestatic 23, 3) := by decide +kernel
theorem dX2_addBytes_23 : decode cX2_addBytes 23 = .ok (.aload_n 0, 1) := by decide +kernel
theorem dX2_addBytes_24 : decode cX2_addBytes 24 = .ok (.getfield 15, 3) := by decide +kernel
theorem dX2_addBytes_27 : decode cX2_addBytes 27 = .ok (.iload_n 1, 1) := by decide +kernel
theorem dX2_addBytes_28 : decode cX2_addBytes 28 = .ok (.dup2, 1) := by decide +kernel
theorem dX2_addBytes_29 : decode cX2_addBytes 29 = .ok (.iaload, 1) := by decide +kernel
theorem dX2_addBytes_30 : decode cX2_addBytes 30 = .ok (.iload 4, 2) := by decide +kernel
theorem dX2_addBytes_32 : decode cX2_addBytes 32 = .ok (.iadd, 1) := by decide +kernel
theorem dX2_addBytes_33 : decode cX2_addBytes 33 = .ok (.iastore, 1) := by decide +kernel
theorem dX2_addBytes_34 : decode cX2_addBytes 34 = .ok (.return_, 1) := by decide +kernel
theorem dX2_duplicate_0 : decode cX2_duplicate 0 = .ok (.aload_n 0, 1) := by decide +kernel
theorem dX2_duplicate_1 : decode cX2_duplicate 1 = .ok (.getfield 9, 3) := by decide +kernel
theorem dX2_duplicate_4 : decode cX2_duplicate 4 = .ok (.aload_n 0, 1) := by decide +kernel
theorem dX2_duplicate_5 : decode cX2_duplicate 5 = .ok (.iload_n 1, 1) := by decide +kernel
theorem dX2_duplicate_6 : decode cX2_duplicate 6 = .ok (.invokevirtual 19, 3) := by decide +kernel
theorem dX2_duplicate_9 : decode cX2_duplicate 9 = .ok (.aload_n 0, 1) := by decide +kernel
theorem dX2_duplicate_10 : decode cX2_duplicate 10 = .ok (.getfield 9, 3) := by decide +kernel
theorem dX2_duplicate_13 : decode cX2_duplicate 13 = .ok (.aload_n 0, 1) := by decide +kernel
theorem dX2_duplicate_14 : decode cX2_duplicate 14 = .ok (.iload_n 2, 1) := by decide +kernel
theorem dX2_duplicate_15 : decode cX2_duplicate 15 = .ok (.invokevirtual 19, 3) := by decide +kernel
theorem dX2_duplicate_18 : decode cX2_duplicate 18 = .ok (.aload_n 0, 1) := by decide +kernel
theorem dX2_duplicate_19 : decode cX2_duplicate 19 = .ok (.getfield 15, 3) := by decide +kernel
theorem dX2_duplicate_22 : decode cX2_duplicate 22 = .ok (.iload_n 1, 1) := by decide +kernel
theorem dX2_duplicate_23 : decode cX2_duplicate 23 = .ok (.iaload, 1) := by decide +kernel
theorem dX2_duplicate_24 : decode cX2_duplicate 24 = .ok (.invokestatic 23, 3) := by decide +kernel
theorem dX2_duplicate_27 : decode cX2_duplicate 27 = .ok (.aload_n 0, 1) := by decide +kernel
theorem dX2_duplicate_28 : decode cX2_duplicate 28 = .ok (.getfield 15, 3) := by decide +kernel
theorem dX2_duplicate_31 : decode cX2_duplicate 31 = .ok (.iload_n 2, 1) := by decide +kernel
theorem dX2_duplicate_32 : decode cX2_duplicate 32 = .ok (.aload_n 0, 1) := by decide +kernel
theorem dX2_duplicate_33 : decode cX2_duplicate 33 = .ok (.getfield 15, 3) := by decide +kernel
theorem dX2_duplicate_36 : decode cX2_duplicate 36 = .ok (.iload_n 1, 1) := by decide +kernel
theorem dX2_duplicate_37 : decode cX2_duplicate 37 = .ok (.iaload, 1) := by decide +kernel
theorem dX2_duplicate_38 : decode cX2_duplicate 38 = .ok (.iastore, 1) := by decide +kernel
theorem dX2_duplicate_39 : decode cX2_duplicate 39 = .ok (.return_, 1) := by decide +kernel
theorem dX2_replace_0 : decode cX2_replace 0 = .ok (.aload_n 0, 1) := by decide +kernel
theorem dX2_replace_1 : decode cX2_replace 1 = .ok (.iload_n 1, 1) := by decide +kernel
theorem dX2_replace_2 : decode cX2_replace 2 = .ok (.invokevirtual 19, 3) := by decide +kernel
theorem dX2_replace_5 : decode cX2_replace 5 = .ok (.iload_n 2, 1) := by decide +kernel
theorem dX2_replace_6 : decode cX2_replace 6 = .ok (.iadd, 1) := by decide +kernel
theorem dX2_replace_7 : decode cX2_replace 7 = .ok (.istore 5, 2) := by decide +kernel
theorem dX2_replace_9 : decode cX2_replace 9 = .ok (.aload_n 0, 1) := by decide +kernel
theorem dX2_replace_10 : decode cX2_replace 10 = .ok (.getfield 15, 3) := by decide +kernel
theorem dX2_replace_13 : decode cX2_replace 13 = .ok (.iload_n 1, 1) := by decide +kernel
theorem dX2_replace_14 : decode cX2_replace 14 = .ok (.iaload, 1) := by decide +kernel
theorem dX2_replace_15 : decode cX2_replace 15 = .ok (.iload_n 2, 1) := by decide +kernel
theorem dX2_replace_16 : decode cX2_replace 16 = .ok (.isub, 1) := by decide +kernel
theorem dX2_replace_17 : decode cX2_replace 17 = .ok (.iload_n 3, 1) := by decide +kernel
theorem dX2_replace_18 : decode cX2_replace 18 = .ok (.isub, 1) := by decide +kernel
theorem dX2_replace_19 : decode cX2_replace 19 = .ok (.istore 6, 2) := by decide +kernel
theorem dX2_replace_21 : decode cX2_replace 21 = .ok (.aload_n 0, 1) := by decide +kernel
theorem dX2_replace_22 : decode cX2_replace 22 = .ok (.getfield 9, 3) := by decide +kernel
theorem dX2_replace_25 : decode cX2_replace 25 = .ok (.iload 5, 2) := by decide +kernel
theorem dX2_replace_27 : decode cX2_replace 27 = .ok (.iload_n 3, 1) := by decide +kernel
theorem dX2_replace_28 : decode cX2_replace 28 = .ok (.iadd, 1) := by decide +kernel
theorem dX2_replace_29 : decode cX2_replace 29 = .ok (.aload_n 0, 1) := by decide +kernel
theorem dX2_replace_30 : decode cX2_replace 30 = .ok (.getfield 9, 3) := by decide +kernel
theorem dX2_replace_33 : decode cX2_replace 33 = .ok (.iload 5, 2) := by decide +kernel
theorem dX2_replace_35 : decode cX2_replace 35 = .ok (.aload 4, 2) := by decide +kernel
theorem dX2_replace_37 : decode cX2_replace 37 = .ok (.getfield 29, 3) := by decide +kernel
theorem dX2_replace_40 : decode cX2_replace 40 = .ok (.iadd, 1) := by decide +kernel
theorem dX2_replace_41 : decode cX2_replace 41 = .ok (.iload 6, 2) := by decide +kernel
theorem dX2_replace_43 : decode cX2_replace 43 = .ok (.invokestatic 23, 3) := by decide +kernel
theorem dX2_replace_46 : decode cX2_replace 46 = .ok (.aload 4, 2) := by decide +kernel
theorem dX2_replace_48 : decode cX2_replace 48 = .ok (.getfield 35, 3) := by decide +kernel
theorem dX2_replace_51 : decode cX2_replace 51 = .ok (.iconst 0, 1) := by decide +kernel
theorem dX2_replace_52 : decode cX2_replace 52 = .ok (.aload_n 0, 1) := by decide +kernel
theorem dX2_replace_53 : decode cX2_replace 53 = .ok (.getfield 9, 3) := by decide +kernel
theorem dX2_replace_56 : decode cX2_replace 56 = .ok (.iload 5, 2) := by decide +kernel
theorem dX2_replace_58 : decode cX2_replace 58 = .ok (.aload 4, 2) := by decide +kernel
theorem dX2_replace_60 : decode cX2_replace 60 = .ok (.getfield 29, 3) := by decide +kernel
theorem dX2_replace_63 : decode cX2_replace 63 = .ok (.invokestatic 23, 3) := by decide +kernel
theorem dX2_replace_66 : decode cX2_replace 66 = .ok (.aload_n 0, 1) := by decide +kernel
theorem dX2_replace_67 : decode cX2_replace 67 = .ok (.getfield 15, 3) := by decide +kernel
theorem dX2_replace_70 : decode cX2_replace 70 = .ok (.iload_n 1, 1) := by decide +kernel
theorem dX2_replace_71 : decode cX2_replace 71 = .ok (.dup2, 1) := by decide +kernel
theorem dX2_replace_72 : decode cX2_replace 72 = .ok (.iaload, 1) := by decide +kernel
theorem dX2_replace_73 : decode cX2_replace 73 = .ok (.aload 4, 2) := by decide +kernel
theorem dX2_replace_75 : decode cX2_replace 75 = .ok (.getfield 29, 3) := by decide +kernel
theorem dX2_replace_78 : decode cX2_replace 78 = .ok (.iload_n 3, 1) := by decide +kernel
theorem dX2_replace_79 : decode cX2_replace 79 = .ok (.isub, 1) := by decide +kernel
theorem dX2_replace_80 : decode cX2_replace 80 = .ok (.iadd, 1) := by decide +kernel
theorem dX2_replace_81 : decode cX2_replace 81 = .ok (.iastore, 1) := by decide +kernel
theorem dX2_replace_82 : decode cX2_replace 82 = .ok (.return_, 1) := by decide +kernel
theorem dX3_init_0 : decode cX3_init 0 = .ok (.aload_n 0, 1) := by decide +kernel
theorem dX3_init_1 : decode cX3_init 1 = .ok (.invokespecial 3, 3) := by decide +kernel
theorem dX3_init_4 : decode cX3_init 4 = .ok (.aload_n 0, 1) := by decide +kernel
theorem dX3_init_5 : decode cX3_init 5 = .ok (.sipush 8192, 3) := by decide +kernel
theorem dX3_init_8 : decode cX3_init 8 = .ok (.newarray .int, 2) := by decide +kernel
theorem dX3_init_10 : decode cX3_init 10 = .ok (.putfield 9, 3) := by decide +kernel
theorem dX3_init_13 : decode cX3_init 13 = .ok (.aload_n 0, 1) := by decide +kernel
theorem dX3_init_14 : decode cX3_init 14 = .ok (.sipush 8192, 3) := by decide +kernel
theorem dX3_init_17 : decode cX3_init 17 = .ok (.newarray .int, 2) := by decide +kernel
theorem dX3_init_19 : decode cX3_init 19 = .ok (.putfield 15, 3) := by decide +kernel
theorem dX3_init_22 : decode cX3_init 22 = .ok (.aload_n 0, 1) := by decide +kernel
theorem dX3_init_23 : decode cX3_init 23 = .ok (.sipush 8192, 3) := by decide +kernel
theorem dX3_init_26 : decode cX3_init 26 = .ok (.newarray .int, 2) := by decide +kernel
theorem dX3_init_28 : decode cX3_init 28 = .ok (.putfield 18, 3) := by decide +kernel
theorem dX3_init_31 : decode cX3_init 31 = .ok (.return_, 1) := by decide +kernel
theorem dX3_clear_0 : decode cX3_clear 0 = .ok (.aload_n 0, 1) := by decide +kernel
theorem dX3_clear_1 : decode cX3_clear 1 = .ok (.dup, 1) := by decide +kernel
theorem dX3_clear_2 : decode cX3_clear 2 = .ok (.getfield 21, 3) := by decide +kernel
theorem dX3_clear_5 : decode cX3_clear 5 = .ok (.iconst 1, 1) := by decide +kernel
theorem dX3_clear_6 : decode cX3_clear 6 = .ok (.iadd, 1) := by decide +kernel
theorem dX3_clear_7 : decode cX3_clear 7 = .ok (.putfield 21, 3) := by decide +kernel
theorem dX3_clear_10 : decode cX3_clear 10 = .ok (.aload_n 0, 1) := by decide +kernel
theorem dX3_clear_11 : decode cX3_clear 11 = .ok (.iconst 0, 1) := by decide +kernel
theorem dX3_clear_12 : decode cX3_clear 12 = .ok (.putfield 25, 3) := by decide +kernel
theorem dX3_clear_15 : decode cX3_clear 15 = .ok (.return_, 1) := by decide +kernel
theorem dX3_addPair_0 : decode cX3_addPair 0 = .ok (.iload_n 1, 1) := by decide +kernel
theorem dX3_addPair_1 : decode cX3_addPair 1 = .ok (.bipush 11, 2) := by decide +kernel
theorem dX3_addPair_3 : decode cX3_addPair 3 = .ok (.ishl, 1) := by decide +kernel
theorem dX3_addPair_4 : decode cX3_addPair 4 = .ok (.iload_n 2, 1) := by decide +kernel
theorem dX3_addPair_5 : decode cX3_addPair 5 = .ok (.iadd, 1) := by decide +kernel
theorem dX3_addPair_6 : decode cX3_addPair 6 = .ok (.istore_n 3, 1) := by decide +kernel
theorem dX3_addPair_7 : decode cX3_addPair 7 = .ok (.aload_n 0, 1) := by decide +kernel
theorem dX3_addPair_8 : decode cX3_addPair 8 = .ok (.iload_n 3, 1) := by decide +kernel
theorem dX3_addPair_9 : decode cX3_addPair 9 = .ok (.invokevirtual 28, 3) := by decide +kernel
theorem dX3_addPair_12 : decode cX3_addPair 12 = .ok (.istore 4, 2) := by decide +kernel
theorem dX3_addPair_14 : decode cX3_addPair 14 = .ok (.iload 4, 2) := by decide +kernel
theorem dX3_addPair_16 : decode cX3_addPair 16 = .ok (.aload_n 0, 1) := by decide +kernel
theorem dX3_addPair_17 : decode cX3_addPair 17 = .ok (.getfield 25, 3) := by decide +kernel
theorem dX3_addPair_20 : decode cX3_addPair 20 = .ok (.if_icmp .gt 20, 3) := by decide +kernel
theorem dX3_addPair_23 : decode cX3_addPair 23 = .ok (.iload 4, 2) := by decide +kernel
theorem dX3_addPair_25 : decode cX3_addPair 25 = .ok (.aload_n 0, 1) := by decide +kernel
theorem dX3_addPair_26 : decode cX3_addPair 26 = .ok (.getfield 25, 3) := by decide +kernel
theorem dX3_addPair_29 : decode cX3_addPair 29 = .ok (.if_icmp .ne 32, 3) := by decide +kernel
theorem dX3_addPair_32 : decode cX3_addPair 32 = .ok (.iload_n 3, 1) := by decide +kernel
theorem dX3_addPair_33 : decode cX3_addPair 33 = .ok (.aload_n 0, 1) := by decide +kernel
theorem dX3_addPair_34 : decode cX3_addPair 34 = .ok (.getfield 32, 3) := by decide +kernel
theorem dX3_addPair_37 : decode cX3_addPair 37 = .ok (.if_icmp .ge 24, 3) := by decide +kernel
theorem dX3_addPair_40 : decode cX3_addPair 40 = .ok (.aload_n 0, 1) := by decide +kernel
theorem dX3_addPair_41 : decode cX3_addPair 41 = .ok (.iload 4, 2) := by decide +kernel
theorem dX3_addPair_43 : decode cX3_addPair 43 = .ok (.putfield 25, 3) := by decide +kernel
theorem dX3_addPair_46 : decode cX3_addPair 46 = .ok (.aload_n 0, 1) := by decide +kernel
theorem dX3_addPair_47 : decode cX3_addPair 47 = .ok (.iload_n 3, 1) := by decide +kernel
theorem dX3_addPair_48 : decode cX3_addPair 48 = .ok (.putfield 32, 3) := by decide +kernel
theorem dX3_addPair_51 : decode cX3_addPair 51 = .ok (.aload_n 0, 1) := by decide +kernel
theorem dX3_addPair_52 : decode cX3_addPair 52 = .ok (.iload_n 1, 1) := by decide +kernel
theorem dX3_addPair_53 : decode cX3_addPair 53 = .ok (.putfield 35, 3) := by decide +kernel
theorem dX3_addPair_56 : decode cX3_addPair 56 = .ok (.aload_n 0, 1) := by decide +kernel
theorem dX3_addPair_57 : decode cX3_addPair 57 = .ok (.iload_n 2, 1) := by decide +kernel
theorem dX3_addPair_58 : decode cX3_addPair 58 = .ok (.putfield 38, 3) := by decide +kernel
theorem dX3_addPair_61 : decode cX3_addPair 61 = .ok (.return_, 1) := by decide +kernel
theorem dX3_countOnceMore_0 : decode cX3_countOnceMore 0 = .ok (.iload_n 1, 1) := by decide +kernel
theorem dX3_countOnceMore_1 : decode cX3_countOnceMore 1 = .ok (.invokestatic 41, 3) := by decide +kernel
theorem dX3_countOnceMore_4 : decode cX3_countOnceMore 4 = .ok (.istore_n 2, 1) := by decide +kernel
theorem dX3_countOnceMore_5 : decode cX3_countOnceMore 5 = .ok (.iconst 0, 1) := by decide +kernel
theorem dX3_countOnceMore_6 : decode cX3_countOnceMore 6 = .ok (.istore_n 3, 1) := by decide +kernel
theorem dX3_countOnceMore_7 : decode cX3_countOnceMore 7 = .ok (.iload_n 3, 1) := by decide +kernel
theorem dX3_countOnceMore_8 : decode cX3_countOnceMore 8 = .ok (.sipush 8192, 3) := by decide +kernel
theorem dX3_countOnceMore_11 : decode cX3_countOnceMore 11 = .ok (.if_icmp .ge 89, 3) := by decide +kernel
theorem dX3_countOnceMore_14 : decode cX3_countOnceMore 14 = .ok (.iload_n 2, 1) := by decide +kernel
theorem dX3_countOnceMore_15 : decode cX3_countOnceMore 15 = .ok (.iload_n 3, 1) := by decide +kernel
theorem dX3_countOnceMore_16 : decode cX3_countOnceMore 16 = .ok (.iadd, 1) := by decide +kernel
theorem dX3_countOnceMore_17 : decode cX3_countOnceMore 17 = .ok (.sipush 8191, 3) := by decide +kernel
theorem dX3_countOnceMore_20 : decode cX3_countOnceMore 20 = .ok (.iand, 1) := by decide +kernel
theorem dX3_countOnceMore_21 : decode cX3_countOnceMore 21 = .ok (.istore 4, 2) := by decide +kernel
theorem dX3_countOnceMore_23 : decode cX3_countOnceMore 23 = .ok (.aload_n 0, 1) := by decide +kernel
theorem dX3_countOnceMore_24 : decode cX3_countOnceMore 24 = .ok (.getfield 18, 3) := by decide +kernel
theorem dX3_countOnceMore_27 : decode cX3_countOnceMore 27 = .ok (.iload 4, 2) := by decide +kernel
theorem dX3_countOnceMore_29 : decode cX3_countOnceMore 29 = .ok (.iaload, 1) := by decide +kernel
theorem dX3_countOnceMore_30 : decode cX3_countOnceMore 30 = .ok (.aload_n 0, 1) := by decide +kernel
theorem dX3_countOnceMore_31 : decode cX3_countOnceMore 31 = .ok (.getfield 21, 3) := by decide +kernel
theorem dX3_countOnceMore_34 : decode cX3_countOnceMore 34 = .ok (.if_icmp .eq 30, 3) := by decide +kernel
theorem dX3_countOnceMore_37 : decode cX3_countOnceMore 37 = .ok (.aload_n 0, 1) := by decide +kernel
theorem dX3_countOnceMore_38 : decode cX3_countOnceMore 38 = .ok (.getfield 18, 3) := by decide +kernel
theorem dX3_countOnceMore_41 : decode cX3_countOnceMore 41 = .ok (.iload 4, 2) := by decide +kernel
theorem dX3_countOnceMore_43 : decode cX3_countOnceMore 43 = .ok (.aload_n 0, 1) := by decide +kernel
theorem dX3_countOnceMore_44 : decode cX3_countOnceMore 44 = .ok (.getfield 21, 3) := by decide +kernel
theorem dX3_countOnceMore_47 : decode cX3_countOnceMore 47 = .ok (.iastore, 1) := by decide +kernel
theorem dX3_countOnceMore_48 : decode cX3_countOnceMore 48 = .ok (.aload_n 0, 1) := by decide +kernel
theorem dX3_countOnceMore_49 : decode cX3_countOnceMore 49 = .ok (.getfield 9, 3) := by decide +kernel
theorem dX3_countOnceMore_52 : decode cX3_countOnceMore 52 = .ok (.iload 4, 2) := by decide +kernel
theorem dX3_countOnceMore_54 : decode cX3_countOnceMore 54 = .ok (.iload_n 1, 1) := by decide +kernel
theorem dX3_countOnceMore_55 : decode cX3_countOnceMore 55 = .ok (.iastore, 1) := by decide +kernel
theorem dX3_countOnceMore_56 : decode cX3_countOnceMore 56 = .ok (.aload_n 0, 1) := by decide +kernel
theorem dX3_countOnceMore_57 : decode cX3_countOnceMore 57 = .ok (.getfield 15, 3) := by decide +kernel
theorem dX3_countOnceMore_60 : decode cX3_countOnceMore 60 = .ok (.iload 4, 2) := by decide +kernel
theorem dX3_countOnceMore_62 : decode cX3_countOnceMore 62 = .ok (.iconst 0, 1) := by decide +kernel
theorem dX3_countOnceMore_63 : decode cX3_countOnceMore 63 = .ok (.iastore, 1) := by decide +kernel
theorem dX3_countOnceMore_64 : decode cX3_countOnceMore 64 = .ok (.aload_n 0, 1) := by decide +kernel
theorem dX3_countOnceMore_65 : decode cX3_countOnceMore 65 = .ok (.getfield 9, 3) := by decide +kernel
theorem dX3_countOnceMore_68 : decode cX3_countOnceMore 68 = .ok (.iload 4, 2) := by decide +kernel
theorem dX3_countOnceMore_70 : decode cX3_countOnceMore 70 = .ok (.iaload, 1) := by decide +kernel
theorem dX3_countOnceMore_71 : decode cX3_countOnceMore 71 = .ok (.iload_n 1, 1) := by decide +kernel
theorem dX3_countOnceMore_72 : decode cX3_countOnceMore 72 = .ok (.if_icmp .ne 22, 3) := by decide +kernel
theorem dX3_countOnceMore_75 : decode cX3_countOnceMore 75 = .ok (.aload_n 0, 1) := by decide +kernel
theorem dX3_countOnceMore_76 : decode cX3_countOnceMore 76 = .ok (.getfield 15, 3) := by decide +kernel
theorem dX3_countOnceMore_79 : decode cX3_countOnceMore 79 = .ok (.iload 4, 2) := by decide +kernel
theorem dX3_countOnceMore_81 : decode cX3_countOnceMore 81 = .ok (.dup2, 1) := by decide +kernel
theorem dX3_countOnceMore_82 : decode cX3_countOnceMore 82 = .ok (.iaload, 1) := by decide +kernel
theorem dX3_countOnceMore_83 : decode cX3_countOnceMore 83 = .ok (.iconst 1, 1) := by decide +kernel
theorem dX3_countOnceMore_84 : decode cX3_countOnceMore 84 = .ok (.iadd, 1) := by decide +kernel
theorem dX3_countOnceMore_85 : decode cX3_countOnceMore 85 = .ok (.iastore, 1) := by decide +kernel
theorem dX3_countOnceMore_86 : decode cX3_countOnceMore 86 = .ok (.aload_n 0, 1) := by decide +kernel
theorem dX3_countOnceMore_87 : decode cX3_countOnceMore 87 = .ok (.getfield 15, 3) := by decide +kernel
theorem dX3_countOnceMore_90 : decode cX3_countOnceMore 90 = .ok (.iload 4, 2) := by decide +kernel
theorem dX3_countOnceMore_92 : decode cX3_countOnceMore 92 = .ok (.iaload, 1) := by decide +kernel
theorem dX3_countOnceMore_93 : decode cX3_countOnceMore 93 = .ok (.ireturn, 1) := by decide +kernel
theorem dX3_countOnceMore_94 : decode cX3_countOnceMore 94 = .ok (.iinc 3 1, 3) := by decide +kernel
theorem dX3_countOnceMore_97 : decode cX3_countOnceMore 97 = .ok (.goto (-90), 3) := by decide +kernel
theorem dX3_countOnceMore_100 : decode cX3_countOnceMore 100 = .ok (.iconst 0, 1) := by decide +kernel
theorem dX3_countOnceMore_101 : decode cX3_countOnceMore 101 = .ok (.ireturn, 1) := by decide +kernel
theorem dX4_init_0 : decode cX4_init 0 = .ok (.aload_n 0, 1) := by decide +kernel
theorem dX4_init_1 : decode cX4_init 1 = .ok (.invokespecial 1, 3) := by decide +kernel
theorem dX4_init_4 : decode cX4_init 4 = .ok (.aload_n 0, 1) := by decide +kernel
theorem dX4_init_5 : decode cX4_init 5 = .ok (.iconst (-1), 1) := by decide +kernel
theorem dX4_init_6 : decode cX4_init 6 = .ok (.putfield 9, 3) := by decide +kernel
theorem dX4_init_9 : decode cX4_init 9 = .ok (.return_, 1) := by decide +kernel
theorem dX4_become_0 : decode cX4_become 0 = .ok (.aload_n 0, 1) := by decide +kernel
theorem dX4_become_1 : decode cX4_become 1 = .ok (.iload_n 1, 1) := by decide +kernel
theorem dX4_become_2 : decode cX4_become 2 = .ok (.putfield 9, 3) := by decide +kernel
theorem dX4_become_5 : decode cX4_become 5 = .ok (.aload_n 0, 1) := by decide +kernel
theorem dX4_become_6 : decode cX4_become 6 = .ok (.iload_n 2, 1) := by decide +kernel
theorem dX4_become_7 : decode cX4_become 7 = .ok (.putfield 13, 3) := by decide +kernel
theorem dX4_become_10 : decode cX4_become 10 = .ok (.aload_n 0, 1) := by decide +kernel
theorem dX4_become_11 : decode cX4_become 11 = .ok (.iload_n 3, 1) := by decide +kernel
theorem dX4_become_12 : decode cX4_become 12 = .ok (.putfield 16, 3) := by decide +kernel
theorem dX4_become_15 : decode cX4_become 15 = .ok (.aload_n 0, 1) := by decide +kernel
theorem dX4_become_16 : decode cX4_become 16 = .ok (.iload 4, 2) := by decide +kernel
theorem dX4_become_18 : decode cX4_become 18 = .ok (.putfield 19, 3) := by decide +kernel
theorem dX4_become_21 : decode cX4_become 21 = .ok (.return_, 1) := by decide +kernel
theorem dX4_roll_0 : decode cX4_roll 0 = .ok (.aload_n 0, 1) := by decide +kernel
theorem dX4_roll_1 : decode cX4_roll 1 = .ok (.iload_n 1, 1) := by decide +kernel
theorem dX4_roll_2 : decode cX4_roll 2 = .ok (.putfield 22, 3) := by decide +kernel
theorem dX4_roll_5 : decode cX4_roll 5 = .ok (.aload_n 0, 1) := by decide +kernel
theorem dX4_roll_6 : decode cX4_roll 6 = .ok (.iload_n 2, 1) := by decide +kernel
theorem dX4_roll_7 : decode cX4_roll 7 = .ok (.putfield 25, 3) := by decide +kernel
theorem dX4_roll_10 : decode cX4_roll 10 = .ok (.return_, 1) := by decide +kernel
theorem dX4_hasWindow_0 : decode cX4_hasWindow 0 = .ok (.aload_n 0, 1) := by decide +kernel
theorem dX4_hasWindow_1 : decode cX4_hasWindow 1 = .ok (.getfield 9, 3) := by decide +kernel
theorem dX4_hasWindow_4 : decode cX4_hasWindow 4 = .ok (.iconst 1, 1) := by decide +kernel
theorem dX4_hasWindow_5 : decode cX4_hasWindow 5 = .ok (.if_icmp .eq 11, 3) := by decide +kernel
theorem dX4_hasWindow_8 : decode cX4_hasWindow 8 = .ok (.aload_n 0, 1) := by decide +kernel
theorem dX4_hasWindow_9 : decode cX4_hasWindow 9 = .ok (.getfield 9, 3) := by decide +kernel
theorem dX4_hasWindow_12 : decode cX4_hasWindow 12 = .ok (.iconst 2, 1) := by decide +kernel
theorem dX4_hasWindow_13 : decode cX4_hasWindow 13 = .ok (.if_icmp .ne 7, 3) := by decide +kernel
theorem dX4_hasWindow_16 : decode cX4_hasWindow 16 = .ok (.iconst 1, 1) := by decide +kernel
theorem dX4_hasWindow_17 : decode cX4_hasWindow 17 = .ok (.goto 4, 3) := by decide +kernel
theorem dX4_hasWindow_20 : decode cX4_hasWindow 20 = .ok (.iconst 0, 1) := by decide +kernel
theorem dX4_hasWindow_21 : decode cX4_hasWindow 21 = .ok (.ireturn, 1) := by decide +kernel
theorem dX4_endsBehind_0 : decode cX4_endsBehind 0 = .ok (.aload_n 0, 1) := by decide +kernel
theorem dX4_endsBehind_1 : decode cX4_endsBehind 1 = .ok (.getfield 9, 3) := by decide +kernel
theorem dX4_endsBehind_4 : decode cX4_endsBehind 4 = .ok (.tableswitch 52 1 3 #[28, 28, 38], 28) := by decide +kernel
theorem dX4_endsBehind_32 : decode cX4_endsBehind 32 = .ok (.aload_n 0, 1) := by decide +kernel
theorem dX4_endsBehind_33 : decode cX4_endsBehind 33 = .ok (.iload_n 2, 1) := by decide +kernel
theorem dX4_endsBehind_34 : decode cX4_endsBehind 34 = .ok (.aload_n 0, 1) := by decide +kernel
theorem dX4_endsBehind_35 : decode cX4_endsBehind 35 = .ok (.getfield 25, 3) := by decide +kernel
theorem dX4_endsBehind_38 : decode cX4_endsBehind 38 = .ok (.invokevirtual 28, 3) := by decide +kernel
theorem dX4_endsBehind_41 : decode cX4_endsBehind 41 = .ok (.ireturn, 1) := by decide +kernel
theorem dX4_endsBehind_42 : decode cX4_endsBehind 42 = .ok (.iload_n 1, 1) := by decide +kernel
theorem dX4_endsBehind_43 : decode cX4_endsBehind 43 = .ok (.aload_n 0, 1) := by decide +kernel
theorem dX4_endsBehind_44 : decode cX4_endsBehind 44 = .ok (.getfield 19, 3) := by decide +kernel
theorem dX4_endsBehind_47 : decode cX4_endsBehind 47 = .ok (.if_icmp .ne 7, 3) := by decide +kernel
theorem dX4_endsBehind_50 : decode cX4_endsBehind 50 = .ok (.iconst 1, 1) := by decide +kernel
theorem dX4_endsBehind_51 : decode cX4_endsBehind 51 = .ok (.goto 4, 3) := by decide +kernel
theorem dX4_endsBehind_54 : decode cX4_endsBehind 54 = .ok (.iconst 0, 1) := by decide +kernel
theorem dX4_endsBehind_55 : decode cX4_endsBehind 55 = .ok (.ireturn, 1) := by decide +kernel
theorem dX4_endsBehind_56 : decode cX4_endsBehind 56 = .ok (.iconst 0, 1) := by decide +kernel
theorem dX4_endsBehind_57 : decode cX4_endsBehind 57 = .ok (.ireturn, 1) := by decide +kernel
theorem dX4_mayEndBehind_0 : decode cX4_mayEndBehind 0 = .ok (.aload_n 0, 1) := by decide +kernel
theorem dX4_mayEndBehind_1 : decode cX4_mayEndBehind 1 = .ok (.getfield 9, 3) := by decide +kernel
theorem dX4_mayEndBehind_4 : decode cX4_mayEndBehind 4 = .ok (.iconst 2, 1) := by decide +kernel
theorem dX4_mayEndBehind_5 : decode cX4_mayEndBehind 5 = .ok (.if_icmp .ne 25, 3) := by decide +kernel
theorem dX4_mayEndBehind_8 : decode cX4_mayEndBehind 8 = .ok (.aload_n 0, 1) := by decide +kernel
theorem dX4_mayEndBehind_9 : decode cX4_mayEndBehind 9 = .ok (.iload_n 1, 1) := by decide +kernel
theorem dX4_mayEndBehind_10 : decode cX4_mayEndBehind 10 = .ok (.aload_n 0, 1) := by decide +kernel
theorem dX4_mayEndBehind_11 : decode cX4_mayEndBehind 11 = .ok (.getfield 25, 3) := by decide +kernel
theorem dX4_mayEndBehind_14 : decode cX4_mayEndBehind 14 = .ok (.iconst 1, 1) := by decide +kernel
theorem dX4_mayEndBehind_15 : decode cX4_mayEndBehind 15 = .ok (.isub, 1) := by decide +kernel
theorem dX4_mayEndBehind_16 : decode cX4_mayEndBehind 16 = .ok (.iconst 0, 1) := by decide +kernel
theorem dX4_mayEndBehind_17 : decode cX4_mayEndBehind 17 = .ok (.invokestatic 32, 3) := by decide +kernel
theorem dX4_mayEndBehind_20 : decode cX4_mayEndBehind 20 = .ok (.invokevirtual 28, 3) := by decide +kernel
theorem dX4_mayEndBehind_23 : decode cX4_mayEndBehind 23 = .ok (.ifCond .eq 7, 3) := by decide +kernel
theorem dX4_mayEndBehind_26 : decode cX4_mayEndBehind 26 = .ok (.iconst 1, 1) := by decide +kernel
theorem dX4_mayEndBehind_27 : decode cX4_mayEndBehind 27 = .ok (.goto 4, 3) := by decide +kernel
theorem dX4_mayEndBehind_30 : decode cX4_mayEndBehind 30 = .ok (.iconst 0, 1) := by decide +kernel
theorem dX4_mayEndBehind_31 : decode cX4_mayEndBehind 31 = .ok (.ireturn, 1) := by decide +kernel
theorem dX4_hasSign_0 : decode cX4_hasSign 0 = .ok (.iconst 1, 1) := by decide +kernel
theorem dX4_hasSign_1 : decode cX4_hasSign 1 = .ok (.iload_n 2, 1) := by decide +kernel
theorem dX4_hasSign_2 : decode cX4_hasSign 2 = .ok (.ishl, 1) := by decide +kernel
theorem dX4_hasSign_3 : decode cX4_hasSign 3 = .ok (.iconst 1, 1) := by decide +kernel
theorem dX4_hasSign_4 : decode cX4_hasSign 4 = .ok (.isub, 1) := by decide +kernel
theorem dX4_hasSign_5 : decode cX4_hasSign 5 = .ok (.istore_n 3, 1) := by decide +kernel
theorem dX4_hasSign_6 : decode cX4_hasSign 6 = .ok (.iload_n 1, 1) := by decide +kernel
theorem dX4_hasSign_7 : decode cX4_hasSign 7 = .ok (.iconst 4, 1) := by decide +kernel
theorem dX4_hasSign_8 : decode cX4_hasSign 8 = .ok (.ishr, 1) := by decide +kernel
theorem dX4_hasSign_9 : decode cX4_hasSign 9 = .ok (.iload_n 3, 1) := by decide +kernel
theorem dX4_hasSign_10 : decode cX4_hasSign 10 = .ok (.iand, 1) := by decide +kernel
theorem dX4_hasSign_11 : decode cX4_hasSign 11 = .ok (.aload_n 0, 1) := by decide +kernel
theorem dX4_hasSign_12 : decode cX4_hasSign 12 = .ok (.getfield 19, 3) := by decide +kernel
theorem dX4_hasSign_15 : decode cX4_hasSign 15 = .ok (.iload_n 3, 1) := by decide +kernel
theorem dX4_hasSign_16 : decode cX4_hasSign 16 = .ok (.iand, 1) := by decide +kernel
theorem dX4_hasSign_17 : decode cX4_hasSign 17 = .ok (.if_icmp .ne 7, 3) := by decide +kernel
theorem dX4_hasSign_20 : decode cX4_hasSign 20 = .ok (.iconst 1, 1) := by decide +kernel
theorem dX4_hasSign_21 : decode cX4_hasSign 21 = .ok (.goto 4, 3) := by decide +kernel
theorem dX4_hasSign_24 : decode cX4_hasSign 24 = .ok (.iconst 0, 1) := by decide +kernel
theorem dX4_hasSign_25 : decode cX4_hasSign 25 = .ok (.ireturn, 1) := by decide +kernel
theorem dX5_init_0 : decode cX5_init 0 = .ok (.aload_n 0, 1) := by decide +kernel
theorem dX5_init_1 : decode cX5_init 1 = .ok (.invokespecial 3, 3) := by decide +kernel
theorem dX5_init_4 : decode cX5_init 4 = .ok (.aload_n 0, 1) := by decide +kernel
theorem dX5_init_5 : decode cX5_init 5 = .ok (.sipush 5400, 3) := by decide +kernel
theorem dX5_init_8 : decode cX5_init 8 = .ok (.newarray .byte, 2) := by decide +kernel
theorem dX5_init_10 : decode cX5_init 10 = .ok (.putfield 9, 3) := by decide +kernel
theorem dX5_init_13 : decode cX5_init 13 = .ok (.aload_n 0, 1) := by decide +kernel
theorem dX5_init_14 : decode cX5_init 14 = .ok (.sipush 301, 3) := by decide +kernel
theorem dX5_init_17 : decode cX5_init 17 = .ok (.newarray .int, 2) := by decide +kernel
theorem dX5_init_19 : decode cX5_init 19 = .ok (.putfield 15, 3) := by decide +kernel
theorem dX5_init_22 : decode cX5_init 22 = .ok (.aload_n 0, 1) := by decide +kernel
theorem dX5_init_23 : decode cX5_init 23 = .ok (.sipush 301, 3) := by decide +kernel
theorem dX5_init_26 : decode cX5_init 26 = .ok (.newarray .int, 2) := by decide +kernel
theorem dX5_init_28 : decode cX5_init 28 = .ok (.putfield 19, 3) := by decide +kernel
theorem dX5_init_31 : decode cX5_init 31 = .ok (.aload_n 0, 1) := by decide +kernel
theorem dX5_init_32 : decode cX5_init 32 = .ok (.sipush 301, 3) := by decide +kernel
theorem dX5_init_35 : decode cX5_init 35 = .ok (.newarray .int, 2) := by decide +kernel
theorem dX5_init_37 : decode cX5_init 37 = .ok (.putfield 22, 3) := by decide +kernel
theorem dX5_init_40 : decode cX5_init 40 = .ok (.aload_n 0, 1) := by decide +kernel
theorem dX5_init_41 : decode cX5_init 41 = .ok (.sipush 301, 3) := by decide +kernel
theorem dX5_init_44 : decode cX5_init 44 = .ok (.newarray .int, 2) := by decide +kernel
theorem dX5_init_46 : decode cX5_init 46 = .ok (.putfield 25, 3) := by decide +kernel
theorem dX5_init_49 : decode cX5_init 49 = .ok (.aload_n 0, 1) := by decide +kernel
theorem dX5_init_50 : decode cX5_init 50 = .ok (.bipush 8, 2) := by decide +kernel
theorem dX5_init_52 : decode cX5_init 52 = .ok (.sipush 600, 3) := by decide +kernel
theorem dX5_init_55 : decode cX5_init 55 = .ok (.multianewarray 28 2, 4) := by decide +kernel
theorem dX5_init_59 : decode cX5_init 59 = .ok (.putfield 30, 3) := by decide +kernel
theorem dX5_init_62 : decode cX5_init 62 = .ok (.aload_n 0, 1) := by decide +kernel
theorem dX5_init_63 : decode cX5_init 63 = .ok (.bipush 8, 2) := by decide +kernel
theorem dX5_init_65 : decode cX5_init 65 = .ok (.newarray .int, 2) := by decide +kernel
theorem dX5_init_67 : decode cX5_init 67 = .ok (.putfield 33, 3) := by decide +kernel
theorem dX5_init_70 : decode cX5_init 70 = .ok (.aload_n 0, 1) := by decide +kernel
theorem dX5_init_71 : decode cX5_init 71 = .ok (.sipush 600, 3) := by decide +kernel
theorem dX5_init_74 : decode cX5_init 74 = .ok (.newarray .int, 2) := by decide +kernel
theorem dX5_init_76 : decode cX5_init 76 = .ok (.putfield 36, 3) := by decide +kernel
theorem dX5_init_79 : decode cX5_init 79 = .ok (.aload_n 0, 1) := by decide +kernel
theorem dX5_init_80 : decode cX5_init 80 = .ok (.aload_n 1, 1) := by decide +kernel
theorem dX5_init_81 : decode cX5_init 81 = .ok (.putfield 39, 3) := by decide +kernel
theorem dX5_init_84 : decode cX5_init 84 = .ok (.aload_n 0, 1) := by decide +kernel
theorem dX5_init_85 : decode cX5_init 85 = .ok (.getfield 33, 3) := by decide +kernel
theorem dX5_init_88 : decode cX5_init 88 = .ok (.iconst (-1), 1) := by decide +kernel
theorem dX5_init_89 : decode cX5_init 89 = .ok (.invokestatic 43, 3) := by decide +kernel
theorem dX5_init_92 : decode cX5_init 92 = .ok (.return_, 1) := by decide +kernel
theorem dX5_take_0 : decode cX5_take 0 = .ok (.aload_n 0, 1) := by decide +kernel
theorem dX5_take_1 : decode cX5_take 1 = .ok (.getfield 49, 3) := by decide +kernel
theorem dX5_take_4 : decode cX5_take 4 = .ok (.istore_n 3, 1) := by decide +kernel
theorem dX5_take_5 : decode cX5_take 5 = .ok (.aload_n 0, 1) := by decide +kernel
theorem dX5_take_6 : decode cX5_take 6 = .ok (.getfield 53, 3) := by decide +kernel
theorem dX5_take_9 : decode cX5_take 9 = .ok (.istore 4, 2) := by decide +kernel
theorem dX5_take_11 : decode cX5_take 11 = .ok (.iconst 0, 1) := by decide +kernel
theorem dX5_take_12 : decode cX5_take 12 = .ok (.istore 5, 2) := by decide +kernel
theorem dX5_take_14 : decode cX5_take 14 = .ok (.iload 5, 2) := by decide +kernel
theorem dX5_take_16 : decode cX5_take 16 = .ok (.aload_n 1, 1) := by decide +kernel
theorem dX5_take_17 : decode cX5_take 17 = .ok (.getfield 56, 3) := by decide +kernel
theorem dX5_take_20 : decode cX5_take 20 = .ok (.if_icmp .ge 72, 3) := by decide +kernel
theorem dX5_take_23 : decode cX5_take 23 = .ok (.aload_n 0, 1) := by decide +kernel
theorem dX5_take_24 : decode cX5_take 24 = .ok (.aload_n 1, 1) := by decide +kernel
theorem dX5_take_25 : decode cX5_take 25 = .ok (.iload 5, 2) := by decide +kernel
theorem dX5_take_27 : decode cX5_take 27 = .ok (.invokevirtual 59, 3) := by decide +kernel
theorem dX5_take_30 : decode cX5_take 30 = .ok (.aload_n 1, 1) := by decide +kernel
theorem dX5_take_31 : decode cX5_take 31 = .ok (.iload 5, 2) := by decide +kernel
theorem dX5_take_33 : decode cX5_take 33 = .ok (.invokevirtual 63, 3) := by decide +kernel
theorem dX5_take_36 : decode cX5_take 36 = .ok (.invokevirtual 66, 3) := by decide +kernel
theorem dX5_take_39 : decode cX5_take 39 = .ok (.istore 6, 2) := by decide +kernel
theorem dX5_take_41 : decode cX5_take 41 = .ok (.iload 6, 2) := by decide +kernel
theorem dX5_take_43 : decode cX5_take 43 = .ok (.iconst (-1), 1) := by decide +kernel
theorem dX5_take_44 : decode cX5_take 44 = .ok (.if_icmp .ne 22, 3) := by decide +kernel
theorem dX5_take_47 : decode cX5_take 47 = .ok (.aload_n 0, 1) := by decide +kernel
theorem dX5_take_48 : decode cX5_take 48 = .ok (.aload_n 0, 1) := by decide +kernel
theorem dX5_take_49 : decode cX5_take 49 = .ok (.getfield 36, 3) := by decide +kernel
theorem dX5_take_52 : decode cX5_take 52 = .ok (.iload 5, 2) := by decide +kernel
theorem dX5_take_54 : decode cX5_take 54 = .ok (.invokevirtual 70, 3) := by decide +kernel
theorem dX5_take_57 : decode cX5_take 57 = .ok (.aload_n 0, 1) := by decide +kernel
theorem dX5_take_58 : decode cX5_take 58 = .ok (.iload 4, 2) := by decide +kernel
theorem dX5_take_60 : decode cX5_take 60 = .ok (.putfield 53, 3) := by decide +kernel
theorem dX5_take_63 : decode cX5_take 63 = .ok (.bipush (-2), 2) := by decide +kernel
theorem dX5_take_65 : decode cX5_take 65 = .ok (.ireturn, 1) := by decide +kernel
theorem dX5_take_66 : decode cX5_take 66 = .ok (.aload_n 0, 1) := by decide +kernel
theorem dX5_take_67 : decode cX5_take 67 = .ok (.getfield 25, 3) := by decide +kernel
theorem dX5_take_70 : decode cX5_take 70 = .ok (.iload 6, 2) := by decide +kernel
theorem dX5_take_72 : decode cX5_take 72 = .ok (.dup2, 1) := by decide +kernel
theorem dX5_take_73 : decode cX5_take 73 = .ok (.iaload, 1) := by decide +kernel
theorem dX5_take_74 : decode cX5_take 74 = .ok (.iconst 1, 1) := by decide +kernel
theorem dX5_take_75 : decode cX5_take 75 = .ok (.iadd, 1) := by decide +kernel
theorem dX5_take_76 : decode cX5_take 76 = .ok (.iastore, 1) := by decide +kernel
theorem dX5_take_77 : decode cX5_take 77 = .ok (.aload_n 0, 1) := by decide +kernel
theorem dX5_take_78 : decode cX5_take 78 = .ok (.getfield 36, 3) := by decide +kernel
theorem dX5_take_81 : decode cX5_take 81 = .ok (.iload 5, 2) := by decide +kernel
theorem dX5_take_83 : decode cX5_take 83 = .ok (.iload 6, 2) := by decide +kernel
theorem dX5_take_85 : decode cX5_take 85 = .ok (.iastore, 1) := by decide +kernel
theorem dX5_take_86 : decode cX5_take 86 = .ok (.iinc 5 1, 3) := by decide +kernel
theorem dX5_take_89 : decode cX5_take 89 = .ok (.goto (-75), 3) := by decide +kernel
theorem dX5_take_92 : decode cX5_take 92 = .ok (.aload_n 0, 1) := by decide +kernel
theorem dX5_take_93 : decode cX5_take 93 = .ok (.getfield 49, 3) := by decide +kernel
theorem dX5_take_96 : decode cX5_take 96 = .ok (.iload_n 3, 1) := by decide +kernel
theorem dX5_take_97 : decode cX5_take 97 = .ok (.isub, 1) := by decide +kernel
theorem dX5_take_98 : decode cX5_take 98 = .ok (.istore 5, 2) := by decide +kernel
theorem dX5_take_100 : decode cX5_take 100 = .ok (.aload_n 0, 1) := by decide +kernel
theorem dX5_take_101 : decode cX5_take 101 = .ok (.aload_n 0, 1) := by decide +kernel
theorem dX5_take_102 : decode cX5_take 102 = .ok (.getfield 30, 3) := by decide +kernel
theorem dX5_take_105 : decode cX5_take 105 = .ok (.iload_n 2, 1) := by decide +kernel
theorem dX5_take_106 : decode cX5_take 106 = .ok (.aaload, 1) := by decide +kernel
theorem dX5_take_107 : decode cX5_take 107 = .ok (.aload_n 0, 1) := by decide +kernel
theorem dX5_take_108 : decode cX5_take 108 = .ok (.getfield 33, 3) := by decide +kernel
theorem dX5_take_111 : decode cX5_take 111 = .ok (.iload_n 2, 1) := by decide +kernel
theorem dX5_take_112 : decode cX5_take 112 = .ok (.iaload, 1) := by decide +kernel
theorem dX5_take_113 : decode cX5_take 113 = .ok (.invokevirtual 70, 3) := by decide +kernel
theorem dX5_take_116 : decode cX5_take 116 = .ok (.aload_n 0, 1) := by decide +kernel
theorem dX5_take_117 : decode cX5_take 117 = .ok (.getfield 36, 3) := by decide +kernel
theorem dX5_take_120 : decode cX5_take 120 = .ok (.iconst 0, 1) := by decide +kernel
theorem dX5_take_121 : decode cX5_take 121 = .ok (.aload_n 0, 1) := by decide +kernel
theorem dX5_take_122 : decode cX5_take 122 = .ok (.getfield 30, 3) := by decide +kernel
theorem dX5_take_125 : decode cX5_take 125 = .ok (.iload_n 2, 1) := by decide +kernel
theorem dX5_take_126 : decode cX5_take 126 = .ok (.aaload, 1) := by decide +kernel
theorem dX5_take_127 : decode cX5_take 127 = .ok (.iconst 0, 1) := by decide +kernel
theorem dX5_take_128 : decode cX5_take 128 = .ok (.aload_n 1, 1) := by decide +kernel
theorem dX5_take_129 : decode cX5_take 129 = .ok (.getfield 56, 3) := by decide +kernel
theorem dX5_take_132 : decode cX5_take 132 = .ok (.invokestatic 73, 3) := by decide +kernel
theorem dX5_take_135 : decode cX5_take 135 = .ok (.aload_n 0, 1) := by decide +kernel
theorem dX5_take_136 : decode cX5_take 136 = .ok (.getfield 33, 3) := by decide +kernel
theorem dX5_take_139 : decode cX5_take 139 = .ok (.iload_n 2, 1) := by decide +kernel
theorem dX5_take_140 : decode cX5_take 140 = .ok (.aload_n 1, 1) := by decide +kernel
theorem dX5_take_141 : decode cX5_take 141 = .ok (.getfield 56, 3) := by decide +kernel
theorem dX5_take_144 : decode cX5_take 144 = .ok (.iastore, 1) := by decide +kernel
theorem dX5_take_145 : decode cX5_take 145 = .ok (.iload 5, 2) := by decide +kernel
theorem dX5_take_147 : decode cX5_take 147 = .ok (.ireturn, 1) := by decide +kernel
theorem dX5_letGo_0 : decode cX5_letGo 0 = .ok (.aload_n 0, 1) := by decide +kernel
theorem dX5_letGo_1 : decode cX5_letGo 1 = .ok (.getfield 49, 3) := by decide +kernel
theorem dX5_letGo_4 : decode cX5_letGo 4 = .ok (.istore_n 2, 1) := by decide +kernel
theorem dX5_letGo_5 : decode cX5_letGo 5 = .ok (.aload_n 0, 1) := by decide +kernel
theorem dX5_letGo_6 : decode cX5_letGo 6 = .ok (.aload_n 0, 1) := by decide +kernel
theorem dX5_letGo_7 : decode cX5_letGo 7 = .ok (.getfield 30, 3) := by decide +kernel
theorem dX5_letGo_10 : decode cX5_letGo 10 = .ok (.iload_n 1, 1) := by decide +kernel
theorem dX5_letGo_11 : decode cX5_letGo 11 = .ok (.aaload, 1) := by decide +kernel
theorem dX5_letGo_12 : decode cX5_letGo 12 = .ok (.aload_n 0, 1) := by decide +kernel
theorem dX5_letGo_13 : decode cX5_letGo 13 = .ok (.getfield 33, 3) := by decide +kernel
theorem dX5_letGo_16 : decode cX5_letGo 16 = .ok (.iload_n 1, 1) := by decide +kernel
theorem dX5_letGo_17 : decode cX5_letGo 17 = .ok (.iaload, 1) := by decide +kernel
theorem dX5_letGo_18 : decode cX5_letGo 18 = .ok (.invokevirtual 70, 3) := by decide +kernel
theorem dX5_letGo_21 : decode cX5_letGo 21 = .ok (.aload_n 0, 1) := by decide +kernel
theorem dX5_letGo_22 : decode cX5_letGo 22 = .ok (.getfield 33, 3) := by decide +kernel
theorem dX5_letGo_25 : decode cX5_letGo 25 = .ok (.iload_n 1, 1) := by decide +kernel
theorem dX5_letGo_26 : decode cX5_letGo 26 = .ok (.iconst (-1), 1) := by decide +kernel
theorem dX5_letGo_27 : decode cX5_letGo 27 = .ok (.iastore, 1) := by decide +kernel
theorem dX5_letGo_28 : decode cX5_letGo 28 = .ok (.iload_n 2, 1) := by decide +kernel
theorem dX5_letGo_29 : decode cX5_letGo 29 = .ok (.aload_n 0, 1) := by decide +kernel
theorem dX5_letGo_30 : decode cX5_letGo 30 = .ok (.getfield 49, 3) := by decide +kernel
theorem dX5_letGo_33 : decode cX5_letGo 33 = .ok (.isub, 1) := by decide +kernel
theorem dX5_letGo_34 : decode cX5_letGo 34 = .ok (.ireturn, 1) := by decide +kernel
theorem dX5_restore_0 : decode cX5_restore 0 = .ok (.aload_n 0, 1) := by decide +kernel
theorem dX5_restore_1 : decode cX5_restore 1 = .ok (.getfield 39, 3) := by decide +kernel
theorem dX5_restore_4 : decode cX5_restore 4 = .ok (.getfield 79, 3) := by decide +kernel
theorem dX5_restore_7 : decode cX5_restore 7 = .ok (.iload_n 1, 1) := by decide +kernel
theorem dX5_restore_8 : decode cX5_restore 8 = .ok (.iconst 0, 1) := by decide +kernel
theorem dX5_restore_9 : decode cX5_restore 9 = .ok (.iastore, 1) := by decide +kernel
theorem dX5_restore_10 : decode cX5_restore 10 = .ok (.iconst 0, 1) := by decide +kernel
theorem dX5_restore_11 : decode cX5_restore 11 = .ok (.istore_n 2, 1) := by decide +kernel
theorem dX5_restore_12 : decode cX5_restore 12 = .ok (.iload_n 2, 1) := by decide +kernel
theorem dX5_restore_13 : decode cX5_restore 13 = .ok (.aload_n 0, 1) := by decide +kernel
theorem dX5_restore_14 : decode cX5_restore 14 = .ok (.getfield 33, 3) := by decide +kernel
theorem dX5_restore_17 : decode cX5_restore 17 = .ok (.iload_n 1, 1) := by decide +kernel
theorem dX5_restore_18 : decode cX5_restore 18 = .ok (.iaload, 1) := by decide +kernel
theorem dX5_restore_19 : decode cX5_restore 19 = .ok (.if_icmp .ge 42, 3) := by decide +kernel
theorem dX5_restore_22 : decode cX5_restore 22 = .ok (.aload_n 0, 1) := by decide +kernel
theorem dX5_restore_23 : decode cX5_restore 23 = .ok (.getfield 30, 3) := by decide +kernel
theorem dX5_restore_26 : decode cX5_restore 26 = .ok (.iload_n 1, 1) := by decide +kernel
theorem dX5_restore_27 : decode cX5_restore 27 = .ok (.aaload, 1) := by decide +kernel
theorem dX5_restore_28 : decode cX5_restore 28 = .ok (.iload_n 2, 1) := by decide +kernel
theorem dX5_restore_29 : decode cX5_restore 29 = .ok (.iaload, 1) := by decide +kernel
theorem dX5_restore_30 : decode cX5_restore 30 = .ok (.istore_n 3, 1) := by decide +kernel
theorem dX5_restore_31 : decode cX5_restore 31 = .ok (.aload_n 0, 1) := by decide +kernel
theorem dX5_restore_32 : decode cX5_restore 32 = .ok (.getfield 39, 3) := by decide +kernel
theorem dX5_restore_35 : decode cX5_restore 35 = .ok (.iload_n 1, 1) := by decide +kernel
theorem dX5_restore_36 : decode cX5_restore 36 = .ok (.aload_n 0, 1) := by decide +kernel
theorem dX5_restore_37 : decode cX5_restore 37 = .ok (.getfield 9, 3) := by decide +kernel
theorem dX5_restore_40 : decode cX5_restore 40 = .ok (.aload_n 0, 1) := by decide +kernel
theorem dX5_restore_41 : decode cX5_restore 41 = .ok (.getfield 15, 3) := by decide +kernel
theorem dX5_restore_44 : decode cX5_restore 44 = .ok (.iload_n 3, 1) := by decide +kernel
theorem dX5_restore_45 : decode cX5_restore 45 = .ok (.iaload, 1) := by decide +kernel
theorem dX5_restore_46 : decode cX5_restore 46 = .ok (.aload_n 0, 1) := by decide +kernel
theorem dX5_restore_47 : decode cX5_restore 47 = .ok (.getfield 19, 3) := by decide +kernel
theorem dX5_restore_50 : decode cX5_restore 50 = .ok (.iload_n 3, 1) := by decide +kernel
theorem dX5_restore_51 : decode cX5_restore 51 = .ok (.iaload, 1) := by decide +kernel
theorem dX5_restore_52 : decode cX5_restore 52 = .ok (.invokevirtual 82, 3) := by decide +kernel
theorem dX5_restore_55 : decode cX5_restore 55 = .ok (.iinc 2 1, 3) := by decide +kernel
theorem dX5_restore_58 : decode cX5_restore 58 = .ok (.goto (-46), 3) := by decide +kernel
theorem dX5_restore_61 : decode cX5_restore 61 = .ok (.return_, 1) := by decide +kernel
theorem dX5_countJumps_0 : decode cX5_countJumps 0 = .ok (.iconst 0, 1) := by decide +kernel
theorem dX5_countJumps_1 : decode cX5_countJumps 1 = .ok (.istore_n 2, 1) := by decide +kernel
theorem dX5_countJumps_2 : decode cX5_countJumps 2 = .ok (.iconst 0, 1) := by decide +kernel
theorem dX5_countJumps_3 : decode cX5_countJumps 3 = .ok (.istore_n 3, 1) := by decide +kernel
theorem dX5_countJumps_4 : decode cX5_countJumps 4 = .ok (.iload_n 3, 1) := by decide +kernel
theorem dX5_countJumps_5 : decode cX5_countJumps 5 = .ok (.aload_n 0, 1) := by decide +kernel
theorem dX5_countJumps_6 : decode cX5_countJumps 6 = .ok (.getfield 33, 3) := by decide +kernel
theorem dX5_countJumps_9 : decode cX5_countJumps 9 = .ok (.iload_n 1, 1) := by decide +kernel
theorem dX5_countJumps_10 : decode cX5_countJumps 10 = .ok (.iaload, 1) := by decide +kernel
theorem dX5_countJumps_11 : decode cX5_countJumps 11 = .ok (.if_icmp .ge 39, 3) := by decide +kernel
theorem dX5_countJumps_14 : decode cX5_countJumps 14 = .ok (.iload_n 3, 1) := by decide +kernel
theorem dX5_countJumps_15 : decode cX5_countJumps 15 = .ok (.ifCond .eq 26, 3) := by decide +kernel
theorem dX5_countJumps_18 : decode cX5_countJumps 18 = .ok (.aload_n 0, 1) := by decide +kernel
theorem dX5_countJumps_19 : decode cX5_countJumps 19 = .ok (.getfield 30, 3) := by decide +kernel
theorem dX5_countJumps_22 : decode cX5_countJumps 22 = .ok (.iload_n 1, 1) := by decide +kernel
theorem dX5_countJumps_23 : decode cX5_countJumps 23 = .ok (.aaload, 1) := by decide +kernel
theorem dX5_countJumps_24 : decode cX5_countJumps 24 = .ok (.iload_n 3, 1) := by decide +kernel
theorem dX5_countJumps_25 : decode cX5_countJumps 25 = .ok (.iaload, 1) := by decide +kernel
theorem dX5_countJumps_26 : decode cX5_countJumps 26 = .ok (.aload_n 0, 1) := by decide +kernel
theorem dX5_countJumps_27 : decode cX5_countJumps 27 = .ok (.getfield 30, 3) := by decide +kernel
theorem dX5_countJumps_30 : decode cX5_countJumps 30 = .ok (.iload_n 1, 1) := by decide +kernel
theorem dX5_countJumps_31 : decode cX5_countJumps 31 = .ok (.aaload, 1) := by decide +kernel
theorem dX5_countJumps_32 : decode cX5_countJumps 32 = .ok (.iload_n 3, 1) := by decide +kernel
theorem dX5_countJumps_33 : decode cX5_countJumps 33 = .ok (.iconst 1, 1) := by decide +kernel
theorem dX5_countJumps_34 : decode cX5_countJumps 34 = .ok (.isub, 1) := by decide +kernel
theorem dX5_countJumps_35 : decode cX5_countJumps 35 = .ok (.iaload, 1) := by decide +kernel
theorem dX5_countJumps_36 : decode cX5_countJumps 36 = .ok (.iconst 1, 1) := by decide +kernel
theorem dX5_countJumps_37 : decode cX5_countJumps 37 = .ok (.iadd, 1) := by decide +kernel
theorem dX5_countJumps_38 : decode cX5_countJumps 38 = .ok (.if_icmp .eq 6, 3) := by decide +kernel
theorem dX5_countJumps_41 : decode cX5_countJumps 41 = .ok (.iinc 2 1, 3) := by decide +kernel
theorem dX5_countJumps_44 : decode cX5_countJumps 44 = .ok (.iinc 3 1, 3) := by decide +kernel
theorem dX5_countJumps_47 : decode cX5_countJumps 47 = .ok (.goto (-43), 3) := by decide +kernel
theorem dX5_countJumps_50 : decode cX5_countJumps 50 = .ok (.iload_n 2, 1) := by decide +kernel
theorem dX5_countJumps_51 : decode cX5_countJumps 51 = .ok (.ireturn, 1) := by decide +kernel
theorem dX5_countNumbers_0 : decode cX5_countNumbers 0 = .ok (.iconst 0, 1) := by decide +kernel
theorem dX5_countNumbers_1 : decode cX5_countNumbers 1 = .ok (.istore_n 1, 1) := by decide +kernel
theorem dX5_countNumbers_2 : decode cX5_countNumbers 2 = .ok (.iconst 0, 1) := by decide +kernel
theorem dX5_countNumbers_3 : decode cX5_countNumbers 3 = .ok (.istore_n 2, 1) := by decide +kernel
theorem dX5_countNumbers_4 : decode cX5_countNumbers 4 = .ok (.iload_n 2, 1) := by decide +kernel
theorem dX5_countNumbers_5 : decode cX5_countNumbers 5 = .ok (.bipush 8, 2) := by decide +kernel
theorem dX5_countNumbers_7 : decode cX5_countNumbers 7 = .ok (.if_icmp .ge 22, 3) := by decide +kernel
theorem dX5_countNumbers_10 : decode cX5_countNumbers 10 = .ok (.iload_n 1, 1) := by decide +kernel
theorem dX5_countNumbers_11 : decode cX5_countNumbers 11 = .ok (.aload_n 0, 1) := by decide +kernel
theorem dX5_countNumbers_12 : decode cX5_countNumbers 12 = .ok (.getfield 33, 3) := by decide +kernel
theorem dX5_countNumbers_15 : decode cX5_countNumbers 15 = .ok (.iload_n 2, 1) := by decide +kernel
theorem dX5_countNumbers_16 : decode cX5_countNumbers 16 = .ok (.iaload, 1) := by decide +kernel
theorem dX5_countNumbers_17 : decode cX5_countNumbers 17 = .ok (.iconst 0, 1) := by decide +kernel
theorem dX5_countNumbers_18 : decode cX5_countNumbers 18 = .ok (.invokestatic 86, 3) := by decide +kernel
theorem dX5_countNumbers_21 : decode cX5_countNumbers 21 = .ok (.iadd, 1) := by decide +kernel
theorem dX5_countNumbers_22 : decode cX5_countNumbers 22 = .ok (.istore_n 1, 1) := by decide +kernel
theorem dX5_countNumbers_23 : decode cX5_countNumbers 23 = .ok (.iinc 2 1, 3) := by decide +kernel
theorem dX5_countNumbers_26 : decode cX5_countNumbers 26 = .ok (.goto (-22), 3) := by decide +kernel
theorem dX5_countNumbers_29 : decode cX5_countNumbers 29 = .ok (.iload_n 1, 1) := by decide +kernel
theorem dX5_countNumbers_30 : decode cX5_countNumbers 30 = .ok (.ireturn, 1) := by decide +kernel
theorem dX5_countKeptFiles_0 : decode cX5_countKeptFiles 0 = .ok (.iconst 0, 1) := by decide +kernel
theorem dX5_countKeptFiles_1 : decode cX5_countKeptFiles 1 = .ok (.istore_n 1, 1) := by decide +kernel
theorem dX5_countKeptFiles_2 : decode cX5_countKeptFiles 2 = .ok (.iconst 0, 1) := by decide +kernel
theorem dX5_countKeptFiles_3 : decode cX5_countKeptFiles 3 = .ok (.istore_n 2, 1) := by decide +kernel
theorem dX5_countKeptFiles_4 : decode cX5_countKeptFiles 4 = .ok (.iload_n 2, 1) := by decide +kernel
theorem dX5_countKeptFiles_5 : decode cX5_countKeptFiles 5 = .ok (.bipush 8, 2) := by decide +kernel
theorem dX5_countKeptFiles_7 : decode cX5_countKeptFiles 7 = .ok (.if_icmp .ge 27, 3) := by decide +kernel
theorem dX5_countKeptFiles_10 : decode cX5_countKeptFiles 10 = .ok (.iload_n 1, 1) := by decide +kernel
theorem dX5_countKeptFiles_11 : decode cX5_countKeptFiles 11 = .ok (.aload_n 0, 1) := by decide +kernel
theorem dX5_countKeptFiles_12 : decode cX5_countKeptFiles 12 = .ok (.getfield 33, 3) := by decide +kernel
theorem dX5_countKeptFiles_15 : decode cX5_countKeptFiles 15 = .ok (.iload_n 2, 1) := by decide +kernel
theorem dX5_countKeptFiles_16 : decode cX5_countKeptFiles 16 = .ok (.iaload, 1) := by decide +kernel
theorem dX5_countKeptFiles_17 : decode cX5_countKeptFiles 17 = .ok (.iconst (-1), 1) := by decide +kernel
theorem dX5_countKeptFiles_18 : decode cX5_countKeptFiles 18 = .ok (.if_icmp .ne 7, 3) := by decide +kernel
theorem dX5_countKeptFiles_21 : decode cX5_countKeptFiles 21 = .ok (.iconst 0, 1) := by decide +kernel
theorem dX5_countKeptFiles_22 : decode cX5_countKeptFiles 22 = .ok (.goto 4, 3) := by decide +kernel
theorem dX5_countKeptFiles_25 : decode cX5_countKeptFiles 25 = .ok (.iconst 1, 1) := by decide +kernel
theorem dX5_countKeptFiles_26 : decode cX5_countKeptFiles 26 = .ok (.iadd, 1) := by decide +kernel
theorem dX5_countKeptFiles_27 : decode cX5_countKeptFiles 27 = .ok (.istore_n 1, 1) := by decide +kernel
theorem dX5_countKeptFiles_28 : decode cX5_countKeptFiles 28 = .ok (.iinc 2 1, 3) := by decide +kernel
theorem dX5_countKeptFiles_31 : decode cX5_countKeptFiles 31 = .ok (.goto (-27), 3) := by decide +kernel
theorem dX5_countKeptFiles_34 : decode cX5_countKeptFiles 34 = .ok (.iload_n 1, 1) := by decide +kernel
theorem dX5_countKeptFiles_35 : decode cX5_countKeptFiles 35 = .ok (.ireturn, 1) := by decide +kernel
theorem dX5_share_0 : decode cX5_share 0 = .ok (.aload_n 0, 1) := by decide +kernel
theorem dX5_share_1 : decode cX5_share 1 = .ok (.iload_n 1, 1) := by decide +kernel
theorem dX5_share_2 : decode cX5_share 2 = .ok (.iload_n 2, 1) := by decide +kernel
theorem dX5_share_3 : decode cX5_share 3 = .ok (.invokevirtual 91, 3) := by decide +kernel
theorem dX5_share_6 : decode cX5_share 6 = .ok (.istore_n 3, 1) := by decide +kernel
theorem dX5_share_7 : decode cX5_share 7 = .ok (.aload_n 0, 1) := by decide +kernel
theorem dX5_share_8 : decode cX5_share 8 = .ok (.iload_n 3, 1) := by decide +kernel
theorem dX5_share_9 : decode cX5_share 9 = .ok (.iload_n 1, 1) := by decide +kernel
theorem dX5_share_10 : decode cX5_share 10 = .ok (.iload_n 2, 1) := by decide +kernel
theorem dX5_share_11 : decode cX5_share 11 = .ok (.invokevirtual 94, 3) := by decide +kernel
theorem dX5_share_14 : decode cX5_share 14 = .ok (.istore 4, 2) := by decide +kernel
theorem dX5_share_16 : decode cX5_share 16 = .ok (.iload 4, 2) := by decide +kernel
theorem dX5_share_18 : decode cX5_share 18 = .ok (.iconst (-1), 1) := by decide +kernel
theorem dX5_share_19 : decode cX5_share 19 = .ok (.if_icmp .ne 24, 3) := by decide +kernel
theorem dX5_share_22 : decode cX5_share 22 = .ok (.aload_n 0, 1) := by decide +kernel
theorem dX5_share_23 : decode cX5_share 23 = .ok (.invokevirtual 98, 3) := by decide +kernel
theorem dX5_share_26 : decode cX5_share 26 = .ok (.istore 4, 2) := by decide +kernel
theorem dX5_share_28 : decode cX5_share 28 = .ok (.iload 4, 2) := by decide +kernel
theorem dX5_share_30 : decode cX5_share 30 = .ok (.iconst (-1), 1) := by decide +kernel
theorem dX5_share_31 : decode cX5_share 31 = .ok (.if_icmp .eq 12, 3) := by decide +kernel
theorem dX5_share_34 : decode cX5_share 34 = .ok (.aload_n 0, 1) := by decide +kernel
theorem dX5_share_35 : decode cX5_share 35 = .ok (.iload 4, 2) := by decide +kernel
theorem dX5_share_37 : decode cX5_share 37 = .ok (.iload_n 3, 1) := by decide +kernel
theorem dX5_share_38 : decode cX5_share 38 = .ok (.iload_n 1, 1) := by decide +kernel
theorem dX5_share_39 : decode cX5_share 39 = .ok (.iload_n 2, 1) := by decide +kernel
theorem dX5_share_40 : decode cX5_share 40 = .ok (.invokevirtual 102, 3) := by decide +kernel
theorem dX5_share_43 : decode cX5_share 43 = .ok (.iload 4, 2) := by decide +kernel
theorem dX5_share_45 : decode cX5_share 45 = .ok (.ireturn, 1) := by decide +kernel
theorem dX5_findAlike_0 : decode cX5_findAlike 0 = .ok (.iconst 0, 1) := by decide +kernel
theorem dX5_findAlike_1 : decode cX5_findAlike 1 = .ok (.istore 4, 2) := by decide +kernel
theorem dX5_findAlike_3 : decode cX5_findAlike 3 = .ok (.iconst 1, 1) := by decide +kernel
theorem dX5_findAlike_4 : decode cX5_findAlike 4 = .ok (.istore 5, 2) := by decide +kernel
theorem dX5_findAlike_6 : decode cX5_findAlike 6 = .ok (.iload 5, 2) := by decide +kernel
theorem dX5_findAlike_8 : decode cX5_findAlike 8 = .ok (.sipush 300, 3) := by decide +kernel
theorem dX5_findAlike_11 : decode cX5_findAlike 11 = .ok (.if_icmp .gt 92, 3) := by decide +kernel
theorem dX5_findAlike_14 : decode cX5_findAlike 14 = .ok (.iload 4, 2) := by decide +kernel
theorem dX5_findAlike_16 : decode cX5_findAlike 16 = .ok (.aload_n 0, 1) := by decide +kernel
theorem dX5_findAlike_17 : decode cX5_findAlike 17 = .ok (.getfield 49, 3) := by decide +kernel
theorem dX5_findAlike_20 : decode cX5_findAlike 20 = .ok (.if_icmp .ge 83, 3) := by decide +kernel
theorem dX5_findAlike_23 : decode cX5_findAlike 23 = .ok (.aload_n 0, 1) := by decide +kernel
theorem dX5_findAlike_24 : decode cX5_findAlike 24 = .ok (.getfield 25, 3) := by decide +kernel
theorem dX5_findAlike_27 : decode cX5_findAlike 27 = .ok (.iload 5, 2) := by decide +kernel
theorem dX5_findAlike_29 : decode cX5_findAlike 29 = .ok (.iaload, 1) := by decide +kernel
theorem dX5_findAlike_30 : decode cX5_findAlike 30 = .ok (.ifCond .le 67, 3) := by decide +kernel
theorem dX5_findAlike_33 : decode cX5_findAlike 33 = .ok (.iinc 4 1, 3) := by decide +kernel
theorem dX5_findAlike_36 : decode cX5_findAlike 36 = .ok (.aload_n 0, 1) := by decide +kernel
theorem dX5_findAlike_37 : decode cX5_findAlike 37 = .ok (.getfield 22, 3) := by decide +kernel
theorem dX5_findAlike_40 : decode cX5_findAlike 40 = .ok (.iload 5, 2) := by decide +kernel
theorem dX5_findAlike_42 : decode cX5_findAlike 42 = .ok (.iaload, 1) := by decide +kernel
theorem dX5_findAlike_43 : decode cX5_findAlike 43 = .ok (.iload_n 1, 1) := by decide +kernel
theorem dX5_findAlike_44 : decode cX5_findAlike 44 = .ok (.if_icmp .ne 53, 3) := by decide +kernel
theorem dX5_findAlike_47 : decode cX5_findAlike 47 = .ok (.aload_n 0, 1) := by decide +kernel
theorem dX5_findAlike_48 : decode cX5_findAlike 48 = .ok (.getfield 19, 3) := by decide +kernel
theorem dX5_findAlike_51 : decode cX5_findAlike 51 = .ok (.iload 5, 2) := by decide +kernel
theorem dX5_findAlike_53 : decode cX5_findAlike 53 = .ok (.iaload, 1) := by decide +kernel
theorem dX5_findAlike_54 : decode cX5_findAlike 54 = .ok (.iload_n 3, 1) := by decide +kernel
theorem dX5_findAlike_55 : decode cX5_findAlike 55 = .ok (.if_icmp .ne 42, 3) := by decide +kernel
theorem dX5_findAlike_58 : decode cX5_findAlike 58 = .ok (.aload_n 0, 1) := by decide +kernel
theorem dX5_findAlike_59 : decode cX5_findAlike 59 = .ok (.getfield 9, 3) := by decide +kernel
theorem dX5_findAlike_62 : decode cX5_findAlike 62 = .ok (.aload_n 0, 1) := by decide +kernel
theorem dX5_findAlike_63 : decode cX5_findAlike 63 = .ok (.getfield 15, 3) := by decide +kernel
theorem dX5_findAlike_66 : decode cX5_findAlike 66 = .ok (.iload 5, 2) := by decide +kernel
theorem dX5_findAlike_68 : decode cX5_findAlike 68 = .ok (.iaload, 1) := by decide +kernel
theorem dX5_findAlike_69 : decode cX5_findAlike 69 = .ok (.aload_n 0, 1) := by decide +kernel
theorem dX5_findAlike_70 : decode cX5_findAlike 70 = .ok (.getfield 39, 3) := by decide +kernel
theorem dX5_findAlike_73 : decode cX5_findAlike 73 = .ok (.getfield 106, 3) := by decide +kernel
theorem dX5_findAlike_76 : decode cX5_findAlike 76 = .ok (.iload_n 2, 1) := by decide +kernel
theorem dX5_findAlike_77 : decode cX5_findAlike 77 = .ok (.iload_n 3, 1) := by decide +kernel
theorem dX5_findAlike_78 : decode cX5_findAlike 78 = .ok (.invokestatic 107, 3) := by decide +kernel
theorem dX5_findAlike_81 : decode cX5_findAlike 81 = .ok (.ifCond .eq 6, 3) := by decide +kernel
theorem dX5_findAlike_84 : decode cX5_findAlike 84 = .ok (.iload 5, 2) := by decide +kernel
theorem dX5_findAlike_86 : decode cX5_findAlike 86 = .ok (.ireturn, 1) := by decide +kernel
theorem dX5_findAlike_87 : decode cX5_findAlike 87 = .ok (.aload_n 0, 1) := by decide +kernel
theorem dX5_findAlike_88 : decode cX5_findAlike 88 = .ok (.dup, 1) := by decide +kernel
theorem dX5_findAlike_89 : decode cX5_findAlike 89 = .ok (.getfield 53, 3) := by decide +kernel
theorem dX5_findAlike_92 : decode cX5_findAlike 92 = .ok (.iconst 1, 1) := by decide +kernel
theorem dX5_findAlike_93 : decode cX5_findAlike 93 = .ok (.iadd, 1) := by decide +kernel
theorem dX5_findAlike_94 : decode cX5_findAlike 94 = .ok (.putfield 53, 3) := by decide +kernel
theorem dX5_findAlike_97 : decode cX5_findAlike 97 = .ok (.iinc 5 1, 3) := by decide +kernel
theorem dX5_findAlike_100 : decode cX5_findAlike 100 = .ok (.goto (-94), 3) := by decide +kernel
theorem dX5_findAlike_103 : decode cX5_findAlike 103 = .ok (.iconst (-1), 1) := by decide +kernel
theorem dX5_findAlike_104 : decode cX5_findAlike 104 = .ok (.ireturn, 1) := by decide +kernel
theorem dX5_leastFree_0 : decode cX5_leastFree 0 = .ok (.iconst 1, 1) := by decide +kernel
theorem dX5_leastFree_1 : decode cX5_leastFree 1 = .ok (.istore_n 1, 1) := by decide +kernel
theorem dX5_leastFree_2 : decode cX5_leastFree 2 = .ok (.iload_n 1, 1) := by decide +kernel
theorem dX5_leastFree_3 : decode cX5_leastFree 3 = .ok (.sipush 300, 3) := by decide +kernel
theorem dX5_leastFree_6 : decode cX5_leastFree 6 = .ok (.if_icmp .gt 20, 3) := by decide +kernel
theorem dX5_leastFree_9 : decode cX5_leastFree 9 = .ok (.aload_n 0, 1) := by decide +kernel
theorem dX5_leastFree_10 : decode cX5_leastFree 10 = .ok (.getfield 25, 3) := by decide +kernel
theorem dX5_leastFree_13 : decode cX5_leastFree 13 = .ok (.iload_n 1, 1) := by decide +kernel
theorem dX5_leastFree_14 : decode cX5_leastFree 14 = .ok (.iaload, 1) := by decide +kernel
theorem dX5_leastFree_15 : decode cX5_leastFree 15 = .ok (.ifCond .ne 5, 3) := by decide +kernel
theorem dX5_leastFree_18 : decode cX5_leastFree 18 = .ok (.iload_n 1, 1) := by decide +kernel
theorem dX5_leastFree_19 : decode cX5_leastFree 19 = .ok (.ireturn, 1) := by decide +kernel
theorem dX5_leastFree_20 : decode cX5_leastFree 20 = .ok (.iinc 1 1, 3) := by decide +kernel
theorem dX5_leastFree_23 : decode cX5_leastFree 23 = .ok (.goto (-21), 3) := by decide +kernel
theorem dX5_leastFree_26 : decode cX5_leastFree 26 = .ok (.iconst (-1), 1) := by decide +kernel
theorem dX5_leastFree_27 : decode cX5_leastFree 27 = .ok (.ireturn, 1) := by decide +kernel
theorem dX5_printOf_0 : decode cX5_printOf 0 = .ok (.iconst 0, 1) := by decide +kernel
theorem dX5_printOf_1 : decode cX5_printOf 1 = .ok (.istore_n 3, 1) := by decide +kernel
theorem dX5_printOf_2 : decode cX5_printOf 2 = .ok (.iconst 0, 1) := by decide +kernel
theorem dX5_printOf_3 : decode cX5_printOf 3 = .ok (.istore 4, 2) := by decide +kernel
theorem dX5_printOf_5 : decode cX5_printOf 5 = .ok (.iload 4, 2) := by decide +kernel
theorem dX5_printOf_7 : decode cX5_printOf 7 = .ok (.iload_n 2, 1) := by decide +kernel
theorem dX5_printOf_8 : decode cX5_printOf 8 = .ok (.if_icmp .ge 33, 3) := by decide +kernel
theorem dX5_printOf_11 : decode cX5_printOf 11 = .ok (.iload_n 3, 1) := by decide +kernel
theorem dX5_printOf_12 : decode cX5_printOf 12 = .ok (.aload_n 0, 1) := by decide +kernel
theorem dX5_printOf_13 : decode cX5_printOf 13 = .ok (.getfield 39, 3) := by decide +kernel
theorem dX5_printOf_16 : decode cX5_printOf 16 = .ok (.getfield 106, 3) := by decide +kernel
theorem dX5_printOf_19 : decode cX5_printOf 19 = .ok (.iload_n 1, 1) := by decide +kernel
theorem dX5_printOf_20 : decode cX5_printOf 20 = .ok (.iload 4, 2) := by decide +kernel
theorem dX5_printOf_22 : decode cX5_printOf 22 = .ok (.iadd, 1) := by decide +kernel
theorem dX5_printOf_23 : decode cX5_printOf 23 = .ok (.baload, 1) := by decide +kernel
theorem dX5_printOf_24 : decode cX5_printOf 24 = .ok (.sipush 255, 3) := by decide +kernel
theorem dX5_printOf_27 : decode cX5_printOf 27 = .ok (.iand, 1) := by decide +kernel
theorem dX5_printOf_28 : decode cX5_printOf 28 = .ok (.iload 4, 2) := by decide +kernel
theorem dX5_printOf_30 : decode cX5_printOf 30 = .ok (.iconst 1, 1) := by decide +kernel
theorem dX5_printOf_31 : decode cX5_printOf 31 = .ok (.iadd, 1) := by decide +kernel
theorem dX5_printOf_32 : decode cX5_printOf 32 = .ok (.imul, 1) := by decide +kernel
theorem dX5_printOf_33 : decode cX5_printOf 33 = .ok (.iadd, 1) := by decide +kernel
theorem dX5_printOf_34 : decode cX5_printOf 34 = .ok (.istore_n 3, 1) := by decide +kernel
theorem dX5_printOf_35 : decode cX5_printOf 35 = .ok (.iinc 4 1, 3) := by decide +kernel
theorem dX5_printOf_38 : decode cX5_printOf 38 = .ok (.goto (-33), 3) := by decide +kernel
theorem dX5_printOf_41 : decode cX5_printOf 41 = .ok (.iload_n 3, 1) := by decide +kernel
theorem dX5_printOf_42 : decode cX5_printOf 42 = .ok (.sipush 255, 3) := by decide +kernel
theorem dX5_printOf_45 : decode cX5_printOf 45 = .ok (.iand, 1) := by decide +kernel
theorem dX5_printOf_46 : decode cX5_printOf 46 = .ok (.ireturn, 1) := by decide +kernel
theorem dX5_addPiece_0 : decode cX5_addPiece 0 = .ok (.aload_n 0, 1) := by decide +kernel
theorem dX5_addPiece_1 : decode cX5_addPiece 1 = .ok (.getfield 39, 3) := by decide +kernel
theorem dX5_addPiece_4 : decode cX5_addPiece 4 = .ok (.getfield 106, 3) := by decide +kernel
theorem dX5_addPiece_7 : decode cX5_addPiece 7 = .ok (.iload_n 3, 1) := by decide +kernel
theorem dX5_addPiece_8 : decode cX5_addPiece 8 = .ok (.aload_n 0, 1) := by decide +kernel
theorem dX5_addPiece_9 : decode cX5_addPiece 9 = .ok (.getfield 9, 3) := by decide +kernel
theorem dX5_addPiece_12 : decode cX5_addPiece 12 = .ok (.aload_n 0, 1) := by decide +kernel
theorem dX5_addPiece_13 : decode cX5_addPiece 13 = .ok (.getfield 111, 3) := by decide +kernel
theorem dX5_addPiece_16 : decode cX5_addPiece 16 = .ok (.iload 4, 2) := by decide +kernel
theorem dX5_addPiece_18 : decode cX5_addPiece 18 = .ok (.invokestatic 73, 3) := by decide +kernel
theorem dX5_addPiece_21 : decode cX5_addPiece 21 = .ok (.aload_n 0, 1) := by decide +kernel
theorem dX5_addPiece_22 : decode cX5_addPiece 22 = .ok (.getfield 15, 3) := by decide +kernel
theorem dX5_addPiece_25 : decode cX5_addPiece 25 = .ok (.iload_n 1, 1) := by decide +kernel
theorem dX5_addPiece_26 : decode cX5_addPiece 26 = .ok (.aload_n 0, 1) := by decide +kernel
theorem dX5_addPiece_27 : decode cX5_addPiece 27 = .ok (.getfield 111, 3) := by decide +kernel
theorem dX5_addPiece_30 : decode cX5_addPiece 30 = .ok (.iastore, 1) := by decide +kernel
theorem dX5_addPiece_31 : decode cX5_addPiece 31 = .ok (.aload_n 0, 1) := by decide +kernel
theorem dX5_addPiece_32 : decode cX5_addPiece 32 = .ok (.getfield 19, 3) := by decide +kernel
theorem dX5_addPiece_35 : decode cX5_addPiece 35 = .ok (.iload_n 1, 1) := by decide +kernel
theorem dX5_addPiece_36 : decode cX5_addPiece 36 = .ok (.iload 4, 2) := by decide +kernel
theorem dX5_addPiece_38 : decode cX5_addPiece 38 = .ok (.iastore, 1) := by decide +kernel
theorem dX5_addPiece_39 : decode cX5_addPiece 39 = .ok (.aload_n 0, 1) := by decide +kernel
theorem dX5_addPiece_40 : decode cX5_addPiece 40 = .ok (.getfield 22, 3) := by decide +kernel
theorem dX5_addPiece_43 : decode cX5_addPiece 43 = .ok (.iload_n 1, 1) := by decide +kernel
theorem dX5_addPiece_44 : decode cX5_addPiece 44 = .ok (.iload_n 2, 1) := by decide +kernel
theorem dX5_addPiece_45 : decode cX5_addPiece 45 = .ok (.iastore, 1) := by decide +kernel
theorem dX5_addPiece_46 : decode cX5_addPiece 46 = .ok (.aload_n 0, 1) := by decide +kernel
theorem dX5_addPiece_47 : decode cX5_addPiece 47 = .ok (.dup, 1) := by decide +kernel
theorem dX5_addPiece_48 : decode cX5_addPiece 48 = .ok (.getfield 111, 3) := by decide +kernel
theorem dX5_addPiece_51 : decode cX5_addPiece 51 = .ok (.iload 4, 2) := by decide +kernel
theorem dX5_addPiece_53 : decode cX5_addPiece 53 = .ok (.iadd, 1) := by decide +kernel
theorem dX5_addPiece_54 : decode cX5_addPiece 54 = .ok (.putfield 111, 3) := by decide +kernel
theorem dX5_addPiece_57 : decode cX5_addPiece 57 = .ok (.aload_n 0, 1) := by decide +kernel
theorem dX5_addPiece_58 : decode cX5_addPiece 58 = .ok (.dup, 1) := by decide +kernel
theorem dX5_addPiece_59 : decode cX5_addPiece 59 = .ok (.getfield 49, 3) := by decide +kernel
theorem dX5_addPiece_62 : decode cX5_addPiece 62 = .ok (.iconst 1, 1) := by decide +kernel
theorem dX5_addPiece_63 : decode cX5_addPiece 63 = .ok (.iadd, 1) := by decide +kernel
theorem dX5_addPiece_64 : decode cX5_addPiece 64 = .ok (.putfield 49, 3) := by decide +kernel
theorem dX5_addPiece_67 : decode cX5_addPiece 67 = .ok (.return_, 1) := by decide +kernel
theorem dX5_release_0 : decode cX5_release 0 = .ok (.iconst 0, 1) := by decide +kernel
theorem dX5_release_1 : decode cX5_release 1 = .ok (.istore_n 3, 1) := by decide +kernel
theorem dX5_release_2 : decode cX5_release 2 = .ok (.iload_n 3, 1) := by decide +kernel
theorem dX5_release_3 : decode cX5_release 3 = .ok (.iload_n 2, 1) := by decide +kernel
theorem dX5_release_4 : decode cX5_release 4 = .ok (.if_icmp .ge 41, 3) := by decide +kernel
theorem dX5_release_7 : decode cX5_release 7 = .ok (.aload_n 1, 1) := by decide +kernel
theorem dX5_release_8 : decode cX5_release 8 = .ok (.iload_n 3, 1) := by decide +kernel
theorem dX5_release_9 : decode cX5_release 9 = .ok (.iaload, 1) := by decide +kernel
theorem dX5_release_10 : decode cX5_release 10 = .ok (.istore 4, 2) := by decide +kernel
theorem dX5_release_12 : decode cX5_release 12 = .ok (.aload_n 0, 1) := by decide +kernel
theorem dX5_release_13 : decode cX5_release 13 = .ok (.getfield 25, 3) := by decide +kernel
theorem dX5_release_16 : decode cX5_release 16 = .ok (.iload 4, 2) := by decide +kernel
theorem dX5_release_18 : decode cX5_release 18 = .ok (.dup2, 1) := by decide +kernel
theorem dX5_release_19 : decode cX5_release 19 = .ok (.iaload, 1) := by decide +kernel
theorem dX5_release_20 : decode cX5_release 20 = .ok (.iconst 1, 1) := by decide +kernel
theorem dX5_release_21 : decode cX5_release 21 = .ok (.isub, 1) := by decide +kernel
theorem dX5_release_22 : decode cX5_release 22 = .ok (.iastore, 1) := by decide +kernel
theorem dX5_release_23 : decode cX5_release 23 = .ok (.aload_n 0, 1) := by decide +kernel
theorem dX5_release_24 : decode cX5_release 24 = .ok (.getfield 25, 3) := by decide +kernel
theorem dX5_release_27 : decode cX5_release 27 = .ok (.iload 4, 2) := by decide +kernel
theorem dX5_release_29 : decode cX5_release 29 = .ok (.iaload, 1) := by decide +kernel
theorem dX5_release_30 : decode cX5_release 30 = .ok (.ifCond .ne 9, 3) := by decide +kernel
theorem dX5_release_33 : decode cX5_release 33 = .ok (.aload_n 0, 1) := by decide +kernel
theorem dX5_release_34 : decode cX5_release 34 = .ok (.iload 4, 2) := by decide +kernel
theorem dX5_release_36 : decode cX5_release 36 = .ok (.invokevirtual 114, 3) := by decide +kernel
theorem dX5_release_39 : decode cX5_release 39 = .ok (.iinc 3 1, 3) := by decide +kernel
theorem dX5_release_42 : decode cX5_release 42 = .ok (.goto (-40), 3) := by decide +kernel
theorem dX5_release_45 : decode cX5_release 45 = .ok (.return_, 1) := by decide +kernel
theorem dX5_removePiece_0 : decode cX5_removePiece 0 = .ok (.aload_n 0, 1) := by decide +kernel
theorem dX5_removePiece_1 : decode cX5_removePiece 1 = .ok (.getfield 15, 3) := by decide +kernel
theorem dX5_removePiece_4 : decode cX5_removePiece 4 = .ok (.iload_n 1, 1) := by decide +kernel
theorem dX5_removePiece_5 : decode cX5_removePiece 5 = .ok (.iaload, 1) := by decide +kernel
theorem dX5_removePiece_6 : decode cX5_removePiece 6 = .ok (.aload_n 0, 1) := by decide +kernel
theorem dX5_removePiece_7 : decode cX5_removePiece 7 = .ok (.getfield 19, 3) := by decide +kernel
theorem dX5_removePiece_10 : decode cX5_removePiece 10 = .ok (.iload_n 1, 1) := by decide +kernel
theorem dX5_removePiece_11 : decode cX5_removePiece 11 = .ok (.iaload, 1) := by decide +kernel
theorem dX5_removePiece_12 : decode cX5_removePiece 12 = .ok (.iadd, 1) := by decide +kernel
theorem dX5_removePiece_13 : decode cX5_removePiece 13 = .ok (.istore_n 2, 1) := by decide +kernel
theorem dX5_removePiece_14 : decode cX5_removePiece 14 = .ok (.aload_n 0, 1) := by decide +kernel
theorem dX5_removePiece_15 : decode cX5_removePiece 15 = .ok (.getfield 9, 3) := by decide +kernel
theorem dX5_removePiece_18 : decode cX5_removePiece 18 = .ok (.iload_n 2, 1) := by decide +kernel
theorem dX5_removePiece_19 : decode cX5_removePiece 19 = .ok (.aload_n 0, 1) := by decide +kernel
theorem dX5_removePiece_20 : decode cX5_removePiece 20 = .ok (.getfield 9, 3) := by decide +kernel
theorem dX5_removePiece_23 : decode cX5_removePiece 23 = .ok (.aload_n 0, 1) := by decide +kernel
theorem dX5_removePiece_24 : decode cX5_removePiece 24 = .ok (.getfield 15, 3) := by decide +kernel
theorem dX5_removePiece_27 : decode cX5_removePiece 27 = .ok (.iload_n 1, 1) := by decide +kernel
theorem dX5_removePiece_28 : decode cX5_removePiece 28 = .ok (.iaload, 1) := by decide +kernel
theorem dX5_removePiece_29 : decode cX5_removePiece 29 = .ok (.aload_n 0, 1) := by decide +kernel
theorem dX5_removePiece_30 : decode cX5_removePiece 30 = .ok (.getfield 111, 3) := by decide +kernel
theorem dX5_removePiece_33 : decode cX5_removePiece 33 = .ok (.iload_n 2, 1) := by decide +kernel
theorem dX5_removePiece_34 : decode cX5_removePiece 34 = .ok (.isub, 1) := by decide +kernel
theorem dX5_removePiece_35 : decode cX5_removePiece 35 = .ok (.invokestatic 73, 3) := by decide +kernel
theorem dX5_removePiece_38 : decode cX5_removePiece 38 = .ok (.iconst 1, 1) := by decide +kernel
theorem dX5_removePiece_39 : decode cX5_removePiece 39 = .ok (.istore_n 3, 1) := by decide +kernel
theorem dX5_removePiece_40 : decode cX5_removePiece 40 = .ok (.iload_n 3, 1) := by decide +kernel
theorem dX5_removePiece_41 : decode cX5_removePiece 41 = .ok (.sipush 300, 3) := by decide +kernel
