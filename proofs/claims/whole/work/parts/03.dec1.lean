theorem dX5_removePiece_44 : decode cX5_removePiece 44 = .ok (.if_icmp .gt 43, 3) := by decide +kernel
theorem dX5_removePiece_47 : decode cX5_removePiece 47 = .ok (.aload_n 0, 1) := by decide +kernel
theorem dX5_removePiece_48 : decode cX5_removePiece 48 = .ok (.getfield 25, 3) := by decide +kernel
theorem dX5_removePiece_51 : decode cX5_removePiece 51 = .ok (.iload_n 3, 1) := by decide +kernel
theorem dX5_removePiece_52 : decode cX5_removePiece 52 = .ok (.iaload, 1) := by decide +kernel
theorem dX5_removePiece_53 : decode cX5_removePiece 53 = .ok (.ifCond .le 28, 3) := by decide +kernel
theorem dX5_removePiece_56 : decode cX5_removePiece 56 = .ok (.aload_n 0, 1) := by decide +kernel
theorem dX5_removePiece_57 : decode cX5_removePiece 57 = .ok (.getfield 15, 3) := by decide +kernel
theorem dX5_removePiece_60 : decode cX5_removePiece 60 = .ok (.iload_n 3, 1) := by decide +kernel
theorem dX5_removePiece_61 : decode cX5_removePiece 61 = .ok (.iaload, 1) := by decide +kernel
theorem dX5_removePiece_62 : decode cX5_removePiece 62 = .ok (.iload_n 2, 1) := by decide +kernel
theorem dX5_removePiece_63 : decode cX5_removePiece 63 = .ok (.if_icmp .lt 18, 3) := by decide +kernel
theorem dX5_removePiece_66 : decode cX5_removePiece 66 = .ok (.aload_n 0, 1) := by decide +kernel
theorem dX5_removePiece_67 : decode cX5_removePiece 67 = .ok (.getfield 15, 3) := by decide +kernel
theorem dX5_removePiece_70 : decode cX5_removePiece 70 = .ok (.iload_n 3, 1) := by decide +kernel
theorem dX5_removePiece_71 : decode cX5_removePiece 71 = .ok (.dup2, 1) := by decide +kernel
theorem dX5_removePiece_72 : decode cX5_removePiece 72 = .ok (.iaload, 1) := by decide +kernel
theorem dX5_removePiece_73 : decode cX5_removePiece 73 = .ok (.aload_n 0, 1) := by decide +kernel
theorem dX5_removePiece_74 : decode cX5_removePiece 74 = .ok (.getfield 19, 3) := by decide +kernel
theorem dX5_removePiece_77 : decode cX5_removePiece 77 = .ok (.iload_n 1, 1) := by decide +kernel
theorem dX5_removePiece_78 : decode cX5_removePiece 78 = .ok (.iaload, 1) := by decide +kernel
theorem dX5_removePiece_79 : decode cX5_removePiece 79 = .ok (.isub, 1) := by decide +kernel
theorem dX5_removePiece_80 : decode cX5_removePiece 80 = .ok (.iastore, 1) := by decide +kernel
theorem dX5_removePiece_81 : decode cX5_removePiece 81 = .ok (.iinc 3 1, 3) := by decide +kernel
theorem dX5_removePiece_84 : decode cX5_removePiece 84 = .ok (.goto (-44), 3) := by decide +kernel
theorem dX5_removePiece_87 : decode cX5_removePiece 87 = .ok (.aload_n 0, 1) := by decide +kernel
theorem dX5_removePiece_88 : decode cX5_removePiece 88 = .ok (.dup, 1) := by decide +kernel
theorem dX5_removePiece_89 : decode cX5_removePiece 89 = .ok (.getfield 111, 3) := by decide +kernel
theorem dX5_removePiece_92 : decode cX5_removePiece 92 = .ok (.aload_n 0, 1) := by decide +kernel
theorem dX5_removePiece_93 : decode cX5_removePiece 93 = .ok (.getfield 19, 3) := by decide +kernel
theorem dX5_removePiece_96 : decode cX5_removePiece 96 = .ok (.iload_n 1, 1) := by decide +kernel
theorem dX5_removePiece_97 : decode cX5_removePiece 97 = .ok (.iaload, 1) := by decide +kernel
theorem dX5_removePiece_98 : decode cX5_removePiece 98 = .ok (.isub, 1) := by decide +kernel
theorem dX5_removePiece_99 : decode cX5_removePiece 99 = .ok (.putfield 111, 3) := by decide +kernel
theorem dX5_removePiece_102 : decode cX5_removePiece 102 = .ok (.aload_n 0, 1) := by decide +kernel
theorem dX5_removePiece_103 : decode cX5_removePiece 103 = .ok (.dup, 1) := by decide +kernel
theorem dX5_removePiece_104 : decode cX5_removePiece 104 = .ok (.getfield 49, 3) := by decide +kernel
theorem dX5_removePiece_107 : decode cX5_removePiece 107 = .ok (.iconst 1, 1) := by decide +kernel
theorem dX5_removePiece_108 : decode cX5_removePiece 108 = .ok (.isub, 1) := by decide +kernel
theorem dX5_removePiece_109 : decode cX5_removePiece 109 = .ok (.putfield 49, 3) := by decide +kernel
theorem dX5_removePiece_112 : decode cX5_removePiece 112 = .ok (.return_, 1) := by decide +kernel
theorem dX6_init_0 : decode cX6_init 0 = .ok (.aload_n 0, 1) := by decide +kernel
theorem dX6_init_1 : decode cX6_init 1 = .ok (.invokespecial 3, 3) := by decide +kernel
theorem dX6_init_4 : decode cX6_init 4 = .ok (.aload_n 0, 1) := by decide +kernel
theorem dX6_init_5 : decode cX6_init 5 = .ok (.sipush 4808, 3) := by decide +kernel
theorem dX6_init_8 : decode cX6_init 8 = .ok (.newarray .int, 2) := by decide +kernel
theorem dX6_init_10 : decode cX6_init 10 = .ok (.putfield 9, 3) := by decide +kernel
theorem dX6_init_13 : decode cX6_init 13 = .ok (.aload_n 0, 1) := by decide +kernel
theorem dX6_init_14 : decode cX6_init 14 = .ok (.new 15, 3) := by decide +kernel
theorem dX6_init_17 : decode cX6_init 17 = .ok (.dup, 1) := by decide +kernel
theorem dX6_init_18 : decode cX6_init 18 = .ok (.invokespecial 17, 3) := by decide +kernel
theorem dX6_init_21 : decode cX6_init 21 = .ok (.putfield 18, 3) := by decide +kernel
theorem dX6_init_24 : decode cX6_init 24 = .ok (.aload_n 0, 1) := by decide +kernel
theorem dX6_init_25 : decode cX6_init 25 = .ok (.sipush 200, 3) := by decide +kernel
theorem dX6_init_28 : decode cX6_init 28 = .ok (.newarray .int, 2) := by decide +kernel
theorem dX6_init_30 : decode cX6_init 30 = .ok (.putfield 22, 3) := by decide +kernel
theorem dX6_init_33 : decode cX6_init 33 = .ok (.aload_n 0, 1) := by decide +kernel
theorem dX6_init_34 : decode cX6_init 34 = .ok (.sipush 200, 3) := by decide +kernel
theorem dX6_init_37 : decode cX6_init 37 = .ok (.newarray .int, 2) := by decide +kernel
theorem dX6_init_39 : decode cX6_init 39 = .ok (.putfield 25, 3) := by decide +kernel
theorem dX6_init_42 : decode cX6_init 42 = .ok (.aload_n 0, 1) := by decide +kernel
theorem dX6_init_43 : decode cX6_init 43 = .ok (.sipush 200, 3) := by decide +kernel
theorem dX6_init_46 : decode cX6_init 46 = .ok (.newarray .int, 2) := by decide +kernel
theorem dX6_init_48 : decode cX6_init 48 = .ok (.putfield 28, 3) := by decide +kernel
theorem dX6_init_51 : decode cX6_init 51 = .ok (.return_, 1) := by decide +kernel
theorem dX6_clear_0 : decode cX6_clear 0 = .ok (.aload_n 0, 1) := by decide +kernel
theorem dX6_clear_1 : decode cX6_clear 1 = .ok (.iconst 0, 1) := by decide +kernel
theorem dX6_clear_2 : decode cX6_clear 2 = .ok (.putfield 31, 3) := by decide +kernel
theorem dX6_clear_5 : decode cX6_clear 5 = .ok (.aload_n 0, 1) := by decide +kernel
theorem dX6_clear_6 : decode cX6_clear 6 = .ok (.iconst 0, 1) := by decide +kernel
theorem dX6_clear_7 : decode cX6_clear 7 = .ok (.putfield 35, 3) := by decide +kernel
theorem dX6_clear_10 : decode cX6_clear 10 = .ok (.aload_n 0, 1) := by decide +kernel
theorem dX6_clear_11 : decode cX6_clear 11 = .ok (.iconst 0, 1) := by decide +kernel
theorem dX6_clear_12 : decode cX6_clear 12 = .ok (.putfield 38, 3) := by decide +kernel
theorem dX6_clear_15 : decode cX6_clear 15 = .ok (.return_, 1) := by decide +kernel
theorem dX6_addRow_0 : decode cX6_addRow 0 = .ok (.aload_n 1, 1) := by decide +kernel
theorem dX6_addRow_1 : decode cX6_addRow 1 = .ok (.iconst 0, 1) := by decide +kernel
theorem dX6_addRow_2 : decode cX6_addRow 2 = .ok (.aload_n 0, 1) := by decide +kernel
theorem dX6_addRow_3 : decode cX6_addRow 3 = .ok (.getfield 9, 3) := by decide +kernel
theorem dX6_addRow_6 : decode cX6_addRow 6 = .ok (.aload_n 0, 1) := by decide +kernel
theorem dX6_addRow_7 : decode cX6_addRow 7 = .ok (.getfield 31, 3) := by decide +kernel
theorem dX6_addRow_10 : decode cX6_addRow 10 = .ok (.iload_n 2, 1) := by decide +kernel
theorem dX6_addRow_11 : decode cX6_addRow 11 = .ok (.invokestatic 41, 3) := by decide +kernel
theorem dX6_addRow_14 : decode cX6_addRow 14 = .ok (.aload_n 0, 1) := by decide +kernel
theorem dX6_addRow_15 : decode cX6_addRow 15 = .ok (.dup, 1) := by decide +kernel
theorem dX6_addRow_16 : decode cX6_addRow 16 = .ok (.getfield 31, 3) := by decide +kernel
theorem dX6_addRow_19 : decode cX6_addRow 19 = .ok (.iload_n 2, 1) := by decide +kernel
theorem dX6_addRow_20 : decode cX6_addRow 20 = .ok (.iadd, 1) := by decide +kernel
theorem dX6_addRow_21 : decode cX6_addRow 21 = .ok (.putfield 31, 3) := by decide +kernel
theorem dX6_addRow_24 : decode cX6_addRow 24 = .ok (.aload_n 0, 1) := by decide +kernel
theorem dX6_addRow_25 : decode cX6_addRow 25 = .ok (.getfield 9, 3) := by decide +kernel
theorem dX6_addRow_28 : decode cX6_addRow 28 = .ok (.aload_n 0, 1) := by decide +kernel
theorem dX6_addRow_29 : decode cX6_addRow 29 = .ok (.getfield 31, 3) := by decide +kernel
theorem dX6_addRow_32 : decode cX6_addRow 32 = .ok (.iconst 0, 1) := by decide +kernel
theorem dX6_addRow_33 : decode cX6_addRow 33 = .ok (.iastore, 1) := by decide +kernel
theorem dX6_addRow_34 : decode cX6_addRow 34 = .ok (.aload_n 0, 1) := by decide +kernel
theorem dX6_addRow_35 : decode cX6_addRow 35 = .ok (.dup, 1) := by decide +kernel
theorem dX6_addRow_36 : decode cX6_addRow 36 = .ok (.getfield 31, 3) := by decide +kernel
theorem dX6_addRow_39 : decode cX6_addRow 39 = .ok (.iconst 1, 1) := by decide +kernel
theorem dX6_addRow_40 : decode cX6_addRow 40 = .ok (.iadd, 1) := by decide +kernel
theorem dX6_addRow_41 : decode cX6_addRow 41 = .ok (.putfield 31, 3) := by decide +kernel
theorem dX6_addRow_44 : decode cX6_addRow 44 = .ok (.aload_n 0, 1) := by decide +kernel
theorem dX6_addRow_45 : decode cX6_addRow 45 = .ok (.dup, 1) := by decide +kernel
theorem dX6_addRow_46 : decode cX6_addRow 46 = .ok (.getfield 35, 3) := by decide +kernel
theorem dX6_addRow_49 : decode cX6_addRow 49 = .ok (.iconst 1, 1) := by decide +kernel
theorem dX6_addRow_50 : decode cX6_addRow 50 = .ok (.iadd, 1) := by decide +kernel
theorem dX6_addRow_51 : decode cX6_addRow 51 = .ok (.putfield 35, 3) := by decide +kernel
theorem dX6_addRow_54 : decode cX6_addRow 54 = .ok (.return_, 1) := by decide +kernel
theorem dX6_make_0 : decode cX6_make 0 = .ok (.iconst 0, 1) := by decide +kernel
theorem dX6_make_1 : decode cX6_make 1 = .ok (.istore_n 1, 1) := by decide +kernel
theorem dX6_make_2 : decode cX6_make 2 = .ok (.iload_n 1, 1) := by decide +kernel
theorem dX6_make_3 : decode cX6_make 3 = .ok (.sipush 200, 3) := by decide +kernel
theorem dX6_make_6 : decode cX6_make 6 = .ok (.if_icmp .ge 88, 3) := by decide +kernel
theorem dX6_make_9 : decode cX6_make 9 = .ok (.aload_n 0, 1) := by decide +kernel
theorem dX6_make_10 : decode cX6_make 10 = .ok (.invokevirtual 47, 3) := by decide +kernel
theorem dX6_make_13 : decode cX6_make 13 = .ok (.aload_n 0, 1) := by decide +kernel
theorem dX6_make_14 : decode cX6_make 14 = .ok (.getfield 18, 3) := by decide +kernel
theorem dX6_make_17 : decode cX6_make 17 = .ok (.getfield 50, 3) := by decide +kernel
theorem dX6_make_20 : decode cX6_make 20 = .ok (.iconst 2, 1) := by decide +kernel
theorem dX6_make_21 : decode cX6_make 21 = .ok (.if_icmp .ge 4, 3) := by decide +kernel
theorem dX6_make_24 : decode cX6_make 24 = .ok (.return_, 1) := by decide +kernel
theorem dX6_make_25 : decode cX6_make 25 = .ok (.aload_n 0, 1) := by decide +kernel
theorem dX6_make_26 : decode cX6_make 26 = .ok (.getfield 22, 3) := by decide +kernel
theorem dX6_make_29 : decode cX6_make 29 = .ok (.iload_n 1, 1) := by decide +kernel
theorem dX6_make_30 : decode cX6_make 30 = .ok (.aload_n 0, 1) := by decide +kernel
theorem dX6_make_31 : decode cX6_make 31 = .ok (.getfield 18, 3) := by decide +kernel
theorem dX6_make_34 : decode cX6_make 34 = .ok (.getfield 53, 3) := by decide +kernel
theorem dX6_make_37 : decode cX6_make 37 = .ok (.iastore, 1) := by decide +kernel
theorem dX6_make_38 : decode cX6_make 38 = .ok (.aload_n 0, 1) := by decide +kernel
theorem dX6_make_39 : decode cX6_make 39 = .ok (.getfield 25, 3) := by decide +kernel
theorem dX6_make_42 : decode cX6_make 42 = .ok (.iload_n 1, 1) := by decide +kernel
theorem dX6_make_43 : decode cX6_make 43 = .ok (.aload_n 0, 1) := by decide +kernel
theorem dX6_make_44 : decode cX6_make 44 = .ok (.getfield 18, 3) := by decide +kernel
theorem dX6_make_47 : decode cX6_make 47 = .ok (.getfield 56, 3) := by decide +kernel
theorem dX6_make_50 : decode cX6_make 50 = .ok (.iastore, 1) := by decide +kernel
theorem dX6_make_51 : decode cX6_make 51 = .ok (.aload_n 0, 1) := by decide +kernel
theorem dX6_make_52 : decode cX6_make 52 = .ok (.getfield 28, 3) := by decide +kernel
theorem dX6_make_55 : decode cX6_make 55 = .ok (.iload_n 1, 1) := by decide +kernel
theorem dX6_make_56 : decode cX6_make 56 = .ok (.aload_n 0, 1) := by decide +kernel
theorem dX6_make_57 : decode cX6_make 57 = .ok (.aload_n 0, 1) := by decide +kernel
theorem dX6_make_58 : decode cX6_make 58 = .ok (.getfield 22, 3) := by decide +kernel
theorem dX6_make_61 : decode cX6_make 61 = .ok (.iload_n 1, 1) := by decide +kernel
theorem dX6_make_62 : decode cX6_make 62 = .ok (.iaload, 1) := by decide +kernel
theorem dX6_make_63 : decode cX6_make 63 = .ok (.aload_n 0, 1) := by decide +kernel
theorem dX6_make_64 : decode cX6_make 64 = .ok (.getfield 25, 3) := by decide +kernel
theorem dX6_make_67 : decode cX6_make 67 = .ok (.iload_n 1, 1) := by decide +kernel
theorem dX6_make_68 : decode cX6_make 68 = .ok (.iaload, 1) := by decide +kernel
theorem dX6_make_69 : decode cX6_make 69 = .ok (.sipush 1001, 3) := by decide +kernel
theorem dX6_make_72 : decode cX6_make 72 = .ok (.iload_n 1, 1) := by decide +kernel
theorem dX6_make_73 : decode cX6_make 73 = .ok (.iadd, 1) := by decide +kernel
theorem dX6_make_74 : decode cX6_make 74 = .ok (.invokevirtual 59, 3) := by decide +kernel
theorem dX6_make_77 : decode cX6_make 77 = .ok (.iastore, 1) := by decide +kernel
theorem dX6_make_78 : decode cX6_make 78 = .ok (.aload_n 0, 1) := by decide +kernel
theorem dX6_make_79 : decode cX6_make 79 = .ok (.dup, 1) := by decide +kernel
theorem dX6_make_80 : decode cX6_make 80 = .ok (.getfield 38, 3) := by decide +kernel
theorem dX6_make_83 : decode cX6_make 83 = .ok (.iconst 1, 1) := by decide +kernel
theorem dX6_make_84 : decode cX6_make 84 = .ok (.iadd, 1) := by decide +kernel
theorem dX6_make_85 : decode cX6_make 85 = .ok (.putfield 38, 3) := by decide +kernel
theorem dX6_make_88 : decode cX6_make 88 = .ok (.iinc 1 1, 3) := by decide +kernel
theorem dX6_make_91 : decode cX6_make 91 = .ok (.goto (-89), 3) := by decide +kernel
theorem dX6_make_94 : decode cX6_make 94 = .ok (.return_, 1) := by decide +kernel
theorem dX6_countLeft_0 : decode cX6_countLeft 0 = .ok (.aload_n 0, 1) := by decide +kernel
theorem dX6_countLeft_1 : decode cX6_countLeft 1 = .ok (.getfield 31, 3) := by decide +kernel
theorem dX6_countLeft_4 : decode cX6_countLeft 4 = .ok (.aload_n 0, 1) := by decide +kernel
theorem dX6_countLeft_5 : decode cX6_countLeft 5 = .ok (.getfield 35, 3) := by decide +kernel
theorem dX6_countLeft_8 : decode cX6_countLeft 8 = .ok (.isub, 1) := by decide +kernel
theorem dX6_countLeft_9 : decode cX6_countLeft 9 = .ok (.iconst 2, 1) := by decide +kernel
theorem dX6_countLeft_10 : decode cX6_countLeft 10 = .ok (.aload_n 0, 1) := by decide +kernel
theorem dX6_countLeft_11 : decode cX6_countLeft 11 = .ok (.getfield 38, 3) := by decide +kernel
theorem dX6_countLeft_14 : decode cX6_countLeft 14 = .ok (.imul, 1) := by decide +kernel
theorem dX6_countLeft_15 : decode cX6_countLeft 15 = .ok (.iadd, 1) := by decide +kernel
theorem dX6_countLeft_16 : decode cX6_countLeft 16 = .ok (.ireturn, 1) := by decide +kernel
theorem dX6_countPairs_0 : decode cX6_countPairs 0 = .ok (.aload_n 0, 1) := by decide +kernel
theorem dX6_countPairs_1 : decode cX6_countPairs 1 = .ok (.getfield 18, 3) := by decide +kernel
theorem dX6_countPairs_4 : decode cX6_countPairs 4 = .ok (.invokevirtual 63, 3) := by decide +kernel
theorem dX6_countPairs_7 : decode cX6_countPairs 7 = .ok (.iconst 0, 1) := by decide +kernel
theorem dX6_countPairs_8 : decode cX6_countPairs 8 = .ok (.istore_n 1, 1) := by decide +kernel
theorem dX6_countPairs_9 : decode cX6_countPairs 9 = .ok (.iconst 0, 1) := by decide +kernel
theorem dX6_countPairs_10 : decode cX6_countPairs 10 = .ok (.istore_n 2, 1) := by decide +kernel
theorem dX6_countPairs_11 : decode cX6_countPairs 11 = .ok (.iload_n 2, 1) := by decide +kernel
theorem dX6_countPairs_12 : decode cX6_countPairs 12 = .ok (.iconst 1, 1) := by decide +kernel
theorem dX6_countPairs_13 : decode cX6_countPairs 13 = .ok (.iadd, 1) := by decide +kernel
theorem dX6_countPairs_14 : decode cX6_countPairs 14 = .ok (.aload_n 0, 1) := by decide +kernel
theorem dX6_countPairs_15 : decode cX6_countPairs 15 = .ok (.getfield 31, 3) := by decide +kernel
theorem dX6_countPairs_18 : decode cX6_countPairs 18 = .ok (.if_icmp .ge 81, 3) := by decide +kernel
theorem dX6_countPairs_21 : decode cX6_countPairs 21 = .ok (.aload_n 0, 1) := by decide +kernel
theorem dX6_countPairs_22 : decode cX6_countPairs 22 = .ok (.getfield 9, 3) := by decide +kernel
theorem dX6_countPairs_25 : decode cX6_countPairs 25 = .ok (.iload_n 2, 1) := by decide +kernel
theorem dX6_countPairs_26 : decode cX6_countPairs 26 = .ok (.iaload, 1) := by decide +kernel
theorem dX6_countPairs_27 : decode cX6_countPairs 27 = .ok (.istore_n 3, 1) := by decide +kernel
theorem dX6_countPairs_28 : decode cX6_countPairs 28 = .ok (.aload_n 0, 1) := by decide +kernel
theorem dX6_countPairs_29 : decode cX6_countPairs 29 = .ok (.getfield 9, 3) := by decide +kernel
theorem dX6_countPairs_32 : decode cX6_countPairs 32 = .ok (.iload_n 2, 1) := by decide +kernel
theorem dX6_countPairs_33 : decode cX6_countPairs 33 = .ok (.iconst 1, 1) := by decide +kernel
theorem dX6_countPairs_34 : decode cX6_countPairs 34 = .ok (.iadd, 1) := by decide +kernel
theorem dX6_countPairs_35 : decode cX6_countPairs 35 = .ok (.iaload, 1) := by decide +kernel
theorem dX6_countPairs_36 : decode cX6_countPairs 36 = .ok (.istore 4, 2) := by decide +kernel
theorem dX6_countPairs_38 : decode cX6_countPairs 38 = .ok (.iload_n 1, 1) := by decide +kernel
theorem dX6_countPairs_39 : decode cX6_countPairs 39 = .ok (.ifCond .ne 29, 3) := by decide +kernel
theorem dX6_countPairs_42 : decode cX6_countPairs 42 = .ok (.iload_n 2, 1) := by decide +kernel
theorem dX6_countPairs_43 : decode cX6_countPairs 43 = .ok (.ifCond .le 25, 3) := by decide +kernel
theorem dX6_countPairs_46 : decode cX6_countPairs 46 = .ok (.aload_n 0, 1) := by decide +kernel
theorem dX6_countPairs_47 : decode cX6_countPairs 47 = .ok (.getfield 9, 3) := by decide +kernel
theorem dX6_countPairs_50 : decode cX6_countPairs 50 = .ok (.iload_n 2, 1) := by decide +kernel
theorem dX6_countPairs_51 : decode cX6_countPairs 51 = .ok (.iconst 1, 1) := by decide +kernel
theorem dX6_countPairs_52 : decode cX6_countPairs 52 = .ok (.isub, 1) := by decide +kernel
theorem dX6_countPairs_53 : decode cX6_countPairs 53 = .ok (.iaload, 1) := by decide +kernel
theorem dX6_countPairs_54 : decode cX6_countPairs 54 = .ok (.iload_n 3, 1) := by decide +kernel
theorem dX6_countPairs_55 : decode cX6_countPairs 55 = .ok (.if_icmp .ne 13, 3) := by decide +kernel
theorem dX6_countPairs_58 : decode cX6_countPairs 58 = .ok (.iload_n 3, 1) := by decide +kernel
theorem dX6_countPairs_59 : decode cX6_countPairs 59 = .ok (.iload 4, 2) := by decide +kernel
theorem dX6_countPairs_61 : decode cX6_countPairs 61 = .ok (.if_icmp .ne 7, 3) := by decide +kernel
theorem dX6_countPairs_64 : decode cX6_countPairs 64 = .ok (.iconst 1, 1) := by decide +kernel
theorem dX6_countPairs_65 : decode cX6_countPairs 65 = .ok (.goto 4, 3) := by decide +kernel
theorem dX6_countPairs_68 : decode cX6_countPairs 68 = .ok (.iconst 0, 1) := by decide +kernel
theorem dX6_countPairs_69 : decode cX6_countPairs 69 = .ok (.istore_n 1, 1) := by decide +kernel
theorem dX6_countPairs_70 : decode cX6_countPairs 70 = .ok (.iload_n 1, 1) := by decide +kernel
theorem dX6_countPairs_71 : decode cX6_countPairs 71 = .ok (.ifCond .ne 22, 3) := by decide +kernel
theorem dX6_countPairs_74 : decode cX6_countPairs 74 = .ok (.iload_n 3, 1) := by decide +kernel
theorem dX6_countPairs_75 : decode cX6_countPairs 75 = .ok (.ifCond .eq 18, 3) := by decide +kernel
theorem dX6_countPairs_78 : decode cX6_countPairs 78 = .ok (.iload 4, 2) := by decide +kernel
theorem dX6_countPairs_80 : decode cX6_countPairs 80 = .ok (.ifCond .eq 13, 3) := by decide +kernel
theorem dX6_countPairs_83 : decode cX6_countPairs 83 = .ok (.aload_n 0, 1) := by decide +kernel
theorem dX6_countPairs_84 : decode cX6_countPairs 84 = .ok (.getfield 18, 3) := by decide +kernel
theorem dX6_countPairs_87 : decode cX6_countPairs 87 = .ok (.iload_n 3, 1) := by decide +kernel
theorem dX6_countPairs_88 : decode cX6_countPairs 88 = .ok (.iload 4, 2) := by decide +kernel
theorem dX6_countPairs_90 : decode cX6_countPairs 90 = .ok (.invokevirtual 66, 3) := by decide +kernel
theorem dX6_countPairs_93 : decode cX6_countPairs 93 = .ok (.iinc 2 1, 3) := by decide +kernel
theorem dX6_countPairs_96 : decode cX6_countPairs 96 = .ok (.goto (-85), 3) := by decide +kernel
theorem dX6_countPairs_99 : decode cX6_countPairs 99 = .ok (.return_, 1) := by decide +kernel
theorem dX6_putInPlace_0 : decode cX6_putInPlace 0 = .ok (.iconst 0, 1) := by decide +kernel
theorem dX6_putInPlace_1 : decode cX6_putInPlace 1 = .ok (.istore 4, 2) := by decide +kernel
theorem dX6_putInPlace_3 : decode cX6_putInPlace 3 = .ok (.iconst 0, 1) := by decide +kernel
theorem dX6_putInPlace_4 : decode cX6_putInPlace 4 = .ok (.istore 5, 2) := by decide +kernel
theorem dX6_putInPlace_6 : decode cX6_putInPlace 6 = .ok (.iconst 0, 1) := by decide +kernel
theorem dX6_putInPlace_7 : decode cX6_putInPlace 7 = .ok (.istore 6, 2) := by decide +kernel
theorem dX6_putInPlace_9 : decode cX6_putInPlace 9 = .ok (.iload 6, 2) := by decide +kernel
theorem dX6_putInPlace_11 : decode cX6_putInPlace 11 = .ok (.aload_n 0, 1) := by decide +kernel
theorem dX6_putInPlace_12 : decode cX6_putInPlace 12 = .ok (.getfield 31, 3) := by decide +kernel
theorem dX6_putInPlace_15 : decode cX6_putInPlace 15 = .ok (.if_icmp .ge 78, 3) := by decide +kernel
theorem dX6_putInPlace_18 : decode cX6_putInPlace 18 = .ok (.aload_n 0, 1) := by decide +kernel
theorem dX6_putInPlace_19 : decode cX6_putInPlace 19 = .ok (.getfield 9, 3) := by decide +kernel
theorem dX6_putInPlace_22 : decode cX6_putInPlace 22 = .ok (.iload 6, 2) := by decide +kernel
theorem dX6_putInPlace_24 : decode cX6_putInPlace 24 = .ok (.iaload, 1) := by decide +kernel
theorem dX6_putInPlace_25 : decode cX6_putInPlace 25 = .ok (.iload_n 1, 1) := by decide +kernel
theorem dX6_putInPlace_26 : decode cX6_putInPlace 26 = .ok (.if_icmp .ne 44, 3) := by decide +kernel
theorem dX6_putInPlace_29 : decode cX6_putInPlace 29 = .ok (.iload 6, 2) := by decide +kernel
theorem dX6_putInPlace_31 : decode cX6_putInPlace 31 = .ok (.iconst 1, 1) := by decide +kernel
theorem dX6_putInPlace_32 : decode cX6_putInPlace 32 = .ok (.iadd, 1) := by decide +kernel
theorem dX6_putInPlace_33 : decode cX6_putInPlace 33 = .ok (.aload_n 0, 1) := by decide +kernel
theorem dX6_putInPlace_34 : decode cX6_putInPlace 34 = .ok (.getfield 31, 3) := by decide +kernel
theorem dX6_putInPlace_37 : decode cX6_putInPlace 37 = .ok (.if_icmp .ge 33, 3) := by decide +kernel
theorem dX6_putInPlace_40 : decode cX6_putInPlace 40 = .ok (.aload_n 0, 1) := by decide +kernel
theorem dX6_putInPlace_41 : decode cX6_putInPlace 41 = .ok (.getfield 9, 3) := by decide +kernel
theorem dX6_putInPlace_44 : decode cX6_putInPlace 44 = .ok (.iload 6, 2) := by decide +kernel
theorem dX6_putInPlace_46 : decode cX6_putInPlace 46 = .ok (.iconst 1, 1) := by decide +kernel
theorem dX6_putInPlace_47 : decode cX6_putInPlace 47 = .ok (.iadd, 1) := by decide +kernel
theorem dX6_putInPlace_48 : decode cX6_putInPlace 48 = .ok (.iaload, 1) := by decide +kernel
theorem dX6_putInPlace_49 : decode cX6_putInPlace 49 = .ok (.iload_n 2, 1) := by decide +kernel
theorem dX6_putInPlace_50 : decode cX6_putInPlace 50 = .ok (.if_icmp .ne 20, 3) := by decide +kernel
theorem dX6_putInPlace_53 : decode cX6_putInPlace 53 = .ok (.aload_n 0, 1) := by decide +kernel
theorem dX6_putInPlace_54 : decode cX6_putInPlace 54 = .ok (.getfield 9, 3) := by decide +kernel
theorem dX6_putInPlace_57 : decode cX6_putInPlace 57 = .ok (.iload 4, 2) := by decide +kernel
theorem dX6_putInPlace_59 : decode cX6_putInPlace 59 = .ok (.iload_n 3, 1) := by decide +kernel
theorem dX6_putInPlace_60 : decode cX6_putInPlace 60 = .ok (.iastore, 1) := by decide +kernel
theorem dX6_putInPlace_61 : decode cX6_putInPlace 61 = .ok (.iinc 5 1, 3) := by decide +kernel
theorem dX6_putInPlace_64 : decode cX6_putInPlace 64 = .ok (.iinc 6 1, 3) := by decide +kernel
theorem dX6_putInPlace_67 : decode cX6_putInPlace 67 = .ok (.goto 17, 3) := by decide +kernel
theorem dX6_putInPlace_70 : decode cX6_putInPlace 70 = .ok (.aload_n 0, 1) := by decide +kernel
theorem dX6_putInPlace_71 : decode cX6_putInPlace 71 = .ok (.getfield 9, 3) := by decide +kernel
theorem dX6_putInPlace_74 : decode cX6_putInPlace 74 = .ok (.iload 4, 2) := by decide +kernel
theorem dX6_putInPlace_76 : decode cX6_putInPlace 76 = .ok (.aload_n 0, 1) := by decide +kernel
theorem dX6_putInPlace_77 : decode cX6_putInPlace 77 = .ok (.getfield 9, 3) := by decide +kernel
theorem dX6_putInPlace_80 : decode cX6_putInPlace 80 = .ok (.iload 6, 2) := by decide +kernel
theorem dX6_putInPlace_82 : decode cX6_putInPlace 82 = .ok (.iaload, 1) := by decide +kernel
theorem dX6_putInPlace_83 : decode cX6_putInPlace 83 = .ok (.iastore, 1) := by decide +kernel
theorem dX6_putInPlace_84 : decode cX6_putInPlace 84 = .ok (.iinc 4 1, 3) := by decide +kernel
theorem dX6_putInPlace_87 : decode cX6_putInPlace 87 = .ok (.iinc 6 1, 3) := by decide +kernel
theorem dX6_putInPlace_90 : decode cX6_putInPlace 90 = .ok (.goto (-81), 3) := by decide +kernel
theorem dX6_putInPlace_93 : decode cX6_putInPlace 93 = .ok (.aload_n 0, 1) := by decide +kernel
theorem dX6_putInPlace_94 : decode cX6_putInPlace 94 = .ok (.iload 4, 2) := by decide +kernel
theorem dX6_putInPlace_96 : decode cX6_putInPlace 96 = .ok (.putfield 31, 3) := by decide +kernel
theorem dX6_putInPlace_99 : decode cX6_putInPlace 99 = .ok (.iload 5, 2) := by decide +kernel
theorem dX6_putInPlace_101 : decode cX6_putInPlace 101 = .ok (.ireturn, 1) := by decide +kernel
theorem dX7_init_0 : decode cX7_init 0 = .ok (.aload_n 0, 1) := by decide +kernel
theorem dX7_init_1 : decode cX7_init 1 = .ok (.invokespecial 3, 3) := by decide +kernel
theorem dX7_init_4 : decode cX7_init 4 = .ok (.aload_n 0, 1) := by decide +kernel
theorem dX7_init_5 : decode cX7_init 5 = .ok (.sipush 400, 3) := by decide +kernel
theorem dX7_init_8 : decode cX7_init 8 = .ok (.newarray .byte, 2) := by decide +kernel
theorem dX7_init_10 : decode cX7_init 10 = .ok (.putfield 9, 3) := by decide +kernel
theorem dX7_init_13 : decode cX7_init 13 = .ok (.return_, 1) := by decide +kernel
theorem dX7_addNumber_0 : decode cX7_addNumber 0 = .ok (.bipush 24, 2) := by decide +kernel
theorem dX7_addNumber_2 : decode cX7_addNumber 2 = .ok (.istore_n 2, 1) := by decide +kernel
theorem dX7_addNumber_3 : decode cX7_addNumber 3 = .ok (.iload_n 2, 1) := by decide +kernel
theorem dX7_addNumber_4 : decode cX7_addNumber 4 = .ok (.ifCond .lt 32, 3) := by decide +kernel
theorem dX7_addNumber_7 : decode cX7_addNumber 7 = .ok (.aload_n 0, 1) := by decide +kernel
theorem dX7_addNumber_8 : decode cX7_addNumber 8 = .ok (.getfield 9, 3) := by decide +kernel
theorem dX7_addNumber_11 : decode cX7_addNumber 11 = .ok (.aload_n 0, 1) := by decide +kernel
theorem dX7_addNumber_12 : decode cX7_addNumber 12 = .ok (.getfield 15, 3) := by decide +kernel
theorem dX7_addNumber_15 : decode cX7_addNumber 15 = .ok (.iload_n 1, 1) := by decide +kernel
theorem dX7_addNumber_16 : decode cX7_addNumber 16 = .ok (.iload_n 2, 1) := by decide +kernel
theorem dX7_addNumber_17 : decode cX7_addNumber 17 = .ok (.iushr, 1) := by decide +kernel
theorem dX7_addNumber_18 : decode cX7_addNumber 18 = .ok (.i2b, 1) := by decide +kernel
theorem dX7_addNumber_19 : decode cX7_addNumber 19 = .ok (.bastore, 1) := by decide +kernel
theorem dX7_addNumber_20 : decode cX7_addNumber 20 = .ok (.aload_n 0, 1) := by decide +kernel
theorem dX7_addNumber_21 : decode cX7_addNumber 21 = .ok (.dup, 1) := by decide +kernel
theorem dX7_addNumber_22 : decode cX7_addNumber 22 = .ok (.getfield 15, 3) := by decide +kernel
theorem dX7_addNumber_25 : decode cX7_addNumber 25 = .ok (.iconst 1, 1) := by decide +kernel
theorem dX7_addNumber_26 : decode cX7_addNumber 26 = .ok (.iadd, 1) := by decide +kernel
theorem dX7_addNumber_27 : decode cX7_addNumber 27 = .ok (.putfield 15, 3) := by decide +kernel
theorem dX7_addNumber_30 : decode cX7_addNumber 30 = .ok (.iinc 2 (-8), 3) := by decide +kernel
theorem dX7_addNumber_33 : decode cX7_addNumber 33 = .ok (.goto (-30), 3) := by decide +kernel
theorem dX7_addNumber_36 : decode cX7_addNumber 36 = .ok (.return_, 1) := by decide +kernel
theorem dX8_init_0 : decode cX8_init 0 = .ok (.aload_n 0, 1) := by decide +kernel
theorem dX8_init_1 : decode cX8_init 1 = .ok (.invokespecial 3, 3) := by decide +kernel
theorem dX8_init_4 : decode cX8_init 4 = .ok (.aload_n 0, 1) := by decide +kernel
theorem dX8_init_5 : decode cX8_init 5 = .ok (.new 9, 3) := by decide +kernel
theorem dX8_init_8 : decode cX8_init 8 = .ok (.dup, 1) := by decide +kernel
theorem dX8_init_9 : decode cX8_init 9 = .ok (.invokespecial 11, 3) := by decide +kernel
theorem dX8_init_12 : decode cX8_init 12 = .ok (.putfield 12, 3) := by decide +kernel
theorem dX8_init_15 : decode cX8_init 15 = .ok (.aload_n 0, 1) := by decide +kernel
theorem dX8_init_16 : decode cX8_init 16 = .ok (.new 16, 3) := by decide +kernel
theorem dX8_init_19 : decode cX8_init 19 = .ok (.dup, 1) := by decide +kernel
theorem dX8_init_20 : decode cX8_init 20 = .ok (.invokespecial 18, 3) := by decide +kernel
theorem dX8_init_23 : decode cX8_init 23 = .ok (.putfield 19, 3) := by decide +kernel
theorem dX8_init_26 : decode cX8_init 26 = .ok (.aload_n 0, 1) := by decide +kernel
theorem dX8_init_27 : decode cX8_init 27 = .ok (.bipush 6, 2) := by decide +kernel
theorem dX8_init_29 : decode cX8_init 29 = .ok (.anewarray 23, 3) := by decide +kernel
theorem dX8_init_32 : decode cX8_init 32 = .ok (.putfield 25, 3) := by decide +kernel
theorem dX8_init_35 : decode cX8_init 35 = .ok (.iconst 0, 1) := by decide +kernel
theorem dX8_init_36 : decode cX8_init 36 = .ok (.istore_n 1, 1) := by decide +kernel
theorem dX8_init_37 : decode cX8_init 37 = .ok (.iload_n 1, 1) := by decide +kernel
theorem dX8_init_38 : decode cX8_init 38 = .ok (.bipush 6, 2) := by decide +kernel
theorem dX8_init_40 : decode cX8_init 40 = .ok (.if_icmp .ge 22, 3) := by decide +kernel
theorem dX8_init_43 : decode cX8_init 43 = .ok (.aload_n 0, 1) := by decide +kernel
theorem dX8_init_44 : decode cX8_init 44 = .ok (.getfield 25, 3) := by decide +kernel
theorem dX8_init_47 : decode cX8_init 47 = .ok (.iload_n 1, 1) := by decide +kernel
theorem dX8_init_48 : decode cX8_init 48 = .ok (.new 23, 3) := by decide +kernel
theorem dX8_init_51 : decode cX8_init 51 = .ok (.dup, 1) := by decide +kernel
theorem dX8_init_52 : decode cX8_init 52 = .ok (.invokespecial 29, 3) := by decide +kernel
theorem dX8_init_55 : decode cX8_init 55 = .ok (.aastore, 1) := by decide +kernel
theorem dX8_init_56 : decode cX8_init 56 = .ok (.iinc 1 1, 3) := by decide +kernel
theorem dX8_init_59 : decode cX8_init 59 = .ok (.goto (-22), 3) := by decide +kernel
theorem dX8_init_62 : decode cX8_init 62 = .ok (.aload_n 0, 1) := by decide +kernel
theorem dX8_init_63 : decode cX8_init 63 = .ok (.new 30, 3) := by decide +kernel
theorem dX8_init_66 : decode cX8_init 66 = .ok (.dup, 1) := by decide +kernel
theorem dX8_init_67 : decode cX8_init 67 = .ok (.aload_n 0, 1) := by decide +kernel
theorem dX8_init_68 : decode cX8_init 68 = .ok (.getfield 12, 3) := by decide +kernel
theorem dX8_init_71 : decode cX8_init 71 = .ok (.invokespecial 32, 3) := by decide +kernel
theorem dX8_init_74 : decode cX8_init 74 = .ok (.putfield 35, 3) := by decide +kernel
theorem dX8_init_77 : decode cX8_init 77 = .ok (.aload_n 0, 1) := by decide +kernel
theorem dX8_init_78 : decode cX8_init 78 = .ok (.new 30, 3) := by decide +kernel
theorem dX8_init_81 : decode cX8_init 81 = .ok (.dup, 1) := by decide +kernel
theorem dX8_init_82 : decode cX8_init 82 = .ok (.aload_n 0, 1) := by decide +kernel
theorem dX8_init_83 : decode cX8_init 83 = .ok (.getfield 12, 3) := by decide +kernel
theorem dX8_init_86 : decode cX8_init 86 = .ok (.invokespecial 32, 3) := by decide +kernel
theorem dX8_init_89 : decode cX8_init 89 = .ok (.putfield 39, 3) := by decide +kernel
theorem dX8_init_92 : decode cX8_init 92 = .ok (.aload_n 0, 1) := by decide +kernel
theorem dX8_init_93 : decode cX8_init 93 = .ok (.new 42, 3) := by decide +kernel
theorem dX8_init_96 : decode cX8_init 96 = .ok (.dup, 1) := by decide +kernel
theorem dX8_init_97 : decode cX8_init 97 = .ok (.aload_n 0, 1) := by decide +kernel
theorem dX8_init_98 : decode cX8_init 98 = .ok (.getfield 12, 3) := by decide +kernel
theorem dX8_init_101 : decode cX8_init 101 = .ok (.invokespecial 44, 3) := by decide +kernel
theorem dX8_init_104 : decode cX8_init 104 = .ok (.putfield 45, 3) := by decide +kernel
theorem dX8_init_107 : decode cX8_init 107 = .ok (.aload_n 0, 1) := by decide +kernel
theorem dX8_init_108 : decode cX8_init 108 = .ok (.new 49, 3) := by decide +kernel
theorem dX8_init_111 : decode cX8_init 111 = .ok (.dup, 1) := by decide +kernel
theorem dX8_init_112 : decode cX8_init 112 = .ok (.aload_n 0, 1) := by decide +kernel
theorem dX8_init_113 : decode cX8_init 113 = .ok (.getfield 12, 3) := by decide +kernel
theorem dX8_init_116 : decode cX8_init 116 = .ok (.invokespecial 51, 3) := by decide +kernel
theorem dX8_init_119 : decode cX8_init 119 = .ok (.putfield 52, 3) := by decide +kernel
theorem dX8_init_122 : decode cX8_init 122 = .ok (.aload_n 0, 1) := by decide +kernel
theorem dX8_init_123 : decode cX8_init 123 = .ok (.new 56, 3) := by decide +kernel
theorem dX8_init_126 : decode cX8_init 126 = .ok (.dup, 1) := by decide +kernel
theorem dX8_init_127 : decode cX8_init 127 = .ok (.invokespecial 58, 3) := by decide +kernel
theorem dX8_init_130 : decode cX8_init 130 = .ok (.putfield 59, 3) := by decide +kernel
theorem dX8_init_133 : decode cX8_init 133 = .ok (.aload_n 0, 1) := by decide +kernel
theorem dX8_init_134 : decode cX8_init 134 = .ok (.bipush 8, 2) := by decide +kernel
theorem dX8_init_136 : decode cX8_init 136 = .ok (.putfield 63, 3) := by decide +kernel
theorem dX8_init_139 : decode cX8_init 139 = .ok (.aload_n 0, 1) := by decide +kernel
theorem dX8_init_140 : decode cX8_init 140 = .ok (.iconst 2, 1) := by decide +kernel
theorem dX8_init_141 : decode cX8_init 141 = .ok (.putfield 67, 3) := by decide +kernel
theorem dX8_init_144 : decode cX8_init 144 = .ok (.return_, 1) := by decide +kernel
theorem dX8_feed_0 : decode cX8_feed 0 = .ok (.aload_n 0, 1) := by decide +kernel
theorem dX8_feed_1 : decode cX8_feed 1 = .ok (.getfield 19, 3) := by decide +kernel
theorem dX8_feed_4 : decode cX8_feed 4 = .ok (.getfield 70, 3) := by decide +kernel
theorem dX8_feed_7 : decode cX8_feed 7 = .ok (.bipush 20, 2) := by decide +kernel
theorem dX8_feed_9 : decode cX8_feed 9 = .ok (.iadd, 1) := by decide +kernel
theorem dX8_feed_10 : decode cX8_feed 10 = .ok (.sipush 400, 3) := by decide +kernel
theorem dX8_feed_13 : decode cX8_feed 13 = .ok (.if_icmp .le 5, 3) := by decide +kernel
theorem dX8_feed_16 : decode cX8_feed 16 = .ok (.iconst (-1), 1) := by decide +kernel
theorem dX8_feed_17 : decode cX8_feed 17 = .ok (.ireturn, 1) := by decide +kernel
theorem dX8_feed_18 : decode cX8_feed 18 = .ok (.aload_n 0, 1) := by decide +kernel
theorem dX8_feed_19 : decode cX8_feed 19 = .ok (.getfield 19, 3) := by decide +kernel
theorem dX8_feed_22 : decode cX8_feed 22 = .ok (.iload_n 1, 1) := by decide +kernel
theorem dX8_feed_23 : decode cX8_feed 23 = .ok (.invokevirtual 73, 3) := by decide +kernel
theorem dX8_feed_26 : decode cX8_feed 26 = .ok (.aload_n 0, 1) := by decide +kernel
theorem dX8_feed_27 : decode cX8_feed 27 = .ok (.getfield 19, 3) := by decide +kernel
theorem dX8_feed_30 : decode cX8_feed 30 = .ok (.iload_n 2, 1) := by decide +kernel
theorem dX8_feed_31 : decode cX8_feed 31 = .ok (.invokevirtual 73, 3) := by decide +kernel
theorem dX8_feed_34 : decode cX8_feed 34 = .ok (.aload_n 0, 1) := by decide +kernel
theorem dX8_feed_35 : decode cX8_feed 35 = .ok (.getfield 19, 3) := by decide +kernel
theorem dX8_feed_38 : decode cX8_feed 38 = .ok (.iload_n 3, 1) := by decide +kernel
theorem dX8_feed_39 : decode cX8_feed 39 = .ok (.invokevirtual 73, 3) := by decide +kernel
theorem dX8_feed_42 : decode cX8_feed 42 = .ok (.aload_n 0, 1) := by decide +kernel
theorem dX8_feed_43 : decode cX8_feed 43 = .ok (.getfield 19, 3) := by decide +kernel
theorem dX8_feed_46 : decode cX8_feed 46 = .ok (.iload 4, 2) := by decide +kernel
theorem dX8_feed_48 : decode cX8_feed 48 = .ok (.invokevirtual 73, 3) := by decide +kernel
theorem dX8_feed_51 : decode cX8_feed 51 = .ok (.aload_n 0, 1) := by decide +kernel
theorem dX8_feed_52 : decode cX8_feed 52 = .ok (.getfield 19, 3) := by decide +kernel
theorem dX8_feed_55 : decode cX8_feed 55 = .ok (.iload 5, 2) := by decide +kernel
theorem dX8_feed_57 : decode cX8_feed 57 = .ok (.invokevirtual 73, 3) := by decide +kernel
theorem dX8_feed_60 : decode cX8_feed 60 = .ok (.aload_n 0, 1) := by decide +kernel
theorem dX8_feed_61 : decode cX8_feed 61 = .ok (.getfield 19, 3) := by decide +kernel
theorem dX8_feed_64 : decode cX8_feed 64 = .ok (.getfield 70, 3) := by decide +kernel
theorem dX8_feed_67 : decode cX8_feed 67 = .ok (.ireturn, 1) := by decide +kernel
theorem dX8_end_0 : decode cX8_end 0 = .ok (.iload_n 1, 1) := by decide +kernel
theorem dX8_end_1 : decode cX8_end 1 = .ok (.ifCond .lt 14, 3) := by decide +kernel
theorem dX8_end_4 : decode cX8_end 4 = .ok (.iload_n 1, 1) := by decide +kernel
theorem dX8_end_5 : decode cX8_end 5 = .ok (.aload_n 0, 1) := by decide +kernel
theorem dX8_end_6 : decode cX8_end 6 = .ok (.getfield 19, 3) := by decide +kernel
theorem dX8_end_9 : decode cX8_end 9 = .ok (.getfield 70, 3) := by decide +kernel
theorem dX8_end_12 : decode cX8_end 12 = .ok (.if_icmp .le 5, 3) := by decide +kernel
theorem dX8_end_15 : decode cX8_end 15 = .ok (.iconst 0, 1) := by decide +kernel
theorem dX8_end_16 : decode cX8_end 16 = .ok (.ireturn, 1) := by decide +kernel
theorem dX8_end_17 : decode cX8_end 17 = .ok (.aload_n 0, 1) := by decide +kernel
theorem dX8_end_18 : decode cX8_end 18 = .ok (.getfield 19, 3) := by decide +kernel
theorem dX8_end_21 : decode cX8_end 21 = .ok (.iload_n 1, 1) := by decide +kernel
theorem dX8_end_22 : decode cX8_end 22 = .ok (.putfield 70, 3) := by decide +kernel
theorem dX8_end_25 : decode cX8_end 25 = .ok (.iconst 1, 1) := by decide +kernel
theorem dX8_end_26 : decode cX8_end 26 = .ok (.ireturn, 1) := by decide +kernel
theorem dX8_edit_0 : decode cX8_edit 0 = .ok (.iload_n 1, 1) := by decide +kernel
theorem dX8_edit_1 : decode cX8_edit 1 = .ok (.invokestatic 77, 3) := by decide +kernel
theorem dX8_edit_4 : decode cX8_edit 4 = .ok (.ifCond .eq 39, 3) := by decide +kernel
theorem dX8_edit_7 : decode cX8_edit 7 = .ok (.iload_n 2, 1) := by decide +kernel
theorem dX8_edit_8 : decode cX8_edit 8 = .ok (.iconst 0, 1) := by decide +kernel
theorem dX8_edit_9 : decode cX8_edit 9 = .ok (.aload_n 0, 1) := by decide +kernel
theorem dX8_edit_10 : decode cX8_edit 10 = .ok (.getfield 12, 3) := by decide +kernel
theorem dX8_edit_13 : decode cX8_edit 13 = .ok (.getfield 81, 3) := by decide +kernel
theorem dX8_edit_16 : decode cX8_edit 16 = .ok (.iload_n 1, 1) := by decide +kernel
theorem dX8_edit_17 : decode cX8_edit 17 = .ok (.iaload, 1) := by decide +kernel
theorem dX8_edit_18 : decode cX8_edit 18 = .ok (.invokestatic 85, 3) := by decide +kernel
theorem dX8_edit_21 : decode cX8_edit 21 = .ok (.ifCond .eq 22, 3) := by decide +kernel
theorem dX8_edit_24 : decode cX8_edit 24 = .ok (.iload_n 3, 1) := by decide +kernel
theorem dX8_edit_25 : decode cX8_edit 25 = .ok (.iconst 0, 1) := by decide +kernel
theorem dX8_edit_26 : decode cX8_edit 26 = .ok (.aload_n 0, 1) := by decide +kernel
theorem dX8_edit_27 : decode cX8_edit 27 = .ok (.getfield 12, 3) := by decide +kernel
theorem dX8_edit_30 : decode cX8_edit 30 = .ok (.getfield 81, 3) := by decide +kernel
theorem dX8_edit_33 : decode cX8_edit 33 = .ok (.iload_n 1, 1) := by decide +kernel
theorem dX8_edit_34 : decode cX8_edit 34 = .ok (.iaload, 1) := by decide +kernel
theorem dX8_edit_35 : decode cX8_edit 35 = .ok (.iload_n 2, 1) := by decide +kernel
theorem dX8_edit_36 : decode cX8_edit 36 = .ok (.isub, 1) := by decide +kernel
theorem dX8_edit_37 : decode cX8_edit 37 = .ok (.invokestatic 85, 3) := by decide +kernel
theorem dX8_edit_40 : decode cX8_edit 40 = .ok (.ifCond .ne 5, 3) := by decide +kernel
theorem dX8_edit_43 : decode cX8_edit 43 = .ok (.iconst (-1), 1) := by decide +kernel
theorem dX8_edit_44 : decode cX8_edit 44 = .ok (.ireturn, 1) := by decide +kernel
theorem dX8_edit_45 : decode cX8_edit 45 = .ok (.aload_n 0, 1) := by decide +kernel
theorem dX8_edit_46 : decode cX8_edit 46 = .ok (.getfield 12, 3) := by decide +kernel
theorem dX8_edit_49 : decode cX8_edit 49 = .ok (.getfield 81, 3) := by decide +kernel
theorem dX8_edit_52 : decode cX8_edit 52 = .ok (.iload_n 1, 1) := by decide +kernel
theorem dX8_edit_53 : decode cX8_edit 53 = .ok (.iaload, 1) := by decide +kernel
theorem dX8_edit_54 : decode cX8_edit 54 = .ok (.iload_n 3, 1) := by decide +kernel
theorem dX8_edit_55 : decode cX8_edit 55 = .ok (.isub, 1) := by decide +kernel
theorem dX8_edit_56 : decode cX8_edit 56 = .ok (.aload_n 0, 1) := by decide +kernel
theorem dX8_edit_57 : decode cX8_edit 57 = .ok (.getfield 19, 3) := by decide +kernel
theorem dX8_edit_60 : decode cX8_edit 60 = .ok (.getfield 70, 3) := by decide +kernel
theorem dX8_edit_63 : decode cX8_edit 63 = .ok (.iadd, 1) := by decide +kernel
theorem dX8_edit_64 : decode cX8_edit 64 = .ok (.sipush 600, 3) := by decide +kernel
theorem dX8_edit_67 : decode cX8_edit 67 = .ok (.if_icmp .le 6, 3) := by decide +kernel
theorem dX8_edit_70 : decode cX8_edit 70 = .ok (.bipush (-2), 2) := by decide +kernel
theorem dX8_edit_72 : decode cX8_edit 72 = .ok (.ireturn, 1) := by decide +kernel
theorem dX8_edit_73 : decode cX8_edit 73 = .ok (.aload_n 0, 1) := by decide +kernel
theorem dX8_edit_74 : decode cX8_edit 74 = .ok (.getfield 12, 3) := by decide +kernel
theorem dX8_edit_77 : decode cX8_edit 77 = .ok (.iload_n 1, 1) := by decide +kernel
theorem dX8_edit_78 : decode cX8_edit 78 = .ok (.iload_n 2, 1) := by decide +kernel
theorem dX8_edit_79 : decode cX8_edit 79 = .ok (.iload_n 3, 1) := by decide +kernel
theorem dX8_edit_80 : decode cX8_edit 80 = .ok (.aload_n 0, 1) := by decide +kernel
theorem dX8_edit_81 : decode cX8_edit 81 = .ok (.getfield 19, 3) := by decide +kernel
theorem dX8_edit_84 : decode cX8_edit 84 = .ok (.invokevirtual 89, 3) := by decide +kernel
theorem dX8_edit_87 : decode cX8_edit 87 = .ok (.aload_n 0, 1) := by decide +kernel
theorem dX8_edit_88 : decode cX8_edit 88 = .ok (.getfield 19, 3) := by decide +kernel
theorem dX8_edit_91 : decode cX8_edit 91 = .ok (.iconst 0, 1) := by decide +kernel
theorem dX8_edit_92 : decode cX8_edit 92 = .ok (.putfield 70, 3) := by decide +kernel
theorem dX8_edit_95 : decode cX8_edit 95 = .ok (.aload_n 0, 1) := by decide +kernel
theorem dX8_edit_96 : decode cX8_edit 96 = .ok (.getfield 12, 3) := by decide +kernel
theorem dX8_edit_99 : decode cX8_edit 99 = .ok (.getfield 81, 3) := by decide +kernel
theorem dX8_edit_102 : decode cX8_edit 102 = .ok (.iload_n 1, 1) := by decide +kernel
theorem dX8_edit_103 : decode cX8_edit 103 = .ok (.iaload, 1) := by decide +kernel
theorem dX8_edit_104 : decode cX8_edit 104 = .ok (.ireturn, 1) := by decide +kernel
theorem dX8_sow_0 : decode cX8_sow 0 = .ok (.iload_n 1, 1) := by decide +kernel
theorem dX8_sow_1 : decode cX8_sow 1 = .ok (.invokestatic 77, 3) := by decide +kernel
theorem dX8_sow_4 : decode cX8_sow 4 = .ok (.ifCond .eq 43, 3) := by decide +kernel
theorem dX8_sow_7 : decode cX8_sow 7 = .ok (.iload_n 2, 1) := by decide +kernel
theorem dX8_sow_8 : decode cX8_sow 8 = .ok (.iconst 1, 1) := by decide +kernel
theorem dX8_sow_9 : decode cX8_sow 9 = .ok (.sipush 200, 3) := by decide +kernel
theorem dX8_sow_12 : decode cX8_sow 12 = .ok (.invokestatic 85, 3) := by decide +kernel
theorem dX8_sow_15 : decode cX8_sow 15 = .ok (.ifCond .eq 32, 3) := by decide +kernel
theorem dX8_sow_18 : decode cX8_sow 18 = .ok (.iload 4, 2) := by decide +kernel
theorem dX8_sow_20 : decode cX8_sow 20 = .ok (.iconst 1, 1) := by decide +kernel
theorem dX8_sow_21 : decode cX8_sow 21 = .ok (.sipush 256, 3) := by decide +kernel
theorem dX8_sow_24 : decode cX8_sow 24 = .ok (.invokestatic 85, 3) := by decide +kernel
theorem dX8_sow_27 : decode cX8_sow 27 = .ok (.ifCond .eq 20, 3) := by decide +kernel
theorem dX8_sow_30 : decode cX8_sow 30 = .ok (.aload_n 0, 1) := by decide +kernel
theorem dX8_sow_31 : decode cX8_sow 31 = .ok (.getfield 12, 3) := by decide +kernel
theorem dX8_sow_34 : decode cX8_sow 34 = .ok (.getfield 81, 3) := by decide +kernel
theorem dX8_sow_37 : decode cX8_sow 37 = .ok (.iload_n 1, 1) := by decide +kernel
theorem dX8_sow_38 : decode cX8_sow 38 = .ok (.iaload, 1) := by decide +kernel
theorem dX8_sow_39 : decode cX8_sow 39 = .ok (.iload_n 2, 1) := by decide +kernel
theorem dX8_sow_40 : decode cX8_sow 40 = .ok (.iadd, 1) := by decide +kernel
theorem dX8_sow_41 : decode cX8_sow 41 = .ok (.sipush 600, 3) := by decide +kernel
theorem dX8_sow_44 : decode cX8_sow 44 = .ok (.if_icmp .le 5, 3) := by decide +kernel
theorem dX8_sow_47 : decode cX8_sow 47 = .ok (.iconst (-1), 1) := by decide +kernel
theorem dX8_sow_48 : decode cX8_sow 48 = .ok (.ireturn, 1) := by decide +kernel
theorem dX8_sow_49 : decode cX8_sow 49 = .ok (.iload_n 3, 1) := by decide +kernel
theorem dX8_sow_50 : decode cX8_sow 50 = .ok (.istore 5, 2) := by decide +kernel
theorem dX8_sow_52 : decode cX8_sow 52 = .ok (.iconst 0, 1) := by decide +kernel
theorem dX8_sow_53 : decode cX8_sow 53 = .ok (.istore 6, 2) := by decide +kernel
theorem dX8_sow_55 : decode cX8_sow 55 = .ok (.iload 6, 2) := by decide +kernel
theorem dX8_sow_57 : decode cX8_sow 57 = .ok (.iload_n 2, 1) := by decide +kernel
theorem dX8_sow_58 : decode cX8_sow 58 = .ok (.if_icmp .ge 36, 3) := by decide +kernel
theorem dX8_sow_61 : decode cX8_sow 61 = .ok (.ldc 93, 2) := by decide +kernel
theorem dX8_sow_63 : decode cX8_sow 63 = .ok (.iload 5, 2) := by decide +kernel
theorem dX8_sow_65 : decode cX8_sow 65 = .ok (.imul, 1) := by decide +kernel
theorem dX8_sow_66 : decode cX8_sow 66 = .ok (.sipush 12345, 3) := by decide +kernel
theorem dX8_sow_69 : decode cX8_sow 69 = .ok (.iadd, 1) := by decide +kernel
theorem dX8_sow_70 : decode cX8_sow 70 = .ok (.istore 5, 2) := by decide +kernel
theorem dX8_sow_72 : decode cX8_sow 72 = .ok (.aload_n 0, 1) := by decide +kernel
theorem dX8_sow_73 : decode cX8_sow 73 = .ok (.getfield 12, 3) := by decide +kernel
theorem dX8_sow_76 : decode cX8_sow 76 = .ok (.iload_n 1, 1) := by decide +kernel
theorem dX8_sow_77 : decode cX8_sow 77 = .ok (.iload 5, 2) := by decide +kernel
theorem dX8_sow_79 : decode cX8_sow 79 = .ok (.bipush 8, 2) := by decide +kernel
theorem dX8_sow_81 : decode cX8_sow 81 = .ok (.iushr, 1) := by decide +kernel
theorem dX8_sow_82 : decode cX8_sow 82 = .ok (.iload 4, 2) := by decide +kernel
theorem dX8_sow_84 : decode cX8_sow 84 = .ok (.irem, 1) := by decide +kernel
theorem dX8_sow_85 : decode cX8_sow 85 = .ok (.invokevirtual 94, 3) := by decide +kernel
theorem dX8_sow_88 : decode cX8_sow 88 = .ok (.iinc 6 1, 3) := by decide +kernel
theorem dX8_sow_91 : decode cX8_sow 91 = .ok (.goto (-36), 3) := by decide +kernel
theorem dX8_sow_94 : decode cX8_sow 94 = .ok (.aload_n 0, 1) := by decide +kernel
theorem dX8_sow_95 : decode cX8_sow 95 = .ok (.getfield 12, 3) := by decide +kernel
theorem dX8_sow_98 : decode cX8_sow 98 = .ok (.getfield 81, 3) := by decide +kernel
theorem dX8_sow_101 : decode cX8_sow 101 = .ok (.iload_n 1, 1) := by decide +kernel
theorem dX8_sow_102 : decode cX8_sow 102 = .ok (.iaload, 1) := by decide +kernel
theorem dX8_sow_103 : decode cX8_sow 103 = .ok (.ireturn, 1) := by decide +kernel
theorem dX8_copy_0 : decode cX8_copy 0 = .ok (.iload_n 1, 1) := by decide +kernel
theorem dX8_copy_1 : decode cX8_copy 1 = .ok (.invokestatic 77, 3) := by decide +kernel
theorem dX8_copy_4 : decode cX8_copy 4 = .ok (.ifCond .eq 10, 3) := by decide +kernel
theorem dX8_copy_7 : decode cX8_copy 7 = .ok (.iload_n 2, 1) := by decide +kernel
theorem dX8_copy_8 : decode cX8_copy 8 = .ok (.invokestatic 77, 3) := by decide +kernel
theorem dX8_copy_11 : decode cX8_copy 11 = .ok (.ifCond .ne 5, 3) := by decide +kernel
theorem dX8_copy_14 : decode cX8_copy 14 = .ok (.iconst (-1), 1) := by decide +kernel
theorem dX8_copy_15 : decode cX8_copy 15 = .ok (.ireturn, 1) := by decide +kernel
theorem dX8_copy_16 : decode cX8_copy 16 = .ok (.aload_n 0, 1) := by decide +kernel
theorem dX8_copy_17 : decode cX8_copy 17 = .ok (.getfield 12, 3) := by decide +kernel
theorem dX8_copy_20 : decode cX8_copy 20 = .ok (.iload_n 1, 1) := by decide +kernel
theorem dX8_copy_21 : decode cX8_copy 21 = .ok (.iload_n 2, 1) := by decide +kernel
theorem dX8_copy_22 : decode cX8_copy 22 = .ok (.invokevirtual 98, 3) := by decide +kernel
theorem dX8_copy_25 : decode cX8_copy 25 = .ok (.aload_n 0, 1) := by decide +kernel
theorem dX8_copy_26 : decode cX8_copy 26 = .ok (.getfield 12, 3) := by decide +kernel
theorem dX8_copy_29 : decode cX8_copy 29 = .ok (.getfield 81, 3) := by decide +kernel
theorem dX8_copy_32 : decode cX8_copy 32 = .ok (.iload_n 2, 1) := by decide +kernel
theorem dX8_copy_33 : decode cX8_copy 33 = .ok (.iaload, 1) := by decide +kernel
theorem dX8_copy_34 : decode cX8_copy 34 = .ok (.ireturn, 1) := by decide +kernel
theorem dX8_at_0 : decode cX8_at 0 = .ok (.aload_n 0, 1) := by decide +kernel
theorem dX8_at_1 : decode cX8_at 1 = .ok (.iload_n 1, 1) := by decide +kernel
theorem dX8_at_2 : decode cX8_at 2 = .ok (.iload_n 2, 1) := by decide +kernel
theorem dX8_at_3 : decode cX8_at 3 = .ok (.invokevirtual 101, 3) := by decide +kernel
theorem dX8_at_6 : decode cX8_at 6 = .ok (.ifCond .eq 15, 3) := by decide +kernel
theorem dX8_at_9 : decode cX8_at 9 = .ok (.aload_n 0, 1) := by decide +kernel
theorem dX8_at_10 : decode cX8_at 10 = .ok (.getfield 12, 3) := by decide +kernel
theorem dX8_at_13 : decode cX8_at 13 = .ok (.iload_n 1, 1) := by decide +kernel
theorem dX8_at_14 : decode cX8_at 14 = .ok (.iload_n 2, 1) := by decide +kernel
theorem dX8_at_15 : decode cX8_at 15 = .ok (.invokevirtual 105, 3) := by decide +kernel
theorem dX8_at_18 : decode cX8_at 18 = .ok (.goto 4, 3) := by decide +kernel
theorem dX8_at_21 : decode cX8_at 21 = .ok (.iconst (-1), 1) := by decide +kernel
theorem dX8_at_22 : decode cX8_at 22 = .ok (.ireturn, 1) := by decide +kernel
theorem dX8_fixed_0 : decode cX8_fixed 0 = .ok (.iload_n 1, 1) := by decide +kernel
theorem dX8_fixed_1 : decode cX8_fixed 1 = .ok (.invokestatic 109, 3) := by decide +kernel
theorem dX8_fixed_4 : decode cX8_fixed 4 = .ok (.ifCond .eq 14, 3) := by decide +kernel
theorem dX8_fixed_7 : decode cX8_fixed 7 = .ok (.iload_n 2, 1) := by decide +kernel
theorem dX8_fixed_8 : decode cX8_fixed 8 = .ok (.iconst 1, 1) := by decide +kernel
theorem dX8_fixed_9 : decode cX8_fixed 9 = .ok (.sipush 200, 3) := by decide +kernel
theorem dX8_fixed_12 : decode cX8_fixed 12 = .ok (.invokestatic 85, 3) := by decide +kernel
theorem dX8_fixed_15 : decode cX8_fixed 15 = .ok (.ifCond .ne 5, 3) := by decide +kernel
theorem dX8_fixed_18 : decode cX8_fixed 18 = .ok (.iconst 0, 1) := by decide +kernel
theorem dX8_fixed_19 : decode cX8_fixed 19 = .ok (.ireturn, 1) := by decide +kernel
theorem dX8_fixed_20 : decode cX8_fixed 20 = .ok (.aload_n 0, 1) := by decide +kernel
theorem dX8_fixed_21 : decode cX8_fixed 21 = .ok (.getfield 25, 3) := by decide +kernel
theorem dX8_fixed_24 : decode cX8_fixed 24 = .ok (.iload_n 1, 1) := by decide +kernel
theorem dX8_fixed_25 : decode cX8_fixed 25 = .ok (.aaload, 1) := by decide +kernel
theorem dX8_fixed_26 : decode cX8_fixed 26 = .ok (.iconst 0, 1) := by decide +kernel
theorem dX8_fixed_27 : decode cX8_fixed 27 = .ok (.iload_n 2, 1) := by decide +kernel
theorem dX8_fixed_28 : decode cX8_fixed 28 = .ok (.iload_n 2, 1) := by decide +kernel
theorem dX8_fixed_29 : decode cX8_fixed 29 = .ok (.iconst 0, 1) := by decide +kernel
theorem dX8_fixed_30 : decode cX8_fixed 30 = .ok (.invokevirtual 112, 3) := by decide +kernel
theorem dX8_fixed_33 : decode cX8_fixed 33 = .ok (.iconst 1, 1) := by decide +kernel
theorem dX8_fixed_34 : decode cX8_fixed 34 = .ok (.ireturn, 1) := by decide +kernel
theorem dX8_rolling_0 : decode cX8_rolling 0 = .ok (.iload_n 1, 1) := by decide +kernel
theorem dX8_rolling_1 : decode cX8_rolling 1 = .ok (.invokestatic 109, 3) := by decide +kernel
theorem dX8_rolling_4 : decode cX8_rolling 4 = .ok (.ifCond .eq 36, 3) := by decide +kernel
theorem dX8_rolling_7 : decode cX8_rolling 7 = .ok (.iload_n 3, 1) := by decide +kernel
theorem dX8_rolling_8 : decode cX8_rolling 8 = .ok (.iload 4, 2) := by decide +kernel
theorem dX8_rolling_10 : decode cX8_rolling 10 = .ok (.iload 7, 2) := by decide +kernel
theorem dX8_rolling_12 : decode cX8_rolling 12 = .ok (.invokestatic 116, 3) := by decide +kernel
theorem dX8_rolling_15 : decode cX8_rolling 15 = .ok (.ifCond .eq 25, 3) := by decide +kernel
theorem dX8_rolling_18 : decode cX8_rolling 18 = .ok (.iload 5, 2) := by decide +kernel
theorem dX8_rolling_20 : decode cX8_rolling 20 = .ok (.iconst 1, 1) := by decide +kernel
theorem dX8_rolling_21 : decode cX8_rolling 21 = .ok (.bipush 16, 2) := by decide +kernel
theorem dX8_rolling_23 : decode cX8_rolling 23 = .ok (.invokestatic 85, 3) := by decide +kernel
theorem dX8_rolling_26 : decode cX8_rolling 26 = .ok (.ifCond .eq 14, 3) := by decide +kernel
theorem dX8_rolling_29 : decode cX8_rolling 29 = .ok (.iload 6, 2) := by decide +kernel
theorem dX8_rolling_31 : decode cX8_rolling 31 = .ok (.iconst 0, 1) := by decide +kernel
theorem dX8_rolling_32 : decode cX8_rolling 32 = .ok (.bipush 8, 2) := by decide +kernel
theorem dX8_rolling_34 : decode cX8_rolling 34 = .ok (.invokestatic 85, 3) := by decide +kernel
theorem dX8_rolling_37 : decode cX8_rolling 37 = .ok (.ifCond .ne 5, 3) := by decide +kernel
theorem dX8_rolling_40 : decode cX8_rolling 40 = .ok (.iconst 0, 1) := by decide +kernel
theorem dX8_rolling_41 : decode cX8_rolling 41 = .ok (.ireturn, 1) := by decide +kernel
theorem dX8_rolling_42 : decode cX8_rolling 42 = .ok (.aload_n 0, 1) := by decide +kernel
theorem dX8_rolling_43 : decode cX8_rolling 43 = .ok (.getfield 25, 3) := by decide +kernel
theorem dX8_rolling_46 : decode cX8_rolling 46 = .ok (.iload_n 1, 1) := by decide +kernel
theorem dX8_rolling_47 : decode cX8_rolling 47 = .ok (.aaload, 1) := by decide +kernel
theorem dX8_rolling_48 : decode cX8_rolling 48 = .ok (.iload_n 2, 1) := by decide +kernel
theorem dX8_rolling_49 : decode cX8_rolling 49 = .ok (.ifCond .eq 7, 3) := by decide +kernel
theorem dX8_rolling_52 : decode cX8_rolling 52 = .ok (.iconst 2, 1) := by decide +kernel
theorem dX8_rolling_53 : decode cX8_rolling 53 = .ok (.goto 4, 3) := by decide +kernel
theorem dX8_rolling_56 : decode cX8_rolling 56 = .ok (.iconst 1, 1) := by decide +kernel
theorem dX8_rolling_57 : decode cX8_rolling 57 = .ok (.iload_n 3, 1) := by decide +kernel
theorem dX8_rolling_58 : decode cX8_rolling 58 = .ok (.iload 4, 2) := by decide +kernel
theorem dX8_rolling_60 : decode cX8_rolling 60 = .ok (.iload 7, 2) := by decide +kernel
theorem dX8_rolling_62 : decode cX8_rolling 62 = .ok (.invokevirtual 112, 3) := by decide +kernel
theorem dX8_rolling_65 : decode cX8_rolling 65 = .ok (.aload_n 0, 1) := by decide +kernel
theorem dX8_rolling_66 : decode cX8_rolling 66 = .ok (.getfield 25, 3) := by decide +kernel
theorem dX8_rolling_69 : decode cX8_rolling 69 = .ok (.iload_n 1, 1) := by decide +kernel
theorem dX8_rolling_70 : decode cX8_rolling 70 = .ok (.aaload, 1) := by decide +kernel
theorem dX8_rolling_71 : decode cX8_rolling 71 = .ok (.iload 5, 2) := by decide +kernel
theorem dX8_rolling_73 : decode cX8_rolling 73 = .ok (.iload 6, 2) := by decide +kernel
theorem dX8_rolling_75 : decode cX8_rolling 75 = .ok (.invokevirtual 119, 3) := by decide +kernel
theorem dX8_rolling_78 : decode cX8_rolling 78 = .ok (.iconst 1, 1) := by decide +kernel
theorem dX8_rolling_79 : decode cX8_rolling 79 = .ok (.ireturn, 1) := by decide +kernel
theorem dX8_told_0 : decode cX8_told 0 = .ok (.iload_n 1, 1) := by decide +kernel
theorem dX8_told_1 : decode cX8_told 1 = .ok (.invokestatic 109, 3) := by decide +kernel
theorem dX8_told_4 : decode cX8_told 4 = .ok (.ifCond .eq 13, 3) := by decide +kernel
theorem dX8_told_7 : decode cX8_told 7 = .ok (.iload_n 2, 1) := by decide +kernel
theorem dX8_told_8 : decode cX8_told 8 = .ok (.iload_n 3, 1) := by decide +kernel
theorem dX8_told_9 : decode cX8_told 9 = .ok (.iload 4, 2) := by decide +kernel
theorem dX8_told_11 : decode cX8_told 11 = .ok (.invokestatic 116, 3) := by decide +kernel
theorem dX8_told_14 : decode cX8_told 14 = .ok (.ifCond .ne 5, 3) := by decide +kernel
theorem dX8_told_17 : decode cX8_told 17 = .ok (.iconst 0, 1) := by decide +kernel
theorem dX8_told_18 : decode cX8_told 18 = .ok (.ireturn, 1) := by decide +kernel
theorem dX8_told_19 : decode cX8_told 19 = .ok (.aload_n 0, 1) := by decide +kernel
theorem dX8_told_20 : decode cX8_told 20 = .ok (.getfield 25, 3) := by decide +kernel
theorem dX8_told_23 : decode cX8_told 23 = .ok (.iload_n 1, 1) := by decide +kernel
theorem dX8_told_24 : decode cX8_told 24 = .ok (.aaload, 1) := by decide +kernel
theorem dX8_told_25 : decode cX8_told 25 = .ok (.iconst 3, 1) := by decide +kernel
theorem dX8_told_26 : decode cX8_told 26 = .ok (.iload_n 2, 1) := by decide +kernel
theorem dX8_told_27 : decode cX8_told 27 = .ok (.iload_n 3, 1) := by decide +kernel
theorem dX8_told_28 : decode cX8_told 28 = .ok (.iload 4, 2) := by decide +kernel
theorem dX8_told_30 : decode cX8_told 30 = .ok (.invokevirtual 112, 3) := by decide +kernel
theorem dX8_told_33 : decode cX8_told 33 = .ok (.iconst 1, 1) := by decide +kernel
theorem dX8_told_34 : decode cX8_told 34 = .ok (.ireturn, 1) := by decide +kernel
theorem dX8_sum_0 : decode cX8_sum 0 = .ok (.aload_n 0, 1) := by decide +kernel
theorem dX8_sum_1 : decode cX8_sum 1 = .ok (.iload_n 1, 1) := by decide +kernel
theorem dX8_sum_2 : decode cX8_sum 2 = .ok (.invokevirtual 122, 3) := by decide +kernel
theorem dX8_sum_5 : decode cX8_sum 5 = .ok (.ifCond .eq 24, 3) := by decide +kernel
theorem dX8_sum_8 : decode cX8_sum 8 = .ok (.aload_n 0, 1) := by decide +kernel
theorem dX8_sum_9 : decode cX8_sum 9 = .ok (.getfield 25, 3) := by decide +kernel
theorem dX8_sum_12 : decode cX8_sum 12 = .ok (.iload_n 1, 1) := by decide +kernel
theorem dX8_sum_13 : decode cX8_sum 13 = .ok (.aaload, 1) := by decide +kernel
theorem dX8_sum_14 : decode cX8_sum 14 = .ok (.invokevirtual 125, 3) := by decide +kernel
theorem dX8_sum_17 : decode cX8_sum 17 = .ok (.ifCond .eq 12, 3) := by decide +kernel
theorem dX8_sum_20 : decode cX8_sum 20 = .ok (.aload_n 0, 1) := by decide +kernel
theorem dX8_sum_21 : decode cX8_sum 21 = .ok (.iload_n 2, 1) := by decide +kernel
theorem dX8_sum_22 : decode cX8_sum 22 = .ok (.iload_n 3, 1) := by decide +kernel
theorem dX8_sum_23 : decode cX8_sum 23 = .ok (.invokevirtual 101, 3) := by decide +kernel
theorem dX8_sum_26 : decode cX8_sum 26 = .ok (.ifCond .ne 5, 3) := by decide +kernel
theorem dX8_sum_29 : decode cX8_sum 29 = .ok (.iconst (-1), 1) := by decide +kernel
theorem dX8_sum_30 : decode cX8_sum 30 = .ok (.ireturn, 1) := by decide +kernel
theorem dX8_sum_31 : decode cX8_sum 31 = .ok (.aload_n 0, 1) := by decide +kernel
theorem dX8_sum_32 : decode cX8_sum 32 = .ok (.getfield 35, 3) := by decide +kernel
theorem dX8_sum_35 : decode cX8_sum 35 = .ok (.aload_n 0, 1) := by decide +kernel
theorem dX8_sum_36 : decode cX8_sum 36 = .ok (.getfield 25, 3) := by decide +kernel
theorem dX8_sum_39 : decode cX8_sum 39 = .ok (.iload_n 1, 1) := by decide +kernel
theorem dX8_sum_40 : decode cX8_sum 40 = .ok (.aaload, 1) := by decide +kernel
theorem dX8_sum_41 : decode cX8_sum 41 = .ok (.iload_n 2, 1) := by decide +kernel
theorem dX8_sum_42 : decode cX8_sum 42 = .ok (.invokevirtual 129, 3) := by decide +kernel
theorem dX8_sum_45 : decode cX8_sum 45 = .ok (.aload_n 0, 1) := by decide +kernel
theorem dX8_sum_46 : decode cX8_sum 46 = .ok (.getfield 35, 3) := by decide +kernel
theorem dX8_sum_49 : decode cX8_sum 49 = .ok (.getfield 133, 3) := by decide +kernel
theorem dX8_sum_52 : decode cX8_sum 52 = .ok (.iload_n 3, 1) := by decide +kernel
theorem dX8_sum_53 : decode cX8_sum 53 = .ok (.iaload, 1) := by decide +kernel
theorem dX8_sum_54 : decode cX8_sum 54 = .ok (.ireturn, 1) := by decide +kernel
theorem dX8_cuts_0 : decode cX8_cuts 0 = .ok (.aload_n 0, 1) := by decide +kernel
theorem dX8_cuts_1 : decode cX8_cuts 1 = .ok (.iload_n 1, 1) := by decide +kernel
theorem dX8_cuts_2 : decode cX8_cuts 2 = .ok (.invokevirtual 122, 3) := by decide +kernel
theorem dX8_cuts_5 : decode cX8_cuts 5 = .ok (.ifCond .eq 10, 3) := by decide +kernel
theorem dX8_cuts_8 : decode cX8_cuts 8 = .ok (.iload_n 2, 1) := by decide +kernel
theorem dX8_cuts_9 : decode cX8_cuts 9 = .ok (.invokestatic 77, 3) := by decide +kernel
theorem dX8_cuts_12 : decode cX8_cuts 12 = .ok (.ifCond .ne 5, 3) := by decide +kernel
theorem dX8_cuts_15 : decode cX8_cuts 15 = .ok (.iconst (-1), 1) := by decide +kernel
theorem dX8_cuts_16 : decode cX8_cuts 16 = .ok (.ireturn, 1) := by decide +kernel
theorem dX8_cuts_17 : decode cX8_cuts 17 = .ok (.aload_n 0, 1) := by decide +kernel
theorem dX8_cuts_18 : decode cX8_cuts 18 = .ok (.getfield 35, 3) := by decide +kernel
theorem dX8_cuts_21 : decode cX8_cuts 21 = .ok (.aload_n 0, 1) := by decide +kernel
theorem dX8_cuts_22 : decode cX8_cuts 22 = .ok (.getfield 25, 3) := by decide +kernel
theorem dX8_cuts_25 : decode cX8_cuts 25 = .ok (.iload_n 1, 1) := by decide +kernel
theorem dX8_cuts_26 : decode cX8_cuts 26 = .ok (.aaload, 1) := by decide +kernel
theorem dX8_cuts_27 : decode cX8_cuts 27 = .ok (.iload_n 2, 1) := by decide +kernel
theorem dX8_cuts_28 : decode cX8_cuts 28 = .ok (.invokevirtual 136, 3) := by decide +kernel
theorem dX8_cuts_31 : decode cX8_cuts 31 = .ok (.aload_n 0, 1) := by decide +kernel
theorem dX8_cuts_32 : decode cX8_cuts 32 = .ok (.getfield 35, 3) := by decide +kernel
theorem dX8_cuts_35 : decode cX8_cuts 35 = .ok (.getfield 139, 3) := by decide +kernel
theorem dX8_cuts_38 : decode cX8_cuts 38 = .ok (.ireturn, 1) := by decide +kernel
theorem dX8_cut_0 : decode cX8_cut 0 = .ok (.aload_n 0, 1) := by decide +kernel
theorem dX8_cut_1 : decode cX8_cut 1 = .ok (.iload_n 1, 1) := by decide +kernel
theorem dX8_cut_2 : decode cX8_cut 2 = .ok (.invokevirtual 122, 3) := by decide +kernel
theorem dX8_cut_5 : decode cX8_cut 5 = .ok (.ifCond .eq 10, 3) := by decide +kernel
theorem dX8_cut_8 : decode cX8_cut 8 = .ok (.iload_n 2, 1) := by decide +kernel
theorem dX8_cut_9 : decode cX8_cut 9 = .ok (.invokestatic 77, 3) := by decide +kernel
theorem dX8_cut_12 : decode cX8_cut 12 = .ok (.ifCond .ne 5, 3) := by decide +kernel
theorem dX8_cut_15 : decode cX8_cut 15 = .ok (.iconst (-1), 1) := by decide +kernel
theorem dX8_cut_16 : decode cX8_cut 16 = .ok (.ireturn, 1) := by decide +kernel
theorem dX8_cut_17 : decode cX8_cut 17 = .ok (.aload_n 0, 1) := by decide +kernel
theorem dX8_cut_18 : decode cX8_cut 18 = .ok (.getfield 35, 3) := by decide +kernel
theorem dX8_cut_21 : decode cX8_cut 21 = .ok (.aload_n 0, 1) := by decide +kernel
theorem dX8_cut_22 : decode cX8_cut 22 = .ok (.getfield 25, 3) := by decide +kernel
theorem dX8_cut_25 : decode cX8_cut 25 = .ok (.iload_n 1, 1) := by decide +kernel
theorem dX8_cut_26 : decode cX8_cut 26 = .ok (.aaload, 1) := by decide +kernel
theorem dX8_cut_27 : decode cX8_cut 27 = .ok (.iload_n 2, 1) := by decide +kernel
theorem dX8_cut_28 : decode cX8_cut 28 = .ok (.invokevirtual 136, 3) := by decide +kernel
theorem dX8_cut_31 : decode cX8_cut 31 = .ok (.iload_n 3, 1) := by decide +kernel
theorem dX8_cut_32 : decode cX8_cut 32 = .ok (.iconst 0, 1) := by decide +kernel
theorem dX8_cut_33 : decode cX8_cut 33 = .ok (.aload_n 0, 1) := by decide +kernel
theorem dX8_cut_34 : decode cX8_cut 34 = .ok (.getfield 35, 3) := by decide +kernel
theorem dX8_cut_37 : decode cX8_cut 37 = .ok (.getfield 139, 3) := by decide +kernel
theorem dX8_cut_40 : decode cX8_cut 40 = .ok (.invokestatic 85, 3) := by decide +kernel
theorem dX8_cut_43 : decode cX8_cut 43 = .ok (.ifCond .eq 15, 3) := by decide +kernel
theorem dX8_cut_46 : decode cX8_cut 46 = .ok (.aload_n 0, 1) := by decide +kernel
theorem dX8_cut_47 : decode cX8_cut 47 = .ok (.getfield 35, 3) := by decide +kernel
theorem dX8_cut_50 : decode cX8_cut 50 = .ok (.getfield 142, 3) := by decide +kernel
theorem dX8_cut_53 : decode cX8_cut 53 = .ok (.iload_n 3, 1) := by decide +kernel
theorem dX8_cut_54 : decode cX8_cut 54 = .ok (.iaload, 1) := by decide +kernel
theorem dX8_cut_55 : decode cX8_cut 55 = .ok (.goto 4, 3) := by decide +kernel
theorem dX8_cut_58 : decode cX8_cut 58 = .ok (.iconst (-1), 1) := by decide +kernel
theorem dX8_cut_59 : decode cX8_cut 59 = .ok (.ireturn, 1) := by decide +kernel
theorem dX8_agree_0 : decode cX8_agree 0 = .ok (.aload_n 0, 1) := by decide +kernel
theorem dX8_agree_1 : decode cX8_agree 1 = .ok (.iload_n 1, 1) := by decide +kernel
theorem dX8_agree_2 : decode cX8_agree 2 = .ok (.invokevirtual 122, 3) := by decide +kernel
theorem dX8_agree_5 : decode cX8_agree 5 = .ok (.ifCond .eq 17, 3) := by decide +kernel
theorem dX8_agree_8 : decode cX8_agree 8 = .ok (.iload_n 2, 1) := by decide +kernel
theorem dX8_agree_9 : decode cX8_agree 9 = .ok (.invokestatic 77, 3) := by decide +kernel
theorem dX8_agree_12 : decode cX8_agree 12 = .ok (.ifCond .eq 10, 3) := by decide +kernel
theorem dX8_agree_15 : decode cX8_agree 15 = .ok (.iload_n 3, 1) := by decide +kernel
theorem dX8_agree_16 : decode cX8_agree 16 = .ok (.invokestatic 77, 3) := by decide +kernel
theorem dX8_agree_19 : decode cX8_agree 19 = .ok (.ifCond .ne 5, 3) := by decide +kernel
theorem dX8_agree_22 : decode cX8_agree 22 = .ok (.iconst (-1), 1) := by decide +kernel
theorem dX8_agree_23 : decode cX8_agree 23 = .ok (.ireturn, 1) := by decide +kernel
theorem dX8_agree_24 : decode cX8_agree 24 = .ok (.aload_n 0, 1) := by decide +kernel
theorem dX8_agree_25 : decode cX8_agree 25 = .ok (.getfield 35, 3) := by decide +kernel
theorem dX8_agree_28 : decode cX8_agree 28 = .ok (.aload_n 0, 1) := by decide +kernel
theorem dX8_agree_29 : decode cX8_agree 29 = .ok (.getfield 25, 3) := by decide +kernel
theorem dX8_agree_32 : decode cX8_agree 32 = .ok (.iload_n 1, 1) := by decide +kernel
theorem dX8_agree_33 : decode cX8_agree 33 = .ok (.aaload, 1) := by decide +kernel
theorem dX8_agree_34 : decode cX8_agree 34 = .ok (.iload_n 2, 1) := by decide +kernel
theorem dX8_agree_35 : decode cX8_agree 35 = .ok (.invokevirtual 136, 3) := by decide +kernel
theorem dX8_agree_38 : decode cX8_agree 38 = .ok (.aload_n 0, 1) := by decide +kernel
theorem dX8_agree_39 : decode cX8_agree 39 = .ok (.getfield 39, 3) := by decide +kernel
theorem dX8_agree_42 : decode cX8_agree 42 = .ok (.aload_n 0, 1) := by decide +kernel
theorem dX8_agree_43 : decode cX8_agree 43 = .ok (.getfield 25, 3) := by decide +kernel
theorem dX8_agree_46 : decode cX8_agree 46 = .ok (.iload_n 1, 1) := by decide +kernel
theorem dX8_agree_47 : decode cX8_agree 47 = .ok (.aaload, 1) := by decide +kernel
theorem dX8_agree_48 : decode cX8_agree 48 = .ok (.iload_n 3, 1) := by decide +kernel
theorem dX8_agree_49 : decode cX8_agree 49 = .ok (.invokevirtual 136, 3) := by decide +kernel
theorem dX8_agree_52 : decode cX8_agree 52 = .ok (.aload_n 0, 1) := by decide +kernel
theorem dX8_agree_53 : decode cX8_agree 53 = .ok (.getfield 35, 3) := by decide +kernel
theorem dX8_agree_56 : decode cX8_agree 56 = .ok (.getfield 139, 3) := by decide +kernel
theorem dX8_agree_59 : decode cX8_agree 59 = .ok (.aload_n 0, 1) := by decide +kernel
theorem dX8_agree_60 : decode cX8_agree 60 = .ok (.getfield 39, 3) := by decide +kernel
theorem dX8_agree_63 : decode cX8_agree 63 = .ok (.getfield 139, 3) := by decide +kernel
theorem dX8_agree_66 : decode cX8_agree 66 = .ok (.invokestatic 145, 3) := by decide +kernel
theorem dX8_agree_69 : decode cX8_agree 69 = .ok (.istore 4, 2) := by decide +kernel
theorem dX8_agree_71 : decode cX8_agree 71 = .ok (.iconst 0, 1) := by decide +kernel
theorem dX8_agree_72 : decode cX8_agree 72 = .ok (.istore 5, 2) := by decide +kernel
theorem dX8_agree_74 : decode cX8_agree 74 = .ok (.iload 5, 2) := by decide +kernel
theorem dX8_agree_76 : decode cX8_agree 76 = .ok (.iload 4, 2) := by decide +kernel
theorem dX8_agree_78 : decode cX8_agree 78 = .ok (.if_icmp .ge 18, 3) := by decide +kernel
theorem dX8_agree_81 : decode cX8_agree 81 = .ok (.aload_n 0, 1) := by decide +kernel
theorem dX8_agree_82 : decode cX8_agree 82 = .ok (.iload 5, 2) := by decide +kernel
theorem dX8_agree_84 : decode cX8_agree 84 = .ok (.invokevirtual 150, 3) := by decide +kernel
theorem dX8_agree_87 : decode cX8_agree 87 = .ok (.ifCond .eq 9, 3) := by decide +kernel
theorem dX8_agree_90 : decode cX8_agree 90 = .ok (.iinc 5 1, 3) := by decide +kernel
theorem dX8_agree_93 : decode cX8_agree 93 = .ok (.goto (-19), 3) := by decide +kernel
theorem dX8_agree_96 : decode cX8_agree 96 = .ok (.iload 5, 2) := by decide +kernel
theorem dX8_agree_98 : decode cX8_agree 98 = .ok (.ireturn, 1) := by decide +kernel
theorem dX8_sent_0 : decode cX8_sent 0 = .ok (.aload_n 0, 1) := by decide +kernel
theorem dX8_sent_1 : decode cX8_sent 1 = .ok (.iload_n 1, 1) := by decide +kernel
theorem dX8_sent_2 : decode cX8_sent 2 = .ok (.invokevirtual 122, 3) := by decide +kernel
theorem dX8_sent_5 : decode cX8_sent 5 = .ok (.ifCond .eq 17, 3) := by decide +kernel
theorem dX8_sent_8 : decode cX8_sent 8 = .ok (.iload_n 2, 1) := by decide +kernel
theorem dX8_sent_9 : decode cX8_sent 9 = .ok (.invokestatic 77, 3) := by decide +kernel
theorem dX8_sent_12 : decode cX8_sent 12 = .ok (.ifCond .eq 10, 3) := by decide +kernel
theorem dX8_sent_15 : decode cX8_sent 15 = .ok (.iload_n 3, 1) := by decide +kernel
theorem dX8_sent_16 : decode cX8_sent 16 = .ok (.invokestatic 77, 3) := by decide +kernel
theorem dX8_sent_19 : decode cX8_sent 19 = .ok (.ifCond .ne 5, 3) := by decide +kernel
theorem dX8_sent_22 : decode cX8_sent 22 = .ok (.iconst (-1), 1) := by decide +kernel
theorem dX8_sent_23 : decode cX8_sent 23 = .ok (.ireturn, 1) := by decide +kernel
theorem dX8_sent_24 : decode cX8_sent 24 = .ok (.aload_n 0, 1) := by decide +kernel
theorem dX8_sent_25 : decode cX8_sent 25 = .ok (.getfield 45, 3) := by decide +kernel
theorem dX8_sent_28 : decode cX8_sent 28 = .ok (.invokevirtual 153, 3) := by decide +kernel
theorem dX8_sent_31 : decode cX8_sent 31 = .ok (.aload_n 0, 1) := by decide +kernel
theorem dX8_sent_32 : decode cX8_sent 32 = .ok (.getfield 35, 3) := by decide +kernel
theorem dX8_sent_35 : decode cX8_sent 35 = .ok (.aload_n 0, 1) := by decide +kernel
theorem dX8_sent_36 : decode cX8_sent 36 = .ok (.getfield 25, 3) := by decide +kernel
theorem dX8_sent_39 : decode cX8_sent 39 = .ok (.iload_n 1, 1) := by decide +kernel
theorem dX8_sent_40 : decode cX8_sent 40 = .ok (.aaload, 1) := by decide +kernel
theorem dX8_sent_41 : decode cX8_sent 41 = .ok (.iload_n 2, 1) := by decide +kernel
theorem dX8_sent_42 : decode cX8_sent 42 = .ok (.invokevirtual 136, 3) := by decide +kernel
theorem dX8_sent_45 : decode cX8_sent 45 = .ok (.aload_n 0, 1) := by decide +kernel
theorem dX8_sent_46 : decode cX8_sent 46 = .ok (.getfield 45, 3) := by decide +kernel
theorem dX8_sent_49 : decode cX8_sent 49 = .ok (.aload_n 0, 1) := by decide +kernel
theorem dX8_sent_50 : decode cX8_sent 50 = .ok (.getfield 35, 3) := by decide +kernel
theorem dX8_sent_53 : decode cX8_sent 53 = .ok (.invokevirtual 156, 3) := by decide +kernel
theorem dX8_sent_56 : decode cX8_sent 56 = .ok (.pop, 1) := by decide +kernel
theorem dX8_sent_57 : decode cX8_sent 57 = .ok (.aload_n 0, 1) := by decide +kernel
theorem dX8_sent_58 : decode cX8_sent 58 = .ok (.getfield 35, 3) := by decide +kernel
theorem dX8_sent_61 : decode cX8_sent 61 = .ok (.aload_n 0, 1) := by decide +kernel
theorem dX8_sent_62 : decode cX8_sent 62 = .ok (.getfield 25, 3) := by decide +kernel
theorem dX8_sent_65 : decode cX8_sent 65 = .ok (.iload_n 1, 1) := by decide +kernel
theorem dX8_sent_66 : decode cX8_sent 66 = .ok (.aaload, 1) := by decide +kernel
theorem dX8_sent_67 : decode cX8_sent 67 = .ok (.iload_n 3, 1) := by decide +kernel
theorem dX8_sent_68 : decode cX8_sent 68 = .ok (.invokevirtual 136, 3) := by decide +kernel
theorem dX8_sent_71 : decode cX8_sent 71 = .ok (.aload_n 0, 1) := by decide +kernel
theorem dX8_sent_72 : decode cX8_sent 72 = .ok (.getfield 45, 3) := by decide +kernel
theorem dX8_sent_75 : decode cX8_sent 75 = .ok (.aload_n 0, 1) := by decide +kernel
theorem dX8_sent_76 : decode cX8_sent 76 = .ok (.getfield 35, 3) := by decide +kernel
theorem dX8_sent_79 : decode cX8_sent 79 = .ok (.invokevirtual 156, 3) := by decide +kernel
theorem dX8_sent_82 : decode cX8_sent 82 = .ok (.ireturn, 1) := by decide +kernel
theorem dX8_cost_0 : decode cX8_cost 0 = .ok (.aload_n 0, 1) := by decide +kernel
theorem dX8_cost_1 : decode cX8_cost 1 = .ok (.iload_n 1, 1) := by decide +kernel
theorem dX8_cost_2 : decode cX8_cost 2 = .ok (.invokevirtual 122, 3) := by decide +kernel
theorem dX8_cost_5 : decode cX8_cost 5 = .ok (.ifCond .eq 17, 3) := by decide +kernel
theorem dX8_cost_8 : decode cX8_cost 8 = .ok (.aload_n 0, 1) := by decide +kernel
theorem dX8_cost_9 : decode cX8_cost 9 = .ok (.aload_n 0, 1) := by decide +kernel
theorem dX8_cost_10 : decode cX8_cost 10 = .ok (.getfield 25, 3) := by decide +kernel
theorem dX8_cost_13 : decode cX8_cost 13 = .ok (.iload_n 1, 1) := by decide +kernel
theorem dX8_cost_14 : decode cX8_cost 14 = .ok (.aaload, 1) := by decide +kernel
theorem dX8_cost_15 : decode cX8_cost 15 = .ok (.iload_n 2, 1) := by decide +kernel
theorem dX8_cost_16 : decode cX8_cost 16 = .ok (.invokevirtual 160, 3) := by decide +kernel
theorem dX8_cost_19 : decode cX8_cost 19 = .ok (.goto 4, 3) := by decide +kernel
theorem dX8_cost_22 : decode cX8_cost 22 = .ok (.iconst (-1), 1) := by decide +kernel
theorem dX8_cost_23 : decode cX8_cost 23 = .ok (.ireturn, 1) := by decide +kernel
theorem dX8_best_0 : decode cX8_best 0 = .ok (.iconst (-1), 1) := by decide +kernel
theorem dX8_best_1 : decode cX8_best 1 = .ok (.istore_n 2, 1) := by decide +kernel
theorem dX8_best_2 : decode cX8_best 2 = .ok (.iconst 0, 1) := by decide +kernel
theorem dX8_best_3 : decode cX8_best 3 = .ok (.istore_n 3, 1) := by decide +kernel
theorem dX8_best_4 : decode cX8_best 4 = .ok (.iconst 0, 1) := by decide +kernel
theorem dX8_best_5 : decode cX8_best 5 = .ok (.istore 4, 2) := by decide +kernel
theorem dX8_best_7 : decode cX8_best 7 = .ok (.iload 4, 2) := by decide +kernel
theorem dX8_best_9 : decode cX8_best 9 = .ok (.bipush 6, 2) := by decide +kernel
theorem dX8_best_11 : decode cX8_best 11 = .ok (.if_icmp .ge 49, 3) := by decide +kernel
theorem dX8_best_14 : decode cX8_best 14 = .ok (.aload_n 0, 1) := by decide +kernel
theorem dX8_best_15 : decode cX8_best 15 = .ok (.iload 4, 2) := by decide +kernel
theorem dX8_best_17 : decode cX8_best 17 = .ok (.invokevirtual 122, 3) := by decide +kernel
theorem dX8_best_20 : decode cX8_best 20 = .ok (.ifCond .eq 34, 3) := by decide +kernel
theorem dX8_best_23 : decode cX8_best 23 = .ok (.aload_n 0, 1) := by decide +kernel
theorem dX8_best_24 : decode cX8_best 24 = .ok (.aload_n 0, 1) := by decide +kernel
theorem dX8_best_25 : decode cX8_best 25 = .ok (.getfield 25, 3) := by decide +kernel
theorem dX8_best_28 : decode cX8_best 28 = .ok (.iload 4, 2) := by decide +kernel
theorem dX8_best_30 : decode cX8_best 30 = .ok (.aaload, 1) := by decide +kernel
theorem dX8_best_31 : decode cX8_best 31 = .ok (.iload_n 1, 1) := by decide +kernel
theorem dX8_best_32 : decode cX8_best 32 = .ok (.invokevirtual 160, 3) := by decide +kernel
theorem dX8_best_35 : decode cX8_best 35 = .ok (.istore 5, 2) := by decide +kernel
theorem dX8_best_37 : decode cX8_best 37 = .ok (.iload_n 2, 1) := by decide +kernel
theorem dX8_best_38 : decode cX8_best 38 = .ok (.iconst (-1), 1) := by decide +kernel
theorem dX8_best_39 : decode cX8_best 39 = .ok (.if_icmp .eq 9, 3) := by decide +kernel
theorem dX8_best_42 : decode cX8_best 42 = .ok (.iload 5, 2) := by decide +kernel
theorem dX8_best_44 : decode cX8_best 44 = .ok (.iload_n 3, 1) := by decide +kernel
theorem dX8_best_45 : decode cX8_best 45 = .ok (.if_icmp .ge 9, 3) := by decide +kernel
theorem dX8_best_48 : decode cX8_best 48 = .ok (.iload 4, 2) := by decide +kernel
theorem dX8_best_50 : decode cX8_best 50 = .ok (.istore_n 2, 1) := by decide +kernel
theorem dX8_best_51 : decode cX8_best 51 = .ok (.iload 5, 2) := by decide +kernel
theorem dX8_best_53 : decode cX8_best 53 = .ok (.istore_n 3, 1) := by decide +kernel
theorem dX8_best_54 : decode cX8_best 54 = .ok (.iinc 4 1, 3) := by decide +kernel
theorem dX8_best_57 : decode cX8_best 57 = .ok (.goto (-50), 3) := by decide +kernel
theorem dX8_best_60 : decode cX8_best 60 = .ok (.iload_n 2, 1) := by decide +kernel
theorem dX8_best_61 : decode cX8_best 61 = .ok (.ireturn, 1) := by decide +kernel
theorem dX8_keep_0 : decode cX8_keep 0 = .ok (.aload_n 0, 1) := by decide +kernel
theorem dX8_keep_1 : decode cX8_keep 1 = .ok (.iload_n 1, 1) := by decide +kernel
theorem dX8_keep_2 : decode cX8_keep 2 = .ok (.invokevirtual 122, 3) := by decide +kernel
theorem dX8_keep_5 : decode cX8_keep 5 = .ok (.ifCond .eq 10, 3) := by decide +kernel
theorem dX8_keep_8 : decode cX8_keep 8 = .ok (.iload_n 2, 1) := by decide +kernel
theorem dX8_keep_9 : decode cX8_keep 9 = .ok (.invokestatic 77, 3) := by decide +kernel
theorem dX8_keep_12 : decode cX8_keep 12 = .ok (.ifCond .ne 5, 3) := by decide +kernel
theorem dX8_keep_15 : decode cX8_keep 15 = .ok (.iconst (-1), 1) := by decide +kernel
theorem dX8_keep_16 : decode cX8_keep 16 = .ok (.ireturn, 1) := by decide +kernel
theorem dX8_keep_17 : decode cX8_keep 17 = .ok (.aload_n 0, 1) := by decide +kernel
theorem dX8_keep_18 : decode cX8_keep 18 = .ok (.getfield 35, 3) := by decide +kernel
theorem dX8_keep_21 : decode cX8_keep 21 = .ok (.aload_n 0, 1) := by decide +kernel
theorem dX8_keep_22 : decode cX8_keep 22 = .ok (.getfield 25, 3) := by decide +kernel
theorem dX8_keep_25 : decode cX8_keep 25 = .ok (.iload_n 1, 1) := by decide +kernel
theorem dX8_keep_26 : decode cX8_keep 26 = .ok (.aaload, 1) := by decide +kernel
theorem dX8_keep_27 : decode cX8_keep 27 = .ok (.iload_n 2, 1) := by decide +kernel
theorem dX8_keep_28 : decode cX8_keep 28 = .ok (.invokevirtual 136, 3) := by decide +kernel
theorem dX8_keep_31 : decode cX8_keep 31 = .ok (.aload_n 0, 1) := by decide +kernel
theorem dX8_keep_32 : decode cX8_keep 32 = .ok (.getfield 52, 3) := by decide +kernel
theorem dX8_keep_35 : decode cX8_keep 35 = .ok (.aload_n 0, 1) := by decide +kernel
theorem dX8_keep_36 : decode cX8_keep 36 = .ok (.getfield 35, 3) := by decide +kernel
theorem dX8_keep_39 : decode cX8_keep 39 = .ok (.iload_n 2, 1) := by decide +kernel
theorem dX8_keep_40 : decode cX8_keep 40 = .ok (.invokevirtual 164, 3) := by decide +kernel
theorem dX8_keep_43 : decode cX8_keep 43 = .ok (.ireturn, 1) := by decide +kernel
theorem dX8_drop_0 : decode cX8_drop 0 = .ok (.aload_n 0, 1) := by decide +kernel
theorem dX8_drop_1 : decode cX8_drop 1 = .ok (.iload_n 1, 1) := by decide +kernel
theorem dX8_drop_2 : decode cX8_drop 2 = .ok (.invokevirtual 168, 3) := by decide +kernel
theorem dX8_drop_5 : decode cX8_drop 5 = .ok (.ifCond .eq 14, 3) := by decide +kernel
theorem dX8_drop_8 : decode cX8_drop 8 = .ok (.aload_n 0, 1) := by decide +kernel
theorem dX8_drop_9 : decode cX8_drop 9 = .ok (.getfield 52, 3) := by decide +kernel
theorem dX8_drop_12 : decode cX8_drop 12 = .ok (.iload_n 1, 1) := by decide +kernel
theorem dX8_drop_13 : decode cX8_drop 13 = .ok (.invokevirtual 171, 3) := by decide +kernel
theorem dX8_drop_16 : decode cX8_drop 16 = .ok (.goto 4, 3) := by decide +kernel
theorem dX8_drop_19 : decode cX8_drop 19 = .ok (.iconst (-1), 1) := by decide +kernel
theorem dX8_drop_20 : decode cX8_drop 20 = .ok (.ireturn, 1) := by decide +kernel
theorem dX8_bring_0 : decode cX8_bring 0 = .ok (.aload_n 0, 1) := by decide +kernel
theorem dX8_bring_1 : decode cX8_bring 1 = .ok (.iload_n 1, 1) := by decide +kernel
theorem dX8_bring_2 : decode cX8_bring 2 = .ok (.invokevirtual 168, 3) := by decide +kernel
theorem dX8_bring_5 : decode cX8_bring 5 = .ok (.ifCond .ne 5, 3) := by decide +kernel
theorem dX8_bring_8 : decode cX8_bring 8 = .ok (.iconst (-1), 1) := by decide +kernel
theorem dX8_bring_9 : decode cX8_bring 9 = .ok (.ireturn, 1) := by decide +kernel
theorem dX8_bring_10 : decode cX8_bring 10 = .ok (.aload_n 0, 1) := by decide +kernel
theorem dX8_bring_11 : decode cX8_bring 11 = .ok (.getfield 52, 3) := by decide +kernel
theorem dX8_bring_14 : decode cX8_bring 14 = .ok (.iload_n 1, 1) := by decide +kernel
theorem dX8_bring_15 : decode cX8_bring 15 = .ok (.invokevirtual 175, 3) := by decide +kernel
theorem dX8_bring_18 : decode cX8_bring 18 = .ok (.aload_n 0, 1) := by decide +kernel
theorem dX8_bring_19 : decode cX8_bring 19 = .ok (.getfield 12, 3) := by decide +kernel
theorem dX8_bring_22 : decode cX8_bring 22 = .ok (.getfield 81, 3) := by decide +kernel
theorem dX8_bring_25 : decode cX8_bring 25 = .ok (.iload_n 1, 1) := by decide +kernel
theorem dX8_bring_26 : decode cX8_bring 26 = .ok (.iaload, 1) := by decide +kernel
theorem dX8_bring_27 : decode cX8_bring 27 = .ok (.ireturn, 1) := by decide +kernel
theorem dX8_jumps_0 : decode cX8_jumps 0 = .ok (.aload_n 0, 1) := by decide +kernel
theorem dX8_jumps_1 : decode cX8_jumps 1 = .ok (.iload_n 1, 1) := by decide +kernel
theorem dX8_jumps_2 : decode cX8_jumps 2 = .ok (.invokevirtual 168, 3) := by decide +kernel
theorem dX8_jumps_5 : decode cX8_jumps 5 = .ok (.ifCond .eq 14, 3) := by decide +kernel
theorem dX8_jumps_8 : decode cX8_jumps 8 = .ok (.aload_n 0, 1) := by decide +kernel
theorem dX8_jumps_9 : decode cX8_jumps 9 = .ok (.getfield 52, 3) := by decide +kernel
theorem dX8_jumps_12 : decode cX8_jumps 12 = .ok (.iload_n 1, 1) := by decide +kernel
theorem dX8_jumps_13 : decode cX8_jumps 13 = .ok (.invokevirtual 178, 3) := by decide +kernel
theorem dX8_jumps_16 : decode cX8_jumps 16 = .ok (.goto 4, 3) := by decide +kernel
theorem dX8_jumps_19 : decode cX8_jumps 19 = .ok (.iconst (-1), 1) := by decide +kernel
theorem dX8_jumps_20 : decode cX8_jumps 20 = .ok (.ireturn, 1) := by decide +kernel
theorem dX8_number_0 : decode cX8_number 0 = .ok (.aload_n 0, 1) := by decide +kernel
theorem dX8_number_1 : decode cX8_number 1 = .ok (.iload_n 1, 1) := by decide +kernel
theorem dX8_number_2 : decode cX8_number 2 = .ok (.invokevirtual 168, 3) := by decide +kernel
theorem dX8_number_5 : decode cX8_number 5 = .ok (.ifCond .eq 36, 3) := by decide +kernel
theorem dX8_number_8 : decode cX8_number 8 = .ok (.iload_n 2, 1) := by decide +kernel
theorem dX8_number_9 : decode cX8_number 9 = .ok (.iconst 0, 1) := by decide +kernel
theorem dX8_number_10 : decode cX8_number 10 = .ok (.aload_n 0, 1) := by decide +kernel
theorem dX8_number_11 : decode cX8_number 11 = .ok (.getfield 52, 3) := by decide +kernel
theorem dX8_number_14 : decode cX8_number 14 = .ok (.getfield 181, 3) := by decide +kernel
theorem dX8_number_17 : decode cX8_number 17 = .ok (.iload_n 1, 1) := by decide +kernel
theorem dX8_number_18 : decode cX8_number 18 = .ok (.iaload, 1) := by decide +kernel
theorem dX8_number_19 : decode cX8_number 19 = .ok (.iconst 1, 1) := by decide +kernel
theorem dX8_number_20 : decode cX8_number 20 = .ok (.isub, 1) := by decide +kernel
theorem dX8_number_21 : decode cX8_number 21 = .ok (.invokestatic 85, 3) := by decide +kernel
theorem dX8_number_24 : decode cX8_number 24 = .ok (.ifCond .eq 17, 3) := by decide +kernel
theorem dX8_number_27 : decode cX8_number 27 = .ok (.aload_n 0, 1) := by decide +kernel
theorem dX8_number_28 : decode cX8_number 28 = .ok (.getfield 52, 3) := by decide +kernel
theorem dX8_number_31 : decode cX8_number 31 = .ok (.getfield 184, 3) := by decide +kernel
theorem dX8_number_34 : decode cX8_number 34 = .ok (.iload_n 1, 1) := by decide +kernel
theorem dX8_number_35 : decode cX8_number 35 = .ok (.aaload, 1) := by decide +kernel
theorem dX8_number_36 : decode cX8_number 36 = .ok (.iload_n 2, 1) := by decide +kernel
theorem dX8_number_37 : decode cX8_number 37 = .ok (.iaload, 1) := by decide +kernel
theorem dX8_number_38 : decode cX8_number 38 = .ok (.goto 4, 3) := by decide +kernel
theorem dX8_number_41 : decode cX8_number 41 = .ok (.iconst (-1), 1) := by decide +kernel
theorem dX8_number_42 : decode cX8_number 42 = .ok (.ireturn, 1) := by decide +kernel
theorem dX8_piece_0 : decode cX8_piece 0 = .ok (.iload_n 1, 1) := by decide +kernel
theorem dX8_piece_1 : decode cX8_piece 1 = .ok (.iconst 1, 1) := by decide +kernel
theorem dX8_piece_2 : decode cX8_piece 2 = .ok (.sipush 300, 3) := by decide +kernel
theorem dX8_piece_5 : decode cX8_piece 5 = .ok (.invokestatic 85, 3) := by decide +kernel
theorem dX8_piece_8 : decode cX8_piece 8 = .ok (.ifCond .eq 15, 3) := by decide +kernel
theorem dX8_piece_11 : decode cX8_piece 11 = .ok (.aload_n 0, 1) := by decide +kernel
theorem dX8_piece_12 : decode cX8_piece 12 = .ok (.getfield 52, 3) := by decide +kernel
theorem dX8_piece_15 : decode cX8_piece 15 = .ok (.getfield 188, 3) := by decide +kernel
theorem dX8_piece_18 : decode cX8_piece 18 = .ok (.iload_n 1, 1) := by decide +kernel
theorem dX8_piece_19 : decode cX8_piece 19 = .ok (.iaload, 1) := by decide +kernel
theorem dX8_piece_20 : decode cX8_piece 20 = .ok (.ifCond .ne 5, 3) := by decide +kernel
theorem dX8_piece_23 : decode cX8_piece 23 = .ok (.iconst (-1), 1) := by decide +kernel
theorem dX8_piece_24 : decode cX8_piece 24 = .ok (.ireturn, 1) := by decide +kernel
theorem dX8_piece_25 : decode cX8_piece 25 = .ok (.iload_n 2, 1) := by decide +kernel
theorem dX8_piece_26 : decode cX8_piece 26 = .ok (.tableswitch 56 0 2 #[26, 36, 46], 26) := by decide +kernel
theorem dX8_piece_52 : decode cX8_piece 52 = .ok (.aload_n 0, 1) := by decide +kernel
theorem dX8_piece_53 : decode cX8_piece 53 = .ok (.getfield 52, 3) := by decide +kernel
theorem dX8_piece_56 : decode cX8_piece 56 = .ok (.getfield 191, 3) := by decide +kernel
theorem dX8_piece_59 : decode cX8_piece 59 = .ok (.iload_n 1, 1) := by decide +kernel
theorem dX8_piece_60 : decode cX8_piece 60 = .ok (.iaload, 1) := by decide +kernel
theorem dX8_piece_61 : decode cX8_piece 61 = .ok (.ireturn, 1) := by decide +kernel
theorem dX8_piece_62 : decode cX8_piece 62 = .ok (.aload_n 0, 1) := by decide +kernel
theorem dX8_piece_63 : decode cX8_piece 63 = .ok (.getfield 52, 3) := by decide +kernel
theorem dX8_piece_66 : decode cX8_piece 66 = .ok (.getfield 188, 3) := by decide +kernel
theorem dX8_piece_69 : decode cX8_piece 69 = .ok (.iload_n 1, 1) := by decide +kernel
theorem dX8_piece_70 : decode cX8_piece 70 = .ok (.iaload, 1) := by decide +kernel
theorem dX8_piece_71 : decode cX8_piece 71 = .ok (.ireturn, 1) := by decide +kernel
theorem dX8_piece_72 : decode cX8_piece 72 = .ok (.aload_n 0, 1) := by decide +kernel
theorem dX8_piece_73 : decode cX8_piece 73 = .ok (.getfield 52, 3) := by decide +kernel
theorem dX8_piece_76 : decode cX8_piece 76 = .ok (.getfield 192, 3) := by decide +kernel
theorem dX8_piece_79 : decode cX8_piece 79 = .ok (.iload_n 1, 1) := by decide +kernel
theorem dX8_piece_80 : decode cX8_piece 80 = .ok (.iaload, 1) := by decide +kernel
theorem dX8_piece_81 : decode cX8_piece 81 = .ok (.ireturn, 1) := by decide +kernel
theorem dX8_piece_82 : decode cX8_piece 82 = .ok (.iconst (-1), 1) := by decide +kernel
theorem dX8_piece_83 : decode cX8_piece 83 = .ok (.ireturn, 1) := by decide +kernel
theorem dX8_count_0 : decode cX8_count 0 = .ok (.iload_n 1, 1) := by decide +kernel
theorem dX8_count_1 : decode cX8_count 1 = .ok (.tableswitch 105 0 5 #[39, 47, 55, 63, 89, 97], 39) := by decide +kernel
theorem dX8_count_40 : decode cX8_count 40 = .ok (.aload_n 0, 1) := by decide +kernel
theorem dX8_count_41 : decode cX8_count 41 = .ok (.getfield 52, 3) := by decide +kernel
theorem dX8_count_44 : decode cX8_count 44 = .ok (.getfield 195, 3) := by decide +kernel
theorem dX8_count_47 : decode cX8_count 47 = .ok (.ireturn, 1) := by decide +kernel
theorem dX8_count_48 : decode cX8_count 48 = .ok (.aload_n 0, 1) := by decide +kernel
theorem dX8_count_49 : decode cX8_count 49 = .ok (.getfield 52, 3) := by decide +kernel
theorem dX8_count_52 : decode cX8_count 52 = .ok (.getfield 196, 3) := by decide +kernel
theorem dX8_count_55 : decode cX8_count 55 = .ok (.ireturn, 1) := by decide +kernel
theorem dX8_count_56 : decode cX8_count 56 = .ok (.aload_n 0, 1) := by decide +kernel
theorem dX8_count_57 : decode cX8_count 57 = .ok (.getfield 52, 3) := by decide +kernel
theorem dX8_count_60 : decode cX8_count 60 = .ok (.invokevirtual 199, 3) := by decide +kernel
theorem dX8_count_63 : decode cX8_count 63 = .ok (.ireturn, 1) := by decide +kernel
theorem dX8_count_64 : decode cX8_count 64 = .ok (.aload_n 0, 1) := by decide +kernel
theorem dX8_count_65 : decode cX8_count 65 = .ok (.aload_n 0, 1) := by decide +kernel
theorem dX8_count_66 : decode cX8_count 66 = .ok (.getfield 52, 3) := by decide +kernel
theorem dX8_count_69 : decode cX8_count 69 = .ok (.getfield 196, 3) := by decide +kernel
theorem dX8_count_72 : decode cX8_count 72 = .ok (.aload_n 0, 1) := by decide +kernel
theorem dX8_count_73 : decode cX8_count 73 = .ok (.getfield 52, 3) := by decide +kernel
theorem dX8_count_76 : decode cX8_count 76 = .ok (.getfield 195, 3) := by decide +kernel
theorem dX8_count_79 : decode cX8_count 79 = .ok (.aload_n 0, 1) := by decide +kernel
theorem dX8_count_80 : decode cX8_count 80 = .ok (.getfield 52, 3) := by decide +kernel
theorem dX8_count_83 : decode cX8_count 83 = .ok (.invokevirtual 199, 3) := by decide +kernel
theorem dX8_count_86 : decode cX8_count 86 = .ok (.invokevirtual 203, 3) := by decide +kernel
theorem dX8_count_89 : decode cX8_count 89 = .ok (.ireturn, 1) := by decide +kernel
theorem dX8_count_90 : decode cX8_count 90 = .ok (.aload_n 0, 1) := by decide +kernel
theorem dX8_count_91 : decode cX8_count 91 = .ok (.getfield 52, 3) := by decide +kernel
theorem dX8_count_94 : decode cX8_count 94 = .ok (.getfield 207, 3) := by decide +kernel
theorem dX8_count_97 : decode cX8_count 97 = .ok (.ireturn, 1) := by decide +kernel
theorem dX8_count_98 : decode cX8_count 98 = .ok (.aload_n 0, 1) := by decide +kernel
theorem dX8_count_99 : decode cX8_count 99 = .ok (.getfield 52, 3) := by decide +kernel
theorem dX8_count_102 : decode cX8_count 102 = .ok (.invokevirtual 210, 3) := by decide +kernel
theorem dX8_count_105 : decode cX8_count 105 = .ok (.ireturn, 1) := by decide +kernel
theorem dX8_count_106 : decode cX8_count 106 = .ok (.iconst (-1), 1) := by decide +kernel
theorem dX8_count_107 : decode cX8_count 107 = .ok (.ireturn, 1) := by decide +kernel
theorem dX8_prices_0 : decode cX8_prices 0 = .ok (.iload_n 1, 1) := by decide +kernel
theorem dX8_prices_1 : decode cX8_prices 1 = .ok (.iconst 0, 1) := by decide +kernel
theorem dX8_prices_2 : decode cX8_prices 2 = .ok (.bipush 100, 2) := by decide +kernel
theorem dX8_prices_4 : decode cX8_prices 4 = .ok (.invokestatic 85, 3) := by decide +kernel
theorem dX8_prices_7 : decode cX8_prices 7 = .ok (.ifCond .eq 13, 3) := by decide +kernel
theorem dX8_prices_10 : decode cX8_prices 10 = .ok (.iload_n 2, 1) := by decide +kernel
theorem dX8_prices_11 : decode cX8_prices 11 = .ok (.iconst 0, 1) := by decide +kernel
theorem dX8_prices_12 : decode cX8_prices 12 = .ok (.bipush 100, 2) := by decide +kernel
theorem dX8_prices_14 : decode cX8_prices 14 = .ok (.invokestatic 85, 3) := by decide +kernel
theorem dX8_prices_17 : decode cX8_prices 17 = .ok (.ifCond .ne 5, 3) := by decide +kernel
theorem dX8_prices_20 : decode cX8_prices 20 = .ok (.iconst 0, 1) := by decide +kernel
theorem dX8_prices_21 : decode cX8_prices 21 = .ok (.ireturn, 1) := by decide +kernel
theorem dX8_prices_22 : decode cX8_prices 22 = .ok (.aload_n 0, 1) := by decide +kernel
theorem dX8_prices_23 : decode cX8_prices 23 = .ok (.iload_n 1, 1) := by decide +kernel
theorem dX8_prices_24 : decode cX8_prices 24 = .ok (.putfield 63, 3) := by decide +kernel
theorem dX8_prices_27 : decode cX8_prices 27 = .ok (.aload_n 0, 1) := by decide +kernel
theorem dX8_prices_28 : decode cX8_prices 28 = .ok (.iload_n 2, 1) := by decide +kernel
theorem dX8_prices_29 : decode cX8_prices 29 = .ok (.putfield 67, 3) := by decide +kernel
theorem dX8_prices_32 : decode cX8_prices 32 = .ok (.iconst 1, 1) := by decide +kernel
theorem dX8_prices_33 : decode cX8_prices 33 = .ok (.ireturn, 1) := by decide +kernel
theorem dX8_supers_0 : decode cX8_supers 0 = .ok (.aload_n 0, 1) := by decide +kernel
theorem dX8_supers_1 : decode cX8_supers 1 = .ok (.getfield 59, 3) := by decide +kernel
theorem dX8_supers_4 : decode cX8_supers 4 = .ok (.invokevirtual 213, 3) := by decide +kernel
theorem dX8_supers_7 : decode cX8_supers 7 = .ok (.iconst 0, 1) := by decide +kernel
theorem dX8_supers_8 : decode cX8_supers 8 = .ok (.istore_n 1, 1) := by decide +kernel
theorem dX8_supers_9 : decode cX8_supers 9 = .ok (.iload_n 1, 1) := by decide +kernel
theorem dX8_supers_10 : decode cX8_supers 10 = .ok (.bipush 8, 2) := by decide +kernel
theorem dX8_supers_12 : decode cX8_supers 12 = .ok (.if_icmp .ge 42, 3) := by decide +kernel
theorem dX8_supers_15 : decode cX8_supers 15 = .ok (.aload_n 0, 1) := by decide +kernel
theorem dX8_supers_16 : decode cX8_supers 16 = .ok (.iload_n 1, 1) := by decide +kernel
theorem dX8_supers_17 : decode cX8_supers 17 = .ok (.invokevirtual 168, 3) := by decide +kernel
theorem dX8_supers_20 : decode cX8_supers 20 = .ok (.ifCond .eq 28, 3) := by decide +kernel
theorem dX8_supers_23 : decode cX8_supers 23 = .ok (.aload_n 0, 1) := by decide +kernel
theorem dX8_supers_24 : decode cX8_supers 24 = .ok (.getfield 59, 3) := by decide +kernel
theorem dX8_supers_27 : decode cX8_supers 27 = .ok (.aload_n 0, 1) := by decide +kernel
theorem dX8_supers_28 : decode cX8_supers 28 = .ok (.getfield 52, 3) := by decide +kernel
theorem dX8_supers_31 : decode cX8_supers 31 = .ok (.getfield 184, 3) := by decide +kernel
theorem dX8_supers_34 : decode cX8_supers 34 = .ok (.iload_n 1, 1) := by decide +kernel
theorem dX8_supers_35 : decode cX8_supers 35 = .ok (.aaload, 1) := by decide +kernel
theorem dX8_supers_36 : decode cX8_supers 36 = .ok (.aload_n 0, 1) := by decide +kernel
theorem dX8_supers_37 : decode cX8_supers 37 = .ok (.getfield 52, 3) := by decide +kernel
theorem dX8_supers_40 : decode cX8_supers 40 = .ok (.getfield 181, 3) := by decide +kernel
theorem dX8_supers_43 : decode cX8_supers 43 = .ok (.iload_n 1, 1) := by decide +kernel
theorem dX8_supers_44 : decode cX8_supers 44 = .ok (.iaload, 1) := by decide +kernel
theorem dX8_supers_45 : decode cX8_supers 45 = .ok (.invokevirtual 214, 3) := by decide +kernel
theorem dX8_supers_48 : decode cX8_supers 48 = .ok (.iinc 1 1, 3) := by decide +kernel
theorem dX8_supers_51 : decode cX8_supers 51 = .ok (.goto (-42), 3) := by decide +kernel
theorem dX8_supers_54 : decode cX8_supers 54 = .ok (.aload_n 0, 1) := by decide +kernel
theorem dX8_supers_55 : decode cX8_supers 55 = .ok (.getfield 59, 3) := by decide +kernel
theorem dX8_supers_58 : decode cX8_supers 58 = .ok (.invokevirtual 218, 3) := by decide +kernel
theorem dX8_supers_61 : decode cX8_supers 61 = .ok (.aload_n 0, 1) := by decide +kernel
theorem dX8_supers_62 : decode cX8_supers 62 = .ok (.getfield 59, 3) := by decide +kernel
theorem dX8_supers_65 : decode cX8_supers 65 = .ok (.invokevirtual 221, 3) := by decide +kernel
theorem dX8_supers_68 : decode cX8_supers 68 = .ok (.ireturn, 1) := by decide +kernel
theorem dX8_pair_0 : decode cX8_pair 0 = .ok (.iload_n 1, 1) := by decide +kernel
theorem dX8_pair_1 : decode cX8_pair 1 = .ok (.iconst 0, 1) := by decide +kernel
theorem dX8_pair_2 : decode cX8_pair 2 = .ok (.aload_n 0, 1) := by decide +kernel
theorem dX8_pair_3 : decode cX8_pair 3 = .ok (.getfield 59, 3) := by decide +kernel
theorem dX8_pair_6 : decode cX8_pair 6 = .ok (.getfield 224, 3) := by decide +kernel
theorem dX8_pair_9 : decode cX8_pair 9 = .ok (.iconst 1, 1) := by decide +kernel
theorem dX8_pair_10 : decode cX8_pair 10 = .ok (.isub, 1) := by decide +kernel
theorem dX8_pair_11 : decode cX8_pair 11 = .ok (.invokestatic 85, 3) := by decide +kernel
theorem dX8_pair_14 : decode cX8_pair 14 = .ok (.ifCond .ne 5, 3) := by decide +kernel
theorem dX8_pair_17 : decode cX8_pair 17 = .ok (.iconst (-1), 1) := by decide +kernel
theorem dX8_pair_18 : decode cX8_pair 18 = .ok (.ireturn, 1) := by decide +kernel
theorem dX8_pair_19 : decode cX8_pair 19 = .ok (.iload_n 2, 1) := by decide +kernel
theorem dX8_pair_20 : decode cX8_pair 20 = .ok (.tableswitch 58 0 2 #[28, 38, 48], 28) := by decide +kernel
theorem dX8_pair_48 : decode cX8_pair 48 = .ok (.aload_n 0, 1) := by decide +kernel
theorem dX8_pair_49 : decode cX8_pair 49 = .ok (.getfield 59, 3) := by decide +kernel
theorem dX8_pair_52 : decode cX8_pair 52 = .ok (.getfield 227, 3) := by decide +kernel
theorem dX8_pair_55 : decode cX8_pair 55 = .ok (.iload_n 1, 1) := by decide +kernel
theorem dX8_pair_56 : decode cX8_pair 56 = .ok (.iaload, 1) := by decide +kernel
theorem dX8_pair_57 : decode cX8_pair 57 = .ok (.ireturn, 1) := by decide +kernel
theorem dX8_pair_58 : decode cX8_pair 58 = .ok (.aload_n 0, 1) := by decide +kernel
theorem dX8_pair_59 : decode cX8_pair 59 = .ok (.getfield 59, 3) := by decide +kernel
theorem dX8_pair_62 : decode cX8_pair 62 = .ok (.getfield 230, 3) := by decide +kernel
theorem dX8_pair_65 : decode cX8_pair 65 = .ok (.iload_n 1, 1) := by decide +kernel
theorem dX8_pair_66 : decode cX8_pair 66 = .ok (.iaload, 1) := by decide +kernel
theorem dX8_pair_67 : decode cX8_pair 67 = .ok (.ireturn, 1) := by decide +kernel
theorem dX8_pair_68 : decode cX8_pair 68 = .ok (.aload_n 0, 1) := by decide +kernel
theorem dX8_pair_69 : decode cX8_pair 69 = .ok (.getfield 59, 3) := by decide +kernel
theorem dX8_pair_72 : decode cX8_pair 72 = .ok (.getfield 233, 3) := by decide +kernel
theorem dX8_pair_75 : decode cX8_pair 75 = .ok (.iload_n 1, 1) := by decide +kernel
theorem dX8_pair_76 : decode cX8_pair 76 = .ok (.iaload, 1) := by decide +kernel
theorem dX8_pair_77 : decode cX8_pair 77 = .ok (.ireturn, 1) := by decide +kernel
theorem dX8_pair_78 : decode cX8_pair 78 = .ok (.iconst (-1), 1) := by decide +kernel
theorem dX8_pair_79 : decode cX8_pair 79 = .ok (.ireturn, 1) := by decide +kernel
theorem dX8_isWithin_0 : decode cX8_isWithin 0 = .ok (.iload_n 0, 1) := by decide +kernel
theorem dX8_isWithin_1 : decode cX8_isWithin 1 = .ok (.iload_n 1, 1) := by decide +kernel
theorem dX8_isWithin_2 : decode cX8_isWithin 2 = .ok (.if_icmp .lt 12, 3) := by decide +kernel
theorem dX8_isWithin_5 : decode cX8_isWithin 5 = .ok (.iload_n 0, 1) := by decide +kernel
theorem dX8_isWithin_6 : decode cX8_isWithin 6 = .ok (.iload_n 2, 1) := by decide +kernel
theorem dX8_isWithin_7 : decode cX8_isWithin 7 = .ok (.if_icmp .gt 7, 3) := by decide +kernel
theorem dX8_isWithin_10 : decode cX8_isWithin 10 = .ok (.iconst 1, 1) := by decide +kernel
theorem dX8_isWithin_11 : decode cX8_isWithin 11 = .ok (.goto 4, 3) := by decide +kernel
theorem dX8_isWithin_14 : decode cX8_isWithin 14 = .ok (.iconst 0, 1) := by decide +kernel
theorem dX8_isWithin_15 : decode cX8_isWithin 15 = .ok (.ireturn, 1) := by decide +kernel
theorem dX8_isFile_0 : decode cX8_isFile 0 = .ok (.iload_n 0, 1) := by decide +kernel
theorem dX8_isFile_1 : decode cX8_isFile 1 = .ok (.iconst 0, 1) := by decide +kernel
theorem dX8_isFile_2 : decode cX8_isFile 2 = .ok (.bipush 7, 2) := by decide +kernel
theorem dX8_isFile_4 : decode cX8_isFile 4 = .ok (.invokestatic 85, 3) := by decide +kernel
theorem dX8_isFile_7 : decode cX8_isFile 7 = .ok (.ireturn, 1) := by decide +kernel
theorem dX8_isRule_0 : decode cX8_isRule 0 = .ok (.iload_n 0, 1) := by decide +kernel
theorem dX8_isRule_1 : decode cX8_isRule 1 = .ok (.iconst 0, 1) := by decide +kernel
theorem dX8_isRule_2 : decode cX8_isRule 2 = .ok (.iconst 5, 1) := by decide +kernel
theorem dX8_isRule_3 : decode cX8_isRule 3 = .ok (.invokestatic 85, 3) := by decide +kernel
theorem dX8_isRule_6 : decode cX8_isRule 6 = .ok (.ireturn, 1) := by decide +kernel
theorem dX8_isMarkRule_0 : decode cX8_isMarkRule 0 = .ok (.iload_n 1, 1) := by decide +kernel
theorem dX8_isMarkRule_1 : decode cX8_isMarkRule 1 = .ok (.iconst 1, 1) := by decide +kernel
theorem dX8_isMarkRule_2 : decode cX8_isMarkRule 2 = .ok (.sipush 200, 3) := by decide +kernel
theorem dX8_isMarkRule_5 : decode cX8_isMarkRule 5 = .ok (.invokestatic 85, 3) := by decide +kernel
theorem dX8_isMarkRule_8 : decode cX8_isMarkRule 8 = .ok (.ifCond .eq 27, 3) := by decide +kernel
theorem dX8_isMarkRule_11 : decode cX8_isMarkRule 11 = .ok (.iload_n 0, 1) := by decide +kernel
theorem dX8_isMarkRule_12 : decode cX8_isMarkRule 12 = .ok (.iconst 1, 1) := by decide +kernel
theorem dX8_isMarkRule_13 : decode cX8_isMarkRule 13 = .ok (.iload_n 1, 1) := by decide +kernel
theorem dX8_isMarkRule_14 : decode cX8_isMarkRule 14 = .ok (.invokestatic 85, 3) := by decide +kernel
theorem dX8_isMarkRule_17 : decode cX8_isMarkRule 17 = .ok (.ifCond .eq 18, 3) := by decide +kernel
theorem dX8_isMarkRule_20 : decode cX8_isMarkRule 20 = .ok (.iload_n 2, 1) := by decide +kernel
theorem dX8_isMarkRule_21 : decode cX8_isMarkRule 21 = .ok (.iconst 0, 1) := by decide +kernel
theorem dX8_isMarkRule_22 : decode cX8_isMarkRule 22 = .ok (.sipush 255, 3) := by decide +kernel
theorem dX8_isMarkRule_25 : decode cX8_isMarkRule 25 = .ok (.invokestatic 85, 3) := by decide +kernel
theorem dX8_isMarkRule_28 : decode cX8_isMarkRule 28 = .ok (.ifCond .eq 7, 3) := by decide +kernel
theorem dX8_isMarkRule_31 : decode cX8_isMarkRule 31 = .ok (.iconst 1, 1) := by decide +kernel
theorem dX8_isMarkRule_32 : decode cX8_isMarkRule 32 = .ok (.goto 4, 3) := by decide +kernel
theorem dX8_isMarkRule_35 : decode cX8_isMarkRule 35 = .ok (.iconst 0, 1) := by decide +kernel
theorem dX8_isMarkRule_36 : decode cX8_isMarkRule 36 = .ok (.ireturn, 1) := by decide +kernel
theorem dX8_isSetRule_0 : decode cX8_isSetRule 0 = .ok (.iload_n 1, 1) := by decide +kernel
theorem dX8_isSetRule_1 : decode cX8_isSetRule 1 = .ok (.invokestatic 109, 3) := by decide +kernel
theorem dX8_isSetRule_4 : decode cX8_isSetRule 4 = .ok (.ifCond .eq 20, 3) := by decide +kernel
theorem dX8_isSetRule_7 : decode cX8_isSetRule 7 = .ok (.aload_n 0, 1) := by decide +kernel
theorem dX8_isSetRule_8 : decode cX8_isSetRule 8 = .ok (.getfield 25, 3) := by decide +kernel
theorem dX8_isSetRule_11 : decode cX8_isSetRule 11 = .ok (.iload_n 1, 1) := by decide +kernel
theorem dX8_isSetRule_12 : decode cX8_isSetRule 12 = .ok (.aaload, 1) := by decide +kernel
theorem dX8_isSetRule_13 : decode cX8_isSetRule 13 = .ok (.getfield 236, 3) := by decide +kernel
theorem dX8_isSetRule_16 : decode cX8_isSetRule 16 = .ok (.iconst (-1), 1) := by decide +kernel
theorem dX8_isSetRule_17 : decode cX8_isSetRule 17 = .ok (.if_icmp .eq 7, 3) := by decide +kernel
theorem dX8_isSetRule_20 : decode cX8_isSetRule 20 = .ok (.iconst 1, 1) := by decide +kernel
theorem dX8_isSetRule_21 : decode cX8_isSetRule 21 = .ok (.goto 4, 3) := by decide +kernel
theorem dX8_isSetRule_24 : decode cX8_isSetRule 24 = .ok (.iconst 0, 1) := by decide +kernel
theorem dX8_isSetRule_25 : decode cX8_isSetRule 25 = .ok (.ireturn, 1) := by decide +kernel
theorem dX8_isPlace_0 : decode cX8_isPlace 0 = .ok (.iload_n 1, 1) := by decide +kernel
theorem dX8_isPlace_1 : decode cX8_isPlace 1 = .ok (.invokestatic 77, 3) := by decide +kernel
theorem dX8_isPlace_4 : decode cX8_isPlace 4 = .ok (.ifCond .eq 26, 3) := by decide +kernel
theorem dX8_isPlace_7 : decode cX8_isPlace 7 = .ok (.iload_n 2, 1) := by decide +kernel
theorem dX8_isPlace_8 : decode cX8_isPlace 8 = .ok (.iconst 0, 1) := by decide +kernel
theorem dX8_isPlace_9 : decode cX8_isPlace 9 = .ok (.aload_n 0, 1) := by decide +kernel
theorem dX8_isPlace_10 : decode cX8_isPlace 10 = .ok (.getfield 12, 3) := by decide +kernel
theorem dX8_isPlace_13 : decode cX8_isPlace 13 = .ok (.getfield 81, 3) := by decide +kernel
theorem dX8_isPlace_16 : decode cX8_isPlace 16 = .ok (.iload_n 1, 1) := by decide +kernel
theorem dX8_isPlace_17 : decode cX8_isPlace 17 = .ok (.iaload, 1) := by decide +kernel
theorem dX8_isPlace_18 : decode cX8_isPlace 18 = .ok (.iconst 1, 1) := by decide +kernel
theorem dX8_isPlace_19 : decode cX8_isPlace 19 = .ok (.isub, 1) := by decide +kernel
theorem dX8_isPlace_20 : decode cX8_isPlace 20 = .ok (.invokestatic 85, 3) := by decide +kernel
theorem dX8_isPlace_23 : decode cX8_isPlace 23 = .ok (.ifCond .eq 7, 3) := by decide +kernel
theorem dX8_isPlace_26 : decode cX8_isPlace 26 = .ok (.iconst 1, 1) := by decide +kernel
theorem dX8_isPlace_27 : decode cX8_isPlace 27 = .ok (.goto 4, 3) := by decide +kernel
theorem dX8_isPlace_30 : decode cX8_isPlace 30 = .ok (.iconst 0, 1) := by decide +kernel
theorem dX8_isPlace_31 : decode cX8_isPlace 31 = .ok (.ireturn, 1) := by decide +kernel
