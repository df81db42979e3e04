theorem dX8_isKept_0 : decode cX8_isKept 0 = .ok (.iload_n 1, 1) := by decide +kernel
theorem dX8_isKept_1 : decode cX8_isKept 1 = .ok (.invokestatic 77, 3) := by decide +kernel
theorem dX8_isKept_4 : decode cX8_isKept 4 = .ok (.ifCond .eq 20, 3) := by decide +kernel
theorem dX8_isKept_7 : decode cX8_isKept 7 = .ok (.aload_n 0, 1) := by decide +kernel
theorem dX8_isKept_8 : decode cX8_isKept 8 = .ok (.getfield 52, 3) := by decide +kernel
theorem dX8_isKept_11 : decode cX8_isKept 11 = .ok (.getfield 181, 3) := by decide +kernel
theorem dX8_isKept_14 : decode cX8_isKept 14 = .ok (.iload_n 1, 1) := by decide +kernel
theorem dX8_isKept_15 : decode cX8_isKept 15 = .ok (.iaload, 1) := by decide +kernel
theorem dX8_isKept_16 : decode cX8_isKept 16 = .ok (.iconst (-1), 1) := by decide +kernel
theorem dX8_isKept_17 : decode cX8_isKept 17 = .ok (.if_icmp .eq 7, 3) := by decide +kernel
theorem dX8_isKept_20 : decode cX8_isKept 20 = .ok (.iconst 1, 1) := by decide +kernel
theorem dX8_isKept_21 : decode cX8_isKept 21 = .ok (.goto 4, 3) := by decide +kernel
theorem dX8_isKept_24 : decode cX8_isKept 24 = .ok (.iconst 0, 1) := by decide +kernel
theorem dX8_isKept_25 : decode cX8_isKept 25 = .ok (.ireturn, 1) := by decide +kernel
theorem dX8_agreesFromEnd_0 : decode cX8_agreesFromEnd 0 = .ok (.aload_n 0, 1) := by decide +kernel
theorem dX8_agreesFromEnd_1 : decode cX8_agreesFromEnd 1 = .ok (.getfield 35, 3) := by decide +kernel
theorem dX8_agreesFromEnd_4 : decode cX8_agreesFromEnd 4 = .ok (.getfield 139, 3) := by decide +kernel
theorem dX8_agreesFromEnd_7 : decode cX8_agreesFromEnd 7 = .ok (.iconst 1, 1) := by decide +kernel
theorem dX8_agreesFromEnd_8 : decode cX8_agreesFromEnd 8 = .ok (.isub, 1) := by decide +kernel
theorem dX8_agreesFromEnd_9 : decode cX8_agreesFromEnd 9 = .ok (.iload_n 1, 1) := by decide +kernel
theorem dX8_agreesFromEnd_10 : decode cX8_agreesFromEnd 10 = .ok (.isub, 1) := by decide +kernel
theorem dX8_agreesFromEnd_11 : decode cX8_agreesFromEnd 11 = .ok (.istore_n 2, 1) := by decide +kernel
theorem dX8_agreesFromEnd_12 : decode cX8_agreesFromEnd 12 = .ok (.aload_n 0, 1) := by decide +kernel
theorem dX8_agreesFromEnd_13 : decode cX8_agreesFromEnd 13 = .ok (.getfield 39, 3) := by decide +kernel
theorem dX8_agreesFromEnd_16 : decode cX8_agreesFromEnd 16 = .ok (.getfield 139, 3) := by decide +kernel
theorem dX8_agreesFromEnd_19 : decode cX8_agreesFromEnd 19 = .ok (.iconst 1, 1) := by decide +kernel
theorem dX8_agreesFromEnd_20 : decode cX8_agreesFromEnd 20 = .ok (.isub, 1) := by decide +kernel
theorem dX8_agreesFromEnd_21 : decode cX8_agreesFromEnd 21 = .ok (.iload_n 1, 1) := by decide +kernel
theorem dX8_agreesFromEnd_22 : decode cX8_agreesFromEnd 22 = .ok (.isub, 1) := by decide +kernel
theorem dX8_agreesFromEnd_23 : decode cX8_agreesFromEnd 23 = .ok (.istore_n 3, 1) := by decide +kernel
theorem dX8_agreesFromEnd_24 : decode cX8_agreesFromEnd 24 = .ok (.aload_n 0, 1) := by decide +kernel
theorem dX8_agreesFromEnd_25 : decode cX8_agreesFromEnd 25 = .ok (.getfield 35, 3) := by decide +kernel
theorem dX8_agreesFromEnd_28 : decode cX8_agreesFromEnd 28 = .ok (.iload_n 2, 1) := by decide +kernel
theorem dX8_agreesFromEnd_29 : decode cX8_agreesFromEnd 29 = .ok (.invokevirtual 239, 3) := by decide +kernel
theorem dX8_agreesFromEnd_32 : decode cX8_agreesFromEnd 32 = .ok (.istore 4, 2) := by decide +kernel
theorem dX8_agreesFromEnd_34 : decode cX8_agreesFromEnd 34 = .ok (.iload 4, 2) := by decide +kernel
theorem dX8_agreesFromEnd_36 : decode cX8_agreesFromEnd 36 = .ok (.aload_n 0, 1) := by decide +kernel
theorem dX8_agreesFromEnd_37 : decode cX8_agreesFromEnd 37 = .ok (.getfield 39, 3) := by decide +kernel
theorem dX8_agreesFromEnd_40 : decode cX8_agreesFromEnd 40 = .ok (.iload_n 3, 1) := by decide +kernel
theorem dX8_agreesFromEnd_41 : decode cX8_agreesFromEnd 41 = .ok (.invokevirtual 239, 3) := by decide +kernel
theorem dX8_agreesFromEnd_44 : decode cX8_agreesFromEnd 44 = .ok (.if_icmp .ne 45, 3) := by decide +kernel
theorem dX8_agreesFromEnd_47 : decode cX8_agreesFromEnd 47 = .ok (.aload_n 0, 1) := by decide +kernel
theorem dX8_agreesFromEnd_48 : decode cX8_agreesFromEnd 48 = .ok (.getfield 12, 3) := by decide +kernel
theorem dX8_agreesFromEnd_51 : decode cX8_agreesFromEnd 51 = .ok (.getfield 242, 3) := by decide +kernel
theorem dX8_agreesFromEnd_54 : decode cX8_agreesFromEnd 54 = .ok (.aload_n 0, 1) := by decide +kernel
theorem dX8_agreesFromEnd_55 : decode cX8_agreesFromEnd 55 = .ok (.getfield 35, 3) := by decide +kernel
theorem dX8_agreesFromEnd_58 : decode cX8_agreesFromEnd 58 = .ok (.iload_n 2, 1) := by decide +kernel
theorem dX8_agreesFromEnd_59 : decode cX8_agreesFromEnd 59 = .ok (.invokevirtual 246, 3) := by decide +kernel
theorem dX8_agreesFromEnd_62 : decode cX8_agreesFromEnd 62 = .ok (.aload_n 0, 1) := by decide +kernel
theorem dX8_agreesFromEnd_63 : decode cX8_agreesFromEnd 63 = .ok (.getfield 12, 3) := by decide +kernel
theorem dX8_agreesFromEnd_66 : decode cX8_agreesFromEnd 66 = .ok (.getfield 242, 3) := by decide +kernel
theorem dX8_agreesFromEnd_69 : decode cX8_agreesFromEnd 69 = .ok (.aload_n 0, 1) := by decide +kernel
theorem dX8_agreesFromEnd_70 : decode cX8_agreesFromEnd 70 = .ok (.getfield 39, 3) := by decide +kernel
theorem dX8_agreesFromEnd_73 : decode cX8_agreesFromEnd 73 = .ok (.iload_n 3, 1) := by decide +kernel
theorem dX8_agreesFromEnd_74 : decode cX8_agreesFromEnd 74 = .ok (.invokevirtual 246, 3) := by decide +kernel
theorem dX8_agreesFromEnd_77 : decode cX8_agreesFromEnd 77 = .ok (.iload 4, 2) := by decide +kernel
theorem dX8_agreesFromEnd_79 : decode cX8_agreesFromEnd 79 = .ok (.invokestatic 249, 3) := by decide +kernel
theorem dX8_agreesFromEnd_82 : decode cX8_agreesFromEnd 82 = .ok (.ifCond .eq 7, 3) := by decide +kernel
theorem dX8_agreesFromEnd_85 : decode cX8_agreesFromEnd 85 = .ok (.iconst 1, 1) := by decide +kernel
theorem dX8_agreesFromEnd_86 : decode cX8_agreesFromEnd 86 = .ok (.goto 4, 3) := by decide +kernel
theorem dX8_agreesFromEnd_89 : decode cX8_agreesFromEnd 89 = .ok (.iconst 0, 1) := by decide +kernel
theorem dX8_agreesFromEnd_90 : decode cX8_agreesFromEnd 90 = .ok (.ireturn, 1) := by decide +kernel
theorem dX8_roomByRule_0 : decode cX8_roomByRule 0 = .ok (.aload_n 0, 1) := by decide +kernel
theorem dX8_roomByRule_1 : decode cX8_roomByRule 1 = .ok (.getfield 45, 3) := by decide +kernel
theorem dX8_roomByRule_4 : decode cX8_roomByRule 4 = .ok (.invokevirtual 153, 3) := by decide +kernel
theorem dX8_roomByRule_7 : decode cX8_roomByRule 7 = .ok (.iconst 0, 1) := by decide +kernel
theorem dX8_roomByRule_8 : decode cX8_roomByRule 8 = .ok (.istore_n 3, 1) := by decide +kernel
theorem dX8_roomByRule_9 : decode cX8_roomByRule 9 = .ok (.iconst 0, 1) := by decide +kernel
theorem dX8_roomByRule_10 : decode cX8_roomByRule 10 = .ok (.istore 4, 2) := by decide +kernel
theorem dX8_roomByRule_12 : decode cX8_roomByRule 12 = .ok (.iconst 0, 1) := by decide +kernel
theorem dX8_roomByRule_13 : decode cX8_roomByRule 13 = .ok (.istore 5, 2) := by decide +kernel
theorem dX8_roomByRule_15 : decode cX8_roomByRule 15 = .ok (.iload 5, 2) := by decide +kernel
theorem dX8_roomByRule_17 : decode cX8_roomByRule 17 = .ok (.bipush 8, 2) := by decide +kernel
theorem dX8_roomByRule_19 : decode cX8_roomByRule 19 = .ok (.if_icmp .ge 55, 3) := by decide +kernel
theorem dX8_roomByRule_22 : decode cX8_roomByRule 22 = .ok (.iload_n 2, 1) := by decide +kernel
theorem dX8_roomByRule_23 : decode cX8_roomByRule 23 = .ok (.iload 5, 2) := by decide +kernel
theorem dX8_roomByRule_25 : decode cX8_roomByRule 25 = .ok (.ishr, 1) := by decide +kernel
theorem dX8_roomByRule_26 : decode cX8_roomByRule 26 = .ok (.iconst 1, 1) := by decide +kernel
theorem dX8_roomByRule_27 : decode cX8_roomByRule 27 = .ok (.iand, 1) := by decide +kernel
theorem dX8_roomByRule_28 : decode cX8_roomByRule 28 = .ok (.iconst 1, 1) := by decide +kernel
theorem dX8_roomByRule_29 : decode cX8_roomByRule 29 = .ok (.if_icmp .ne 39, 3) := by decide +kernel
theorem dX8_roomByRule_32 : decode cX8_roomByRule 32 = .ok (.aload_n 0, 1) := by decide +kernel
theorem dX8_roomByRule_33 : decode cX8_roomByRule 33 = .ok (.getfield 35, 3) := by decide +kernel
theorem dX8_roomByRule_36 : decode cX8_roomByRule 36 = .ok (.aload_n 1, 1) := by decide +kernel
theorem dX8_roomByRule_37 : decode cX8_roomByRule 37 = .ok (.iload 5, 2) := by decide +kernel
theorem dX8_roomByRule_39 : decode cX8_roomByRule 39 = .ok (.invokevirtual 136, 3) := by decide +kernel
theorem dX8_roomByRule_42 : decode cX8_roomByRule 42 = .ok (.iload_n 3, 1) := by decide +kernel
theorem dX8_roomByRule_43 : decode cX8_roomByRule 43 = .ok (.aload_n 0, 1) := by decide +kernel
theorem dX8_roomByRule_44 : decode cX8_roomByRule 44 = .ok (.getfield 45, 3) := by decide +kernel
theorem dX8_roomByRule_47 : decode cX8_roomByRule 47 = .ok (.aload_n 0, 1) := by decide +kernel
theorem dX8_roomByRule_48 : decode cX8_roomByRule 48 = .ok (.getfield 35, 3) := by decide +kernel
theorem dX8_roomByRule_51 : decode cX8_roomByRule 51 = .ok (.invokevirtual 156, 3) := by decide +kernel
theorem dX8_roomByRule_54 : decode cX8_roomByRule 54 = .ok (.iadd, 1) := by decide +kernel
theorem dX8_roomByRule_55 : decode cX8_roomByRule 55 = .ok (.istore_n 3, 1) := by decide +kernel
theorem dX8_roomByRule_56 : decode cX8_roomByRule 56 = .ok (.iload 4, 2) := by decide +kernel
theorem dX8_roomByRule_58 : decode cX8_roomByRule 58 = .ok (.aload_n 0, 1) := by decide +kernel
theorem dX8_roomByRule_59 : decode cX8_roomByRule 59 = .ok (.getfield 35, 3) := by decide +kernel
theorem dX8_roomByRule_62 : decode cX8_roomByRule 62 = .ok (.getfield 139, 3) := by decide +kernel
theorem dX8_roomByRule_65 : decode cX8_roomByRule 65 = .ok (.iadd, 1) := by decide +kernel
theorem dX8_roomByRule_66 : decode cX8_roomByRule 66 = .ok (.istore 4, 2) := by decide +kernel
theorem dX8_roomByRule_68 : decode cX8_roomByRule 68 = .ok (.iinc 5 1, 3) := by decide +kernel
theorem dX8_roomByRule_71 : decode cX8_roomByRule 71 = .ok (.goto (-56), 3) := by decide +kernel
theorem dX8_roomByRule_74 : decode cX8_roomByRule 74 = .ok (.aload_n 0, 1) := by decide +kernel
theorem dX8_roomByRule_75 : decode cX8_roomByRule 75 = .ok (.iload_n 3, 1) := by decide +kernel
theorem dX8_roomByRule_76 : decode cX8_roomByRule 76 = .ok (.aload_n 0, 1) := by decide +kernel
theorem dX8_roomByRule_77 : decode cX8_roomByRule 77 = .ok (.getfield 45, 3) := by decide +kernel
theorem dX8_roomByRule_80 : decode cX8_roomByRule 80 = .ok (.getfield 253, 3) := by decide +kernel
theorem dX8_roomByRule_83 : decode cX8_roomByRule 83 = .ok (.iload 4, 2) := by decide +kernel
theorem dX8_roomByRule_85 : decode cX8_roomByRule 85 = .ok (.invokevirtual 203, 3) := by decide +kernel
theorem dX8_roomByRule_88 : decode cX8_roomByRule 88 = .ok (.ireturn, 1) := by decide +kernel
theorem dX8_roomOf_0 : decode cX8_roomOf 0 = .ok (.iload_n 1, 1) := by decide +kernel
theorem dX8_roomOf_1 : decode cX8_roomOf 1 = .ok (.aload_n 0, 1) := by decide +kernel
theorem dX8_roomOf_2 : decode cX8_roomOf 2 = .ok (.getfield 63, 3) := by decide +kernel
theorem dX8_roomOf_5 : decode cX8_roomOf 5 = .ok (.iload_n 2, 1) := by decide +kernel
theorem dX8_roomOf_6 : decode cX8_roomOf 6 = .ok (.imul, 1) := by decide +kernel
theorem dX8_roomOf_7 : decode cX8_roomOf 7 = .ok (.iadd, 1) := by decide +kernel
theorem dX8_roomOf_8 : decode cX8_roomOf 8 = .ok (.aload_n 0, 1) := by decide +kernel
theorem dX8_roomOf_9 : decode cX8_roomOf 9 = .ok (.getfield 67, 3) := by decide +kernel
theorem dX8_roomOf_12 : decode cX8_roomOf 12 = .ok (.iload_n 3, 1) := by decide +kernel
theorem dX8_roomOf_13 : decode cX8_roomOf 13 = .ok (.imul, 1) := by decide +kernel
theorem dX8_roomOf_14 : decode cX8_roomOf 14 = .ok (.iadd, 1) := by decide +kernel
theorem dX8_roomOf_15 : decode cX8_roomOf 15 = .ok (.ireturn, 1) := by decide +kernel
theorem dX8_areAlike_0 : decode cX8_areAlike 0 = .ok (.iconst 0, 1) := by decide +kernel
theorem dX8_areAlike_1 : decode cX8_areAlike 1 = .ok (.istore 5, 2) := by decide +kernel
theorem dX8_areAlike_3 : decode cX8_areAlike 3 = .ok (.iload 5, 2) := by decide +kernel
theorem dX8_areAlike_5 : decode cX8_areAlike 5 = .ok (.iload 4, 2) := by decide +kernel
theorem dX8_areAlike_7 : decode cX8_areAlike 7 = .ok (.if_icmp .ge 26, 3) := by decide +kernel
theorem dX8_areAlike_10 : decode cX8_areAlike 10 = .ok (.aload_n 0, 1) := by decide +kernel
theorem dX8_areAlike_11 : decode cX8_areAlike 11 = .ok (.iload_n 1, 1) := by decide +kernel
theorem dX8_areAlike_12 : decode cX8_areAlike 12 = .ok (.iload 5, 2) := by decide +kernel
theorem dX8_areAlike_14 : decode cX8_areAlike 14 = .ok (.iadd, 1) := by decide +kernel
theorem dX8_areAlike_15 : decode cX8_areAlike 15 = .ok (.baload, 1) := by decide +kernel
theorem dX8_areAlike_16 : decode cX8_areAlike 16 = .ok (.aload_n 2, 1) := by decide +kernel
theorem dX8_areAlike_17 : decode cX8_areAlike 17 = .ok (.iload_n 3, 1) := by decide +kernel
theorem dX8_areAlike_18 : decode cX8_areAlike 18 = .ok (.iload 5, 2) := by decide +kernel
theorem dX8_areAlike_20 : decode cX8_areAlike 20 = .ok (.iadd, 1) := by decide +kernel
theorem dX8_areAlike_21 : decode cX8_areAlike 21 = .ok (.baload, 1) := by decide +kernel
theorem dX8_areAlike_22 : decode cX8_areAlike 22 = .ok (.if_icmp .eq 5, 3) := by decide +kernel
theorem dX8_areAlike_25 : decode cX8_areAlike 25 = .ok (.iconst 0, 1) := by decide +kernel
theorem dX8_areAlike_26 : decode cX8_areAlike 26 = .ok (.ireturn, 1) := by decide +kernel
theorem dX8_areAlike_27 : decode cX8_areAlike 27 = .ok (.iinc 5 1, 3) := by decide +kernel
theorem dX8_areAlike_30 : decode cX8_areAlike 30 = .ok (.goto (-27), 3) := by decide +kernel
theorem dX8_areAlike_33 : decode cX8_areAlike 33 = .ok (.iconst 1, 1) := by decide +kernel
theorem dX8_areAlike_34 : decode cX8_areAlike 34 = .ok (.ireturn, 1) := by decide +kernel
theorem dX8_spread_0 : decode cX8_spread 0 = .ok (.iload_n 0, 1) := by decide +kernel
theorem dX8_spread_1 : decode cX8_spread 1 = .ok (.ldc_w 256, 3) := by decide +kernel
theorem dX8_spread_4 : decode cX8_spread 4 = .ok (.imul, 1) := by decide +kernel
theorem dX8_spread_5 : decode cX8_spread 5 = .ok (.bipush 19, 2) := by decide +kernel
theorem dX8_spread_7 : decode cX8_spread 7 = .ok (.iushr, 1) := by decide +kernel
theorem dX8_spread_8 : decode cX8_spread 8 = .ok (.ireturn, 1) := by decide +kernel
theorem dX9_init_0 : decode cX9_init 0 = .ok (.aload_n 0, 1) := by decide +kernel
theorem dX9_init_1 : decode cX9_init 1 = .ok (.invokespecial 1, 3) := by decide +kernel
theorem dX9_init_4 : decode cX9_init 4 = .ok (.aload_n 0, 1) := by decide +kernel
theorem dX9_init_5 : decode cX9_init 5 = .ok (.bipush 8, 2) := by decide +kernel
theorem dX9_init_7 : decode cX9_init 7 = .ok (.newarray .int, 2) := by decide +kernel
theorem dX9_init_9 : decode cX9_init 9 = .ok (.putfield 7, 3) := by decide +kernel
theorem dX9_init_12 : decode cX9_init 12 = .ok (.aload_n 0, 1) := by decide +kernel
theorem dX9_init_13 : decode cX9_init 13 = .ok (.sipush 4800, 3) := by decide +kernel
theorem dX9_init_16 : decode cX9_init 16 = .ok (.newarray .int, 2) := by decide +kernel
theorem dX9_init_18 : decode cX9_init 18 = .ok (.putfield 13, 3) := by decide +kernel
theorem dX9_init_21 : decode cX9_init 21 = .ok (.aload_n 0, 1) := by decide +kernel
theorem dX9_init_22 : decode cX9_init 22 = .ok (.sipush 400, 3) := by decide +kernel
theorem dX9_init_25 : decode cX9_init 25 = .ok (.newarray .int, 2) := by decide +kernel
theorem dX9_init_27 : decode cX9_init 27 = .ok (.putfield 16, 3) := by decide +kernel
theorem dX9_init_30 : decode cX9_init 30 = .ok (.aload_n 0, 1) := by decide +kernel
theorem dX9_init_31 : decode cX9_init 31 = .ok (.bipush 6, 2) := by decide +kernel
theorem dX9_init_33 : decode cX9_init 33 = .ok (.newarray .int, 2) := by decide +kernel
theorem dX9_init_35 : decode cX9_init 35 = .ok (.putfield 19, 3) := by decide +kernel
theorem dX9_init_38 : decode cX9_init 38 = .ok (.aload_n 0, 1) := by decide +kernel
theorem dX9_init_39 : decode cX9_init 39 = .ok (.bipush 6, 2) := by decide +kernel
theorem dX9_init_41 : decode cX9_init 41 = .ok (.newarray .int, 2) := by decide +kernel
theorem dX9_init_43 : decode cX9_init 43 = .ok (.putfield 22, 3) := by decide +kernel
theorem dX9_init_46 : decode cX9_init 46 = .ok (.aload_n 0, 1) := by decide +kernel
theorem dX9_init_47 : decode cX9_init 47 = .ok (.bipush 6, 2) := by decide +kernel
theorem dX9_init_49 : decode cX9_init 49 = .ok (.newarray .int, 2) := by decide +kernel
theorem dX9_init_51 : decode cX9_init 51 = .ok (.putfield 25, 3) := by decide +kernel
theorem dX9_init_54 : decode cX9_init 54 = .ok (.aload_n 0, 1) := by decide +kernel
theorem dX9_init_55 : decode cX9_init 55 = .ok (.bipush 6, 2) := by decide +kernel
theorem dX9_init_57 : decode cX9_init 57 = .ok (.newarray .int, 2) := by decide +kernel
theorem dX9_init_59 : decode cX9_init 59 = .ok (.putfield 28, 3) := by decide +kernel
theorem dX9_init_62 : decode cX9_init 62 = .ok (.aload_n 0, 1) := by decide +kernel
theorem dX9_init_63 : decode cX9_init 63 = .ok (.bipush 6, 2) := by decide +kernel
theorem dX9_init_65 : decode cX9_init 65 = .ok (.newarray .int, 2) := by decide +kernel
theorem dX9_init_67 : decode cX9_init 67 = .ok (.putfield 31, 3) := by decide +kernel
theorem dX9_init_70 : decode cX9_init 70 = .ok (.aload_n 0, 1) := by decide +kernel
theorem dX9_init_71 : decode cX9_init 71 = .ok (.bipush 6, 2) := by decide +kernel
theorem dX9_init_73 : decode cX9_init 73 = .ok (.newarray .int, 2) := by decide +kernel
theorem dX9_init_75 : decode cX9_init 75 = .ok (.putfield 34, 3) := by decide +kernel
theorem dX9_init_78 : decode cX9_init 78 = .ok (.aload_n 0, 1) := by decide +kernel
theorem dX9_init_79 : decode cX9_init 79 = .ok (.sipush 601, 3) := by decide +kernel
theorem dX9_init_82 : decode cX9_init 82 = .ok (.newarray .int, 2) := by decide +kernel
theorem dX9_init_84 : decode cX9_init 84 = .ok (.putfield 37, 3) := by decide +kernel
theorem dX9_init_87 : decode cX9_init 87 = .ok (.aload_n 0, 1) := by decide +kernel
theorem dX9_init_88 : decode cX9_init 88 = .ok (.sipush 601, 3) := by decide +kernel
theorem dX9_init_91 : decode cX9_init 91 = .ok (.newarray .int, 2) := by decide +kernel
theorem dX9_init_93 : decode cX9_init 93 = .ok (.putfield 40, 3) := by decide +kernel
theorem dX9_init_96 : decode cX9_init 96 = .ok (.aload_n 0, 1) := by decide +kernel
theorem dX9_init_97 : decode cX9_init 97 = .ok (.bipush 8, 2) := by decide +kernel
theorem dX9_init_99 : decode cX9_init 99 = .ok (.putfield 43, 3) := by decide +kernel
theorem dX9_init_102 : decode cX9_init 102 = .ok (.aload_n 0, 1) := by decide +kernel
theorem dX9_init_103 : decode cX9_init 103 = .ok (.iconst 2, 1) := by decide +kernel
theorem dX9_init_104 : decode cX9_init 104 = .ok (.putfield 47, 3) := by decide +kernel
theorem dX9_init_107 : decode cX9_init 107 = .ok (.aload_n 0, 1) := by decide +kernel
theorem dX9_init_108 : decode cX9_init 108 = .ok (.sipush 4800, 3) := by decide +kernel
theorem dX9_init_111 : decode cX9_init 111 = .ok (.newarray .int, 2) := by decide +kernel
theorem dX9_init_113 : decode cX9_init 113 = .ok (.putfield 50, 3) := by decide +kernel
theorem dX9_init_116 : decode cX9_init 116 = .ok (.aload_n 0, 1) := by decide +kernel
theorem dX9_init_117 : decode cX9_init 117 = .ok (.sipush 4800, 3) := by decide +kernel
theorem dX9_init_120 : decode cX9_init 120 = .ok (.newarray .int, 2) := by decide +kernel
theorem dX9_init_122 : decode cX9_init 122 = .ok (.putfield 53, 3) := by decide +kernel
theorem dX9_init_125 : decode cX9_init 125 = .ok (.aload_n 0, 1) := by decide +kernel
theorem dX9_init_126 : decode cX9_init 126 = .ok (.sipush 4800, 3) := by decide +kernel
theorem dX9_init_129 : decode cX9_init 129 = .ok (.newarray .int, 2) := by decide +kernel
theorem dX9_init_131 : decode cX9_init 131 = .ok (.putfield 56, 3) := by decide +kernel
theorem dX9_init_134 : decode cX9_init 134 = .ok (.aload_n 0, 1) := by decide +kernel
theorem dX9_init_135 : decode cX9_init 135 = .ok (.sipush 4800, 3) := by decide +kernel
theorem dX9_init_138 : decode cX9_init 138 = .ok (.newarray .int, 2) := by decide +kernel
theorem dX9_init_140 : decode cX9_init 140 = .ok (.putfield 59, 3) := by decide +kernel
theorem dX9_init_143 : decode cX9_init 143 = .ok (.aload_n 0, 1) := by decide +kernel
theorem dX9_init_144 : decode cX9_init 144 = .ok (.sipush 301, 3) := by decide +kernel
theorem dX9_init_147 : decode cX9_init 147 = .ok (.newarray .int, 2) := by decide +kernel
theorem dX9_init_149 : decode cX9_init 149 = .ok (.putfield 62, 3) := by decide +kernel
theorem dX9_init_152 : decode cX9_init 152 = .ok (.aload_n 0, 1) := by decide +kernel
theorem dX9_init_153 : decode cX9_init 153 = .ok (.ldc 65, 2) := by decide +kernel
theorem dX9_init_155 : decode cX9_init 155 = .ok (.newarray .int, 2) := by decide +kernel
theorem dX9_init_157 : decode cX9_init 157 = .ok (.putfield 66, 3) := by decide +kernel
theorem dX9_init_160 : decode cX9_init 160 = .ok (.aload_n 0, 1) := by decide +kernel
theorem dX9_init_161 : decode cX9_init 161 = .ok (.sipush 301, 3) := by decide +kernel
theorem dX9_init_164 : decode cX9_init 164 = .ok (.newarray .int, 2) := by decide +kernel
theorem dX9_init_166 : decode cX9_init 166 = .ok (.putfield 69, 3) := by decide +kernel
theorem dX9_init_169 : decode cX9_init 169 = .ok (.aload_n 0, 1) := by decide +kernel
theorem dX9_init_170 : decode cX9_init 170 = .ok (.sipush 301, 3) := by decide +kernel
theorem dX9_init_173 : decode cX9_init 173 = .ok (.newarray .int, 2) := by decide +kernel
theorem dX9_init_175 : decode cX9_init 175 = .ok (.putfield 72, 3) := by decide +kernel
theorem dX9_init_178 : decode cX9_init 178 = .ok (.aload_n 0, 1) := by decide +kernel
theorem dX9_init_179 : decode cX9_init 179 = .ok (.bipush 8, 2) := by decide +kernel
theorem dX9_init_181 : decode cX9_init 181 = .ok (.newarray .boolean, 2) := by decide +kernel
theorem dX9_init_183 : decode cX9_init 183 = .ok (.putfield 75, 3) := by decide +kernel
theorem dX9_init_186 : decode cX9_init 186 = .ok (.aload_n 0, 1) := by decide +kernel
theorem dX9_init_187 : decode cX9_init 187 = .ok (.bipush 8, 2) := by decide +kernel
theorem dX9_init_189 : decode cX9_init 189 = .ok (.newarray .int, 2) := by decide +kernel
theorem dX9_init_191 : decode cX9_init 191 = .ok (.putfield 79, 3) := by decide +kernel
theorem dX9_init_194 : decode cX9_init 194 = .ok (.aload_n 0, 1) := by decide +kernel
theorem dX9_init_195 : decode cX9_init 195 = .ok (.sipush 4800, 3) := by decide +kernel
theorem dX9_init_198 : decode cX9_init 198 = .ok (.newarray .int, 2) := by decide +kernel
theorem dX9_init_200 : decode cX9_init 200 = .ok (.putfield 82, 3) := by decide +kernel
theorem dX9_init_203 : decode cX9_init 203 = .ok (.aload_n 0, 1) := by decide +kernel
theorem dX9_init_204 : decode cX9_init 204 = .ok (.sipush 600, 3) := by decide +kernel
theorem dX9_init_207 : decode cX9_init 207 = .ok (.newarray .int, 2) := by decide +kernel
theorem dX9_init_209 : decode cX9_init 209 = .ok (.putfield 85, 3) := by decide +kernel
theorem dX9_init_212 : decode cX9_init 212 = .ok (.aload_n 0, 1) := by decide +kernel
theorem dX9_init_213 : decode cX9_init 213 = .ok (.sipush 4800, 3) := by decide +kernel
theorem dX9_init_216 : decode cX9_init 216 = .ok (.newarray .int, 2) := by decide +kernel
theorem dX9_init_218 : decode cX9_init 218 = .ok (.putfield 88, 3) := by decide +kernel
theorem dX9_init_221 : decode cX9_init 221 = .ok (.aload_n 0, 1) := by decide +kernel
theorem dX9_init_222 : decode cX9_init 222 = .ok (.bipush 8, 2) := by decide +kernel
theorem dX9_init_224 : decode cX9_init 224 = .ok (.newarray .int, 2) := by decide +kernel
theorem dX9_init_226 : decode cX9_init 226 = .ok (.putfield 91, 3) := by decide +kernel
theorem dX9_init_229 : decode cX9_init 229 = .ok (.aload_n 0, 1) := by decide +kernel
theorem dX9_init_230 : decode cX9_init 230 = .ok (.ldc 94, 2) := by decide +kernel
theorem dX9_init_232 : decode cX9_init 232 = .ok (.newarray .int, 2) := by decide +kernel
theorem dX9_init_234 : decode cX9_init 234 = .ok (.putfield 95, 3) := by decide +kernel
theorem dX9_init_237 : decode cX9_init 237 = .ok (.aload_n 0, 1) := by decide +kernel
theorem dX9_init_238 : decode cX9_init 238 = .ok (.ldc 94, 2) := by decide +kernel
theorem dX9_init_240 : decode cX9_init 240 = .ok (.newarray .int, 2) := by decide +kernel
theorem dX9_init_242 : decode cX9_init 242 = .ok (.putfield 98, 3) := by decide +kernel
theorem dX9_init_245 : decode cX9_init 245 = .ok (.aload_n 0, 1) := by decide +kernel
theorem dX9_init_246 : decode cX9_init 246 = .ok (.sipush 200, 3) := by decide +kernel
theorem dX9_init_249 : decode cX9_init 249 = .ok (.newarray .int, 2) := by decide +kernel
theorem dX9_init_251 : decode cX9_init 251 = .ok (.putfield 101, 3) := by decide +kernel
theorem dX9_init_254 : decode cX9_init 254 = .ok (.aload_n 0, 1) := by decide +kernel
theorem dX9_init_255 : decode cX9_init 255 = .ok (.sipush 200, 3) := by decide +kernel
theorem dX9_init_258 : decode cX9_init 258 = .ok (.newarray .int, 2) := by decide +kernel
theorem dX9_init_260 : decode cX9_init 260 = .ok (.putfield 104, 3) := by decide +kernel
theorem dX9_init_263 : decode cX9_init 263 = .ok (.aload_n 0, 1) := by decide +kernel
theorem dX9_init_264 : decode cX9_init 264 = .ok (.sipush 200, 3) := by decide +kernel
theorem dX9_init_267 : decode cX9_init 267 = .ok (.newarray .int, 2) := by decide +kernel
theorem dX9_init_269 : decode cX9_init 269 = .ok (.putfield 107, 3) := by decide +kernel
theorem dX9_init_272 : decode cX9_init 272 = .ok (.return_, 1) := by decide +kernel
theorem dX9_feed_0 : decode cX9_feed 0 = .ok (.aload_n 0, 1) := by decide +kernel
theorem dX9_feed_1 : decode cX9_feed 1 = .ok (.getfield 110, 3) := by decide +kernel
theorem dX9_feed_4 : decode cX9_feed 4 = .ok (.bipush 20, 2) := by decide +kernel
theorem dX9_feed_6 : decode cX9_feed 6 = .ok (.iadd, 1) := by decide +kernel
theorem dX9_feed_7 : decode cX9_feed 7 = .ok (.sipush 400, 3) := by decide +kernel
theorem dX9_feed_10 : decode cX9_feed 10 = .ok (.if_icmp .le 5, 3) := by decide +kernel
theorem dX9_feed_13 : decode cX9_feed 13 = .ok (.iconst (-1), 1) := by decide +kernel
theorem dX9_feed_14 : decode cX9_feed 14 = .ok (.ireturn, 1) := by decide +kernel
theorem dX9_feed_15 : decode cX9_feed 15 = .ok (.iconst 0, 1) := by decide +kernel
theorem dX9_feed_16 : decode cX9_feed 16 = .ok (.istore 6, 2) := by decide +kernel
theorem dX9_feed_18 : decode cX9_feed 18 = .ok (.iload 6, 2) := by decide +kernel
theorem dX9_feed_20 : decode cX9_feed 20 = .ok (.bipush 20, 2) := by decide +kernel
theorem dX9_feed_22 : decode cX9_feed 22 = .ok (.if_icmp .ge 92, 3) := by decide +kernel
theorem dX9_feed_25 : decode cX9_feed 25 = .ok (.iload 6, 2) := by decide +kernel
theorem dX9_feed_27 : decode cX9_feed 27 = .ok (.iconst 4, 1) := by decide +kernel
theorem dX9_feed_28 : decode cX9_feed 28 = .ok (.if_icmp .ge 7, 3) := by decide +kernel
theorem dX9_feed_31 : decode cX9_feed 31 = .ok (.iload_n 1, 1) := by decide +kernel
theorem dX9_feed_32 : decode cX9_feed 32 = .ok (.goto 39, 3) := by decide +kernel
theorem dX9_feed_35 : decode cX9_feed 35 = .ok (.iload 6, 2) := by decide +kernel
theorem dX9_feed_37 : decode cX9_feed 37 = .ok (.bipush 8, 2) := by decide +kernel
theorem dX9_feed_39 : decode cX9_feed 39 = .ok (.if_icmp .ge 7, 3) := by decide +kernel
theorem dX9_feed_42 : decode cX9_feed 42 = .ok (.iload_n 2, 1) := by decide +kernel
theorem dX9_feed_43 : decode cX9_feed 43 = .ok (.goto 28, 3) := by decide +kernel
theorem dX9_feed_46 : decode cX9_feed 46 = .ok (.iload 6, 2) := by decide +kernel
theorem dX9_feed_48 : decode cX9_feed 48 = .ok (.bipush 12, 2) := by decide +kernel
theorem dX9_feed_50 : decode cX9_feed 50 = .ok (.if_icmp .ge 7, 3) := by decide +kernel
theorem dX9_feed_53 : decode cX9_feed 53 = .ok (.iload_n 3, 1) := by decide +kernel
theorem dX9_feed_54 : decode cX9_feed 54 = .ok (.goto 17, 3) := by decide +kernel
theorem dX9_feed_57 : decode cX9_feed 57 = .ok (.iload 6, 2) := by decide +kernel
theorem dX9_feed_59 : decode cX9_feed 59 = .ok (.bipush 16, 2) := by decide +kernel
theorem dX9_feed_61 : decode cX9_feed 61 = .ok (.if_icmp .ge 8, 3) := by decide +kernel
theorem dX9_feed_64 : decode cX9_feed 64 = .ok (.iload 4, 2) := by decide +kernel
theorem dX9_feed_66 : decode cX9_feed 66 = .ok (.goto 5, 3) := by decide +kernel
theorem dX9_feed_69 : decode cX9_feed 69 = .ok (.iload 5, 2) := by decide +kernel
theorem dX9_feed_71 : decode cX9_feed 71 = .ok (.istore 7, 2) := by decide +kernel
theorem dX9_feed_73 : decode cX9_feed 73 = .ok (.aload_n 0, 1) := by decide +kernel
theorem dX9_feed_74 : decode cX9_feed 74 = .ok (.getfield 16, 3) := by decide +kernel
theorem dX9_feed_77 : decode cX9_feed 77 = .ok (.aload_n 0, 1) := by decide +kernel
theorem dX9_feed_78 : decode cX9_feed 78 = .ok (.getfield 110, 3) := by decide +kernel
theorem dX9_feed_81 : decode cX9_feed 81 = .ok (.iload 7, 2) := by decide +kernel
theorem dX9_feed_83 : decode cX9_feed 83 = .ok (.bipush 8, 2) := by decide +kernel
theorem dX9_feed_85 : decode cX9_feed 85 = .ok (.iconst 3, 1) := by decide +kernel
theorem dX9_feed_86 : decode cX9_feed 86 = .ok (.iload 6, 2) := by decide +kernel
theorem dX9_feed_88 : decode cX9_feed 88 = .ok (.iconst 4, 1) := by decide +kernel
theorem dX9_feed_89 : decode cX9_feed 89 = .ok (.irem, 1) := by decide +kernel
theorem dX9_feed_90 : decode cX9_feed 90 = .ok (.isub, 1) := by decide +kernel
theorem dX9_feed_91 : decode cX9_feed 91 = .ok (.imul, 1) := by decide +kernel
theorem dX9_feed_92 : decode cX9_feed 92 = .ok (.ishr, 1) := by decide +kernel
theorem dX9_feed_93 : decode cX9_feed 93 = .ok (.sipush 255, 3) := by decide +kernel
theorem dX9_feed_96 : decode cX9_feed 96 = .ok (.iand, 1) := by decide +kernel
theorem dX9_feed_97 : decode cX9_feed 97 = .ok (.iastore, 1) := by decide +kernel
theorem dX9_feed_98 : decode cX9_feed 98 = .ok (.aload_n 0, 1) := by decide +kernel
theorem dX9_feed_99 : decode cX9_feed 99 = .ok (.dup, 1) := by decide +kernel
theorem dX9_feed_100 : decode cX9_feed 100 = .ok (.getfield 110, 3) := by decide +kernel
theorem dX9_feed_103 : decode cX9_feed 103 = .ok (.iconst 1, 1) := by decide +kernel
theorem dX9_feed_104 : decode cX9_feed 104 = .ok (.iadd, 1) := by decide +kernel
theorem dX9_feed_105 : decode cX9_feed 105 = .ok (.putfield 110, 3) := by decide +kernel
theorem dX9_feed_108 : decode cX9_feed 108 = .ok (.iinc 6 1, 3) := by decide +kernel
theorem dX9_feed_111 : decode cX9_feed 111 = .ok (.goto (-93), 3) := by decide +kernel
theorem dX9_feed_114 : decode cX9_feed 114 = .ok (.aload_n 0, 1) := by decide +kernel
theorem dX9_feed_115 : decode cX9_feed 115 = .ok (.getfield 110, 3) := by decide +kernel
theorem dX9_feed_118 : decode cX9_feed 118 = .ok (.ireturn, 1) := by decide +kernel
theorem dX9_end_0 : decode cX9_end 0 = .ok (.iload_n 1, 1) := by decide +kernel
theorem dX9_end_1 : decode cX9_end 1 = .ok (.ifCond .lt 11, 3) := by decide +kernel
theorem dX9_end_4 : decode cX9_end 4 = .ok (.iload_n 1, 1) := by decide +kernel
theorem dX9_end_5 : decode cX9_end 5 = .ok (.aload_n 0, 1) := by decide +kernel
theorem dX9_end_6 : decode cX9_end 6 = .ok (.getfield 110, 3) := by decide +kernel
theorem dX9_end_9 : decode cX9_end 9 = .ok (.if_icmp .le 5, 3) := by decide +kernel
theorem dX9_end_12 : decode cX9_end 12 = .ok (.iconst 0, 1) := by decide +kernel
theorem dX9_end_13 : decode cX9_end 13 = .ok (.ireturn, 1) := by decide +kernel
theorem dX9_end_14 : decode cX9_end 14 = .ok (.aload_n 0, 1) := by decide +kernel
theorem dX9_end_15 : decode cX9_end 15 = .ok (.iload_n 1, 1) := by decide +kernel
theorem dX9_end_16 : decode cX9_end 16 = .ok (.putfield 110, 3) := by decide +kernel
theorem dX9_end_19 : decode cX9_end 19 = .ok (.iconst 1, 1) := by decide +kernel
theorem dX9_end_20 : decode cX9_end 20 = .ok (.ireturn, 1) := by decide +kernel
theorem dX9_isFile_0 : decode cX9_isFile 0 = .ok (.iload_n 0, 1) := by decide +kernel
theorem dX9_isFile_1 : decode cX9_isFile 1 = .ok (.ifCond .lt 13, 3) := by decide +kernel
theorem dX9_isFile_4 : decode cX9_isFile 4 = .ok (.iload_n 0, 1) := by decide +kernel
theorem dX9_isFile_5 : decode cX9_isFile 5 = .ok (.bipush 8, 2) := by decide +kernel
theorem dX9_isFile_7 : decode cX9_isFile 7 = .ok (.if_icmp .ge 7, 3) := by decide +kernel
theorem dX9_isFile_10 : decode cX9_isFile 10 = .ok (.iconst 1, 1) := by decide +kernel
theorem dX9_isFile_11 : decode cX9_isFile 11 = .ok (.goto 4, 3) := by decide +kernel
theorem dX9_isFile_14 : decode cX9_isFile 14 = .ok (.iconst 0, 1) := by decide +kernel
theorem dX9_isFile_15 : decode cX9_isFile 15 = .ok (.ireturn, 1) := by decide +kernel
theorem dX9_isIn_0 : decode cX9_isIn 0 = .ok (.iload_n 0, 1) := by decide +kernel
theorem dX9_isIn_1 : decode cX9_isIn 1 = .ok (.iload_n 1, 1) := by decide +kernel
theorem dX9_isIn_2 : decode cX9_isIn 2 = .ok (.if_icmp .lt 12, 3) := by decide +kernel
theorem dX9_isIn_5 : decode cX9_isIn 5 = .ok (.iload_n 0, 1) := by decide +kernel
theorem dX9_isIn_6 : decode cX9_isIn 6 = .ok (.iload_n 2, 1) := by decide +kernel
theorem dX9_isIn_7 : decode cX9_isIn 7 = .ok (.if_icmp .gt 7, 3) := by decide +kernel
theorem dX9_isIn_10 : decode cX9_isIn 10 = .ok (.iconst 1, 1) := by decide +kernel
theorem dX9_isIn_11 : decode cX9_isIn 11 = .ok (.goto 4, 3) := by decide +kernel
theorem dX9_isIn_14 : decode cX9_isIn 14 = .ok (.iconst 0, 1) := by decide +kernel
theorem dX9_isIn_15 : decode cX9_isIn 15 = .ok (.ireturn, 1) := by decide +kernel
theorem dX9_edit_0 : decode cX9_edit 0 = .ok (.iload_n 1, 1) := by decide +kernel
theorem dX9_edit_1 : decode cX9_edit 1 = .ok (.invokestatic 113, 3) := by decide +kernel
theorem dX9_edit_4 : decode cX9_edit 4 = .ok (.ifCond .eq 33, 3) := by decide +kernel
theorem dX9_edit_7 : decode cX9_edit 7 = .ok (.iload_n 2, 1) := by decide +kernel
theorem dX9_edit_8 : decode cX9_edit 8 = .ok (.ifCond .lt 29, 3) := by decide +kernel
theorem dX9_edit_11 : decode cX9_edit 11 = .ok (.iload_n 2, 1) := by decide +kernel
theorem dX9_edit_12 : decode cX9_edit 12 = .ok (.aload_n 0, 1) := by decide +kernel
theorem dX9_edit_13 : decode cX9_edit 13 = .ok (.getfield 7, 3) := by decide +kernel
theorem dX9_edit_16 : decode cX9_edit 16 = .ok (.iload_n 1, 1) := by decide +kernel
theorem dX9_edit_17 : decode cX9_edit 17 = .ok (.iaload, 1) := by decide +kernel
theorem dX9_edit_18 : decode cX9_edit 18 = .ok (.if_icmp .gt 19, 3) := by decide +kernel
theorem dX9_edit_21 : decode cX9_edit 21 = .ok (.iload_n 3, 1) := by decide +kernel
theorem dX9_edit_22 : decode cX9_edit 22 = .ok (.ifCond .lt 15, 3) := by decide +kernel
theorem dX9_edit_25 : decode cX9_edit 25 = .ok (.iload_n 3, 1) := by decide +kernel
theorem dX9_edit_26 : decode cX9_edit 26 = .ok (.aload_n 0, 1) := by decide +kernel
theorem dX9_edit_27 : decode cX9_edit 27 = .ok (.getfield 7, 3) := by decide +kernel
theorem dX9_edit_30 : decode cX9_edit 30 = .ok (.iload_n 1, 1) := by decide +kernel
theorem dX9_edit_31 : decode cX9_edit 31 = .ok (.iaload, 1) := by decide +kernel
theorem dX9_edit_32 : decode cX9_edit 32 = .ok (.iload_n 2, 1) := by decide +kernel
theorem dX9_edit_33 : decode cX9_edit 33 = .ok (.isub, 1) := by decide +kernel
theorem dX9_edit_34 : decode cX9_edit 34 = .ok (.if_icmp .le 5, 3) := by decide +kernel
theorem dX9_edit_37 : decode cX9_edit 37 = .ok (.iconst (-1), 1) := by decide +kernel
theorem dX9_edit_38 : decode cX9_edit 38 = .ok (.ireturn, 1) := by decide +kernel
theorem dX9_edit_39 : decode cX9_edit 39 = .ok (.aload_n 0, 1) := by decide +kernel
theorem dX9_edit_40 : decode cX9_edit 40 = .ok (.getfield 7, 3) := by decide +kernel
theorem dX9_edit_43 : decode cX9_edit 43 = .ok (.iload_n 1, 1) := by decide +kernel
theorem dX9_edit_44 : decode cX9_edit 44 = .ok (.iaload, 1) := by decide +kernel
theorem dX9_edit_45 : decode cX9_edit 45 = .ok (.iload_n 3, 1) := by decide +kernel
theorem dX9_edit_46 : decode cX9_edit 46 = .ok (.isub, 1) := by decide +kernel
theorem dX9_edit_47 : decode cX9_edit 47 = .ok (.aload_n 0, 1) := by decide +kernel
theorem dX9_edit_48 : decode cX9_edit 48 = .ok (.getfield 110, 3) := by decide +kernel
theorem dX9_edit_51 : decode cX9_edit 51 = .ok (.iadd, 1) := by decide +kernel
theorem dX9_edit_52 : decode cX9_edit 52 = .ok (.istore 4, 2) := by decide +kernel
theorem dX9_edit_54 : decode cX9_edit 54 = .ok (.iload 4, 2) := by decide +kernel
theorem dX9_edit_56 : decode cX9_edit 56 = .ok (.sipush 600, 3) := by decide +kernel
theorem dX9_edit_59 : decode cX9_edit 59 = .ok (.if_icmp .le 6, 3) := by decide +kernel
theorem dX9_edit_62 : decode cX9_edit 62 = .ok (.bipush (-2), 2) := by decide +kernel
theorem dX9_edit_64 : decode cX9_edit 64 = .ok (.ireturn, 1) := by decide +kernel
theorem dX9_edit_65 : decode cX9_edit 65 = .ok (.aload_n 0, 1) := by decide +kernel
theorem dX9_edit_66 : decode cX9_edit 66 = .ok (.getfield 110, 3) := by decide +kernel
theorem dX9_edit_69 : decode cX9_edit 69 = .ok (.iload_n 3, 1) := by decide +kernel
theorem dX9_edit_70 : decode cX9_edit 70 = .ok (.isub, 1) := by decide +kernel
theorem dX9_edit_71 : decode cX9_edit 71 = .ok (.istore 5, 2) := by decide +kernel
theorem dX9_edit_73 : decode cX9_edit 73 = .ok (.sipush 600, 3) := by decide +kernel
theorem dX9_edit_76 : decode cX9_edit 76 = .ok (.iload_n 1, 1) := by decide +kernel
theorem dX9_edit_77 : decode cX9_edit 77 = .ok (.imul, 1) := by decide +kernel
theorem dX9_edit_78 : decode cX9_edit 78 = .ok (.istore 6, 2) := by decide +kernel
theorem dX9_edit_80 : decode cX9_edit 80 = .ok (.iload 5, 2) := by decide +kernel
theorem dX9_edit_82 : decode cX9_edit 82 = .ok (.ifCond .le 53, 3) := by decide +kernel
theorem dX9_edit_85 : decode cX9_edit 85 = .ok (.aload_n 0, 1) := by decide +kernel
theorem dX9_edit_86 : decode cX9_edit 86 = .ok (.getfield 7, 3) := by decide +kernel
theorem dX9_edit_89 : decode cX9_edit 89 = .ok (.iload_n 1, 1) := by decide +kernel
theorem dX9_edit_90 : decode cX9_edit 90 = .ok (.iaload, 1) := by decide +kernel
theorem dX9_edit_91 : decode cX9_edit 91 = .ok (.iconst 1, 1) := by decide +kernel
theorem dX9_edit_92 : decode cX9_edit 92 = .ok (.isub, 1) := by decide +kernel
theorem dX9_edit_93 : decode cX9_edit 93 = .ok (.istore 7, 2) := by decide +kernel
theorem dX9_edit_95 : decode cX9_edit 95 = .ok (.iload 7, 2) := by decide +kernel
theorem dX9_edit_97 : decode cX9_edit 97 = .ok (.iload_n 2, 1) := by decide +kernel
theorem dX9_edit_98 : decode cX9_edit 98 = .ok (.iload_n 3, 1) := by decide +kernel
theorem dX9_edit_99 : decode cX9_edit 99 = .ok (.iadd, 1) := by decide +kernel
theorem dX9_edit_100 : decode cX9_edit 100 = .ok (.if_icmp .lt 32, 3) := by decide +kernel
theorem dX9_edit_103 : decode cX9_edit 103 = .ok (.aload_n 0, 1) := by decide +kernel
theorem dX9_edit_104 : decode cX9_edit 104 = .ok (.getfield 13, 3) := by decide +kernel
theorem dX9_edit_107 : decode cX9_edit 107 = .ok (.iload 6, 2) := by decide +kernel
theorem dX9_edit_109 : decode cX9_edit 109 = .ok (.iload 7, 2) := by decide +kernel
theorem dX9_edit_111 : decode cX9_edit 111 = .ok (.iadd, 1) := by decide +kernel
theorem dX9_edit_112 : decode cX9_edit 112 = .ok (.iload 5, 2) := by decide +kernel
theorem dX9_edit_114 : decode cX9_edit 114 = .ok (.iadd, 1) := by decide +kernel
theorem dX9_edit_115 : decode cX9_edit 115 = .ok (.aload_n 0, 1) := by decide +kernel
theorem dX9_edit_116 : decode cX9_edit 116 = .ok (.getfield 13, 3) := by decide +kernel
theorem dX9_edit_119 : decode cX9_edit 119 = .ok (.iload 6, 2) := by decide +kernel
theorem dX9_edit_121 : decode cX9_edit 121 = .ok (.iload 7, 2) := by decide +kernel
theorem dX9_edit_123 : decode cX9_edit 123 = .ok (.iadd, 1) := by decide +kernel
theorem dX9_edit_124 : decode cX9_edit 124 = .ok (.iaload, 1) := by decide +kernel
theorem dX9_edit_125 : decode cX9_edit 125 = .ok (.iastore, 1) := by decide +kernel
theorem dX9_edit_126 : decode cX9_edit 126 = .ok (.iinc 7 (-1), 3) := by decide +kernel
theorem dX9_edit_129 : decode cX9_edit 129 = .ok (.goto (-34), 3) := by decide +kernel
theorem dX9_edit_132 : decode cX9_edit 132 = .ok (.goto 48, 3) := by decide +kernel
theorem dX9_edit_135 : decode cX9_edit 135 = .ok (.iload_n 2, 1) := by decide +kernel
theorem dX9_edit_136 : decode cX9_edit 136 = .ok (.iload_n 3, 1) := by decide +kernel
theorem dX9_edit_137 : decode cX9_edit 137 = .ok (.iadd, 1) := by decide +kernel
theorem dX9_edit_138 : decode cX9_edit 138 = .ok (.istore 7, 2) := by decide +kernel
theorem dX9_edit_140 : decode cX9_edit 140 = .ok (.iload 7, 2) := by decide +kernel
theorem dX9_edit_142 : decode cX9_edit 142 = .ok (.aload_n 0, 1) := by decide +kernel
theorem dX9_edit_143 : decode cX9_edit 143 = .ok (.getfield 7, 3) := by decide +kernel
theorem dX9_edit_146 : decode cX9_edit 146 = .ok (.iload_n 1, 1) := by decide +kernel
theorem dX9_edit_147 : decode cX9_edit 147 = .ok (.iaload, 1) := by decide +kernel
theorem dX9_edit_148 : decode cX9_edit 148 = .ok (.if_icmp .ge 32, 3) := by decide +kernel
theorem dX9_edit_151 : decode cX9_edit 151 = .ok (.aload_n 0, 1) := by decide +kernel
theorem dX9_edit_152 : decode cX9_edit 152 = .ok (.getfield 13, 3) := by decide +kernel
theorem dX9_edit_155 : decode cX9_edit 155 = .ok (.iload 6, 2) := by decide +kernel
theorem dX9_edit_157 : decode cX9_edit 157 = .ok (.iload 7, 2) := by decide +kernel
theorem dX9_edit_159 : decode cX9_edit 159 = .ok (.iadd, 1) := by decide +kernel
theorem dX9_edit_160 : decode cX9_edit 160 = .ok (.iload 5, 2) := by decide +kernel
theorem dX9_edit_162 : decode cX9_edit 162 = .ok (.iadd, 1) := by decide +kernel
theorem dX9_edit_163 : decode cX9_edit 163 = .ok (.aload_n 0, 1) := by decide +kernel
theorem dX9_edit_164 : decode cX9_edit 164 = .ok (.getfield 13, 3) := by decide +kernel
theorem dX9_edit_167 : decode cX9_edit 167 = .ok (.iload 6, 2) := by decide +kernel
theorem dX9_edit_169 : decode cX9_edit 169 = .ok (.iload 7, 2) := by decide +kernel
theorem dX9_edit_171 : decode cX9_edit 171 = .ok (.iadd, 1) := by decide +kernel
theorem dX9_edit_172 : decode cX9_edit 172 = .ok (.iaload, 1) := by decide +kernel
theorem dX9_edit_173 : decode cX9_edit 173 = .ok (.iastore, 1) := by decide +kernel
theorem dX9_edit_174 : decode cX9_edit 174 = .ok (.iinc 7 1, 3) := by decide +kernel
theorem dX9_edit_177 : decode cX9_edit 177 = .ok (.goto (-37), 3) := by decide +kernel
theorem dX9_edit_180 : decode cX9_edit 180 = .ok (.iconst 0, 1) := by decide +kernel
theorem dX9_edit_181 : decode cX9_edit 181 = .ok (.istore 7, 2) := by decide +kernel
theorem dX9_edit_183 : decode cX9_edit 183 = .ok (.iload 7, 2) := by decide +kernel
theorem dX9_edit_185 : decode cX9_edit 185 = .ok (.aload_n 0, 1) := by decide +kernel
theorem dX9_edit_186 : decode cX9_edit 186 = .ok (.getfield 110, 3) := by decide +kernel
theorem dX9_edit_189 : decode cX9_edit 189 = .ok (.if_icmp .ge 28, 3) := by decide +kernel
theorem dX9_edit_192 : decode cX9_edit 192 = .ok (.aload_n 0, 1) := by decide +kernel
theorem dX9_edit_193 : decode cX9_edit 193 = .ok (.getfield 13, 3) := by decide +kernel
theorem dX9_edit_196 : decode cX9_edit 196 = .ok (.iload 6, 2) := by decide +kernel
theorem dX9_edit_198 : decode cX9_edit 198 = .ok (.iload_n 2, 1) := by decide +kernel
theorem dX9_edit_199 : decode cX9_edit 199 = .ok (.iadd, 1) := by decide +kernel
theorem dX9_edit_200 : decode cX9_edit 200 = .ok (.iload 7, 2) := by decide +kernel
theorem dX9_edit_202 : decode cX9_edit 202 = .ok (.iadd, 1) := by decide +kernel
theorem dX9_edit_203 : decode cX9_edit 203 = .ok (.aload_n 0, 1) := by decide +kernel
theorem dX9_edit_204 : decode cX9_edit 204 = .ok (.getfield 16, 3) := by decide +kernel
theorem dX9_edit_207 : decode cX9_edit 207 = .ok (.iload 7, 2) := by decide +kernel
theorem dX9_edit_209 : decode cX9_edit 209 = .ok (.iaload, 1) := by decide +kernel
theorem dX9_edit_210 : decode cX9_edit 210 = .ok (.iastore, 1) := by decide +kernel
theorem dX9_edit_211 : decode cX9_edit 211 = .ok (.iinc 7 1, 3) := by decide +kernel
theorem dX9_edit_214 : decode cX9_edit 214 = .ok (.goto (-31), 3) := by decide +kernel
theorem dX9_edit_217 : decode cX9_edit 217 = .ok (.aload_n 0, 1) := by decide +kernel
theorem dX9_edit_218 : decode cX9_edit 218 = .ok (.getfield 7, 3) := by decide +kernel
theorem dX9_edit_221 : decode cX9_edit 221 = .ok (.iload_n 1, 1) := by decide +kernel
theorem dX9_edit_222 : decode cX9_edit 222 = .ok (.iload 4, 2) := by decide +kernel
theorem dX9_edit_224 : decode cX9_edit 224 = .ok (.iastore, 1) := by decide +kernel
theorem dX9_edit_225 : decode cX9_edit 225 = .ok (.aload_n 0, 1) := by decide +kernel
theorem dX9_edit_226 : decode cX9_edit 226 = .ok (.iconst 0, 1) := by decide +kernel
theorem dX9_edit_227 : decode cX9_edit 227 = .ok (.putfield 110, 3) := by decide +kernel
theorem dX9_edit_230 : decode cX9_edit 230 = .ok (.iload 4, 2) := by decide +kernel
theorem dX9_edit_232 : decode cX9_edit 232 = .ok (.ireturn, 1) := by decide +kernel
theorem dX9_sow_0 : decode cX9_sow 0 = .ok (.iload_n 1, 1) := by decide +kernel
theorem dX9_sow_1 : decode cX9_sow 1 = .ok (.invokestatic 113, 3) := by decide +kernel
theorem dX9_sow_4 : decode cX9_sow 4 = .ok (.ifCond .eq 40, 3) := by decide +kernel
theorem dX9_sow_7 : decode cX9_sow 7 = .ok (.iload_n 2, 1) := by decide +kernel
theorem dX9_sow_8 : decode cX9_sow 8 = .ok (.iconst 1, 1) := by decide +kernel
theorem dX9_sow_9 : decode cX9_sow 9 = .ok (.sipush 200, 3) := by decide +kernel
theorem dX9_sow_12 : decode cX9_sow 12 = .ok (.invokestatic 117, 3) := by decide +kernel
theorem dX9_sow_15 : decode cX9_sow 15 = .ok (.ifCond .eq 29, 3) := by decide +kernel
theorem dX9_sow_18 : decode cX9_sow 18 = .ok (.iload 4, 2) := by decide +kernel
theorem dX9_sow_20 : decode cX9_sow 20 = .ok (.iconst 1, 1) := by decide +kernel
theorem dX9_sow_21 : decode cX9_sow 21 = .ok (.sipush 256, 3) := by decide +kernel
theorem dX9_sow_24 : decode cX9_sow 24 = .ok (.invokestatic 117, 3) := by decide +kernel
theorem dX9_sow_27 : decode cX9_sow 27 = .ok (.ifCond .eq 17, 3) := by decide +kernel
theorem dX9_sow_30 : decode cX9_sow 30 = .ok (.aload_n 0, 1) := by decide +kernel
theorem dX9_sow_31 : decode cX9_sow 31 = .ok (.getfield 7, 3) := by decide +kernel
theorem dX9_sow_34 : decode cX9_sow 34 = .ok (.iload_n 1, 1) := by decide +kernel
theorem dX9_sow_35 : decode cX9_sow 35 = .ok (.iaload, 1) := by decide +kernel
theorem dX9_sow_36 : decode cX9_sow 36 = .ok (.iload_n 2, 1) := by decide +kernel
theorem dX9_sow_37 : decode cX9_sow 37 = .ok (.iadd, 1) := by decide +kernel
theorem dX9_sow_38 : decode cX9_sow 38 = .ok (.sipush 600, 3) := by decide +kernel
theorem dX9_sow_41 : decode cX9_sow 41 = .ok (.if_icmp .le 5, 3) := by decide +kernel
theorem dX9_sow_44 : decode cX9_sow 44 = .ok (.iconst (-1), 1) := by decide +kernel
theorem dX9_sow_45 : decode cX9_sow 45 = .ok (.ireturn, 1) := by decide +kernel
theorem dX9_sow_46 : decode cX9_sow 46 = .ok (.iload_n 3, 1) := by decide +kernel
theorem dX9_sow_47 : decode cX9_sow 47 = .ok (.istore 5, 2) := by decide +kernel
theorem dX9_sow_49 : decode cX9_sow 49 = .ok (.iconst 0, 1) := by decide +kernel
theorem dX9_sow_50 : decode cX9_sow 50 = .ok (.istore 6, 2) := by decide +kernel
theorem dX9_sow_52 : decode cX9_sow 52 = .ok (.iload 6, 2) := by decide +kernel
theorem dX9_sow_54 : decode cX9_sow 54 = .ok (.iload_n 2, 1) := by decide +kernel
theorem dX9_sow_55 : decode cX9_sow 55 = .ok (.if_icmp .ge 55, 3) := by decide +kernel
theorem dX9_sow_58 : decode cX9_sow 58 = .ok (.ldc 121, 2) := by decide +kernel
theorem dX9_sow_60 : decode cX9_sow 60 = .ok (.iload 5, 2) := by decide +kernel
theorem dX9_sow_62 : decode cX9_sow 62 = .ok (.imul, 1) := by decide +kernel
theorem dX9_sow_63 : decode cX9_sow 63 = .ok (.sipush 12345, 3) := by decide +kernel
theorem dX9_sow_66 : decode cX9_sow 66 = .ok (.iadd, 1) := by decide +kernel
theorem dX9_sow_67 : decode cX9_sow 67 = .ok (.istore 5, 2) := by decide +kernel
theorem dX9_sow_69 : decode cX9_sow 69 = .ok (.aload_n 0, 1) := by decide +kernel
theorem dX9_sow_70 : decode cX9_sow 70 = .ok (.getfield 13, 3) := by decide +kernel
theorem dX9_sow_73 : decode cX9_sow 73 = .ok (.sipush 600, 3) := by decide +kernel
theorem dX9_sow_76 : decode cX9_sow 76 = .ok (.iload_n 1, 1) := by decide +kernel
theorem dX9_sow_77 : decode cX9_sow 77 = .ok (.imul, 1) := by decide +kernel
theorem dX9_sow_78 : decode cX9_sow 78 = .ok (.aload_n 0, 1) := by decide +kernel
theorem dX9_sow_79 : decode cX9_sow 79 = .ok (.getfield 7, 3) := by decide +kernel
theorem dX9_sow_82 : decode cX9_sow 82 = .ok (.iload_n 1, 1) := by decide +kernel
theorem dX9_sow_83 : decode cX9_sow 83 = .ok (.iaload, 1) := by decide +kernel
theorem dX9_sow_84 : decode cX9_sow 84 = .ok (.iadd, 1) := by decide +kernel
theorem dX9_sow_85 : decode cX9_sow 85 = .ok (.iload 5, 2) := by decide +kernel
theorem dX9_sow_87 : decode cX9_sow 87 = .ok (.bipush 8, 2) := by decide +kernel
theorem dX9_sow_89 : decode cX9_sow 89 = .ok (.iushr, 1) := by decide +kernel
theorem dX9_sow_90 : decode cX9_sow 90 = .ok (.iload 4, 2) := by decide +kernel
theorem dX9_sow_92 : decode cX9_sow 92 = .ok (.irem, 1) := by decide +kernel
theorem dX9_sow_93 : decode cX9_sow 93 = .ok (.iastore, 1) := by decide +kernel
theorem dX9_sow_94 : decode cX9_sow 94 = .ok (.aload_n 0, 1) := by decide +kernel
theorem dX9_sow_95 : decode cX9_sow 95 = .ok (.getfield 7, 3) := by decide +kernel
theorem dX9_sow_98 : decode cX9_sow 98 = .ok (.iload_n 1, 1) := by decide +kernel
theorem dX9_sow_99 : decode cX9_sow 99 = .ok (.dup2, 1) := by decide +kernel
theorem dX9_sow_100 : decode cX9_sow 100 = .ok (.iaload, 1) := by decide +kernel
theorem dX9_sow_101 : decode cX9_sow 101 = .ok (.iconst 1, 1) := by decide +kernel
theorem dX9_sow_102 : decode cX9_sow 102 = .ok (.iadd, 1) := by decide +kernel
theorem dX9_sow_103 : decode cX9_sow 103 = .ok (.iastore, 1) := by decide +kernel
theorem dX9_sow_104 : decode cX9_sow 104 = .ok (.iinc 6 1, 3) := by decide +kernel
theorem dX9_sow_107 : decode cX9_sow 107 = .ok (.goto (-55), 3) := by decide +kernel
theorem dX9_sow_110 : decode cX9_sow 110 = .ok (.aload_n 0, 1) := by decide +kernel
theorem dX9_sow_111 : decode cX9_sow 111 = .ok (.getfield 7, 3) := by decide +kernel
theorem dX9_sow_114 : decode cX9_sow 114 = .ok (.iload_n 1, 1) := by decide +kernel
theorem dX9_sow_115 : decode cX9_sow 115 = .ok (.iaload, 1) := by decide +kernel
theorem dX9_sow_116 : decode cX9_sow 116 = .ok (.ireturn, 1) := by decide +kernel
theorem dX9_copy_0 : decode cX9_copy 0 = .ok (.iload_n 1, 1) := by decide +kernel
theorem dX9_copy_1 : decode cX9_copy 1 = .ok (.invokestatic 113, 3) := by decide +kernel
theorem dX9_copy_4 : decode cX9_copy 4 = .ok (.ifCond .eq 10, 3) := by decide +kernel
theorem dX9_copy_7 : decode cX9_copy 7 = .ok (.iload_n 2, 1) := by decide +kernel
theorem dX9_copy_8 : decode cX9_copy 8 = .ok (.invokestatic 113, 3) := by decide +kernel
theorem dX9_copy_11 : decode cX9_copy 11 = .ok (.ifCond .ne 5, 3) := by decide +kernel
theorem dX9_copy_14 : decode cX9_copy 14 = .ok (.iconst (-1), 1) := by decide +kernel
theorem dX9_copy_15 : decode cX9_copy 15 = .ok (.ireturn, 1) := by decide +kernel
theorem dX9_copy_16 : decode cX9_copy 16 = .ok (.iconst 0, 1) := by decide +kernel
theorem dX9_copy_17 : decode cX9_copy 17 = .ok (.istore_n 3, 1) := by decide +kernel
theorem dX9_copy_18 : decode cX9_copy 18 = .ok (.iload_n 3, 1) := by decide +kernel
theorem dX9_copy_19 : decode cX9_copy 19 = .ok (.aload_n 0, 1) := by decide +kernel
theorem dX9_copy_20 : decode cX9_copy 20 = .ok (.getfield 7, 3) := by decide +kernel
theorem dX9_copy_23 : decode cX9_copy 23 = .ok (.iload_n 1, 1) := by decide +kernel
theorem dX9_copy_24 : decode cX9_copy 24 = .ok (.iaload, 1) := by decide +kernel
theorem dX9_copy_25 : decode cX9_copy 25 = .ok (.if_icmp .ge 33, 3) := by decide +kernel
theorem dX9_copy_28 : decode cX9_copy 28 = .ok (.aload_n 0, 1) := by decide +kernel
theorem dX9_copy_29 : decode cX9_copy 29 = .ok (.getfield 13, 3) := by decide +kernel
theorem dX9_copy_32 : decode cX9_copy 32 = .ok (.sipush 600, 3) := by decide +kernel
theorem dX9_copy_35 : decode cX9_copy 35 = .ok (.iload_n 2, 1) := by decide +kernel
theorem dX9_copy_36 : decode cX9_copy 36 = .ok (.imul, 1) := by decide +kernel
theorem dX9_copy_37 : decode cX9_copy 37 = .ok (.iload_n 3, 1) := by decide +kernel
theorem dX9_copy_38 : decode cX9_copy 38 = .ok (.iadd, 1) := by decide +kernel
theorem dX9_copy_39 : decode cX9_copy 39 = .ok (.aload_n 0, 1) := by decide +kernel
theorem dX9_copy_40 : decode cX9_copy 40 = .ok (.getfield 13, 3) := by decide +kernel
theorem dX9_copy_43 : decode cX9_copy 43 = .ok (.sipush 600, 3) := by decide +kernel
theorem dX9_copy_46 : decode cX9_copy 46 = .ok (.iload_n 1, 1) := by decide +kernel
theorem dX9_copy_47 : decode cX9_copy 47 = .ok (.imul, 1) := by decide +kernel
theorem dX9_copy_48 : decode cX9_copy 48 = .ok (.iload_n 3, 1) := by decide +kernel
theorem dX9_copy_49 : decode cX9_copy 49 = .ok (.iadd, 1) := by decide +kernel
theorem dX9_copy_50 : decode cX9_copy 50 = .ok (.iaload, 1) := by decide +kernel
theorem dX9_copy_51 : decode cX9_copy 51 = .ok (.iastore, 1) := by decide +kernel
theorem dX9_copy_52 : decode cX9_copy 52 = .ok (.iinc 3 1, 3) := by decide +kernel
theorem dX9_copy_55 : decode cX9_copy 55 = .ok (.goto (-37), 3) := by decide +kernel
theorem dX9_copy_58 : decode cX9_copy 58 = .ok (.aload_n 0, 1) := by decide +kernel
theorem dX9_copy_59 : decode cX9_copy 59 = .ok (.getfield 7, 3) := by decide +kernel
theorem dX9_copy_62 : decode cX9_copy 62 = .ok (.iload_n 2, 1) := by decide +kernel
theorem dX9_copy_63 : decode cX9_copy 63 = .ok (.aload_n 0, 1) := by decide +kernel
theorem dX9_copy_64 : decode cX9_copy 64 = .ok (.getfield 7, 3) := by decide +kernel
theorem dX9_copy_67 : decode cX9_copy 67 = .ok (.iload_n 1, 1) := by decide +kernel
theorem dX9_copy_68 : decode cX9_copy 68 = .ok (.iaload, 1) := by decide +kernel
theorem dX9_copy_69 : decode cX9_copy 69 = .ok (.iastore, 1) := by decide +kernel
theorem dX9_copy_70 : decode cX9_copy 70 = .ok (.aload_n 0, 1) := by decide +kernel
theorem dX9_copy_71 : decode cX9_copy 71 = .ok (.getfield 7, 3) := by decide +kernel
theorem dX9_copy_74 : decode cX9_copy 74 = .ok (.iload_n 2, 1) := by decide +kernel
theorem dX9_copy_75 : decode cX9_copy 75 = .ok (.iaload, 1) := by decide +kernel
theorem dX9_copy_76 : decode cX9_copy 76 = .ok (.ireturn, 1) := by decide +kernel
theorem dX9_at_0 : decode cX9_at 0 = .ok (.iload_n 1, 1) := by decide +kernel
theorem dX9_at_1 : decode cX9_at 1 = .ok (.invokestatic 113, 3) := by decide +kernel
theorem dX9_at_4 : decode cX9_at 4 = .ok (.ifCond .eq 32, 3) := by decide +kernel
theorem dX9_at_7 : decode cX9_at 7 = .ok (.iload_n 2, 1) := by decide +kernel
theorem dX9_at_8 : decode cX9_at 8 = .ok (.ifCond .lt 28, 3) := by decide +kernel
theorem dX9_at_11 : decode cX9_at 11 = .ok (.iload_n 2, 1) := by decide +kernel
theorem dX9_at_12 : decode cX9_at 12 = .ok (.aload_n 0, 1) := by decide +kernel
theorem dX9_at_13 : decode cX9_at 13 = .ok (.getfield 7, 3) := by decide +kernel
theorem dX9_at_16 : decode cX9_at 16 = .ok (.iload_n 1, 1) := by decide +kernel
theorem dX9_at_17 : decode cX9_at 17 = .ok (.iaload, 1) := by decide +kernel
theorem dX9_at_18 : decode cX9_at 18 = .ok (.if_icmp .ge 18, 3) := by decide +kernel
theorem dX9_at_21 : decode cX9_at 21 = .ok (.aload_n 0, 1) := by decide +kernel
theorem dX9_at_22 : decode cX9_at 22 = .ok (.getfield 13, 3) := by decide +kernel
theorem dX9_at_25 : decode cX9_at 25 = .ok (.sipush 600, 3) := by decide +kernel
theorem dX9_at_28 : decode cX9_at 28 = .ok (.iload_n 1, 1) := by decide +kernel
theorem dX9_at_29 : decode cX9_at 29 = .ok (.imul, 1) := by decide +kernel
theorem dX9_at_30 : decode cX9_at 30 = .ok (.iload_n 2, 1) := by decide +kernel
theorem dX9_at_31 : decode cX9_at 31 = .ok (.iadd, 1) := by decide +kernel
theorem dX9_at_32 : decode cX9_at 32 = .ok (.iaload, 1) := by decide +kernel
theorem dX9_at_33 : decode cX9_at 33 = .ok (.goto 4, 3) := by decide +kernel
theorem dX9_at_36 : decode cX9_at 36 = .ok (.iconst (-1), 1) := by decide +kernel
theorem dX9_at_37 : decode cX9_at 37 = .ok (.ireturn, 1) := by decide +kernel
theorem dX9_isRule_0 : decode cX9_isRule 0 = .ok (.iload_n 1, 1) := by decide +kernel
theorem dX9_isRule_1 : decode cX9_isRule 1 = .ok (.ifCond .lt 22, 3) := by decide +kernel
theorem dX9_isRule_4 : decode cX9_isRule 4 = .ok (.iload_n 1, 1) := by decide +kernel
theorem dX9_isRule_5 : decode cX9_isRule 5 = .ok (.bipush 6, 2) := by decide +kernel
theorem dX9_isRule_7 : decode cX9_isRule 7 = .ok (.if_icmp .ge 16, 3) := by decide +kernel
theorem dX9_isRule_10 : decode cX9_isRule 10 = .ok (.aload_n 0, 1) := by decide +kernel
theorem dX9_isRule_11 : decode cX9_isRule 11 = .ok (.getfield 19, 3) := by decide +kernel
theorem dX9_isRule_14 : decode cX9_isRule 14 = .ok (.iload_n 1, 1) := by decide +kernel
theorem dX9_isRule_15 : decode cX9_isRule 15 = .ok (.iaload, 1) := by decide +kernel
theorem dX9_isRule_16 : decode cX9_isRule 16 = .ok (.ifCond .le 7, 3) := by decide +kernel
theorem dX9_isRule_19 : decode cX9_isRule 19 = .ok (.iconst 1, 1) := by decide +kernel
theorem dX9_isRule_20 : decode cX9_isRule 20 = .ok (.goto 4, 3) := by decide +kernel
theorem dX9_isRule_23 : decode cX9_isRule 23 = .ok (.iconst 0, 1) := by decide +kernel
theorem dX9_isRule_24 : decode cX9_isRule 24 = .ok (.ireturn, 1) := by decide +kernel
theorem dX9_rules_0 : decode cX9_rules 0 = .ok (.iload_n 1, 1) := by decide +kernel
theorem dX9_rules_1 : decode cX9_rules 1 = .ok (.ifCond .lt 66, 3) := by decide +kernel
theorem dX9_rules_4 : decode cX9_rules 4 = .ok (.iload_n 1, 1) := by decide +kernel
theorem dX9_rules_5 : decode cX9_rules 5 = .ok (.bipush 6, 2) := by decide +kernel
theorem dX9_rules_7 : decode cX9_rules 7 = .ok (.if_icmp .ge 60, 3) := by decide +kernel
theorem dX9_rules_10 : decode cX9_rules 10 = .ok (.iload_n 3, 1) := by decide +kernel
theorem dX9_rules_11 : decode cX9_rules 11 = .ok (.iconst 1, 1) := by decide +kernel
theorem dX9_rules_12 : decode cX9_rules 12 = .ok (.sipush 200, 3) := by decide +kernel
theorem dX9_rules_15 : decode cX9_rules 15 = .ok (.invokestatic 117, 3) := by decide +kernel
theorem dX9_rules_18 : decode cX9_rules 18 = .ok (.ifCond .eq 49, 3) := by decide +kernel
theorem dX9_rules_21 : decode cX9_rules 21 = .ok (.iload 4, 2) := by decide +kernel
theorem dX9_rules_23 : decode cX9_rules 23 = .ok (.iload_n 3, 1) := by decide +kernel
theorem dX9_rules_24 : decode cX9_rules 24 = .ok (.sipush 200, 3) := by decide +kernel
theorem dX9_rules_27 : decode cX9_rules 27 = .ok (.invokestatic 117, 3) := by decide +kernel
theorem dX9_rules_30 : decode cX9_rules 30 = .ok (.ifCond .eq 37, 3) := by decide +kernel
theorem dX9_rules_33 : decode cX9_rules 33 = .ok (.iload 5, 2) := by decide +kernel
theorem dX9_rules_35 : decode cX9_rules 35 = .ok (.iconst 1, 1) := by decide +kernel
theorem dX9_rules_36 : decode cX9_rules 36 = .ok (.bipush 16, 2) := by decide +kernel
theorem dX9_rules_38 : decode cX9_rules 38 = .ok (.invokestatic 117, 3) := by decide +kernel
theorem dX9_rules_41 : decode cX9_rules 41 = .ok (.ifCond .eq 26, 3) := by decide +kernel
theorem dX9_rules_44 : decode cX9_rules 44 = .ok (.iload 6, 2) := by decide +kernel
theorem dX9_rules_46 : decode cX9_rules 46 = .ok (.iconst 0, 1) := by decide +kernel
theorem dX9_rules_47 : decode cX9_rules 47 = .ok (.bipush 8, 2) := by decide +kernel
theorem dX9_rules_49 : decode cX9_rules 49 = .ok (.invokestatic 117, 3) := by decide +kernel
theorem dX9_rules_52 : decode cX9_rules 52 = .ok (.ifCond .eq 15, 3) := by decide +kernel
theorem dX9_rules_55 : decode cX9_rules 55 = .ok (.iload 7, 2) := by decide +kernel
theorem dX9_rules_57 : decode cX9_rules 57 = .ok (.iconst 0, 1) := by decide +kernel
theorem dX9_rules_58 : decode cX9_rules 58 = .ok (.sipush 255, 3) := by decide +kernel
theorem dX9_rules_61 : decode cX9_rules 61 = .ok (.invokestatic 117, 3) := by decide +kernel
theorem dX9_rules_64 : decode cX9_rules 64 = .ok (.ifCond .ne 5, 3) := by decide +kernel
theorem dX9_rules_67 : decode cX9_rules 67 = .ok (.iconst 0, 1) := by decide +kernel
theorem dX9_rules_68 : decode cX9_rules 68 = .ok (.ireturn, 1) := by decide +kernel
theorem dX9_rules_69 : decode cX9_rules 69 = .ok (.aload_n 0, 1) := by decide +kernel
theorem dX9_rules_70 : decode cX9_rules 70 = .ok (.getfield 19, 3) := by decide +kernel
theorem dX9_rules_73 : decode cX9_rules 73 = .ok (.iload_n 1, 1) := by decide +kernel
theorem dX9_rules_74 : decode cX9_rules 74 = .ok (.iload_n 2, 1) := by decide +kernel
theorem dX9_rules_75 : decode cX9_rules 75 = .ok (.iastore, 1) := by decide +kernel
theorem dX9_rules_76 : decode cX9_rules 76 = .ok (.aload_n 0, 1) := by decide +kernel
theorem dX9_rules_77 : decode cX9_rules 77 = .ok (.getfield 22, 3) := by decide +kernel
theorem dX9_rules_80 : decode cX9_rules 80 = .ok (.iload_n 1, 1) := by decide +kernel
theorem dX9_rules_81 : decode cX9_rules 81 = .ok (.iload_n 3, 1) := by decide +kernel
theorem dX9_rules_82 : decode cX9_rules 82 = .ok (.iastore, 1) := by decide +kernel
theorem dX9_rules_83 : decode cX9_rules 83 = .ok (.aload_n 0, 1) := by decide +kernel
theorem dX9_rules_84 : decode cX9_rules 84 = .ok (.getfield 25, 3) := by decide +kernel
theorem dX9_rules_87 : decode cX9_rules 87 = .ok (.iload_n 1, 1) := by decide +kernel
theorem dX9_rules_88 : decode cX9_rules 88 = .ok (.iload 4, 2) := by decide +kernel
theorem dX9_rules_90 : decode cX9_rules 90 = .ok (.iastore, 1) := by decide +kernel
theorem dX9_rules_91 : decode cX9_rules 91 = .ok (.aload_n 0, 1) := by decide +kernel
theorem dX9_rules_92 : decode cX9_rules 92 = .ok (.getfield 28, 3) := by decide +kernel
theorem dX9_rules_95 : decode cX9_rules 95 = .ok (.iload_n 1, 1) := by decide +kernel
theorem dX9_rules_96 : decode cX9_rules 96 = .ok (.iload 5, 2) := by decide +kernel
theorem dX9_rules_98 : decode cX9_rules 98 = .ok (.iastore, 1) := by decide +kernel
theorem dX9_rules_99 : decode cX9_rules 99 = .ok (.aload_n 0, 1) := by decide +kernel
theorem dX9_rules_100 : decode cX9_rules 100 = .ok (.getfield 31, 3) := by decide +kernel
theorem dX9_rules_103 : decode cX9_rules 103 = .ok (.iload_n 1, 1) := by decide +kernel
theorem dX9_rules_104 : decode cX9_rules 104 = .ok (.iload 6, 2) := by decide +kernel
theorem dX9_rules_106 : decode cX9_rules 106 = .ok (.iastore, 1) := by decide +kernel
theorem dX9_rules_107 : decode cX9_rules 107 = .ok (.aload_n 0, 1) := by decide +kernel
theorem dX9_rules_108 : decode cX9_rules 108 = .ok (.getfield 34, 3) := by decide +kernel
theorem dX9_rules_111 : decode cX9_rules 111 = .ok (.iload_n 1, 1) := by decide +kernel
theorem dX9_rules_112 : decode cX9_rules 112 = .ok (.iload 7, 2) := by decide +kernel
theorem dX9_rules_114 : decode cX9_rules 114 = .ok (.iastore, 1) := by decide +kernel
theorem dX9_rules_115 : decode cX9_rules 115 = .ok (.iconst 1, 1) := by decide +kernel
theorem dX9_rules_116 : decode cX9_rules 116 = .ok (.ireturn, 1) := by decide +kernel
theorem dX9_fixed_0 : decode cX9_fixed 0 = .ok (.aload_n 0, 1) := by decide +kernel
theorem dX9_fixed_1 : decode cX9_fixed 1 = .ok (.iload_n 1, 1) := by decide +kernel
theorem dX9_fixed_2 : decode cX9_fixed 2 = .ok (.iconst 1, 1) := by decide +kernel
theorem dX9_fixed_3 : decode cX9_fixed 3 = .ok (.iload_n 2, 1) := by decide +kernel
theorem dX9_fixed_4 : decode cX9_fixed 4 = .ok (.iload_n 2, 1) := by decide +kernel
theorem dX9_fixed_5 : decode cX9_fixed 5 = .ok (.iconst 1, 1) := by decide +kernel
theorem dX9_fixed_6 : decode cX9_fixed 6 = .ok (.iconst 0, 1) := by decide +kernel
theorem dX9_fixed_7 : decode cX9_fixed 7 = .ok (.iconst 0, 1) := by decide +kernel
theorem dX9_fixed_8 : decode cX9_fixed 8 = .ok (.invokevirtual 122, 3) := by decide +kernel
theorem dX9_fixed_11 : decode cX9_fixed 11 = .ok (.ireturn, 1) := by decide +kernel
theorem dX9_rolling_0 : decode cX9_rolling 0 = .ok (.aload_n 0, 1) := by decide +kernel
theorem dX9_rolling_1 : decode cX9_rolling 1 = .ok (.iload_n 1, 1) := by decide +kernel
theorem dX9_rolling_2 : decode cX9_rolling 2 = .ok (.iload_n 2, 1) := by decide +kernel
theorem dX9_rolling_3 : decode cX9_rolling 3 = .ok (.ifCond .eq 7, 3) := by decide +kernel
theorem dX9_rolling_6 : decode cX9_rolling 6 = .ok (.iconst 3, 1) := by decide +kernel
theorem dX9_rolling_7 : decode cX9_rolling 7 = .ok (.goto 4, 3) := by decide +kernel
theorem dX9_rolling_10 : decode cX9_rolling 10 = .ok (.iconst 2, 1) := by decide +kernel
theorem dX9_rolling_11 : decode cX9_rolling 11 = .ok (.iload_n 3, 1) := by decide +kernel
theorem dX9_rolling_12 : decode cX9_rolling 12 = .ok (.iload 4, 2) := by decide +kernel
theorem dX9_rolling_14 : decode cX9_rolling 14 = .ok (.iload 5, 2) := by decide +kernel
theorem dX9_rolling_16 : decode cX9_rolling 16 = .ok (.iload 6, 2) := by decide +kernel
theorem dX9_rolling_18 : decode cX9_rolling 18 = .ok (.iload 7, 2) := by decide +kernel
theorem dX9_rolling_20 : decode cX9_rolling 20 = .ok (.invokevirtual 122, 3) := by decide +kernel
theorem dX9_rolling_23 : decode cX9_rolling 23 = .ok (.ireturn, 1) := by decide +kernel
theorem dX9_told_0 : decode cX9_told 0 = .ok (.aload_n 0, 1) := by decide +kernel
theorem dX9_told_1 : decode cX9_told 1 = .ok (.iload_n 1, 1) := by decide +kernel
theorem dX9_told_2 : decode cX9_told 2 = .ok (.iconst 4, 1) := by decide +kernel
theorem dX9_told_3 : decode cX9_told 3 = .ok (.iload_n 2, 1) := by decide +kernel
theorem dX9_told_4 : decode cX9_told 4 = .ok (.iload_n 3, 1) := by decide +kernel
theorem dX9_told_5 : decode cX9_told 5 = .ok (.iconst 1, 1) := by decide +kernel
theorem dX9_told_6 : decode cX9_told 6 = .ok (.iconst 0, 1) := by decide +kernel
theorem dX9_told_7 : decode cX9_told 7 = .ok (.iload 4, 2) := by decide +kernel
theorem dX9_told_9 : decode cX9_told 9 = .ok (.invokevirtual 122, 3) := by decide +kernel
theorem dX9_told_12 : decode cX9_told 12 = .ok (.ireturn, 1) := by decide +kernel
theorem dX9_isRolling_0 : decode cX9_isRolling 0 = .ok (.aload_n 0, 1) := by decide +kernel
theorem dX9_isRolling_1 : decode cX9_isRolling 1 = .ok (.getfield 19, 3) := by decide +kernel
theorem dX9_isRolling_4 : decode cX9_isRolling 4 = .ok (.iload_n 1, 1) := by decide +kernel
theorem dX9_isRolling_5 : decode cX9_isRolling 5 = .ok (.iaload, 1) := by decide +kernel
theorem dX9_isRolling_6 : decode cX9_isRolling 6 = .ok (.iconst 2, 1) := by decide +kernel
theorem dX9_isRolling_7 : decode cX9_isRolling 7 = .ok (.if_icmp .eq 13, 3) := by decide +kernel
theorem dX9_isRolling_10 : decode cX9_isRolling 10 = .ok (.aload_n 0, 1) := by decide +kernel
theorem dX9_isRolling_11 : decode cX9_isRolling 11 = .ok (.getfield 19, 3) := by decide +kernel
theorem dX9_isRolling_14 : decode cX9_isRolling 14 = .ok (.iload_n 1, 1) := by decide +kernel
theorem dX9_isRolling_15 : decode cX9_isRolling 15 = .ok (.iaload, 1) := by decide +kernel
theorem dX9_isRolling_16 : decode cX9_isRolling 16 = .ok (.iconst 3, 1) := by decide +kernel
theorem dX9_isRolling_17 : decode cX9_isRolling 17 = .ok (.if_icmp .ne 7, 3) := by decide +kernel
theorem dX9_isRolling_20 : decode cX9_isRolling 20 = .ok (.iconst 1, 1) := by decide +kernel
theorem dX9_isRolling_21 : decode cX9_isRolling 21 = .ok (.goto 4, 3) := by decide +kernel
theorem dX9_isRolling_24 : decode cX9_isRolling 24 = .ok (.iconst 0, 1) := by decide +kernel
theorem dX9_isRolling_25 : decode cX9_isRolling 25 = .ok (.ireturn, 1) := by decide +kernel
theorem dX9_sumAt_0 : decode cX9_sumAt 0 = .ok (.iconst 0, 1) := by decide +kernel
theorem dX9_sumAt_1 : decode cX9_sumAt 1 = .ok (.istore 4, 2) := by decide +kernel
theorem dX9_sumAt_3 : decode cX9_sumAt 3 = .ok (.iconst 1, 1) := by decide +kernel
theorem dX9_sumAt_4 : decode cX9_sumAt 4 = .ok (.istore 5, 2) := by decide +kernel
theorem dX9_sumAt_6 : decode cX9_sumAt 6 = .ok (.iconst 0, 1) := by decide +kernel
theorem dX9_sumAt_7 : decode cX9_sumAt 7 = .ok (.istore 6, 2) := by decide +kernel
theorem dX9_sumAt_9 : decode cX9_sumAt 9 = .ok (.iload 6, 2) := by decide +kernel
theorem dX9_sumAt_11 : decode cX9_sumAt 11 = .ok (.aload_n 0, 1) := by decide +kernel
theorem dX9_sumAt_12 : decode cX9_sumAt 12 = .ok (.getfield 28, 3) := by decide +kernel
theorem dX9_sumAt_15 : decode cX9_sumAt 15 = .ok (.iload_n 1, 1) := by decide +kernel
theorem dX9_sumAt_16 : decode cX9_sumAt 16 = .ok (.iaload, 1) := by decide +kernel
theorem dX9_sumAt_17 : decode cX9_sumAt 17 = .ok (.if_icmp .ge 53, 3) := by decide +kernel
theorem dX9_sumAt_20 : decode cX9_sumAt 20 = .ok (.iload 6, 2) := by decide +kernel
theorem dX9_sumAt_22 : decode cX9_sumAt 22 = .ok (.iload_n 3, 1) := by decide +kernel
theorem dX9_sumAt_23 : decode cX9_sumAt 23 = .ok (.if_icmp .gt 47, 3) := by decide +kernel
theorem dX9_sumAt_26 : decode cX9_sumAt 26 = .ok (.iload 4, 2) := by decide +kernel
theorem dX9_sumAt_28 : decode cX9_sumAt 28 = .ok (.aload_n 0, 1) := by decide +kernel
theorem dX9_sumAt_29 : decode cX9_sumAt 29 = .ok (.getfield 13, 3) := by decide +kernel
theorem dX9_sumAt_32 : decode cX9_sumAt 32 = .ok (.sipush 600, 3) := by decide +kernel
theorem dX9_sumAt_35 : decode cX9_sumAt 35 = .ok (.iload_n 2, 1) := by decide +kernel
theorem dX9_sumAt_36 : decode cX9_sumAt 36 = .ok (.imul, 1) := by decide +kernel
theorem dX9_sumAt_37 : decode cX9_sumAt 37 = .ok (.iload_n 3, 1) := by decide +kernel
theorem dX9_sumAt_38 : decode cX9_sumAt 38 = .ok (.iadd, 1) := by decide +kernel
theorem dX9_sumAt_39 : decode cX9_sumAt 39 = .ok (.iload 6, 2) := by decide +kernel
theorem dX9_sumAt_41 : decode cX9_sumAt 41 = .ok (.isub, 1) := by decide +kernel
theorem dX9_sumAt_42 : decode cX9_sumAt 42 = .ok (.iaload, 1) := by decide +kernel
theorem dX9_sumAt_43 : decode cX9_sumAt 43 = .ok (.iconst 1, 1) := by decide +kernel
theorem dX9_sumAt_44 : decode cX9_sumAt 44 = .ok (.iadd, 1) := by decide +kernel
theorem dX9_sumAt_45 : decode cX9_sumAt 45 = .ok (.iload 5, 2) := by decide +kernel
theorem dX9_sumAt_47 : decode cX9_sumAt 47 = .ok (.imul, 1) := by decide +kernel
theorem dX9_sumAt_48 : decode cX9_sumAt 48 = .ok (.iadd, 1) := by decide +kernel
theorem dX9_sumAt_49 : decode cX9_sumAt 49 = .ok (.ldc 126, 2) := by decide +kernel
theorem dX9_sumAt_51 : decode cX9_sumAt 51 = .ok (.irem, 1) := by decide +kernel
theorem dX9_sumAt_52 : decode cX9_sumAt 52 = .ok (.istore 4, 2) := by decide +kernel
theorem dX9_sumAt_54 : decode cX9_sumAt 54 = .ok (.iload 5, 2) := by decide +kernel
theorem dX9_sumAt_56 : decode cX9_sumAt 56 = .ok (.bipush 31, 2) := by decide +kernel
theorem dX9_sumAt_58 : decode cX9_sumAt 58 = .ok (.imul, 1) := by decide +kernel
theorem dX9_sumAt_59 : decode cX9_sumAt 59 = .ok (.ldc 126, 2) := by decide +kernel
theorem dX9_sumAt_61 : decode cX9_sumAt 61 = .ok (.irem, 1) := by decide +kernel
theorem dX9_sumAt_62 : decode cX9_sumAt 62 = .ok (.istore 5, 2) := by decide +kernel
theorem dX9_sumAt_64 : decode cX9_sumAt 64 = .ok (.iinc 6 1, 3) := by decide +kernel
theorem dX9_sumAt_67 : decode cX9_sumAt 67 = .ok (.goto (-58), 3) := by decide +kernel
theorem dX9_sumAt_70 : decode cX9_sumAt 70 = .ok (.iload 4, 2) := by decide +kernel
theorem dX9_sumAt_72 : decode cX9_sumAt 72 = .ok (.ireturn, 1) := by decide +kernel
theorem dX9_isSign_0 : decode cX9_isSign 0 = .ok (.iload_n 1, 1) := by decide +kernel
theorem dX9_isSign_1 : decode cX9_isSign 1 = .ok (.iconst 4, 1) := by decide +kernel
theorem dX9_isSign_2 : decode cX9_isSign 2 = .ok (.ishr, 1) := by decide +kernel
theorem dX9_isSign_3 : decode cX9_isSign 3 = .ok (.iload_n 2, 1) := by decide +kernel
theorem dX9_isSign_4 : decode cX9_isSign 4 = .ok (.isub, 1) := by decide +kernel
theorem dX9_isSign_5 : decode cX9_isSign 5 = .ok (.iconst 1, 1) := by decide +kernel
theorem dX9_isSign_6 : decode cX9_isSign 6 = .ok (.iload_n 3, 1) := by decide +kernel
theorem dX9_isSign_7 : decode cX9_isSign 7 = .ok (.ishl, 1) := by decide +kernel
theorem dX9_isSign_8 : decode cX9_isSign 8 = .ok (.irem, 1) := by decide +kernel
theorem dX9_isSign_9 : decode cX9_isSign 9 = .ok (.ifCond .ne 7, 3) := by decide +kernel
theorem dX9_isSign_12 : decode cX9_isSign 12 = .ok (.iconst 1, 1) := by decide +kernel
theorem dX9_isSign_13 : decode cX9_isSign 13 = .ok (.goto 4, 3) := by decide +kernel
theorem dX9_isSign_16 : decode cX9_isSign 16 = .ok (.iconst 0, 1) := by decide +kernel
theorem dX9_isSign_17 : decode cX9_isSign 17 = .ok (.ireturn, 1) := by decide +kernel
theorem dX9_sum_0 : decode cX9_sum 0 = .ok (.aload_n 0, 1) := by decide +kernel
theorem dX9_sum_1 : decode cX9_sum 1 = .ok (.iload_n 1, 1) := by decide +kernel
theorem dX9_sum_2 : decode cX9_sum 2 = .ok (.invokevirtual 127, 3) := by decide +kernel
theorem dX9_sum_5 : decode cX9_sum 5 = .ok (.ifCond .eq 42, 3) := by decide +kernel
theorem dX9_sum_8 : decode cX9_sum 8 = .ok (.aload_n 0, 1) := by decide +kernel
theorem dX9_sum_9 : decode cX9_sum 9 = .ok (.iload_n 1, 1) := by decide +kernel
theorem dX9_sum_10 : decode cX9_sum 10 = .ok (.invokevirtual 130, 3) := by decide +kernel
theorem dX9_sum_13 : decode cX9_sum 13 = .ok (.ifCond .eq 34, 3) := by decide +kernel
theorem dX9_sum_16 : decode cX9_sum 16 = .ok (.iload_n 2, 1) := by decide +kernel
theorem dX9_sum_17 : decode cX9_sum 17 = .ok (.invokestatic 113, 3) := by decide +kernel
theorem dX9_sum_20 : decode cX9_sum 20 = .ok (.ifCond .eq 27, 3) := by decide +kernel
theorem dX9_sum_23 : decode cX9_sum 23 = .ok (.iload_n 3, 1) := by decide +kernel
theorem dX9_sum_24 : decode cX9_sum 24 = .ok (.ifCond .lt 23, 3) := by decide +kernel
theorem dX9_sum_27 : decode cX9_sum 27 = .ok (.iload_n 3, 1) := by decide +kernel
theorem dX9_sum_28 : decode cX9_sum 28 = .ok (.aload_n 0, 1) := by decide +kernel
theorem dX9_sum_29 : decode cX9_sum 29 = .ok (.getfield 7, 3) := by decide +kernel
theorem dX9_sum_32 : decode cX9_sum 32 = .ok (.iload_n 2, 1) := by decide +kernel
theorem dX9_sum_33 : decode cX9_sum 33 = .ok (.iaload, 1) := by decide +kernel
theorem dX9_sum_34 : decode cX9_sum 34 = .ok (.if_icmp .ge 13, 3) := by decide +kernel
theorem dX9_sum_37 : decode cX9_sum 37 = .ok (.aload_n 0, 1) := by decide +kernel
theorem dX9_sum_38 : decode cX9_sum 38 = .ok (.iload_n 1, 1) := by decide +kernel
theorem dX9_sum_39 : decode cX9_sum 39 = .ok (.iload_n 2, 1) := by decide +kernel
theorem dX9_sum_40 : decode cX9_sum 40 = .ok (.iload_n 3, 1) := by decide +kernel
theorem dX9_sum_41 : decode cX9_sum 41 = .ok (.invokevirtual 133, 3) := by decide +kernel
theorem dX9_sum_44 : decode cX9_sum 44 = .ok (.goto 4, 3) := by decide +kernel
theorem dX9_sum_47 : decode cX9_sum 47 = .ok (.iconst (-1), 1) := by decide +kernel
theorem dX9_sum_48 : decode cX9_sum 48 = .ok (.ireturn, 1) := by decide +kernel
theorem dX9_endOf_0 : decode cX9_endOf 0 = .ok (.iconst (-1), 1) := by decide +kernel
theorem dX9_endOf_1 : decode cX9_endOf 1 = .ok (.istore 4, 2) := by decide +kernel
theorem dX9_endOf_3 : decode cX9_endOf 3 = .ok (.iconst 1, 1) := by decide +kernel
theorem dX9_endOf_4 : decode cX9_endOf 4 = .ok (.istore 5, 2) := by decide +kernel
theorem dX9_endOf_6 : decode cX9_endOf 6 = .ok (.iload 5, 2) := by decide +kernel
theorem dX9_endOf_8 : decode cX9_endOf 8 = .ok (.aload_n 0, 1) := by decide +kernel
theorem dX9_endOf_9 : decode cX9_endOf 9 = .ok (.getfield 25, 3) := by decide +kernel
theorem dX9_endOf_12 : decode cX9_endOf 12 = .ok (.iload_n 1, 1) := by decide +kernel
theorem dX9_endOf_13 : decode cX9_endOf 13 = .ok (.iaload, 1) := by decide +kernel
theorem dX9_endOf_14 : decode cX9_endOf 14 = .ok (.if_icmp .ge 177, 3) := by decide +kernel
theorem dX9_endOf_17 : decode cX9_endOf 17 = .ok (.iload_n 3, 1) := by decide +kernel
theorem dX9_endOf_18 : decode cX9_endOf 18 = .ok (.iload 5, 2) := by decide +kernel
theorem dX9_endOf_20 : decode cX9_endOf 20 = .ok (.iadd, 1) := by decide +kernel
theorem dX9_endOf_21 : decode cX9_endOf 21 = .ok (.iconst 1, 1) := by decide +kernel
theorem dX9_endOf_22 : decode cX9_endOf 22 = .ok (.isub, 1) := by decide +kernel
theorem dX9_endOf_23 : decode cX9_endOf 23 = .ok (.istore 6, 2) := by decide +kernel
theorem dX9_endOf_25 : decode cX9_endOf 25 = .ok (.iload 6, 2) := by decide +kernel
theorem dX9_endOf_27 : decode cX9_endOf 27 = .ok (.iconst 1, 1) := by decide +kernel
theorem dX9_endOf_28 : decode cX9_endOf 28 = .ok (.iadd, 1) := by decide +kernel
theorem dX9_endOf_29 : decode cX9_endOf 29 = .ok (.aload_n 0, 1) := by decide +kernel
theorem dX9_endOf_30 : decode cX9_endOf 30 = .ok (.getfield 7, 3) := by decide +kernel
theorem dX9_endOf_33 : decode cX9_endOf 33 = .ok (.iload_n 2, 1) := by decide +kernel
theorem dX9_endOf_34 : decode cX9_endOf 34 = .ok (.iaload, 1) := by decide +kernel
theorem dX9_endOf_35 : decode cX9_endOf 35 = .ok (.if_icmp .lt 10, 3) := by decide +kernel
theorem dX9_endOf_38 : decode cX9_endOf 38 = .ok (.aload_n 0, 1) := by decide +kernel
theorem dX9_endOf_39 : decode cX9_endOf 39 = .ok (.getfield 7, 3) := by decide +kernel
theorem dX9_endOf_42 : decode cX9_endOf 42 = .ok (.iload_n 2, 1) := by decide +kernel
theorem dX9_endOf_43 : decode cX9_endOf 43 = .ok (.iaload, 1) := by decide +kernel
theorem dX9_endOf_44 : decode cX9_endOf 44 = .ok (.ireturn, 1) := by decide +kernel
theorem dX9_endOf_45 : decode cX9_endOf 45 = .ok (.iload 5, 2) := by decide +kernel
theorem dX9_endOf_47 : decode cX9_endOf 47 = .ok (.aload_n 0, 1) := by decide +kernel
theorem dX9_endOf_48 : decode cX9_endOf 48 = .ok (.getfield 22, 3) := by decide +kernel
theorem dX9_endOf_51 : decode cX9_endOf 51 = .ok (.iload_n 1, 1) := by decide +kernel
theorem dX9_endOf_52 : decode cX9_endOf 52 = .ok (.iaload, 1) := by decide +kernel
theorem dX9_endOf_53 : decode cX9_endOf 53 = .ok (.if_icmp .ge 6, 3) := by decide +kernel
theorem dX9_endOf_56 : decode cX9_endOf 56 = .ok (.goto 129, 3) := by decide +kernel
theorem dX9_endOf_59 : decode cX9_endOf 59 = .ok (.aload_n 0, 1) := by decide +kernel
theorem dX9_endOf_60 : decode cX9_endOf 60 = .ok (.getfield 19, 3) := by decide +kernel
theorem dX9_endOf_63 : decode cX9_endOf 63 = .ok (.iload_n 1, 1) := by decide +kernel
theorem dX9_endOf_64 : decode cX9_endOf 64 = .ok (.iaload, 1) := by decide +kernel
theorem dX9_endOf_65 : decode cX9_endOf 65 = .ok (.iconst 4, 1) := by decide +kernel
theorem dX9_endOf_66 : decode cX9_endOf 66 = .ok (.if_icmp .ne 30, 3) := by decide +kernel
theorem dX9_endOf_69 : decode cX9_endOf 69 = .ok (.aload_n 0, 1) := by decide +kernel
theorem dX9_endOf_70 : decode cX9_endOf 70 = .ok (.getfield 13, 3) := by decide +kernel
theorem dX9_endOf_73 : decode cX9_endOf 73 = .ok (.sipush 600, 3) := by decide +kernel
theorem dX9_endOf_76 : decode cX9_endOf 76 = .ok (.iload_n 2, 1) := by decide +kernel
theorem dX9_endOf_77 : decode cX9_endOf 77 = .ok (.imul, 1) := by decide +kernel
theorem dX9_endOf_78 : decode cX9_endOf 78 = .ok (.iload 6, 2) := by decide +kernel
theorem dX9_endOf_80 : decode cX9_endOf 80 = .ok (.iadd, 1) := by decide +kernel
theorem dX9_endOf_81 : decode cX9_endOf 81 = .ok (.iaload, 1) := by decide +kernel
theorem dX9_endOf_82 : decode cX9_endOf 82 = .ok (.aload_n 0, 1) := by decide +kernel
theorem dX9_endOf_83 : decode cX9_endOf 83 = .ok (.getfield 34, 3) := by decide +kernel
theorem dX9_endOf_86 : decode cX9_endOf 86 = .ok (.iload_n 1, 1) := by decide +kernel
theorem dX9_endOf_87 : decode cX9_endOf 87 = .ok (.iaload, 1) := by decide +kernel
theorem dX9_endOf_88 : decode cX9_endOf 88 = .ok (.if_icmp .ne 8, 3) := by decide +kernel
theorem dX9_endOf_91 : decode cX9_endOf 91 = .ok (.iload 6, 2) := by decide +kernel
theorem dX9_endOf_93 : decode cX9_endOf 93 = .ok (.iconst 1, 1) := by decide +kernel
theorem dX9_endOf_94 : decode cX9_endOf 94 = .ok (.iadd, 1) := by decide +kernel
theorem dX9_endOf_95 : decode cX9_endOf 95 = .ok (.ireturn, 1) := by decide +kernel
theorem dX9_endOf_96 : decode cX9_endOf 96 = .ok (.aload_n 0, 1) := by decide +kernel
theorem dX9_endOf_97 : decode cX9_endOf 97 = .ok (.iload_n 1, 1) := by decide +kernel
theorem dX9_endOf_98 : decode cX9_endOf 98 = .ok (.invokevirtual 130, 3) := by decide +kernel
theorem dX9_endOf_101 : decode cX9_endOf 101 = .ok (.ifCond .ne 6, 3) := by decide +kernel
theorem dX9_endOf_104 : decode cX9_endOf 104 = .ok (.goto 81, 3) := by decide +kernel
theorem dX9_endOf_107 : decode cX9_endOf 107 = .ok (.aload_n 0, 1) := by decide +kernel
theorem dX9_endOf_108 : decode cX9_endOf 108 = .ok (.iload_n 1, 1) := by decide +kernel
theorem dX9_endOf_109 : decode cX9_endOf 109 = .ok (.iload_n 2, 1) := by decide +kernel
theorem dX9_endOf_110 : decode cX9_endOf 110 = .ok (.iload 6, 2) := by decide +kernel
theorem dX9_endOf_112 : decode cX9_endOf 112 = .ok (.invokevirtual 133, 3) := by decide +kernel
theorem dX9_endOf_115 : decode cX9_endOf 115 = .ok (.istore 7, 2) := by decide +kernel
theorem dX9_endOf_117 : decode cX9_endOf 117 = .ok (.aload_n 0, 1) := by decide +kernel
theorem dX9_endOf_118 : decode cX9_endOf 118 = .ok (.iload 7, 2) := by decide +kernel
theorem dX9_endOf_120 : decode cX9_endOf 120 = .ok (.aload_n 0, 1) := by decide +kernel
theorem dX9_endOf_121 : decode cX9_endOf 121 = .ok (.getfield 34, 3) := by decide +kernel
theorem dX9_endOf_124 : decode cX9_endOf 124 = .ok (.iload_n 1, 1) := by decide +kernel
theorem dX9_endOf_125 : decode cX9_endOf 125 = .ok (.iaload, 1) := by decide +kernel
theorem dX9_endOf_126 : decode cX9_endOf 126 = .ok (.aload_n 0, 1) := by decide +kernel
theorem dX9_endOf_127 : decode cX9_endOf 127 = .ok (.getfield 31, 3) := by decide +kernel
theorem dX9_endOf_130 : decode cX9_endOf 130 = .ok (.iload_n 1, 1) := by decide +kernel
theorem dX9_endOf_131 : decode cX9_endOf 131 = .ok (.iaload, 1) := by decide +kernel
theorem dX9_endOf_132 : decode cX9_endOf 132 = .ok (.invokevirtual 137, 3) := by decide +kernel
theorem dX9_endOf_135 : decode cX9_endOf 135 = .ok (.ifCond .eq 8, 3) := by decide +kernel
theorem dX9_endOf_138 : decode cX9_endOf 138 = .ok (.iload 6, 2) := by decide +kernel
theorem dX9_endOf_140 : decode cX9_endOf 140 = .ok (.iconst 1, 1) := by decide +kernel
theorem dX9_endOf_141 : decode cX9_endOf 141 = .ok (.iadd, 1) := by decide +kernel
theorem dX9_endOf_142 : decode cX9_endOf 142 = .ok (.ireturn, 1) := by decide +kernel
theorem dX9_endOf_143 : decode cX9_endOf 143 = .ok (.aload_n 0, 1) := by decide +kernel
theorem dX9_endOf_144 : decode cX9_endOf 144 = .ok (.iload 7, 2) := by decide +kernel
theorem dX9_endOf_146 : decode cX9_endOf 146 = .ok (.aload_n 0, 1) := by decide +kernel
theorem dX9_endOf_147 : decode cX9_endOf 147 = .ok (.getfield 34, 3) := by decide +kernel
theorem dX9_endOf_150 : decode cX9_endOf 150 = .ok (.iload_n 1, 1) := by decide +kernel
theorem dX9_endOf_151 : decode cX9_endOf 151 = .ok (.iaload, 1) := by decide +kernel
theorem dX9_endOf_152 : decode cX9_endOf 152 = .ok (.aload_n 0, 1) := by decide +kernel
theorem dX9_endOf_153 : decode cX9_endOf 153 = .ok (.getfield 31, 3) := by decide +kernel
theorem dX9_endOf_156 : decode cX9_endOf 156 = .ok (.iload_n 1, 1) := by decide +kernel
theorem dX9_endOf_157 : decode cX9_endOf 157 = .ok (.iaload, 1) := by decide +kernel
theorem dX9_endOf_158 : decode cX9_endOf 158 = .ok (.ifCond .le 14, 3) := by decide +kernel
theorem dX9_endOf_161 : decode cX9_endOf 161 = .ok (.aload_n 0, 1) := by decide +kernel
theorem dX9_endOf_162 : decode cX9_endOf 162 = .ok (.getfield 31, 3) := by decide +kernel
theorem dX9_endOf_165 : decode cX9_endOf 165 = .ok (.iload_n 1, 1) := by decide +kernel
theorem dX9_endOf_166 : decode cX9_endOf 166 = .ok (.iaload, 1) := by decide +kernel
theorem dX9_endOf_167 : decode cX9_endOf 167 = .ok (.iconst 1, 1) := by decide +kernel
theorem dX9_endOf_168 : decode cX9_endOf 168 = .ok (.isub, 1) := by decide +kernel
theorem dX9_endOf_169 : decode cX9_endOf 169 = .ok (.goto 4, 3) := by decide +kernel
theorem dX9_endOf_172 : decode cX9_endOf 172 = .ok (.iconst 0, 1) := by decide +kernel
theorem dX9_endOf_173 : decode cX9_endOf 173 = .ok (.invokevirtual 137, 3) := by decide +kernel
theorem dX9_endOf_176 : decode cX9_endOf 176 = .ok (.ifCond .eq 9, 3) := by decide +kernel
theorem dX9_endOf_179 : decode cX9_endOf 179 = .ok (.iload 6, 2) := by decide +kernel
theorem dX9_endOf_181 : decode cX9_endOf 181 = .ok (.iconst 1, 1) := by decide +kernel
theorem dX9_endOf_182 : decode cX9_endOf 182 = .ok (.iadd, 1) := by decide +kernel
theorem dX9_endOf_183 : decode cX9_endOf 183 = .ok (.istore 4, 2) := by decide +kernel
theorem dX9_endOf_185 : decode cX9_endOf 185 = .ok (.iinc 5 1, 3) := by decide +kernel
theorem dX9_endOf_188 : decode cX9_endOf 188 = .ok (.goto (-182), 3) := by decide +kernel
theorem dX9_endOf_191 : decode cX9_endOf 191 = .ok (.iload_n 3, 1) := by decide +kernel
theorem dX9_endOf_192 : decode cX9_endOf 192 = .ok (.aload_n 0, 1) := by decide +kernel
theorem dX9_endOf_193 : decode cX9_endOf 193 = .ok (.getfield 25, 3) := by decide +kernel
theorem dX9_endOf_196 : decode cX9_endOf 196 = .ok (.iload_n 1, 1) := by decide +kernel
theorem dX9_endOf_197 : decode cX9_endOf 197 = .ok (.iaload, 1) := by decide +kernel
theorem dX9_endOf_198 : decode cX9_endOf 198 = .ok (.iadd, 1) := by decide +kernel
theorem dX9_endOf_199 : decode cX9_endOf 199 = .ok (.iconst 1, 1) := by decide +kernel
theorem dX9_endOf_200 : decode cX9_endOf 200 = .ok (.isub, 1) := by decide +kernel
theorem dX9_endOf_201 : decode cX9_endOf 201 = .ok (.istore 5, 2) := by decide +kernel
theorem dX9_endOf_203 : decode cX9_endOf 203 = .ok (.iload 5, 2) := by decide +kernel
theorem dX9_endOf_205 : decode cX9_endOf 205 = .ok (.iconst 1, 1) := by decide +kernel
theorem dX9_endOf_206 : decode cX9_endOf 206 = .ok (.iadd, 1) := by decide +kernel
theorem dX9_endOf_207 : decode cX9_endOf 207 = .ok (.aload_n 0, 1) := by decide +kernel
theorem dX9_endOf_208 : decode cX9_endOf 208 = .ok (.getfield 7, 3) := by decide +kernel
theorem dX9_endOf_211 : decode cX9_endOf 211 = .ok (.iload_n 2, 1) := by decide +kernel
theorem dX9_endOf_212 : decode cX9_endOf 212 = .ok (.iaload, 1) := by decide +kernel
theorem dX9_endOf_213 : decode cX9_endOf 213 = .ok (.if_icmp .le 10, 3) := by decide +kernel
theorem dX9_endOf_216 : decode cX9_endOf 216 = .ok (.aload_n 0, 1) := by decide +kernel
theorem dX9_endOf_217 : decode cX9_endOf 217 = .ok (.getfield 7, 3) := by decide +kernel
theorem dX9_endOf_220 : decode cX9_endOf 220 = .ok (.iload_n 2, 1) := by decide +kernel
theorem dX9_endOf_221 : decode cX9_endOf 221 = .ok (.iaload, 1) := by decide +kernel
theorem dX9_endOf_222 : decode cX9_endOf 222 = .ok (.ireturn, 1) := by decide +kernel
theorem dX9_endOf_223 : decode cX9_endOf 223 = .ok (.aload_n 0, 1) := by decide +kernel
theorem dX9_endOf_224 : decode cX9_endOf 224 = .ok (.getfield 19, 3) := by decide +kernel
theorem dX9_endOf_227 : decode cX9_endOf 227 = .ok (.iload_n 1, 1) := by decide +kernel
theorem dX9_endOf_228 : decode cX9_endOf 228 = .ok (.iaload, 1) := by decide +kernel
theorem dX9_endOf_229 : decode cX9_endOf 229 = .ok (.iconst 3, 1) := by decide +kernel
theorem dX9_endOf_230 : decode cX9_endOf 230 = .ok (.if_icmp .ne 9, 3) := by decide +kernel
theorem dX9_endOf_233 : decode cX9_endOf 233 = .ok (.iload 4, 2) := by decide +kernel
theorem dX9_endOf_235 : decode cX9_endOf 235 = .ok (.iconst (-1), 1) := by decide +kernel
theorem dX9_endOf_236 : decode cX9_endOf 236 = .ok (.if_icmp .ne 8, 3) := by decide +kernel
theorem dX9_endOf_239 : decode cX9_endOf 239 = .ok (.iload 5, 2) := by decide +kernel
theorem dX9_endOf_241 : decode cX9_endOf 241 = .ok (.iconst 1, 1) := by decide +kernel
theorem dX9_endOf_242 : decode cX9_endOf 242 = .ok (.iadd, 1) := by decide +kernel
theorem dX9_endOf_243 : decode cX9_endOf 243 = .ok (.ireturn, 1) := by decide +kernel
theorem dX9_endOf_244 : decode cX9_endOf 244 = .ok (.aload_n 0, 1) := by decide +kernel
theorem dX9_endOf_245 : decode cX9_endOf 245 = .ok (.iload_n 1, 1) := by decide +kernel
theorem dX9_endOf_246 : decode cX9_endOf 246 = .ok (.iload_n 2, 1) := by decide +kernel
theorem dX9_endOf_247 : decode cX9_endOf 247 = .ok (.iload 5, 2) := by decide +kernel
theorem dX9_endOf_249 : decode cX9_endOf 249 = .ok (.invokevirtual 133, 3) := by decide +kernel
theorem dX9_endOf_252 : decode cX9_endOf 252 = .ok (.istore 6, 2) := by decide +kernel
theorem dX9_endOf_254 : decode cX9_endOf 254 = .ok (.aload_n 0, 1) := by decide +kernel
theorem dX9_endOf_255 : decode cX9_endOf 255 = .ok (.iload 6, 2) := by decide +kernel
theorem dX9_endOf_257 : decode cX9_endOf 257 = .ok (.aload_n 0, 1) := by decide +kernel
theorem dX9_endOf_258 : decode cX9_endOf 258 = .ok (.getfield 34, 3) := by decide +kernel
theorem dX9_endOf_261 : decode cX9_endOf 261 = .ok (.iload_n 1, 1) := by decide +kernel
theorem dX9_endOf_262 : decode cX9_endOf 262 = .ok (.iaload, 1) := by decide +kernel
theorem dX9_endOf_263 : decode cX9_endOf 263 = .ok (.aload_n 0, 1) := by decide +kernel
theorem dX9_endOf_264 : decode cX9_endOf 264 = .ok (.getfield 31, 3) := by decide +kernel
theorem dX9_endOf_267 : decode cX9_endOf 267 = .ok (.iload_n 1, 1) := by decide +kernel
theorem dX9_endOf_268 : decode cX9_endOf 268 = .ok (.iaload, 1) := by decide +kernel
theorem dX9_endOf_269 : decode cX9_endOf 269 = .ok (.ifCond .le 14, 3) := by decide +kernel
theorem dX9_endOf_272 : decode cX9_endOf 272 = .ok (.aload_n 0, 1) := by decide +kernel
theorem dX9_endOf_273 : decode cX9_endOf 273 = .ok (.getfield 31, 3) := by decide +kernel
theorem dX9_endOf_276 : decode cX9_endOf 276 = .ok (.iload_n 1, 1) := by decide +kernel
theorem dX9_endOf_277 : decode cX9_endOf 277 = .ok (.iaload, 1) := by decide +kernel
theorem dX9_endOf_278 : decode cX9_endOf 278 = .ok (.iconst 1, 1) := by decide +kernel
theorem dX9_endOf_279 : decode cX9_endOf 279 = .ok (.isub, 1) := by decide +kernel
theorem dX9_endOf_280 : decode cX9_endOf 280 = .ok (.goto 4, 3) := by decide +kernel
theorem dX9_endOf_283 : decode cX9_endOf 283 = .ok (.iconst 0, 1) := by decide +kernel
theorem dX9_endOf_284 : decode cX9_endOf 284 = .ok (.invokevirtual 137, 3) := by decide +kernel
theorem dX9_endOf_287 : decode cX9_endOf 287 = .ok (.ifCond .eq 10, 3) := by decide +kernel
theorem dX9_endOf_290 : decode cX9_endOf 290 = .ok (.iload 5, 2) := by decide +kernel
theorem dX9_endOf_292 : decode cX9_endOf 292 = .ok (.iconst 1, 1) := by decide +kernel
theorem dX9_endOf_293 : decode cX9_endOf 293 = .ok (.iadd, 1) := by decide +kernel
theorem dX9_endOf_294 : decode cX9_endOf 294 = .ok (.goto 5, 3) := by decide +kernel
theorem dX9_endOf_297 : decode cX9_endOf 297 = .ok (.iload 4, 2) := by decide +kernel
theorem dX9_endOf_299 : decode cX9_endOf 299 = .ok (.ireturn, 1) := by decide +kernel
theorem dX9_cutsOf_0 : decode cX9_cutsOf 0 = .ok (.aload_n 0, 1) := by decide +kernel
theorem dX9_cutsOf_1 : decode cX9_cutsOf 1 = .ok (.iconst 0, 1) := by decide +kernel
theorem dX9_cutsOf_2 : decode cX9_cutsOf 2 = .ok (.putfield 140, 3) := by decide +kernel
theorem dX9_cutsOf_5 : decode cX9_cutsOf 5 = .ok (.aload_n 0, 1) := by decide +kernel
theorem dX9_cutsOf_6 : decode cX9_cutsOf 6 = .ok (.getfield 37, 3) := by decide +kernel
theorem dX9_cutsOf_9 : decode cX9_cutsOf 9 = .ok (.iconst 0, 1) := by decide +kernel
theorem dX9_cutsOf_10 : decode cX9_cutsOf 10 = .ok (.iconst 0, 1) := by decide +kernel
theorem dX9_cutsOf_11 : decode cX9_cutsOf 11 = .ok (.iastore, 1) := by decide +kernel
theorem dX9_cutsOf_12 : decode cX9_cutsOf 12 = .ok (.aload_n 0, 1) := by decide +kernel
theorem dX9_cutsOf_13 : decode cX9_cutsOf 13 = .ok (.getfield 37, 3) := by decide +kernel
theorem dX9_cutsOf_16 : decode cX9_cutsOf 16 = .ok (.aload_n 0, 1) := by decide +kernel
theorem dX9_cutsOf_17 : decode cX9_cutsOf 17 = .ok (.getfield 140, 3) := by decide +kernel
theorem dX9_cutsOf_20 : decode cX9_cutsOf 20 = .ok (.iaload, 1) := by decide +kernel
theorem dX9_cutsOf_21 : decode cX9_cutsOf 21 = .ok (.aload_n 0, 1) := by decide +kernel
theorem dX9_cutsOf_22 : decode cX9_cutsOf 22 = .ok (.getfield 7, 3) := by decide +kernel
theorem dX9_cutsOf_25 : decode cX9_cutsOf 25 = .ok (.iload_n 2, 1) := by decide +kernel
theorem dX9_cutsOf_26 : decode cX9_cutsOf 26 = .ok (.iaload, 1) := by decide +kernel
theorem dX9_cutsOf_27 : decode cX9_cutsOf 27 = .ok (.if_icmp .ge 42, 3) := by decide +kernel
theorem dX9_cutsOf_30 : decode cX9_cutsOf 30 = .ok (.aload_n 0, 1) := by decide +kernel
theorem dX9_cutsOf_31 : decode cX9_cutsOf 31 = .ok (.getfield 37, 3) := by decide +kernel
theorem dX9_cutsOf_34 : decode cX9_cutsOf 34 = .ok (.aload_n 0, 1) := by decide +kernel
theorem dX9_cutsOf_35 : decode cX9_cutsOf 35 = .ok (.getfield 140, 3) := by decide +kernel
theorem dX9_cutsOf_38 : decode cX9_cutsOf 38 = .ok (.iconst 1, 1) := by decide +kernel
theorem dX9_cutsOf_39 : decode cX9_cutsOf 39 = .ok (.iadd, 1) := by decide +kernel
theorem dX9_cutsOf_40 : decode cX9_cutsOf 40 = .ok (.aload_n 0, 1) := by decide +kernel
theorem dX9_cutsOf_41 : decode cX9_cutsOf 41 = .ok (.iload_n 1, 1) := by decide +kernel
theorem dX9_cutsOf_42 : decode cX9_cutsOf 42 = .ok (.iload_n 2, 1) := by decide +kernel
theorem dX9_cutsOf_43 : decode cX9_cutsOf 43 = .ok (.aload_n 0, 1) := by decide +kernel
theorem dX9_cutsOf_44 : decode cX9_cutsOf 44 = .ok (.getfield 37, 3) := by decide +kernel
theorem dX9_cutsOf_47 : decode cX9_cutsOf 47 = .ok (.aload_n 0, 1) := by decide +kernel
theorem dX9_cutsOf_48 : decode cX9_cutsOf 48 = .ok (.getfield 140, 3) := by decide +kernel
theorem dX9_cutsOf_51 : decode cX9_cutsOf 51 = .ok (.iaload, 1) := by decide +kernel
theorem dX9_cutsOf_52 : decode cX9_cutsOf 52 = .ok (.invokevirtual 143, 3) := by decide +kernel
theorem dX9_cutsOf_55 : decode cX9_cutsOf 55 = .ok (.iastore, 1) := by decide +kernel
theorem dX9_cutsOf_56 : decode cX9_cutsOf 56 = .ok (.aload_n 0, 1) := by decide +kernel
theorem dX9_cutsOf_57 : decode cX9_cutsOf 57 = .ok (.dup, 1) := by decide +kernel
theorem dX9_cutsOf_58 : decode cX9_cutsOf 58 = .ok (.getfield 140, 3) := by decide +kernel
theorem dX9_cutsOf_61 : decode cX9_cutsOf 61 = .ok (.iconst 1, 1) := by decide +kernel
theorem dX9_cutsOf_62 : decode cX9_cutsOf 62 = .ok (.iadd, 1) := by decide +kernel
theorem dX9_cutsOf_63 : decode cX9_cutsOf 63 = .ok (.putfield 140, 3) := by decide +kernel
theorem dX9_cutsOf_66 : decode cX9_cutsOf 66 = .ok (.goto (-54), 3) := by decide +kernel
theorem dX9_cutsOf_69 : decode cX9_cutsOf 69 = .ok (.return_, 1) := by decide +kernel
theorem dX9_cuts_0 : decode cX9_cuts 0 = .ok (.aload_n 0, 1) := by decide +kernel
theorem dX9_cuts_1 : decode cX9_cuts 1 = .ok (.iload_n 1, 1) := by decide +kernel
theorem dX9_cuts_2 : decode cX9_cuts 2 = .ok (.invokevirtual 127, 3) := by decide +kernel
theorem dX9_cuts_5 : decode cX9_cuts 5 = .ok (.ifCond .eq 10, 3) := by decide +kernel
theorem dX9_cuts_8 : decode cX9_cuts 8 = .ok (.iload_n 2, 1) := by decide +kernel
theorem dX9_cuts_9 : decode cX9_cuts 9 = .ok (.invokestatic 113, 3) := by decide +kernel
theorem dX9_cuts_12 : decode cX9_cuts 12 = .ok (.ifCond .ne 5, 3) := by decide +kernel
theorem dX9_cuts_15 : decode cX9_cuts 15 = .ok (.iconst (-1), 1) := by decide +kernel
theorem dX9_cuts_16 : decode cX9_cuts 16 = .ok (.ireturn, 1) := by decide +kernel
theorem dX9_cuts_17 : decode cX9_cuts 17 = .ok (.aload_n 0, 1) := by decide +kernel
theorem dX9_cuts_18 : decode cX9_cuts 18 = .ok (.iload_n 1, 1) := by decide +kernel
theorem dX9_cuts_19 : decode cX9_cuts 19 = .ok (.iload_n 2, 1) := by decide +kernel
theorem dX9_cuts_20 : decode cX9_cuts 20 = .ok (.invokevirtual 146, 3) := by decide +kernel
theorem dX9_cuts_23 : decode cX9_cuts 23 = .ok (.aload_n 0, 1) := by decide +kernel
theorem dX9_cuts_24 : decode cX9_cuts 24 = .ok (.getfield 140, 3) := by decide +kernel
theorem dX9_cuts_27 : decode cX9_cuts 27 = .ok (.ireturn, 1) := by decide +kernel
theorem dX9_cut_0 : decode cX9_cut 0 = .ok (.aload_n 0, 1) := by decide +kernel
theorem dX9_cut_1 : decode cX9_cut 1 = .ok (.iload_n 1, 1) := by decide +kernel
theorem dX9_cut_2 : decode cX9_cut 2 = .ok (.invokevirtual 127, 3) := by decide +kernel
theorem dX9_cut_5 : decode cX9_cut 5 = .ok (.ifCond .eq 14, 3) := by decide +kernel
theorem dX9_cut_8 : decode cX9_cut 8 = .ok (.iload_n 2, 1) := by decide +kernel
theorem dX9_cut_9 : decode cX9_cut 9 = .ok (.invokestatic 113, 3) := by decide +kernel
theorem dX9_cut_12 : decode cX9_cut 12 = .ok (.ifCond .eq 7, 3) := by decide +kernel
theorem dX9_cut_15 : decode cX9_cut 15 = .ok (.iload_n 3, 1) := by decide +kernel
theorem dX9_cut_16 : decode cX9_cut 16 = .ok (.ifCond .ge 5, 3) := by decide +kernel
theorem dX9_cut_19 : decode cX9_cut 19 = .ok (.iconst (-1), 1) := by decide +kernel
theorem dX9_cut_20 : decode cX9_cut 20 = .ok (.ireturn, 1) := by decide +kernel
theorem dX9_cut_21 : decode cX9_cut 21 = .ok (.aload_n 0, 1) := by decide +kernel
theorem dX9_cut_22 : decode cX9_cut 22 = .ok (.iload_n 1, 1) := by decide +kernel
theorem dX9_cut_23 : decode cX9_cut 23 = .ok (.iload_n 2, 1) := by decide +kernel
theorem dX9_cut_24 : decode cX9_cut 24 = .ok (.invokevirtual 146, 3) := by decide +kernel
theorem dX9_cut_27 : decode cX9_cut 27 = .ok (.iload_n 3, 1) := by decide +kernel
theorem dX9_cut_28 : decode cX9_cut 28 = .ok (.aload_n 0, 1) := by decide +kernel
theorem dX9_cut_29 : decode cX9_cut 29 = .ok (.getfield 140, 3) := by decide +kernel
theorem dX9_cut_32 : decode cX9_cut 32 = .ok (.if_icmp .gt 12, 3) := by decide +kernel
theorem dX9_cut_35 : decode cX9_cut 35 = .ok (.aload_n 0, 1) := by decide +kernel
theorem dX9_cut_36 : decode cX9_cut 36 = .ok (.getfield 37, 3) := by decide +kernel
theorem dX9_cut_39 : decode cX9_cut 39 = .ok (.iload_n 3, 1) := by decide +kernel
theorem dX9_cut_40 : decode cX9_cut 40 = .ok (.iaload, 1) := by decide +kernel
theorem dX9_cut_41 : decode cX9_cut 41 = .ok (.goto 4, 3) := by decide +kernel
theorem dX9_cut_44 : decode cX9_cut 44 = .ok (.iconst (-1), 1) := by decide +kernel
theorem dX9_cut_45 : decode cX9_cut 45 = .ok (.ireturn, 1) := by decide +kernel
theorem dX9_isAlike_0 : decode cX9_isAlike 0 = .ok (.iload_n 3, 1) := by decide +kernel
theorem dX9_isAlike_1 : decode cX9_isAlike 1 = .ok (.iload_n 2, 1) := by decide +kernel
theorem dX9_isAlike_2 : decode cX9_isAlike 2 = .ok (.isub, 1) := by decide +kernel
theorem dX9_isAlike_3 : decode cX9_isAlike 3 = .ok (.iload 6, 2) := by decide +kernel
theorem dX9_isAlike_5 : decode cX9_isAlike 5 = .ok (.iload 5, 2) := by decide +kernel
theorem dX9_isAlike_7 : decode cX9_isAlike 7 = .ok (.isub, 1) := by decide +kernel
theorem dX9_isAlike_8 : decode cX9_isAlike 8 = .ok (.if_icmp .eq 5, 3) := by decide +kernel
theorem dX9_isAlike_11 : decode cX9_isAlike 11 = .ok (.iconst 0, 1) := by decide +kernel
theorem dX9_isAlike_12 : decode cX9_isAlike 12 = .ok (.ireturn, 1) := by decide +kernel
theorem dX9_isAlike_13 : decode cX9_isAlike 13 = .ok (.iconst 0, 1) := by decide +kernel
theorem dX9_isAlike_14 : decode cX9_isAlike 14 = .ok (.istore 7, 2) := by decide +kernel
theorem dX9_isAlike_16 : decode cX9_isAlike 16 = .ok (.iload 7, 2) := by decide +kernel
theorem dX9_isAlike_18 : decode cX9_isAlike 18 = .ok (.iload_n 3, 1) := by decide +kernel
theorem dX9_isAlike_19 : decode cX9_isAlike 19 = .ok (.iload_n 2, 1) := by decide +kernel
theorem dX9_isAlike_20 : decode cX9_isAlike 20 = .ok (.isub, 1) := by decide +kernel
theorem dX9_isAlike_21 : decode cX9_isAlike 21 = .ok (.if_icmp .ge 46, 3) := by decide +kernel
theorem dX9_isAlike_24 : decode cX9_isAlike 24 = .ok (.aload_n 0, 1) := by decide +kernel
theorem dX9_isAlike_25 : decode cX9_isAlike 25 = .ok (.getfield 13, 3) := by decide +kernel
theorem dX9_isAlike_28 : decode cX9_isAlike 28 = .ok (.sipush 600, 3) := by decide +kernel
theorem dX9_isAlike_31 : decode cX9_isAlike 31 = .ok (.iload_n 1, 1) := by decide +kernel
theorem dX9_isAlike_32 : decode cX9_isAlike 32 = .ok (.imul, 1) := by decide +kernel
theorem dX9_isAlike_33 : decode cX9_isAlike 33 = .ok (.iload_n 2, 1) := by decide +kernel
theorem dX9_isAlike_34 : decode cX9_isAlike 34 = .ok (.iadd, 1) := by decide +kernel
theorem dX9_isAlike_35 : decode cX9_isAlike 35 = .ok (.iload 7, 2) := by decide +kernel
theorem dX9_isAlike_37 : decode cX9_isAlike 37 = .ok (.iadd, 1) := by decide +kernel
theorem dX9_isAlike_38 : decode cX9_isAlike 38 = .ok (.iaload, 1) := by decide +kernel
theorem dX9_isAlike_39 : decode cX9_isAlike 39 = .ok (.aload_n 0, 1) := by decide +kernel
theorem dX9_isAlike_40 : decode cX9_isAlike 40 = .ok (.getfield 13, 3) := by decide +kernel
theorem dX9_isAlike_43 : decode cX9_isAlike 43 = .ok (.sipush 600, 3) := by decide +kernel
theorem dX9_isAlike_46 : decode cX9_isAlike 46 = .ok (.iload 4, 2) := by decide +kernel
theorem dX9_isAlike_48 : decode cX9_isAlike 48 = .ok (.imul, 1) := by decide +kernel
theorem dX9_isAlike_49 : decode cX9_isAlike 49 = .ok (.iload 5, 2) := by decide +kernel
theorem dX9_isAlike_51 : decode cX9_isAlike 51 = .ok (.iadd, 1) := by decide +kernel
theorem dX9_isAlike_52 : decode cX9_isAlike 52 = .ok (.iload 7, 2) := by decide +kernel
theorem dX9_isAlike_54 : decode cX9_isAlike 54 = .ok (.iadd, 1) := by decide +kernel
theorem dX9_isAlike_55 : decode cX9_isAlike 55 = .ok (.iaload, 1) := by decide +kernel
theorem dX9_isAlike_56 : decode cX9_isAlike 56 = .ok (.if_icmp .eq 5, 3) := by decide +kernel
theorem dX9_isAlike_59 : decode cX9_isAlike 59 = .ok (.iconst 0, 1) := by decide +kernel
theorem dX9_isAlike_60 : decode cX9_isAlike 60 = .ok (.ireturn, 1) := by decide +kernel
theorem dX9_isAlike_61 : decode cX9_isAlike 61 = .ok (.iinc 7 1, 3) := by decide +kernel
theorem dX9_isAlike_64 : decode cX9_isAlike 64 = .ok (.goto (-48), 3) := by decide +kernel
theorem dX9_isAlike_67 : decode cX9_isAlike 67 = .ok (.iconst 1, 1) := by decide +kernel
theorem dX9_isAlike_68 : decode cX9_isAlike 68 = .ok (.ireturn, 1) := by decide +kernel
theorem dX9_othersOf_0 : decode cX9_othersOf 0 = .ok (.aload_n 0, 1) := by decide +kernel
theorem dX9_othersOf_1 : decode cX9_othersOf 1 = .ok (.iload_n 1, 1) := by decide +kernel
theorem dX9_othersOf_2 : decode cX9_othersOf 2 = .ok (.iload_n 2, 1) := by decide +kernel
theorem dX9_othersOf_3 : decode cX9_othersOf 3 = .ok (.invokevirtual 146, 3) := by decide +kernel
theorem dX9_othersOf_6 : decode cX9_othersOf 6 = .ok (.aload_n 0, 1) := by decide +kernel
theorem dX9_othersOf_7 : decode cX9_othersOf 7 = .ok (.aload_n 0, 1) := by decide +kernel
theorem dX9_othersOf_8 : decode cX9_othersOf 8 = .ok (.getfield 140, 3) := by decide +kernel
theorem dX9_othersOf_11 : decode cX9_othersOf 11 = .ok (.putfield 150, 3) := by decide +kernel
theorem dX9_othersOf_14 : decode cX9_othersOf 14 = .ok (.iconst 0, 1) := by decide +kernel
theorem dX9_othersOf_15 : decode cX9_othersOf 15 = .ok (.istore_n 3, 1) := by decide +kernel
theorem dX9_othersOf_16 : decode cX9_othersOf 16 = .ok (.iload_n 3, 1) := by decide +kernel
theorem dX9_othersOf_17 : decode cX9_othersOf 17 = .ok (.aload_n 0, 1) := by decide +kernel
theorem dX9_othersOf_18 : decode cX9_othersOf 18 = .ok (.getfield 140, 3) := by decide +kernel
theorem dX9_othersOf_21 : decode cX9_othersOf 21 = .ok (.if_icmp .gt 21, 3) := by decide +kernel
theorem dX9_othersOf_24 : decode cX9_othersOf 24 = .ok (.aload_n 0, 1) := by decide +kernel
theorem dX9_othersOf_25 : decode cX9_othersOf 25 = .ok (.getfield 40, 3) := by decide +kernel
theorem dX9_othersOf_28 : decode cX9_othersOf 28 = .ok (.iload_n 3, 1) := by decide +kernel
theorem dX9_othersOf_29 : decode cX9_othersOf 29 = .ok (.aload_n 0, 1) := by decide +kernel
theorem dX9_othersOf_30 : decode cX9_othersOf 30 = .ok (.getfield 37, 3) := by decide +kernel
theorem dX9_othersOf_33 : decode cX9_othersOf 33 = .ok (.iload_n 3, 1) := by decide +kernel
theorem dX9_othersOf_34 : decode cX9_othersOf 34 = .ok (.iaload, 1) := by decide +kernel
theorem dX9_othersOf_35 : decode cX9_othersOf 35 = .ok (.iastore, 1) := by decide +kernel
theorem dX9_othersOf_36 : decode cX9_othersOf 36 = .ok (.iinc 3 1, 3) := by decide +kernel
theorem dX9_othersOf_39 : decode cX9_othersOf 39 = .ok (.goto (-23), 3) := by decide +kernel
theorem dX9_othersOf_42 : decode cX9_othersOf 42 = .ok (.return_, 1) := by decide +kernel
theorem dX9_agree_0 : decode cX9_agree 0 = .ok (.aload_n 0, 1) := by decide +kernel
theorem dX9_agree_1 : decode cX9_agree 1 = .ok (.iload_n 1, 1) := by decide +kernel
theorem dX9_agree_2 : decode cX9_agree 2 = .ok (.invokevirtual 127, 3) := by decide +kernel
theorem dX9_agree_5 : decode cX9_agree 5 = .ok (.ifCond .eq 17, 3) := by decide +kernel
theorem dX9_agree_8 : decode cX9_agree 8 = .ok (.iload_n 2, 1) := by decide +kernel
theorem dX9_agree_9 : decode cX9_agree 9 = .ok (.invokestatic 113, 3) := by decide +kernel
theorem dX9_agree_12 : decode cX9_agree 12 = .ok (.ifCond .eq 10, 3) := by decide +kernel
theorem dX9_agree_15 : decode cX9_agree 15 = .ok (.iload_n 3, 1) := by decide +kernel
theorem dX9_agree_16 : decode cX9_agree 16 = .ok (.invokestatic 113, 3) := by decide +kernel
theorem dX9_agree_19 : decode cX9_agree 19 = .ok (.ifCond .ne 5, 3) := by decide +kernel
theorem dX9_agree_22 : decode cX9_agree 22 = .ok (.iconst (-1), 1) := by decide +kernel
