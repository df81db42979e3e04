theorem dX9_agree_23 : decode cX9_agree 23 = .ok (.ireturn, 1) := by decide +kernel
theorem dX9_agree_24 : decode cX9_agree 24 = .ok (.aload_n 0, 1) := by decide +kernel
theorem dX9_agree_25 : decode cX9_agree 25 = .ok (.iload_n 1, 1) := by decide +kernel
theorem dX9_agree_26 : decode cX9_agree 26 = .ok (.iload_n 2, 1) := by decide +kernel
theorem dX9_agree_27 : decode cX9_agree 27 = .ok (.invokevirtual 153, 3) := by decide +kernel
theorem dX9_agree_30 : decode cX9_agree 30 = .ok (.aload_n 0, 1) := by decide +kernel
theorem dX9_agree_31 : decode cX9_agree 31 = .ok (.iload_n 1, 1) := by decide +kernel
theorem dX9_agree_32 : decode cX9_agree 32 = .ok (.iload_n 3, 1) := by decide +kernel
theorem dX9_agree_33 : decode cX9_agree 33 = .ok (.invokevirtual 146, 3) := by decide +kernel
theorem dX9_agree_36 : decode cX9_agree 36 = .ok (.iconst 0, 1) := by decide +kernel
theorem dX9_agree_37 : decode cX9_agree 37 = .ok (.istore 4, 2) := by decide +kernel
theorem dX9_agree_39 : decode cX9_agree 39 = .ok (.iload 4, 2) := by decide +kernel
theorem dX9_agree_41 : decode cX9_agree 41 = .ok (.aload_n 0, 1) := by decide +kernel
theorem dX9_agree_42 : decode cX9_agree 42 = .ok (.getfield 140, 3) := by decide +kernel
theorem dX9_agree_45 : decode cX9_agree 45 = .ok (.if_icmp .ge 79, 3) := by decide +kernel
theorem dX9_agree_48 : decode cX9_agree 48 = .ok (.iload 4, 2) := by decide +kernel
theorem dX9_agree_50 : decode cX9_agree 50 = .ok (.aload_n 0, 1) := by decide +kernel
theorem dX9_agree_51 : decode cX9_agree 51 = .ok (.getfield 150, 3) := by decide +kernel
theorem dX9_agree_54 : decode cX9_agree 54 = .ok (.if_icmp .ge 70, 3) := by decide +kernel
theorem dX9_agree_57 : decode cX9_agree 57 = .ok (.aload_n 0, 1) := by decide +kernel
theorem dX9_agree_58 : decode cX9_agree 58 = .ok (.iload_n 2, 1) := by decide +kernel
theorem dX9_agree_59 : decode cX9_agree 59 = .ok (.aload_n 0, 1) := by decide +kernel
theorem dX9_agree_60 : decode cX9_agree 60 = .ok (.getfield 40, 3) := by decide +kernel
theorem dX9_agree_63 : decode cX9_agree 63 = .ok (.aload_n 0, 1) := by decide +kernel
theorem dX9_agree_64 : decode cX9_agree 64 = .ok (.getfield 150, 3) := by decide +kernel
theorem dX9_agree_67 : decode cX9_agree 67 = .ok (.iconst 1, 1) := by decide +kernel
theorem dX9_agree_68 : decode cX9_agree 68 = .ok (.isub, 1) := by decide +kernel
theorem dX9_agree_69 : decode cX9_agree 69 = .ok (.iload 4, 2) := by decide +kernel
theorem dX9_agree_71 : decode cX9_agree 71 = .ok (.isub, 1) := by decide +kernel
theorem dX9_agree_72 : decode cX9_agree 72 = .ok (.iaload, 1) := by decide +kernel
theorem dX9_agree_73 : decode cX9_agree 73 = .ok (.aload_n 0, 1) := by decide +kernel
theorem dX9_agree_74 : decode cX9_agree 74 = .ok (.getfield 40, 3) := by decide +kernel
theorem dX9_agree_77 : decode cX9_agree 77 = .ok (.aload_n 0, 1) := by decide +kernel
theorem dX9_agree_78 : decode cX9_agree 78 = .ok (.getfield 150, 3) := by decide +kernel
theorem dX9_agree_81 : decode cX9_agree 81 = .ok (.iload 4, 2) := by decide +kernel
theorem dX9_agree_83 : decode cX9_agree 83 = .ok (.isub, 1) := by decide +kernel
theorem dX9_agree_84 : decode cX9_agree 84 = .ok (.iaload, 1) := by decide +kernel
theorem dX9_agree_85 : decode cX9_agree 85 = .ok (.iload_n 3, 1) := by decide +kernel
theorem dX9_agree_86 : decode cX9_agree 86 = .ok (.aload_n 0, 1) := by decide +kernel
theorem dX9_agree_87 : decode cX9_agree 87 = .ok (.getfield 37, 3) := by decide +kernel
theorem dX9_agree_90 : decode cX9_agree 90 = .ok (.aload_n 0, 1) := by decide +kernel
theorem dX9_agree_91 : decode cX9_agree 91 = .ok (.getfield 140, 3) := by decide +kernel
theorem dX9_agree_94 : decode cX9_agree 94 = .ok (.iconst 1, 1) := by decide +kernel
theorem dX9_agree_95 : decode cX9_agree 95 = .ok (.isub, 1) := by decide +kernel
theorem dX9_agree_96 : decode cX9_agree 96 = .ok (.iload 4, 2) := by decide +kernel
theorem dX9_agree_98 : decode cX9_agree 98 = .ok (.isub, 1) := by decide +kernel
theorem dX9_agree_99 : decode cX9_agree 99 = .ok (.iaload, 1) := by decide +kernel
theorem dX9_agree_100 : decode cX9_agree 100 = .ok (.aload_n 0, 1) := by decide +kernel
theorem dX9_agree_101 : decode cX9_agree 101 = .ok (.getfield 37, 3) := by decide +kernel
theorem dX9_agree_104 : decode cX9_agree 104 = .ok (.aload_n 0, 1) := by decide +kernel
theorem dX9_agree_105 : decode cX9_agree 105 = .ok (.getfield 140, 3) := by decide +kernel
theorem dX9_agree_108 : decode cX9_agree 108 = .ok (.iload 4, 2) := by decide +kernel
theorem dX9_agree_110 : decode cX9_agree 110 = .ok (.isub, 1) := by decide +kernel
theorem dX9_agree_111 : decode cX9_agree 111 = .ok (.iaload, 1) := by decide +kernel
theorem dX9_agree_112 : decode cX9_agree 112 = .ok (.invokevirtual 156, 3) := by decide +kernel
theorem dX9_agree_115 : decode cX9_agree 115 = .ok (.ifCond .eq 9, 3) := by decide +kernel
theorem dX9_agree_118 : decode cX9_agree 118 = .ok (.iinc 4 1, 3) := by decide +kernel
theorem dX9_agree_121 : decode cX9_agree 121 = .ok (.goto (-82), 3) := by decide +kernel
theorem dX9_agree_124 : decode cX9_agree 124 = .ok (.iload 4, 2) := by decide +kernel
theorem dX9_agree_126 : decode cX9_agree 126 = .ok (.ireturn, 1) := by decide +kernel
theorem dX9_sent_0 : decode cX9_sent 0 = .ok (.aload_n 0, 1) := by decide +kernel
theorem dX9_sent_1 : decode cX9_sent 1 = .ok (.iload_n 1, 1) := by decide +kernel
theorem dX9_sent_2 : decode cX9_sent 2 = .ok (.invokevirtual 127, 3) := by decide +kernel
theorem dX9_sent_5 : decode cX9_sent 5 = .ok (.ifCond .eq 17, 3) := by decide +kernel
theorem dX9_sent_8 : decode cX9_sent 8 = .ok (.iload_n 2, 1) := by decide +kernel
theorem dX9_sent_9 : decode cX9_sent 9 = .ok (.invokestatic 113, 3) := by decide +kernel
theorem dX9_sent_12 : decode cX9_sent 12 = .ok (.ifCond .eq 10, 3) := by decide +kernel
theorem dX9_sent_15 : decode cX9_sent 15 = .ok (.iload_n 3, 1) := by decide +kernel
theorem dX9_sent_16 : decode cX9_sent 16 = .ok (.invokestatic 113, 3) := by decide +kernel
theorem dX9_sent_19 : decode cX9_sent 19 = .ok (.ifCond .ne 5, 3) := by decide +kernel
theorem dX9_sent_22 : decode cX9_sent 22 = .ok (.iconst (-1), 1) := by decide +kernel
theorem dX9_sent_23 : decode cX9_sent 23 = .ok (.ireturn, 1) := by decide +kernel
theorem dX9_sent_24 : decode cX9_sent 24 = .ok (.aload_n 0, 1) := by decide +kernel
theorem dX9_sent_25 : decode cX9_sent 25 = .ok (.iload_n 1, 1) := by decide +kernel
theorem dX9_sent_26 : decode cX9_sent 26 = .ok (.iload_n 2, 1) := by decide +kernel
theorem dX9_sent_27 : decode cX9_sent 27 = .ok (.invokevirtual 153, 3) := by decide +kernel
theorem dX9_sent_30 : decode cX9_sent 30 = .ok (.aload_n 0, 1) := by decide +kernel
theorem dX9_sent_31 : decode cX9_sent 31 = .ok (.iload_n 1, 1) := by decide +kernel
theorem dX9_sent_32 : decode cX9_sent 32 = .ok (.iload_n 3, 1) := by decide +kernel
theorem dX9_sent_33 : decode cX9_sent 33 = .ok (.invokevirtual 146, 3) := by decide +kernel
theorem dX9_sent_36 : decode cX9_sent 36 = .ok (.iconst 0, 1) := by decide +kernel
theorem dX9_sent_37 : decode cX9_sent 37 = .ok (.istore 4, 2) := by decide +kernel
theorem dX9_sent_39 : decode cX9_sent 39 = .ok (.iconst 0, 1) := by decide +kernel
theorem dX9_sent_40 : decode cX9_sent 40 = .ok (.istore 5, 2) := by decide +kernel
theorem dX9_sent_42 : decode cX9_sent 42 = .ok (.iload 5, 2) := by decide +kernel
theorem dX9_sent_44 : decode cX9_sent 44 = .ok (.aload_n 0, 1) := by decide +kernel
theorem dX9_sent_45 : decode cX9_sent 45 = .ok (.getfield 140, 3) := by decide +kernel
theorem dX9_sent_48 : decode cX9_sent 48 = .ok (.if_icmp .ge 163, 3) := by decide +kernel
theorem dX9_sent_51 : decode cX9_sent 51 = .ok (.iconst 0, 1) := by decide +kernel
theorem dX9_sent_52 : decode cX9_sent 52 = .ok (.istore 6, 2) := by decide +kernel
theorem dX9_sent_54 : decode cX9_sent 54 = .ok (.iconst 0, 1) := by decide +kernel
theorem dX9_sent_55 : decode cX9_sent 55 = .ok (.istore 7, 2) := by decide +kernel
theorem dX9_sent_57 : decode cX9_sent 57 = .ok (.iload 7, 2) := by decide +kernel
theorem dX9_sent_59 : decode cX9_sent 59 = .ok (.aload_n 0, 1) := by decide +kernel
theorem dX9_sent_60 : decode cX9_sent 60 = .ok (.getfield 150, 3) := by decide +kernel
theorem dX9_sent_63 : decode cX9_sent 63 = .ok (.if_icmp .ge 54, 3) := by decide +kernel
theorem dX9_sent_66 : decode cX9_sent 66 = .ok (.iload 6, 2) := by decide +kernel
theorem dX9_sent_68 : decode cX9_sent 68 = .ok (.ifCond .ne 49, 3) := by decide +kernel
theorem dX9_sent_71 : decode cX9_sent 71 = .ok (.aload_n 0, 1) := by decide +kernel
theorem dX9_sent_72 : decode cX9_sent 72 = .ok (.iload_n 2, 1) := by decide +kernel
theorem dX9_sent_73 : decode cX9_sent 73 = .ok (.aload_n 0, 1) := by decide +kernel
theorem dX9_sent_74 : decode cX9_sent 74 = .ok (.getfield 40, 3) := by decide +kernel
theorem dX9_sent_77 : decode cX9_sent 77 = .ok (.iload 7, 2) := by decide +kernel
theorem dX9_sent_79 : decode cX9_sent 79 = .ok (.iaload, 1) := by decide +kernel
theorem dX9_sent_80 : decode cX9_sent 80 = .ok (.aload_n 0, 1) := by decide +kernel
theorem dX9_sent_81 : decode cX9_sent 81 = .ok (.getfield 40, 3) := by decide +kernel
theorem dX9_sent_84 : decode cX9_sent 84 = .ok (.iload 7, 2) := by decide +kernel
theorem dX9_sent_86 : decode cX9_sent 86 = .ok (.iconst 1, 1) := by decide +kernel
theorem dX9_sent_87 : decode cX9_sent 87 = .ok (.iadd, 1) := by decide +kernel
theorem dX9_sent_88 : decode cX9_sent 88 = .ok (.iaload, 1) := by decide +kernel
theorem dX9_sent_89 : decode cX9_sent 89 = .ok (.iload_n 3, 1) := by decide +kernel
theorem dX9_sent_90 : decode cX9_sent 90 = .ok (.aload_n 0, 1) := by decide +kernel
theorem dX9_sent_91 : decode cX9_sent 91 = .ok (.getfield 37, 3) := by decide +kernel
theorem dX9_sent_94 : decode cX9_sent 94 = .ok (.iload 5, 2) := by decide +kernel
theorem dX9_sent_96 : decode cX9_sent 96 = .ok (.iaload, 1) := by decide +kernel
theorem dX9_sent_97 : decode cX9_sent 97 = .ok (.aload_n 0, 1) := by decide +kernel
theorem dX9_sent_98 : decode cX9_sent 98 = .ok (.getfield 37, 3) := by decide +kernel
theorem dX9_sent_101 : decode cX9_sent 101 = .ok (.iload 5, 2) := by decide +kernel
theorem dX9_sent_103 : decode cX9_sent 103 = .ok (.iconst 1, 1) := by decide +kernel
theorem dX9_sent_104 : decode cX9_sent 104 = .ok (.iadd, 1) := by decide +kernel
theorem dX9_sent_105 : decode cX9_sent 105 = .ok (.iaload, 1) := by decide +kernel
theorem dX9_sent_106 : decode cX9_sent 106 = .ok (.invokevirtual 156, 3) := by decide +kernel
theorem dX9_sent_109 : decode cX9_sent 109 = .ok (.istore 6, 2) := by decide +kernel
theorem dX9_sent_111 : decode cX9_sent 111 = .ok (.iinc 7 1, 3) := by decide +kernel
theorem dX9_sent_114 : decode cX9_sent 114 = .ok (.goto (-57), 3) := by decide +kernel
theorem dX9_sent_117 : decode cX9_sent 117 = .ok (.iconst 0, 1) := by decide +kernel
theorem dX9_sent_118 : decode cX9_sent 118 = .ok (.istore 7, 2) := by decide +kernel
theorem dX9_sent_120 : decode cX9_sent 120 = .ok (.iload 7, 2) := by decide +kernel
theorem dX9_sent_122 : decode cX9_sent 122 = .ok (.iload 5, 2) := by decide +kernel
theorem dX9_sent_124 : decode cX9_sent 124 = .ok (.if_icmp .ge 54, 3) := by decide +kernel
theorem dX9_sent_127 : decode cX9_sent 127 = .ok (.iload 6, 2) := by decide +kernel
theorem dX9_sent_129 : decode cX9_sent 129 = .ok (.ifCond .ne 49, 3) := by decide +kernel
theorem dX9_sent_132 : decode cX9_sent 132 = .ok (.aload_n 0, 1) := by decide +kernel
theorem dX9_sent_133 : decode cX9_sent 133 = .ok (.iload_n 3, 1) := by decide +kernel
theorem dX9_sent_134 : decode cX9_sent 134 = .ok (.aload_n 0, 1) := by decide +kernel
theorem dX9_sent_135 : decode cX9_sent 135 = .ok (.getfield 37, 3) := by decide +kernel
theorem dX9_sent_138 : decode cX9_sent 138 = .ok (.iload 7, 2) := by decide +kernel
theorem dX9_sent_140 : decode cX9_sent 140 = .ok (.iaload, 1) := by decide +kernel
theorem dX9_sent_141 : decode cX9_sent 141 = .ok (.aload_n 0, 1) := by decide +kernel
theorem dX9_sent_142 : decode cX9_sent 142 = .ok (.getfield 37, 3) := by decide +kernel
theorem dX9_sent_145 : decode cX9_sent 145 = .ok (.iload 7, 2) := by decide +kernel
theorem dX9_sent_147 : decode cX9_sent 147 = .ok (.iconst 1, 1) := by decide +kernel
theorem dX9_sent_148 : decode cX9_sent 148 = .ok (.iadd, 1) := by decide +kernel
theorem dX9_sent_149 : decode cX9_sent 149 = .ok (.iaload, 1) := by decide +kernel
theorem dX9_sent_150 : decode cX9_sent 150 = .ok (.iload_n 3, 1) := by decide +kernel
theorem dX9_sent_151 : decode cX9_sent 151 = .ok (.aload_n 0, 1) := by decide +kernel
theorem dX9_sent_152 : decode cX9_sent 152 = .ok (.getfield 37, 3) := by decide +kernel
theorem dX9_sent_155 : decode cX9_sent 155 = .ok (.iload 5, 2) := by decide +kernel
theorem dX9_sent_157 : decode cX9_sent 157 = .ok (.iaload, 1) := by decide +kernel
theorem dX9_sent_158 : decode cX9_sent 158 = .ok (.aload_n 0, 1) := by decide +kernel
theorem dX9_sent_159 : decode cX9_sent 159 = .ok (.getfield 37, 3) := by decide +kernel
theorem dX9_sent_162 : decode cX9_sent 162 = .ok (.iload 5, 2) := by decide +kernel
theorem dX9_sent_164 : decode cX9_sent 164 = .ok (.iconst 1, 1) := by decide +kernel
theorem dX9_sent_165 : decode cX9_sent 165 = .ok (.iadd, 1) := by decide +kernel
theorem dX9_sent_166 : decode cX9_sent 166 = .ok (.iaload, 1) := by decide +kernel
theorem dX9_sent_167 : decode cX9_sent 167 = .ok (.invokevirtual 156, 3) := by decide +kernel
theorem dX9_sent_170 : decode cX9_sent 170 = .ok (.istore 6, 2) := by decide +kernel
theorem dX9_sent_172 : decode cX9_sent 172 = .ok (.iinc 7 1, 3) := by decide +kernel
theorem dX9_sent_175 : decode cX9_sent 175 = .ok (.goto (-55), 3) := by decide +kernel
theorem dX9_sent_178 : decode cX9_sent 178 = .ok (.iload 6, 2) := by decide +kernel
theorem dX9_sent_180 : decode cX9_sent 180 = .ok (.ifCond .ne 25, 3) := by decide +kernel
theorem dX9_sent_183 : decode cX9_sent 183 = .ok (.iload 4, 2) := by decide +kernel
theorem dX9_sent_185 : decode cX9_sent 185 = .ok (.aload_n 0, 1) := by decide +kernel
theorem dX9_sent_186 : decode cX9_sent 186 = .ok (.getfield 37, 3) := by decide +kernel
theorem dX9_sent_189 : decode cX9_sent 189 = .ok (.iload 5, 2) := by decide +kernel
theorem dX9_sent_191 : decode cX9_sent 191 = .ok (.iconst 1, 1) := by decide +kernel
theorem dX9_sent_192 : decode cX9_sent 192 = .ok (.iadd, 1) := by decide +kernel
theorem dX9_sent_193 : decode cX9_sent 193 = .ok (.iaload, 1) := by decide +kernel
theorem dX9_sent_194 : decode cX9_sent 194 = .ok (.aload_n 0, 1) := by decide +kernel
theorem dX9_sent_195 : decode cX9_sent 195 = .ok (.getfield 37, 3) := by decide +kernel
theorem dX9_sent_198 : decode cX9_sent 198 = .ok (.iload 5, 2) := by decide +kernel
theorem dX9_sent_200 : decode cX9_sent 200 = .ok (.iaload, 1) := by decide +kernel
theorem dX9_sent_201 : decode cX9_sent 201 = .ok (.isub, 1) := by decide +kernel
theorem dX9_sent_202 : decode cX9_sent 202 = .ok (.iadd, 1) := by decide +kernel
theorem dX9_sent_203 : decode cX9_sent 203 = .ok (.istore 4, 2) := by decide +kernel
theorem dX9_sent_205 : decode cX9_sent 205 = .ok (.iinc 5 1, 3) := by decide +kernel
theorem dX9_sent_208 : decode cX9_sent 208 = .ok (.goto (-166), 3) := by decide +kernel
theorem dX9_sent_211 : decode cX9_sent 211 = .ok (.iload 4, 2) := by decide +kernel
theorem dX9_sent_213 : decode cX9_sent 213 = .ok (.ireturn, 1) := by decide +kernel
theorem dX9_printOf_0 : decode cX9_printOf 0 = .ok (.iconst 0, 1) := by decide +kernel
theorem dX9_printOf_1 : decode cX9_printOf 1 = .ok (.istore 4, 2) := by decide +kernel
theorem dX9_printOf_3 : decode cX9_printOf 3 = .ok (.iload_n 2, 1) := by decide +kernel
theorem dX9_printOf_4 : decode cX9_printOf 4 = .ok (.istore 5, 2) := by decide +kernel
theorem dX9_printOf_6 : decode cX9_printOf 6 = .ok (.iload 5, 2) := by decide +kernel
theorem dX9_printOf_8 : decode cX9_printOf 8 = .ok (.iload_n 3, 1) := by decide +kernel
theorem dX9_printOf_9 : decode cX9_printOf 9 = .ok (.if_icmp .ge 38, 3) := by decide +kernel
theorem dX9_printOf_12 : decode cX9_printOf 12 = .ok (.iload 4, 2) := by decide +kernel
theorem dX9_printOf_14 : decode cX9_printOf 14 = .ok (.aload_n 0, 1) := by decide +kernel
theorem dX9_printOf_15 : decode cX9_printOf 15 = .ok (.getfield 13, 3) := by decide +kernel
theorem dX9_printOf_18 : decode cX9_printOf 18 = .ok (.sipush 600, 3) := by decide +kernel
theorem dX9_printOf_21 : decode cX9_printOf 21 = .ok (.iload_n 1, 1) := by decide +kernel
theorem dX9_printOf_22 : decode cX9_printOf 22 = .ok (.imul, 1) := by decide +kernel
theorem dX9_printOf_23 : decode cX9_printOf 23 = .ok (.iload 5, 2) := by decide +kernel
theorem dX9_printOf_25 : decode cX9_printOf 25 = .ok (.iadd, 1) := by decide +kernel
theorem dX9_printOf_26 : decode cX9_printOf 26 = .ok (.iaload, 1) := by decide +kernel
theorem dX9_printOf_27 : decode cX9_printOf 27 = .ok (.iload 5, 2) := by decide +kernel
theorem dX9_printOf_29 : decode cX9_printOf 29 = .ok (.iload_n 2, 1) := by decide +kernel
theorem dX9_printOf_30 : decode cX9_printOf 30 = .ok (.isub, 1) := by decide +kernel
theorem dX9_printOf_31 : decode cX9_printOf 31 = .ok (.iconst 1, 1) := by decide +kernel
theorem dX9_printOf_32 : decode cX9_printOf 32 = .ok (.iadd, 1) := by decide +kernel
theorem dX9_printOf_33 : decode cX9_printOf 33 = .ok (.imul, 1) := by decide +kernel
theorem dX9_printOf_34 : decode cX9_printOf 34 = .ok (.iadd, 1) := by decide +kernel
theorem dX9_printOf_35 : decode cX9_printOf 35 = .ok (.sipush 256, 3) := by decide +kernel
theorem dX9_printOf_38 : decode cX9_printOf 38 = .ok (.irem, 1) := by decide +kernel
theorem dX9_printOf_39 : decode cX9_printOf 39 = .ok (.istore 4, 2) := by decide +kernel
theorem dX9_printOf_41 : decode cX9_printOf 41 = .ok (.iinc 5 1, 3) := by decide +kernel
theorem dX9_printOf_44 : decode cX9_printOf 44 = .ok (.goto (-38), 3) := by decide +kernel
theorem dX9_printOf_47 : decode cX9_printOf 47 = .ok (.iload 4, 2) := by decide +kernel
theorem dX9_printOf_49 : decode cX9_printOf 49 = .ok (.ireturn, 1) := by decide +kernel
theorem dX9_cost_0 : decode cX9_cost 0 = .ok (.aload_n 0, 1) := by decide +kernel
theorem dX9_cost_1 : decode cX9_cost 1 = .ok (.iload_n 1, 1) := by decide +kernel
theorem dX9_cost_2 : decode cX9_cost 2 = .ok (.invokevirtual 127, 3) := by decide +kernel
theorem dX9_cost_5 : decode cX9_cost 5 = .ok (.ifCond .ne 5, 3) := by decide +kernel
theorem dX9_cost_8 : decode cX9_cost 8 = .ok (.iconst (-1), 1) := by decide +kernel
theorem dX9_cost_9 : decode cX9_cost 9 = .ok (.ireturn, 1) := by decide +kernel
theorem dX9_cost_10 : decode cX9_cost 10 = .ok (.iconst 0, 1) := by decide +kernel
theorem dX9_cost_11 : decode cX9_cost 11 = .ok (.istore_n 3, 1) := by decide +kernel
theorem dX9_cost_12 : decode cX9_cost 12 = .ok (.iconst 0, 1) := by decide +kernel
theorem dX9_cost_13 : decode cX9_cost 13 = .ok (.istore 4, 2) := by decide +kernel
theorem dX9_cost_15 : decode cX9_cost 15 = .ok (.iconst 0, 1) := by decide +kernel
theorem dX9_cost_16 : decode cX9_cost 16 = .ok (.istore 5, 2) := by decide +kernel
theorem dX9_cost_18 : decode cX9_cost 18 = .ok (.iconst 0, 1) := by decide +kernel
theorem dX9_cost_19 : decode cX9_cost 19 = .ok (.istore 6, 2) := by decide +kernel
theorem dX9_cost_21 : decode cX9_cost 21 = .ok (.iload 6, 2) := by decide +kernel
theorem dX9_cost_23 : decode cX9_cost 23 = .ok (.bipush 8, 2) := by decide +kernel
theorem dX9_cost_25 : decode cX9_cost 25 = .ok (.if_icmp .ge 244, 3) := by decide +kernel
theorem dX9_cost_28 : decode cX9_cost 28 = .ok (.iload_n 2, 1) := by decide +kernel
theorem dX9_cost_29 : decode cX9_cost 29 = .ok (.iload 6, 2) := by decide +kernel
theorem dX9_cost_31 : decode cX9_cost 31 = .ok (.ishr, 1) := by decide +kernel
theorem dX9_cost_32 : decode cX9_cost 32 = .ok (.iconst 1, 1) := by decide +kernel
theorem dX9_cost_33 : decode cX9_cost 33 = .ok (.iand, 1) := by decide +kernel
theorem dX9_cost_34 : decode cX9_cost 34 = .ok (.ifCond .ne 6, 3) := by decide +kernel
theorem dX9_cost_37 : decode cX9_cost 37 = .ok (.goto 226, 3) := by decide +kernel
theorem dX9_cost_40 : decode cX9_cost 40 = .ok (.aload_n 0, 1) := by decide +kernel
theorem dX9_cost_41 : decode cX9_cost 41 = .ok (.iload_n 1, 1) := by decide +kernel
theorem dX9_cost_42 : decode cX9_cost 42 = .ok (.iload 6, 2) := by decide +kernel
theorem dX9_cost_44 : decode cX9_cost 44 = .ok (.invokevirtual 146, 3) := by decide +kernel
theorem dX9_cost_47 : decode cX9_cost 47 = .ok (.iload 4, 2) := by decide +kernel
theorem dX9_cost_49 : decode cX9_cost 49 = .ok (.aload_n 0, 1) := by decide +kernel
theorem dX9_cost_50 : decode cX9_cost 50 = .ok (.getfield 140, 3) := by decide +kernel
theorem dX9_cost_53 : decode cX9_cost 53 = .ok (.iadd, 1) := by decide +kernel
theorem dX9_cost_54 : decode cX9_cost 54 = .ok (.istore 4, 2) := by decide +kernel
theorem dX9_cost_56 : decode cX9_cost 56 = .ok (.iconst 0, 1) := by decide +kernel
theorem dX9_cost_57 : decode cX9_cost 57 = .ok (.istore 7, 2) := by decide +kernel
theorem dX9_cost_59 : decode cX9_cost 59 = .ok (.iload 7, 2) := by decide +kernel
theorem dX9_cost_61 : decode cX9_cost 61 = .ok (.aload_n 0, 1) := by decide +kernel
theorem dX9_cost_62 : decode cX9_cost 62 = .ok (.getfield 140, 3) := by decide +kernel
theorem dX9_cost_65 : decode cX9_cost 65 = .ok (.if_icmp .ge 198, 3) := by decide +kernel
theorem dX9_cost_68 : decode cX9_cost 68 = .ok (.aload_n 0, 1) := by decide +kernel
theorem dX9_cost_69 : decode cX9_cost 69 = .ok (.iload 6, 2) := by decide +kernel
theorem dX9_cost_71 : decode cX9_cost 71 = .ok (.aload_n 0, 1) := by decide +kernel
theorem dX9_cost_72 : decode cX9_cost 72 = .ok (.getfield 37, 3) := by decide +kernel
theorem dX9_cost_75 : decode cX9_cost 75 = .ok (.iload 7, 2) := by decide +kernel
theorem dX9_cost_77 : decode cX9_cost 77 = .ok (.iaload, 1) := by decide +kernel
theorem dX9_cost_78 : decode cX9_cost 78 = .ok (.aload_n 0, 1) := by decide +kernel
theorem dX9_cost_79 : decode cX9_cost 79 = .ok (.getfield 37, 3) := by decide +kernel
theorem dX9_cost_82 : decode cX9_cost 82 = .ok (.iload 7, 2) := by decide +kernel
theorem dX9_cost_84 : decode cX9_cost 84 = .ok (.iconst 1, 1) := by decide +kernel
theorem dX9_cost_85 : decode cX9_cost 85 = .ok (.iadd, 1) := by decide +kernel
theorem dX9_cost_86 : decode cX9_cost 86 = .ok (.iaload, 1) := by decide +kernel
theorem dX9_cost_87 : decode cX9_cost 87 = .ok (.invokevirtual 160, 3) := by decide +kernel
theorem dX9_cost_90 : decode cX9_cost 90 = .ok (.istore 8, 2) := by decide +kernel
theorem dX9_cost_92 : decode cX9_cost 92 = .ok (.iconst 0, 1) := by decide +kernel
theorem dX9_cost_93 : decode cX9_cost 93 = .ok (.istore 9, 2) := by decide +kernel
theorem dX9_cost_95 : decode cX9_cost 95 = .ok (.iconst 0, 1) := by decide +kernel
theorem dX9_cost_96 : decode cX9_cost 96 = .ok (.istore 10, 2) := by decide +kernel
theorem dX9_cost_98 : decode cX9_cost 98 = .ok (.iload 10, 2) := by decide +kernel
theorem dX9_cost_100 : decode cX9_cost 100 = .ok (.iload_n 3, 1) := by decide +kernel
theorem dX9_cost_101 : decode cX9_cost 101 = .ok (.if_icmp .ge 79, 3) := by decide +kernel
theorem dX9_cost_104 : decode cX9_cost 104 = .ok (.iload 9, 2) := by decide +kernel
theorem dX9_cost_106 : decode cX9_cost 106 = .ok (.ifCond .ne 74, 3) := by decide +kernel
theorem dX9_cost_109 : decode cX9_cost 109 = .ok (.aload_n 0, 1) := by decide +kernel
theorem dX9_cost_110 : decode cX9_cost 110 = .ok (.getfield 59, 3) := by decide +kernel
theorem dX9_cost_113 : decode cX9_cost 113 = .ok (.iload 10, 2) := by decide +kernel
theorem dX9_cost_115 : decode cX9_cost 115 = .ok (.iaload, 1) := by decide +kernel
theorem dX9_cost_116 : decode cX9_cost 116 = .ok (.iload 8, 2) := by decide +kernel
theorem dX9_cost_118 : decode cX9_cost 118 = .ok (.if_icmp .ne 53, 3) := by decide +kernel
theorem dX9_cost_121 : decode cX9_cost 121 = .ok (.aload_n 0, 1) := by decide +kernel
theorem dX9_cost_122 : decode cX9_cost 122 = .ok (.aload_n 0, 1) := by decide +kernel
theorem dX9_cost_123 : decode cX9_cost 123 = .ok (.getfield 50, 3) := by decide +kernel
theorem dX9_cost_126 : decode cX9_cost 126 = .ok (.iload 10, 2) := by decide +kernel
theorem dX9_cost_128 : decode cX9_cost 128 = .ok (.iaload, 1) := by decide +kernel
theorem dX9_cost_129 : decode cX9_cost 129 = .ok (.aload_n 0, 1) := by decide +kernel
theorem dX9_cost_130 : decode cX9_cost 130 = .ok (.getfield 53, 3) := by decide +kernel
theorem dX9_cost_133 : decode cX9_cost 133 = .ok (.iload 10, 2) := by decide +kernel
theorem dX9_cost_135 : decode cX9_cost 135 = .ok (.iaload, 1) := by decide +kernel
theorem dX9_cost_136 : decode cX9_cost 136 = .ok (.aload_n 0, 1) := by decide +kernel
theorem dX9_cost_137 : decode cX9_cost 137 = .ok (.getfield 56, 3) := by decide +kernel
theorem dX9_cost_140 : decode cX9_cost 140 = .ok (.iload 10, 2) := by decide +kernel
theorem dX9_cost_142 : decode cX9_cost 142 = .ok (.iaload, 1) := by decide +kernel
theorem dX9_cost_143 : decode cX9_cost 143 = .ok (.iload 6, 2) := by decide +kernel
theorem dX9_cost_145 : decode cX9_cost 145 = .ok (.aload_n 0, 1) := by decide +kernel
theorem dX9_cost_146 : decode cX9_cost 146 = .ok (.getfield 37, 3) := by decide +kernel
theorem dX9_cost_149 : decode cX9_cost 149 = .ok (.iload 7, 2) := by decide +kernel
theorem dX9_cost_151 : decode cX9_cost 151 = .ok (.iaload, 1) := by decide +kernel
theorem dX9_cost_152 : decode cX9_cost 152 = .ok (.aload_n 0, 1) := by decide +kernel
theorem dX9_cost_153 : decode cX9_cost 153 = .ok (.getfield 37, 3) := by decide +kernel
theorem dX9_cost_156 : decode cX9_cost 156 = .ok (.iload 7, 2) := by decide +kernel
theorem dX9_cost_158 : decode cX9_cost 158 = .ok (.iconst 1, 1) := by decide +kernel
theorem dX9_cost_159 : decode cX9_cost 159 = .ok (.iadd, 1) := by decide +kernel
theorem dX9_cost_160 : decode cX9_cost 160 = .ok (.iaload, 1) := by decide +kernel
theorem dX9_cost_161 : decode cX9_cost 161 = .ok (.invokevirtual 156, 3) := by decide +kernel
theorem dX9_cost_164 : decode cX9_cost 164 = .ok (.ifCond .eq 7, 3) := by decide +kernel
theorem dX9_cost_167 : decode cX9_cost 167 = .ok (.iconst 1, 1) := by decide +kernel
theorem dX9_cost_168 : decode cX9_cost 168 = .ok (.goto 4, 3) := by decide +kernel
theorem dX9_cost_171 : decode cX9_cost 171 = .ok (.iconst 0, 1) := by decide +kernel
theorem dX9_cost_172 : decode cX9_cost 172 = .ok (.istore 9, 2) := by decide +kernel
theorem dX9_cost_174 : decode cX9_cost 174 = .ok (.iinc 10 1, 3) := by decide +kernel
theorem dX9_cost_177 : decode cX9_cost 177 = .ok (.goto (-79), 3) := by decide +kernel
theorem dX9_cost_180 : decode cX9_cost 180 = .ok (.iload 9, 2) := by decide +kernel
theorem dX9_cost_182 : decode cX9_cost 182 = .ok (.ifCond .eq 6, 3) := by decide +kernel
theorem dX9_cost_185 : decode cX9_cost 185 = .ok (.goto 72, 3) := by decide +kernel
theorem dX9_cost_188 : decode cX9_cost 188 = .ok (.aload_n 0, 1) := by decide +kernel
theorem dX9_cost_189 : decode cX9_cost 189 = .ok (.getfield 50, 3) := by decide +kernel
theorem dX9_cost_192 : decode cX9_cost 192 = .ok (.iload_n 3, 1) := by decide +kernel
theorem dX9_cost_193 : decode cX9_cost 193 = .ok (.iload 6, 2) := by decide +kernel
theorem dX9_cost_195 : decode cX9_cost 195 = .ok (.iastore, 1) := by decide +kernel
theorem dX9_cost_196 : decode cX9_cost 196 = .ok (.aload_n 0, 1) := by decide +kernel
theorem dX9_cost_197 : decode cX9_cost 197 = .ok (.getfield 53, 3) := by decide +kernel
theorem dX9_cost_200 : decode cX9_cost 200 = .ok (.iload_n 3, 1) := by decide +kernel
theorem dX9_cost_201 : decode cX9_cost 201 = .ok (.aload_n 0, 1) := by decide +kernel
theorem dX9_cost_202 : decode cX9_cost 202 = .ok (.getfield 37, 3) := by decide +kernel
theorem dX9_cost_205 : decode cX9_cost 205 = .ok (.iload 7, 2) := by decide +kernel
theorem dX9_cost_207 : decode cX9_cost 207 = .ok (.iaload, 1) := by decide +kernel
theorem dX9_cost_208 : decode cX9_cost 208 = .ok (.iastore, 1) := by decide +kernel
theorem dX9_cost_209 : decode cX9_cost 209 = .ok (.aload_n 0, 1) := by decide +kernel
theorem dX9_cost_210 : decode cX9_cost 210 = .ok (.getfield 56, 3) := by decide +kernel
theorem dX9_cost_213 : decode cX9_cost 213 = .ok (.iload_n 3, 1) := by decide +kernel
theorem dX9_cost_214 : decode cX9_cost 214 = .ok (.aload_n 0, 1) := by decide +kernel
theorem dX9_cost_215 : decode cX9_cost 215 = .ok (.getfield 37, 3) := by decide +kernel
theorem dX9_cost_218 : decode cX9_cost 218 = .ok (.iload 7, 2) := by decide +kernel
theorem dX9_cost_220 : decode cX9_cost 220 = .ok (.iconst 1, 1) := by decide +kernel
theorem dX9_cost_221 : decode cX9_cost 221 = .ok (.iadd, 1) := by decide +kernel
theorem dX9_cost_222 : decode cX9_cost 222 = .ok (.iaload, 1) := by decide +kernel
theorem dX9_cost_223 : decode cX9_cost 223 = .ok (.iastore, 1) := by decide +kernel
theorem dX9_cost_224 : decode cX9_cost 224 = .ok (.aload_n 0, 1) := by decide +kernel
theorem dX9_cost_225 : decode cX9_cost 225 = .ok (.getfield 59, 3) := by decide +kernel
theorem dX9_cost_228 : decode cX9_cost 228 = .ok (.iload_n 3, 1) := by decide +kernel
theorem dX9_cost_229 : decode cX9_cost 229 = .ok (.iload 8, 2) := by decide +kernel
theorem dX9_cost_231 : decode cX9_cost 231 = .ok (.iastore, 1) := by decide +kernel
theorem dX9_cost_232 : decode cX9_cost 232 = .ok (.iinc 3 1, 3) := by decide +kernel
theorem dX9_cost_235 : decode cX9_cost 235 = .ok (.iload 5, 2) := by decide +kernel
theorem dX9_cost_237 : decode cX9_cost 237 = .ok (.aload_n 0, 1) := by decide +kernel
theorem dX9_cost_238 : decode cX9_cost 238 = .ok (.getfield 37, 3) := by decide +kernel
theorem dX9_cost_241 : decode cX9_cost 241 = .ok (.iload 7, 2) := by decide +kernel
theorem dX9_cost_243 : decode cX9_cost 243 = .ok (.iconst 1, 1) := by decide +kernel
theorem dX9_cost_244 : decode cX9_cost 244 = .ok (.iadd, 1) := by decide +kernel
theorem dX9_cost_245 : decode cX9_cost 245 = .ok (.iaload, 1) := by decide +kernel
theorem dX9_cost_246 : decode cX9_cost 246 = .ok (.aload_n 0, 1) := by decide +kernel
theorem dX9_cost_247 : decode cX9_cost 247 = .ok (.getfield 37, 3) := by decide +kernel
theorem dX9_cost_250 : decode cX9_cost 250 = .ok (.iload 7, 2) := by decide +kernel
theorem dX9_cost_252 : decode cX9_cost 252 = .ok (.iaload, 1) := by decide +kernel
theorem dX9_cost_253 : decode cX9_cost 253 = .ok (.isub, 1) := by decide +kernel
theorem dX9_cost_254 : decode cX9_cost 254 = .ok (.iadd, 1) := by decide +kernel
theorem dX9_cost_255 : decode cX9_cost 255 = .ok (.istore 5, 2) := by decide +kernel
theorem dX9_cost_257 : decode cX9_cost 257 = .ok (.iinc 7 1, 3) := by decide +kernel
theorem dX9_cost_260 : decode cX9_cost 260 = .ok (.goto (-201), 3) := by decide +kernel
theorem dX9_cost_263 : decode cX9_cost 263 = .ok (.iinc 6 1, 3) := by decide +kernel
theorem dX9_cost_266 : decode cX9_cost 266 = .ok (.goto (-245), 3) := by decide +kernel
theorem dX9_cost_269 : decode cX9_cost 269 = .ok (.iload 5, 2) := by decide +kernel
theorem dX9_cost_271 : decode cX9_cost 271 = .ok (.aload_n 0, 1) := by decide +kernel
theorem dX9_cost_272 : decode cX9_cost 272 = .ok (.getfield 43, 3) := by decide +kernel
theorem dX9_cost_275 : decode cX9_cost 275 = .ok (.iload_n 3, 1) := by decide +kernel
theorem dX9_cost_276 : decode cX9_cost 276 = .ok (.imul, 1) := by decide +kernel
theorem dX9_cost_277 : decode cX9_cost 277 = .ok (.iadd, 1) := by decide +kernel
theorem dX9_cost_278 : decode cX9_cost 278 = .ok (.aload_n 0, 1) := by decide +kernel
theorem dX9_cost_279 : decode cX9_cost 279 = .ok (.getfield 47, 3) := by decide +kernel
theorem dX9_cost_282 : decode cX9_cost 282 = .ok (.iload 4, 2) := by decide +kernel
theorem dX9_cost_284 : decode cX9_cost 284 = .ok (.imul, 1) := by decide +kernel
theorem dX9_cost_285 : decode cX9_cost 285 = .ok (.iadd, 1) := by decide +kernel
theorem dX9_cost_286 : decode cX9_cost 286 = .ok (.ireturn, 1) := by decide +kernel
theorem dX9_best_0 : decode cX9_best 0 = .ok (.iconst (-1), 1) := by decide +kernel
theorem dX9_best_1 : decode cX9_best 1 = .ok (.istore_n 2, 1) := by decide +kernel
theorem dX9_best_2 : decode cX9_best 2 = .ok (.iconst 0, 1) := by decide +kernel
theorem dX9_best_3 : decode cX9_best 3 = .ok (.istore_n 3, 1) := by decide +kernel
theorem dX9_best_4 : decode cX9_best 4 = .ok (.iconst 0, 1) := by decide +kernel
theorem dX9_best_5 : decode cX9_best 5 = .ok (.istore 4, 2) := by decide +kernel
theorem dX9_best_7 : decode cX9_best 7 = .ok (.iload 4, 2) := by decide +kernel
theorem dX9_best_9 : decode cX9_best 9 = .ok (.bipush 6, 2) := by decide +kernel
theorem dX9_best_11 : decode cX9_best 11 = .ok (.if_icmp .ge 50, 3) := by decide +kernel
theorem dX9_best_14 : decode cX9_best 14 = .ok (.aload_n 0, 1) := by decide +kernel
theorem dX9_best_15 : decode cX9_best 15 = .ok (.iload 4, 2) := by decide +kernel
theorem dX9_best_17 : decode cX9_best 17 = .ok (.invokevirtual 127, 3) := by decide +kernel
theorem dX9_best_20 : decode cX9_best 20 = .ok (.ifCond .ne 6, 3) := by decide +kernel
theorem dX9_best_23 : decode cX9_best 23 = .ok (.goto 32, 3) := by decide +kernel
theorem dX9_best_26 : decode cX9_best 26 = .ok (.aload_n 0, 1) := by decide +kernel
theorem dX9_best_27 : decode cX9_best 27 = .ok (.iload 4, 2) := by decide +kernel
theorem dX9_best_29 : decode cX9_best 29 = .ok (.iload_n 1, 1) := by decide +kernel
theorem dX9_best_30 : decode cX9_best 30 = .ok (.invokevirtual 163, 3) := by decide +kernel
theorem dX9_best_33 : decode cX9_best 33 = .ok (.istore 5, 2) := by decide +kernel
theorem dX9_best_35 : decode cX9_best 35 = .ok (.iload_n 2, 1) := by decide +kernel
theorem dX9_best_36 : decode cX9_best 36 = .ok (.iconst (-1), 1) := by decide +kernel
theorem dX9_best_37 : decode cX9_best 37 = .ok (.if_icmp .eq 12, 3) := by decide +kernel
theorem dX9_best_40 : decode cX9_best 40 = .ok (.iload 5, 2) := by decide +kernel
theorem dX9_best_42 : decode cX9_best 42 = .ok (.iload_n 3, 1) := by decide +kernel
theorem dX9_best_43 : decode cX9_best 43 = .ok (.if_icmp .lt 6, 3) := by decide +kernel
theorem dX9_best_46 : decode cX9_best 46 = .ok (.goto 9, 3) := by decide +kernel
theorem dX9_best_49 : decode cX9_best 49 = .ok (.iload 4, 2) := by decide +kernel
theorem dX9_best_51 : decode cX9_best 51 = .ok (.istore_n 2, 1) := by decide +kernel
theorem dX9_best_52 : decode cX9_best 52 = .ok (.iload 5, 2) := by decide +kernel
theorem dX9_best_54 : decode cX9_best 54 = .ok (.istore_n 3, 1) := by decide +kernel
theorem dX9_best_55 : decode cX9_best 55 = .ok (.iinc 4 1, 3) := by decide +kernel
theorem dX9_best_58 : decode cX9_best 58 = .ok (.goto (-51), 3) := by decide +kernel
theorem dX9_best_61 : decode cX9_best 61 = .ok (.iload_n 2, 1) := by decide +kernel
theorem dX9_best_62 : decode cX9_best 62 = .ok (.ireturn, 1) := by decide +kernel
theorem dX9_isPiece_0 : decode cX9_isPiece 0 = .ok (.iload_n 1, 1) := by decide +kernel
theorem dX9_isPiece_1 : decode cX9_isPiece 1 = .ok (.ifCond .le 23, 3) := by decide +kernel
theorem dX9_isPiece_4 : decode cX9_isPiece 4 = .ok (.iload_n 1, 1) := by decide +kernel
theorem dX9_isPiece_5 : decode cX9_isPiece 5 = .ok (.sipush 300, 3) := by decide +kernel
theorem dX9_isPiece_8 : decode cX9_isPiece 8 = .ok (.if_icmp .gt 16, 3) := by decide +kernel
theorem dX9_isPiece_11 : decode cX9_isPiece 11 = .ok (.aload_n 0, 1) := by decide +kernel
theorem dX9_isPiece_12 : decode cX9_isPiece 12 = .ok (.getfield 62, 3) := by decide +kernel
theorem dX9_isPiece_15 : decode cX9_isPiece 15 = .ok (.iload_n 1, 1) := by decide +kernel
theorem dX9_isPiece_16 : decode cX9_isPiece 16 = .ok (.iaload, 1) := by decide +kernel
theorem dX9_isPiece_17 : decode cX9_isPiece 17 = .ok (.ifCond .le 7, 3) := by decide +kernel
theorem dX9_isPiece_20 : decode cX9_isPiece 20 = .ok (.iconst 1, 1) := by decide +kernel
theorem dX9_isPiece_21 : decode cX9_isPiece 21 = .ok (.goto 4, 3) := by decide +kernel
theorem dX9_isPiece_24 : decode cX9_isPiece 24 = .ok (.iconst 0, 1) := by decide +kernel
theorem dX9_isPiece_25 : decode cX9_isPiece 25 = .ok (.ireturn, 1) := by decide +kernel
theorem dX9_isThat_0 : decode cX9_isThat 0 = .ok (.aload_n 0, 1) := by decide +kernel
theorem dX9_isThat_1 : decode cX9_isThat 1 = .ok (.getfield 62, 3) := by decide +kernel
theorem dX9_isThat_4 : decode cX9_isThat 4 = .ok (.iload_n 1, 1) := by decide +kernel
theorem dX9_isThat_5 : decode cX9_isThat 5 = .ok (.iaload, 1) := by decide +kernel
theorem dX9_isThat_6 : decode cX9_isThat 6 = .ok (.iload 4, 2) := by decide +kernel
theorem dX9_isThat_8 : decode cX9_isThat 8 = .ok (.iload_n 3, 1) := by decide +kernel
theorem dX9_isThat_9 : decode cX9_isThat 9 = .ok (.isub, 1) := by decide +kernel
theorem dX9_isThat_10 : decode cX9_isThat 10 = .ok (.if_icmp .eq 5, 3) := by decide +kernel
theorem dX9_isThat_13 : decode cX9_isThat 13 = .ok (.iconst 0, 1) := by decide +kernel
theorem dX9_isThat_14 : decode cX9_isThat 14 = .ok (.ireturn, 1) := by decide +kernel
theorem dX9_isThat_15 : decode cX9_isThat 15 = .ok (.iload_n 3, 1) := by decide +kernel
theorem dX9_isThat_16 : decode cX9_isThat 16 = .ok (.istore 5, 2) := by decide +kernel
theorem dX9_isThat_18 : decode cX9_isThat 18 = .ok (.iload 5, 2) := by decide +kernel
theorem dX9_isThat_20 : decode cX9_isThat 20 = .ok (.iload 4, 2) := by decide +kernel
theorem dX9_isThat_22 : decode cX9_isThat 22 = .ok (.if_icmp .ge 42, 3) := by decide +kernel
theorem dX9_isThat_25 : decode cX9_isThat 25 = .ok (.aload_n 0, 1) := by decide +kernel
theorem dX9_isThat_26 : decode cX9_isThat 26 = .ok (.getfield 66, 3) := by decide +kernel
theorem dX9_isThat_29 : decode cX9_isThat 29 = .ok (.sipush 200, 3) := by decide +kernel
theorem dX9_isThat_32 : decode cX9_isThat 32 = .ok (.iload_n 1, 1) := by decide +kernel
theorem dX9_isThat_33 : decode cX9_isThat 33 = .ok (.imul, 1) := by decide +kernel
theorem dX9_isThat_34 : decode cX9_isThat 34 = .ok (.iload 5, 2) := by decide +kernel
theorem dX9_isThat_36 : decode cX9_isThat 36 = .ok (.iadd, 1) := by decide +kernel
theorem dX9_isThat_37 : decode cX9_isThat 37 = .ok (.iload_n 3, 1) := by decide +kernel
theorem dX9_isThat_38 : decode cX9_isThat 38 = .ok (.isub, 1) := by decide +kernel
theorem dX9_isThat_39 : decode cX9_isThat 39 = .ok (.iaload, 1) := by decide +kernel
theorem dX9_isThat_40 : decode cX9_isThat 40 = .ok (.aload_n 0, 1) := by decide +kernel
theorem dX9_isThat_41 : decode cX9_isThat 41 = .ok (.getfield 13, 3) := by decide +kernel
theorem dX9_isThat_44 : decode cX9_isThat 44 = .ok (.sipush 600, 3) := by decide +kernel
theorem dX9_isThat_47 : decode cX9_isThat 47 = .ok (.iload_n 2, 1) := by decide +kernel
theorem dX9_isThat_48 : decode cX9_isThat 48 = .ok (.imul, 1) := by decide +kernel
theorem dX9_isThat_49 : decode cX9_isThat 49 = .ok (.iload 5, 2) := by decide +kernel
theorem dX9_isThat_51 : decode cX9_isThat 51 = .ok (.iadd, 1) := by decide +kernel
theorem dX9_isThat_52 : decode cX9_isThat 52 = .ok (.iaload, 1) := by decide +kernel
theorem dX9_isThat_53 : decode cX9_isThat 53 = .ok (.if_icmp .eq 5, 3) := by decide +kernel
theorem dX9_isThat_56 : decode cX9_isThat 56 = .ok (.iconst 0, 1) := by decide +kernel
theorem dX9_isThat_57 : decode cX9_isThat 57 = .ok (.ireturn, 1) := by decide +kernel
theorem dX9_isThat_58 : decode cX9_isThat 58 = .ok (.iinc 5 1, 3) := by decide +kernel
theorem dX9_isThat_61 : decode cX9_isThat 61 = .ok (.goto (-43), 3) := by decide +kernel
theorem dX9_isThat_64 : decode cX9_isThat 64 = .ok (.iconst 1, 1) := by decide +kernel
theorem dX9_isThat_65 : decode cX9_isThat 65 = .ok (.ireturn, 1) := by decide +kernel
theorem dX9_there_0 : decode cX9_there 0 = .ok (.iconst 0, 1) := by decide +kernel
theorem dX9_there_1 : decode cX9_there 1 = .ok (.istore_n 1, 1) := by decide +kernel
theorem dX9_there_2 : decode cX9_there 2 = .ok (.iconst 1, 1) := by decide +kernel
theorem dX9_there_3 : decode cX9_there 3 = .ok (.istore_n 2, 1) := by decide +kernel
theorem dX9_there_4 : decode cX9_there 4 = .ok (.iload_n 2, 1) := by decide +kernel
theorem dX9_there_5 : decode cX9_there 5 = .ok (.sipush 300, 3) := by decide +kernel
theorem dX9_there_8 : decode cX9_there 8 = .ok (.if_icmp .gt 20, 3) := by decide +kernel
theorem dX9_there_11 : decode cX9_there 11 = .ok (.aload_n 0, 1) := by decide +kernel
theorem dX9_there_12 : decode cX9_there 12 = .ok (.iload_n 2, 1) := by decide +kernel
theorem dX9_there_13 : decode cX9_there 13 = .ok (.invokevirtual 167, 3) := by decide +kernel
theorem dX9_there_16 : decode cX9_there 16 = .ok (.ifCond .eq 6, 3) := by decide +kernel
theorem dX9_there_19 : decode cX9_there 19 = .ok (.iinc 1 1, 3) := by decide +kernel
theorem dX9_there_22 : decode cX9_there 22 = .ok (.iinc 2 1, 3) := by decide +kernel
theorem dX9_there_25 : decode cX9_there 25 = .ok (.goto (-21), 3) := by decide +kernel
theorem dX9_there_28 : decode cX9_there 28 = .ok (.iload_n 1, 1) := by decide +kernel
theorem dX9_there_29 : decode cX9_there 29 = .ok (.ireturn, 1) := by decide +kernel
theorem dX9_lacks_0 : decode cX9_lacks 0 = .ok (.iconst 0, 1) := by decide +kernel
theorem dX9_lacks_1 : decode cX9_lacks 1 = .ok (.istore_n 2, 1) := by decide +kernel
theorem dX9_lacks_2 : decode cX9_lacks 2 = .ok (.iconst 0, 1) := by decide +kernel
theorem dX9_lacks_3 : decode cX9_lacks 3 = .ok (.istore_n 3, 1) := by decide +kernel
theorem dX9_lacks_4 : decode cX9_lacks 4 = .ok (.iload_n 3, 1) := by decide +kernel
theorem dX9_lacks_5 : decode cX9_lacks 5 = .ok (.aload_n 0, 1) := by decide +kernel
theorem dX9_lacks_6 : decode cX9_lacks 6 = .ok (.getfield 140, 3) := by decide +kernel
theorem dX9_lacks_9 : decode cX9_lacks 9 = .ok (.if_icmp .ge 140, 3) := by decide +kernel
theorem dX9_lacks_12 : decode cX9_lacks 12 = .ok (.iconst 0, 1) := by decide +kernel
theorem dX9_lacks_13 : decode cX9_lacks 13 = .ok (.istore 4, 2) := by decide +kernel
theorem dX9_lacks_15 : decode cX9_lacks 15 = .ok (.iconst 1, 1) := by decide +kernel
theorem dX9_lacks_16 : decode cX9_lacks 16 = .ok (.istore 5, 2) := by decide +kernel
theorem dX9_lacks_18 : decode cX9_lacks 18 = .ok (.iload 5, 2) := by decide +kernel
theorem dX9_lacks_20 : decode cX9_lacks 20 = .ok (.sipush 300, 3) := by decide +kernel
theorem dX9_lacks_23 : decode cX9_lacks 23 = .ok (.if_icmp .gt 54, 3) := by decide +kernel
theorem dX9_lacks_26 : decode cX9_lacks 26 = .ok (.iload 4, 2) := by decide +kernel
theorem dX9_lacks_28 : decode cX9_lacks 28 = .ok (.ifCond .ne 49, 3) := by decide +kernel
theorem dX9_lacks_31 : decode cX9_lacks 31 = .ok (.aload_n 0, 1) := by decide +kernel
theorem dX9_lacks_32 : decode cX9_lacks 32 = .ok (.iload 5, 2) := by decide +kernel
theorem dX9_lacks_34 : decode cX9_lacks 34 = .ok (.invokevirtual 167, 3) := by decide +kernel
theorem dX9_lacks_37 : decode cX9_lacks 37 = .ok (.ifCond .eq 31, 3) := by decide +kernel
theorem dX9_lacks_40 : decode cX9_lacks 40 = .ok (.aload_n 0, 1) := by decide +kernel
theorem dX9_lacks_41 : decode cX9_lacks 41 = .ok (.iload 5, 2) := by decide +kernel
theorem dX9_lacks_43 : decode cX9_lacks 43 = .ok (.iload_n 1, 1) := by decide +kernel
theorem dX9_lacks_44 : decode cX9_lacks 44 = .ok (.aload_n 0, 1) := by decide +kernel
theorem dX9_lacks_45 : decode cX9_lacks 45 = .ok (.getfield 37, 3) := by decide +kernel
theorem dX9_lacks_48 : decode cX9_lacks 48 = .ok (.iload_n 3, 1) := by decide +kernel
theorem dX9_lacks_49 : decode cX9_lacks 49 = .ok (.iaload, 1) := by decide +kernel
theorem dX9_lacks_50 : decode cX9_lacks 50 = .ok (.aload_n 0, 1) := by decide +kernel
theorem dX9_lacks_51 : decode cX9_lacks 51 = .ok (.getfield 37, 3) := by decide +kernel
theorem dX9_lacks_54 : decode cX9_lacks 54 = .ok (.iload_n 3, 1) := by decide +kernel
theorem dX9_lacks_55 : decode cX9_lacks 55 = .ok (.iconst 1, 1) := by decide +kernel
theorem dX9_lacks_56 : decode cX9_lacks 56 = .ok (.iadd, 1) := by decide +kernel
theorem dX9_lacks_57 : decode cX9_lacks 57 = .ok (.iaload, 1) := by decide +kernel
theorem dX9_lacks_58 : decode cX9_lacks 58 = .ok (.invokevirtual 170, 3) := by decide +kernel
theorem dX9_lacks_61 : decode cX9_lacks 61 = .ok (.ifCond .eq 7, 3) := by decide +kernel
theorem dX9_lacks_64 : decode cX9_lacks 64 = .ok (.iconst 1, 1) := by decide +kernel
theorem dX9_lacks_65 : decode cX9_lacks 65 = .ok (.goto 4, 3) := by decide +kernel
theorem dX9_lacks_68 : decode cX9_lacks 68 = .ok (.iconst 0, 1) := by decide +kernel
theorem dX9_lacks_69 : decode cX9_lacks 69 = .ok (.istore 4, 2) := by decide +kernel
theorem dX9_lacks_71 : decode cX9_lacks 71 = .ok (.iinc 5 1, 3) := by decide +kernel
theorem dX9_lacks_74 : decode cX9_lacks 74 = .ok (.goto (-56), 3) := by decide +kernel
theorem dX9_lacks_77 : decode cX9_lacks 77 = .ok (.iconst 0, 1) := by decide +kernel
theorem dX9_lacks_78 : decode cX9_lacks 78 = .ok (.istore 5, 2) := by decide +kernel
theorem dX9_lacks_80 : decode cX9_lacks 80 = .ok (.iload 5, 2) := by decide +kernel
theorem dX9_lacks_82 : decode cX9_lacks 82 = .ok (.iload_n 3, 1) := by decide +kernel
theorem dX9_lacks_83 : decode cX9_lacks 83 = .ok (.if_icmp .ge 52, 3) := by decide +kernel
theorem dX9_lacks_86 : decode cX9_lacks 86 = .ok (.iload 4, 2) := by decide +kernel
theorem dX9_lacks_88 : decode cX9_lacks 88 = .ok (.ifCond .ne 47, 3) := by decide +kernel
theorem dX9_lacks_91 : decode cX9_lacks 91 = .ok (.aload_n 0, 1) := by decide +kernel
theorem dX9_lacks_92 : decode cX9_lacks 92 = .ok (.iload_n 1, 1) := by decide +kernel
theorem dX9_lacks_93 : decode cX9_lacks 93 = .ok (.aload_n 0, 1) := by decide +kernel
theorem dX9_lacks_94 : decode cX9_lacks 94 = .ok (.getfield 37, 3) := by decide +kernel
theorem dX9_lacks_97 : decode cX9_lacks 97 = .ok (.iload 5, 2) := by decide +kernel
theorem dX9_lacks_99 : decode cX9_lacks 99 = .ok (.iaload, 1) := by decide +kernel
theorem dX9_lacks_100 : decode cX9_lacks 100 = .ok (.aload_n 0, 1) := by decide +kernel
theorem dX9_lacks_101 : decode cX9_lacks 101 = .ok (.getfield 37, 3) := by decide +kernel
theorem dX9_lacks_104 : decode cX9_lacks 104 = .ok (.iload 5, 2) := by decide +kernel
theorem dX9_lacks_106 : decode cX9_lacks 106 = .ok (.iconst 1, 1) := by decide +kernel
theorem dX9_lacks_107 : decode cX9_lacks 107 = .ok (.iadd, 1) := by decide +kernel
theorem dX9_lacks_108 : decode cX9_lacks 108 = .ok (.iaload, 1) := by decide +kernel
theorem dX9_lacks_109 : decode cX9_lacks 109 = .ok (.iload_n 1, 1) := by decide +kernel
theorem dX9_lacks_110 : decode cX9_lacks 110 = .ok (.aload_n 0, 1) := by decide +kernel
theorem dX9_lacks_111 : decode cX9_lacks 111 = .ok (.getfield 37, 3) := by decide +kernel
theorem dX9_lacks_114 : decode cX9_lacks 114 = .ok (.iload_n 3, 1) := by decide +kernel
theorem dX9_lacks_115 : decode cX9_lacks 115 = .ok (.iaload, 1) := by decide +kernel
theorem dX9_lacks_116 : decode cX9_lacks 116 = .ok (.aload_n 0, 1) := by decide +kernel
theorem dX9_lacks_117 : decode cX9_lacks 117 = .ok (.getfield 37, 3) := by decide +kernel
theorem dX9_lacks_120 : decode cX9_lacks 120 = .ok (.iload_n 3, 1) := by decide +kernel
theorem dX9_lacks_121 : decode cX9_lacks 121 = .ok (.iconst 1, 1) := by decide +kernel
theorem dX9_lacks_122 : decode cX9_lacks 122 = .ok (.iadd, 1) := by decide +kernel
theorem dX9_lacks_123 : decode cX9_lacks 123 = .ok (.iaload, 1) := by decide +kernel
theorem dX9_lacks_124 : decode cX9_lacks 124 = .ok (.invokevirtual 156, 3) := by decide +kernel
theorem dX9_lacks_127 : decode cX9_lacks 127 = .ok (.istore 4, 2) := by decide +kernel
theorem dX9_lacks_129 : decode cX9_lacks 129 = .ok (.iinc 5 1, 3) := by decide +kernel
theorem dX9_lacks_132 : decode cX9_lacks 132 = .ok (.goto (-52), 3) := by decide +kernel
theorem dX9_lacks_135 : decode cX9_lacks 135 = .ok (.iload 4, 2) := by decide +kernel
theorem dX9_lacks_137 : decode cX9_lacks 137 = .ok (.ifCond .ne 6, 3) := by decide +kernel
theorem dX9_lacks_140 : decode cX9_lacks 140 = .ok (.iinc 2 1, 3) := by decide +kernel
theorem dX9_lacks_143 : decode cX9_lacks 143 = .ok (.iinc 3 1, 3) := by decide +kernel
theorem dX9_lacks_146 : decode cX9_lacks 146 = .ok (.goto (-142), 3) := by decide +kernel
theorem dX9_lacks_149 : decode cX9_lacks 149 = .ok (.iload_n 2, 1) := by decide +kernel
theorem dX9_lacks_150 : decode cX9_lacks 150 = .ok (.ireturn, 1) := by decide +kernel
theorem dX9_comes_0 : decode cX9_comes 0 = .ok (.aload_n 0, 1) := by decide +kernel
theorem dX9_comes_1 : decode cX9_comes 1 = .ok (.iload_n 1, 1) := by decide +kernel
theorem dX9_comes_2 : decode cX9_comes 2 = .ok (.iload_n 2, 1) := by decide +kernel
theorem dX9_comes_3 : decode cX9_comes 3 = .ok (.iload_n 3, 1) := by decide +kernel
theorem dX9_comes_4 : decode cX9_comes 4 = .ok (.invokevirtual 160, 3) := by decide +kernel
theorem dX9_comes_7 : decode cX9_comes 7 = .ok (.istore 4, 2) := by decide +kernel
theorem dX9_comes_9 : decode cX9_comes 9 = .ok (.iconst (-1), 1) := by decide +kernel
theorem dX9_comes_10 : decode cX9_comes 10 = .ok (.istore 5, 2) := by decide +kernel
theorem dX9_comes_12 : decode cX9_comes 12 = .ok (.iconst (-1), 1) := by decide +kernel
theorem dX9_comes_13 : decode cX9_comes 13 = .ok (.istore 6, 2) := by decide +kernel
theorem dX9_comes_15 : decode cX9_comes 15 = .ok (.iconst 1, 1) := by decide +kernel
theorem dX9_comes_16 : decode cX9_comes 16 = .ok (.istore 7, 2) := by decide +kernel
theorem dX9_comes_18 : decode cX9_comes 18 = .ok (.iload 7, 2) := by decide +kernel
theorem dX9_comes_20 : decode cX9_comes 20 = .ok (.sipush 300, 3) := by decide +kernel
theorem dX9_comes_23 : decode cX9_comes 23 = .ok (.if_icmp .gt 94, 3) := by decide +kernel
theorem dX9_comes_26 : decode cX9_comes 26 = .ok (.iload 5, 2) := by decide +kernel
theorem dX9_comes_28 : decode cX9_comes 28 = .ok (.iconst (-1), 1) := by decide +kernel
theorem dX9_comes_29 : decode cX9_comes 29 = .ok (.if_icmp .ne 88, 3) := by decide +kernel
theorem dX9_comes_32 : decode cX9_comes 32 = .ok (.aload_n 0, 1) := by decide +kernel
theorem dX9_comes_33 : decode cX9_comes 33 = .ok (.iload 7, 2) := by decide +kernel
theorem dX9_comes_35 : decode cX9_comes 35 = .ok (.invokevirtual 167, 3) := by decide +kernel
theorem dX9_comes_38 : decode cX9_comes 38 = .ok (.ifCond .ne 16, 3) := by decide +kernel
theorem dX9_comes_41 : decode cX9_comes 41 = .ok (.iload 6, 2) := by decide +kernel
theorem dX9_comes_43 : decode cX9_comes 43 = .ok (.iconst (-1), 1) := by decide +kernel
theorem dX9_comes_44 : decode cX9_comes 44 = .ok (.if_icmp .ne 67, 3) := by decide +kernel
theorem dX9_comes_47 : decode cX9_comes 47 = .ok (.iload 7, 2) := by decide +kernel
theorem dX9_comes_49 : decode cX9_comes 49 = .ok (.istore 6, 2) := by decide +kernel
theorem dX9_comes_51 : decode cX9_comes 51 = .ok (.goto 60, 3) := by decide +kernel
theorem dX9_comes_54 : decode cX9_comes 54 = .ok (.aload_n 0, 1) := by decide +kernel
theorem dX9_comes_55 : decode cX9_comes 55 = .ok (.getfield 69, 3) := by decide +kernel
theorem dX9_comes_58 : decode cX9_comes 58 = .ok (.iload 7, 2) := by decide +kernel
theorem dX9_comes_60 : decode cX9_comes 60 = .ok (.iaload, 1) := by decide +kernel
theorem dX9_comes_61 : decode cX9_comes 61 = .ok (.iload 4, 2) := by decide +kernel
theorem dX9_comes_63 : decode cX9_comes 63 = .ok (.if_icmp .ne 48, 3) := by decide +kernel
theorem dX9_comes_66 : decode cX9_comes 66 = .ok (.aload_n 0, 1) := by decide +kernel
theorem dX9_comes_67 : decode cX9_comes 67 = .ok (.getfield 62, 3) := by decide +kernel
theorem dX9_comes_70 : decode cX9_comes 70 = .ok (.iload 7, 2) := by decide +kernel
theorem dX9_comes_72 : decode cX9_comes 72 = .ok (.iaload, 1) := by decide +kernel
theorem dX9_comes_73 : decode cX9_comes 73 = .ok (.iload_n 3, 1) := by decide +kernel
theorem dX9_comes_74 : decode cX9_comes 74 = .ok (.iload_n 2, 1) := by decide +kernel
theorem dX9_comes_75 : decode cX9_comes 75 = .ok (.isub, 1) := by decide +kernel
theorem dX9_comes_76 : decode cX9_comes 76 = .ok (.if_icmp .eq 6, 3) := by decide +kernel
theorem dX9_comes_79 : decode cX9_comes 79 = .ok (.goto 32, 3) := by decide +kernel
theorem dX9_comes_82 : decode cX9_comes 82 = .ok (.aload_n 0, 1) := by decide +kernel
theorem dX9_comes_83 : decode cX9_comes 83 = .ok (.iload 7, 2) := by decide +kernel
theorem dX9_comes_85 : decode cX9_comes 85 = .ok (.iload_n 1, 1) := by decide +kernel
theorem dX9_comes_86 : decode cX9_comes 86 = .ok (.iload_n 2, 1) := by decide +kernel
theorem dX9_comes_87 : decode cX9_comes 87 = .ok (.iload_n 3, 1) := by decide +kernel
theorem dX9_comes_88 : decode cX9_comes 88 = .ok (.invokevirtual 170, 3) := by decide +kernel
theorem dX9_comes_91 : decode cX9_comes 91 = .ok (.ifCond .eq 10, 3) := by decide +kernel
theorem dX9_comes_94 : decode cX9_comes 94 = .ok (.iload 7, 2) := by decide +kernel
theorem dX9_comes_96 : decode cX9_comes 96 = .ok (.istore 5, 2) := by decide +kernel
theorem dX9_comes_98 : decode cX9_comes 98 = .ok (.goto 13, 3) := by decide +kernel
theorem dX9_comes_101 : decode cX9_comes 101 = .ok (.aload_n 0, 1) := by decide +kernel
theorem dX9_comes_102 : decode cX9_comes 102 = .ok (.dup, 1) := by decide +kernel
theorem dX9_comes_103 : decode cX9_comes 103 = .ok (.getfield 174, 3) := by decide +kernel
theorem dX9_comes_106 : decode cX9_comes 106 = .ok (.iconst 1, 1) := by decide +kernel
theorem dX9_comes_107 : decode cX9_comes 107 = .ok (.iadd, 1) := by decide +kernel
theorem dX9_comes_108 : decode cX9_comes 108 = .ok (.putfield 174, 3) := by decide +kernel
theorem dX9_comes_111 : decode cX9_comes 111 = .ok (.iinc 7 1, 3) := by decide +kernel
theorem dX9_comes_114 : decode cX9_comes 114 = .ok (.goto (-96), 3) := by decide +kernel
theorem dX9_comes_117 : decode cX9_comes 117 = .ok (.iload 5, 2) := by decide +kernel
theorem dX9_comes_119 : decode cX9_comes 119 = .ok (.iconst (-1), 1) := by decide +kernel
theorem dX9_comes_120 : decode cX9_comes 120 = .ok (.if_icmp .eq 6, 3) := by decide +kernel
theorem dX9_comes_123 : decode cX9_comes 123 = .ok (.iload 5, 2) := by decide +kernel
theorem dX9_comes_125 : decode cX9_comes 125 = .ok (.ireturn, 1) := by decide +kernel
theorem dX9_comes_126 : decode cX9_comes 126 = .ok (.aload_n 0, 1) := by decide +kernel
theorem dX9_comes_127 : decode cX9_comes 127 = .ok (.getfield 62, 3) := by decide +kernel
theorem dX9_comes_130 : decode cX9_comes 130 = .ok (.iload 6, 2) := by decide +kernel
theorem dX9_comes_132 : decode cX9_comes 132 = .ok (.iload_n 3, 1) := by decide +kernel
theorem dX9_comes_133 : decode cX9_comes 133 = .ok (.iload_n 2, 1) := by decide +kernel
theorem dX9_comes_134 : decode cX9_comes 134 = .ok (.isub, 1) := by decide +kernel
theorem dX9_comes_135 : decode cX9_comes 135 = .ok (.iastore, 1) := by decide +kernel
theorem dX9_comes_136 : decode cX9_comes 136 = .ok (.aload_n 0, 1) := by decide +kernel
theorem dX9_comes_137 : decode cX9_comes 137 = .ok (.getfield 69, 3) := by decide +kernel
theorem dX9_comes_140 : decode cX9_comes 140 = .ok (.iload 6, 2) := by decide +kernel
theorem dX9_comes_142 : decode cX9_comes 142 = .ok (.iload 4, 2) := by decide +kernel
theorem dX9_comes_144 : decode cX9_comes 144 = .ok (.iastore, 1) := by decide +kernel
theorem dX9_comes_145 : decode cX9_comes 145 = .ok (.aload_n 0, 1) := by decide +kernel
theorem dX9_comes_146 : decode cX9_comes 146 = .ok (.getfield 72, 3) := by decide +kernel
theorem dX9_comes_149 : decode cX9_comes 149 = .ok (.iload 6, 2) := by decide +kernel
theorem dX9_comes_151 : decode cX9_comes 151 = .ok (.iconst 0, 1) := by decide +kernel
theorem dX9_comes_152 : decode cX9_comes 152 = .ok (.iastore, 1) := by decide +kernel
theorem dX9_comes_153 : decode cX9_comes 153 = .ok (.iload_n 2, 1) := by decide +kernel
theorem dX9_comes_154 : decode cX9_comes 154 = .ok (.istore 7, 2) := by decide +kernel
theorem dX9_comes_156 : decode cX9_comes 156 = .ok (.iload 7, 2) := by decide +kernel
theorem dX9_comes_158 : decode cX9_comes 158 = .ok (.iload_n 3, 1) := by decide +kernel
theorem dX9_comes_159 : decode cX9_comes 159 = .ok (.if_icmp .ge 38, 3) := by decide +kernel
theorem dX9_comes_162 : decode cX9_comes 162 = .ok (.aload_n 0, 1) := by decide +kernel
theorem dX9_comes_163 : decode cX9_comes 163 = .ok (.getfield 66, 3) := by decide +kernel
theorem dX9_comes_166 : decode cX9_comes 166 = .ok (.sipush 200, 3) := by decide +kernel
theorem dX9_comes_169 : decode cX9_comes 169 = .ok (.iload 6, 2) := by decide +kernel
theorem dX9_comes_171 : decode cX9_comes 171 = .ok (.imul, 1) := by decide +kernel
theorem dX9_comes_172 : decode cX9_comes 172 = .ok (.iload 7, 2) := by decide +kernel
theorem dX9_comes_174 : decode cX9_comes 174 = .ok (.iadd, 1) := by decide +kernel
theorem dX9_comes_175 : decode cX9_comes 175 = .ok (.iload_n 2, 1) := by decide +kernel
theorem dX9_comes_176 : decode cX9_comes 176 = .ok (.isub, 1) := by decide +kernel
theorem dX9_comes_177 : decode cX9_comes 177 = .ok (.aload_n 0, 1) := by decide +kernel
theorem dX9_comes_178 : decode cX9_comes 178 = .ok (.getfield 13, 3) := by decide +kernel
theorem dX9_comes_181 : decode cX9_comes 181 = .ok (.sipush 600, 3) := by decide +kernel
theorem dX9_comes_184 : decode cX9_comes 184 = .ok (.iload_n 1, 1) := by decide +kernel
theorem dX9_comes_185 : decode cX9_comes 185 = .ok (.imul, 1) := by decide +kernel
theorem dX9_comes_186 : decode cX9_comes 186 = .ok (.iload 7, 2) := by decide +kernel
theorem dX9_comes_188 : decode cX9_comes 188 = .ok (.iadd, 1) := by decide +kernel
theorem dX9_comes_189 : decode cX9_comes 189 = .ok (.iaload, 1) := by decide +kernel
theorem dX9_comes_190 : decode cX9_comes 190 = .ok (.iastore, 1) := by decide +kernel
theorem dX9_comes_191 : decode cX9_comes 191 = .ok (.iinc 7 1, 3) := by decide +kernel
theorem dX9_comes_194 : decode cX9_comes 194 = .ok (.goto (-38), 3) := by decide +kernel
theorem dX9_comes_197 : decode cX9_comes 197 = .ok (.iload 6, 2) := by decide +kernel
theorem dX9_comes_199 : decode cX9_comes 199 = .ok (.ireturn, 1) := by decide +kernel
theorem dX9_goes_0 : decode cX9_goes 0 = .ok (.iconst 0, 1) := by decide +kernel
theorem dX9_goes_1 : decode cX9_goes 1 = .ok (.istore 4, 2) := by decide +kernel
theorem dX9_goes_3 : decode cX9_goes 3 = .ok (.iconst 0, 1) := by decide +kernel
theorem dX9_goes_4 : decode cX9_goes 4 = .ok (.istore 5, 2) := by decide +kernel
theorem dX9_goes_6 : decode cX9_goes 6 = .ok (.iload 5, 2) := by decide +kernel
theorem dX9_goes_8 : decode cX9_goes 8 = .ok (.iload_n 3, 1) := by decide +kernel
theorem dX9_goes_9 : decode cX9_goes 9 = .ok (.if_icmp .ge 52, 3) := by decide +kernel
theorem dX9_goes_12 : decode cX9_goes 12 = .ok (.aload_n 1, 1) := by decide +kernel
theorem dX9_goes_13 : decode cX9_goes 13 = .ok (.iload_n 2, 1) := by decide +kernel
theorem dX9_goes_14 : decode cX9_goes 14 = .ok (.iload 5, 2) := by decide +kernel
theorem dX9_goes_16 : decode cX9_goes 16 = .ok (.iadd, 1) := by decide +kernel
theorem dX9_goes_17 : decode cX9_goes 17 = .ok (.iaload, 1) := by decide +kernel
theorem dX9_goes_18 : decode cX9_goes 18 = .ok (.istore 6, 2) := by decide +kernel
theorem dX9_goes_20 : decode cX9_goes 20 = .ok (.aload_n 0, 1) := by decide +kernel
theorem dX9_goes_21 : decode cX9_goes 21 = .ok (.getfield 72, 3) := by decide +kernel
theorem dX9_goes_24 : decode cX9_goes 24 = .ok (.iload 6, 2) := by decide +kernel
theorem dX9_goes_26 : decode cX9_goes 26 = .ok (.dup2, 1) := by decide +kernel
theorem dX9_goes_27 : decode cX9_goes 27 = .ok (.iaload, 1) := by decide +kernel
theorem dX9_goes_28 : decode cX9_goes 28 = .ok (.iconst 1, 1) := by decide +kernel
theorem dX9_goes_29 : decode cX9_goes 29 = .ok (.isub, 1) := by decide +kernel
theorem dX9_goes_30 : decode cX9_goes 30 = .ok (.iastore, 1) := by decide +kernel
theorem dX9_goes_31 : decode cX9_goes 31 = .ok (.aload_n 0, 1) := by decide +kernel
theorem dX9_goes_32 : decode cX9_goes 32 = .ok (.getfield 72, 3) := by decide +kernel
theorem dX9_goes_35 : decode cX9_goes 35 = .ok (.iload 6, 2) := by decide +kernel
theorem dX9_goes_37 : decode cX9_goes 37 = .ok (.iaload, 1) := by decide +kernel
theorem dX9_goes_38 : decode cX9_goes 38 = .ok (.ifCond .le 6, 3) := by decide +kernel
theorem dX9_goes_41 : decode cX9_goes 41 = .ok (.goto 14, 3) := by decide +kernel
theorem dX9_goes_44 : decode cX9_goes 44 = .ok (.aload_n 0, 1) := by decide +kernel
theorem dX9_goes_45 : decode cX9_goes 45 = .ok (.getfield 62, 3) := by decide +kernel
theorem dX9_goes_48 : decode cX9_goes 48 = .ok (.iload 6, 2) := by decide +kernel
theorem dX9_goes_50 : decode cX9_goes 50 = .ok (.iconst 0, 1) := by decide +kernel
theorem dX9_goes_51 : decode cX9_goes 51 = .ok (.iastore, 1) := by decide +kernel
theorem dX9_goes_52 : decode cX9_goes 52 = .ok (.iinc 4 1, 3) := by decide +kernel
theorem dX9_goes_55 : decode cX9_goes 55 = .ok (.iinc 5 1, 3) := by decide +kernel
theorem dX9_goes_58 : decode cX9_goes 58 = .ok (.goto (-52), 3) := by decide +kernel
theorem dX9_goes_61 : decode cX9_goes 61 = .ok (.iload 4, 2) := by decide +kernel
theorem dX9_goes_63 : decode cX9_goes 63 = .ok (.ireturn, 1) := by decide +kernel
theorem dX9_keep_0 : decode cX9_keep 0 = .ok (.aload_n 0, 1) := by decide +kernel
theorem dX9_keep_1 : decode cX9_keep 1 = .ok (.iload_n 1, 1) := by decide +kernel
theorem dX9_keep_2 : decode cX9_keep 2 = .ok (.invokevirtual 127, 3) := by decide +kernel
theorem dX9_keep_5 : decode cX9_keep 5 = .ok (.ifCond .eq 10, 3) := by decide +kernel
theorem dX9_keep_8 : decode cX9_keep 8 = .ok (.iload_n 2, 1) := by decide +kernel
theorem dX9_keep_9 : decode cX9_keep 9 = .ok (.invokestatic 113, 3) := by decide +kernel
theorem dX9_keep_12 : decode cX9_keep 12 = .ok (.ifCond .ne 5, 3) := by decide +kernel
theorem dX9_keep_15 : decode cX9_keep 15 = .ok (.iconst (-1), 1) := by decide +kernel
theorem dX9_keep_16 : decode cX9_keep 16 = .ok (.ireturn, 1) := by decide +kernel
theorem dX9_keep_17 : decode cX9_keep 17 = .ok (.aload_n 0, 1) := by decide +kernel
theorem dX9_keep_18 : decode cX9_keep 18 = .ok (.iload_n 1, 1) := by decide +kernel
theorem dX9_keep_19 : decode cX9_keep 19 = .ok (.iload_n 2, 1) := by decide +kernel
theorem dX9_keep_20 : decode cX9_keep 20 = .ok (.invokevirtual 146, 3) := by decide +kernel
theorem dX9_keep_23 : decode cX9_keep 23 = .ok (.aload_n 0, 1) := by decide +kernel
theorem dX9_keep_24 : decode cX9_keep 24 = .ok (.iload_n 2, 1) := by decide +kernel
theorem dX9_keep_25 : decode cX9_keep 25 = .ok (.invokevirtual 177, 3) := by decide +kernel
theorem dX9_keep_28 : decode cX9_keep 28 = .ok (.istore_n 3, 1) := by decide +kernel
theorem dX9_keep_29 : decode cX9_keep 29 = .ok (.aload_n 0, 1) := by decide +kernel
theorem dX9_keep_30 : decode cX9_keep 30 = .ok (.invokevirtual 181, 3) := by decide +kernel
theorem dX9_keep_33 : decode cX9_keep 33 = .ok (.iload_n 3, 1) := by decide +kernel
theorem dX9_keep_34 : decode cX9_keep 34 = .ok (.iadd, 1) := by decide +kernel
theorem dX9_keep_35 : decode cX9_keep 35 = .ok (.sipush 300, 3) := by decide +kernel
theorem dX9_keep_38 : decode cX9_keep 38 = .ok (.if_icmp .le 6, 3) := by decide +kernel
theorem dX9_keep_41 : decode cX9_keep 41 = .ok (.bipush (-2), 2) := by decide +kernel
theorem dX9_keep_43 : decode cX9_keep 43 = .ok (.ireturn, 1) := by decide +kernel
theorem dX9_keep_44 : decode cX9_keep 44 = .ok (.aload_n 0, 1) := by decide +kernel
theorem dX9_keep_45 : decode cX9_keep 45 = .ok (.getfield 75, 3) := by decide +kernel
theorem dX9_keep_48 : decode cX9_keep 48 = .ok (.iload_n 2, 1) := by decide +kernel
theorem dX9_keep_49 : decode cX9_keep 49 = .ok (.baload, 1) := by decide +kernel
theorem dX9_keep_50 : decode cX9_keep 50 = .ok (.ifCond .eq 12, 3) := by decide +kernel
theorem dX9_keep_53 : decode cX9_keep 53 = .ok (.aload_n 0, 1) := by decide +kernel
theorem dX9_keep_54 : decode cX9_keep 54 = .ok (.getfield 79, 3) := by decide +kernel
theorem dX9_keep_57 : decode cX9_keep 57 = .ok (.iload_n 2, 1) := by decide +kernel
theorem dX9_keep_58 : decode cX9_keep 58 = .ok (.iaload, 1) := by decide +kernel
theorem dX9_keep_59 : decode cX9_keep 59 = .ok (.goto 4, 3) := by decide +kernel
theorem dX9_keep_62 : decode cX9_keep 62 = .ok (.iconst 0, 1) := by decide +kernel
theorem dX9_keep_63 : decode cX9_keep 63 = .ok (.istore 4, 2) := by decide +kernel
theorem dX9_keep_65 : decode cX9_keep 65 = .ok (.iconst 0, 1) := by decide +kernel
theorem dX9_keep_66 : decode cX9_keep 66 = .ok (.istore 5, 2) := by decide +kernel
theorem dX9_keep_68 : decode cX9_keep 68 = .ok (.iload 5, 2) := by decide +kernel
theorem dX9_keep_70 : decode cX9_keep 70 = .ok (.iload 4, 2) := by decide +kernel
theorem dX9_keep_72 : decode cX9_keep 72 = .ok (.if_icmp .ge 29, 3) := by decide +kernel
theorem dX9_keep_75 : decode cX9_keep 75 = .ok (.aload_n 0, 1) := by decide +kernel
theorem dX9_keep_76 : decode cX9_keep 76 = .ok (.getfield 85, 3) := by decide +kernel
theorem dX9_keep_79 : decode cX9_keep 79 = .ok (.iload 5, 2) := by decide +kernel
theorem dX9_keep_81 : decode cX9_keep 81 = .ok (.aload_n 0, 1) := by decide +kernel
theorem dX9_keep_82 : decode cX9_keep 82 = .ok (.getfield 82, 3) := by decide +kernel
theorem dX9_keep_85 : decode cX9_keep 85 = .ok (.sipush 600, 3) := by decide +kernel
theorem dX9_keep_88 : decode cX9_keep 88 = .ok (.iload_n 2, 1) := by decide +kernel
theorem dX9_keep_89 : decode cX9_keep 89 = .ok (.imul, 1) := by decide +kernel
theorem dX9_keep_90 : decode cX9_keep 90 = .ok (.iload 5, 2) := by decide +kernel
theorem dX9_keep_92 : decode cX9_keep 92 = .ok (.iadd, 1) := by decide +kernel
theorem dX9_keep_93 : decode cX9_keep 93 = .ok (.iaload, 1) := by decide +kernel
theorem dX9_keep_94 : decode cX9_keep 94 = .ok (.iastore, 1) := by decide +kernel
theorem dX9_keep_95 : decode cX9_keep 95 = .ok (.iinc 5 1, 3) := by decide +kernel
theorem dX9_keep_98 : decode cX9_keep 98 = .ok (.goto (-30), 3) := by decide +kernel
theorem dX9_keep_101 : decode cX9_keep 101 = .ok (.iconst 0, 1) := by decide +kernel
theorem dX9_keep_102 : decode cX9_keep 102 = .ok (.istore 5, 2) := by decide +kernel
theorem dX9_keep_104 : decode cX9_keep 104 = .ok (.iload 5, 2) := by decide +kernel
theorem dX9_keep_106 : decode cX9_keep 106 = .ok (.aload_n 0, 1) := by decide +kernel
theorem dX9_keep_107 : decode cX9_keep 107 = .ok (.getfield 140, 3) := by decide +kernel
theorem dX9_keep_110 : decode cX9_keep 110 = .ok (.if_icmp .ge 58, 3) := by decide +kernel
theorem dX9_keep_113 : decode cX9_keep 113 = .ok (.aload_n 0, 1) := by decide +kernel
theorem dX9_keep_114 : decode cX9_keep 114 = .ok (.iload_n 2, 1) := by decide +kernel
theorem dX9_keep_115 : decode cX9_keep 115 = .ok (.aload_n 0, 1) := by decide +kernel
theorem dX9_keep_116 : decode cX9_keep 116 = .ok (.getfield 37, 3) := by decide +kernel
theorem dX9_keep_119 : decode cX9_keep 119 = .ok (.iload 5, 2) := by decide +kernel
theorem dX9_keep_121 : decode cX9_keep 121 = .ok (.iaload, 1) := by decide +kernel
theorem dX9_keep_122 : decode cX9_keep 122 = .ok (.aload_n 0, 1) := by decide +kernel
theorem dX9_keep_123 : decode cX9_keep 123 = .ok (.getfield 37, 3) := by decide +kernel
theorem dX9_keep_126 : decode cX9_keep 126 = .ok (.iload 5, 2) := by decide +kernel
theorem dX9_keep_128 : decode cX9_keep 128 = .ok (.iconst 1, 1) := by decide +kernel
theorem dX9_keep_129 : decode cX9_keep 129 = .ok (.iadd, 1) := by decide +kernel
theorem dX9_keep_130 : decode cX9_keep 130 = .ok (.iaload, 1) := by decide +kernel
theorem dX9_keep_131 : decode cX9_keep 131 = .ok (.invokevirtual 185, 3) := by decide +kernel
theorem dX9_keep_134 : decode cX9_keep 134 = .ok (.istore 6, 2) := by decide +kernel
theorem dX9_keep_136 : decode cX9_keep 136 = .ok (.aload_n 0, 1) := by decide +kernel
theorem dX9_keep_137 : decode cX9_keep 137 = .ok (.getfield 82, 3) := by decide +kernel
theorem dX9_keep_140 : decode cX9_keep 140 = .ok (.sipush 600, 3) := by decide +kernel
theorem dX9_keep_143 : decode cX9_keep 143 = .ok (.iload_n 2, 1) := by decide +kernel
theorem dX9_keep_144 : decode cX9_keep 144 = .ok (.imul, 1) := by decide +kernel
theorem dX9_keep_145 : decode cX9_keep 145 = .ok (.iload 5, 2) := by decide +kernel
theorem dX9_keep_147 : decode cX9_keep 147 = .ok (.iadd, 1) := by decide +kernel
theorem dX9_keep_148 : decode cX9_keep 148 = .ok (.iload 6, 2) := by decide +kernel
theorem dX9_keep_150 : decode cX9_keep 150 = .ok (.iastore, 1) := by decide +kernel
theorem dX9_keep_151 : decode cX9_keep 151 = .ok (.aload_n 0, 1) := by decide +kernel
theorem dX9_keep_152 : decode cX9_keep 152 = .ok (.getfield 72, 3) := by decide +kernel
theorem dX9_keep_155 : decode cX9_keep 155 = .ok (.iload 6, 2) := by decide +kernel
theorem dX9_keep_157 : decode cX9_keep 157 = .ok (.dup2, 1) := by decide +kernel
theorem dX9_keep_158 : decode cX9_keep 158 = .ok (.iaload, 1) := by decide +kernel
theorem dX9_keep_159 : decode cX9_keep 159 = .ok (.iconst 1, 1) := by decide +kernel
theorem dX9_keep_160 : decode cX9_keep 160 = .ok (.iadd, 1) := by decide +kernel
theorem dX9_keep_161 : decode cX9_keep 161 = .ok (.iastore, 1) := by decide +kernel
theorem dX9_keep_162 : decode cX9_keep 162 = .ok (.iinc 5 1, 3) := by decide +kernel
theorem dX9_keep_165 : decode cX9_keep 165 = .ok (.goto (-61), 3) := by decide +kernel
theorem dX9_keep_168 : decode cX9_keep 168 = .ok (.aload_n 0, 1) := by decide +kernel
theorem dX9_keep_169 : decode cX9_keep 169 = .ok (.getfield 75, 3) := by decide +kernel
theorem dX9_keep_172 : decode cX9_keep 172 = .ok (.iload_n 2, 1) := by decide +kernel
theorem dX9_keep_173 : decode cX9_keep 173 = .ok (.iconst 1, 1) := by decide +kernel
theorem dX9_keep_174 : decode cX9_keep 174 = .ok (.bastore, 1) := by decide +kernel
theorem dX9_keep_175 : decode cX9_keep 175 = .ok (.aload_n 0, 1) := by decide +kernel
theorem dX9_keep_176 : decode cX9_keep 176 = .ok (.getfield 79, 3) := by decide +kernel
theorem dX9_keep_179 : decode cX9_keep 179 = .ok (.iload_n 2, 1) := by decide +kernel
theorem dX9_keep_180 : decode cX9_keep 180 = .ok (.aload_n 0, 1) := by decide +kernel
theorem dX9_keep_181 : decode cX9_keep 181 = .ok (.getfield 140, 3) := by decide +kernel
theorem dX9_keep_184 : decode cX9_keep 184 = .ok (.iastore, 1) := by decide +kernel
theorem dX9_keep_185 : decode cX9_keep 185 = .ok (.aload_n 0, 1) := by decide +kernel
theorem dX9_keep_186 : decode cX9_keep 186 = .ok (.aload_n 0, 1) := by decide +kernel
theorem dX9_keep_187 : decode cX9_keep 187 = .ok (.getfield 85, 3) := by decide +kernel
theorem dX9_keep_190 : decode cX9_keep 190 = .ok (.iconst 0, 1) := by decide +kernel
theorem dX9_keep_191 : decode cX9_keep 191 = .ok (.iload 4, 2) := by decide +kernel
theorem dX9_keep_193 : decode cX9_keep 193 = .ok (.invokevirtual 188, 3) := by decide +kernel
theorem dX9_keep_196 : decode cX9_keep 196 = .ok (.pop, 1) := by decide +kernel
theorem dX9_keep_197 : decode cX9_keep 197 = .ok (.iload_n 3, 1) := by decide +kernel
theorem dX9_keep_198 : decode cX9_keep 198 = .ok (.ireturn, 1) := by decide +kernel
theorem dX9_drop_0 : decode cX9_drop 0 = .ok (.iload_n 1, 1) := by decide +kernel
theorem dX9_drop_1 : decode cX9_drop 1 = .ok (.invokestatic 113, 3) := by decide +kernel
theorem dX9_drop_4 : decode cX9_drop 4 = .ok (.ifCond .eq 12, 3) := by decide +kernel
theorem dX9_drop_7 : decode cX9_drop 7 = .ok (.aload_n 0, 1) := by decide +kernel
theorem dX9_drop_8 : decode cX9_drop 8 = .ok (.getfield 75, 3) := by decide +kernel
theorem dX9_drop_11 : decode cX9_drop 11 = .ok (.iload_n 1, 1) := by decide +kernel
theorem dX9_drop_12 : decode cX9_drop 12 = .ok (.baload, 1) := by decide +kernel
theorem dX9_drop_13 : decode cX9_drop 13 = .ok (.ifCond .ne 5, 3) := by decide +kernel
theorem dX9_drop_16 : decode cX9_drop 16 = .ok (.iconst (-1), 1) := by decide +kernel
theorem dX9_drop_17 : decode cX9_drop 17 = .ok (.ireturn, 1) := by decide +kernel
theorem dX9_drop_18 : decode cX9_drop 18 = .ok (.aload_n 0, 1) := by decide +kernel
theorem dX9_drop_19 : decode cX9_drop 19 = .ok (.getfield 75, 3) := by decide +kernel
theorem dX9_drop_22 : decode cX9_drop 22 = .ok (.iload_n 1, 1) := by decide +kernel
theorem dX9_drop_23 : decode cX9_drop 23 = .ok (.iconst 0, 1) := by decide +kernel
theorem dX9_drop_24 : decode cX9_drop 24 = .ok (.bastore, 1) := by decide +kernel
theorem dX9_drop_25 : decode cX9_drop 25 = .ok (.aload_n 0, 1) := by decide +kernel
theorem dX9_drop_26 : decode cX9_drop 26 = .ok (.aload_n 0, 1) := by decide +kernel
theorem dX9_drop_27 : decode cX9_drop 27 = .ok (.getfield 82, 3) := by decide +kernel
theorem dX9_drop_30 : decode cX9_drop 30 = .ok (.sipush 600, 3) := by decide +kernel
theorem dX9_drop_33 : decode cX9_drop 33 = .ok (.iload_n 1, 1) := by decide +kernel
theorem dX9_drop_34 : decode cX9_drop 34 = .ok (.imul, 1) := by decide +kernel
theorem dX9_drop_35 : decode cX9_drop 35 = .ok (.aload_n 0, 1) := by decide +kernel
theorem dX9_drop_36 : decode cX9_drop 36 = .ok (.getfield 79, 3) := by decide +kernel
theorem dX9_drop_39 : decode cX9_drop 39 = .ok (.iload_n 1, 1) := by decide +kernel
theorem dX9_drop_40 : decode cX9_drop 40 = .ok (.iaload, 1) := by decide +kernel
theorem dX9_drop_41 : decode cX9_drop 41 = .ok (.invokevirtual 188, 3) := by decide +kernel
theorem dX9_drop_44 : decode cX9_drop 44 = .ok (.ireturn, 1) := by decide +kernel
theorem dX9_bring_0 : decode cX9_bring 0 = .ok (.iload_n 1, 1) := by decide +kernel
theorem dX9_bring_1 : decode cX9_bring 1 = .ok (.invokestatic 113, 3) := by decide +kernel
theorem dX9_bring_4 : decode cX9_bring 4 = .ok (.ifCond .eq 12, 3) := by decide +kernel
theorem dX9_bring_7 : decode cX9_bring 7 = .ok (.aload_n 0, 1) := by decide +kernel
theorem dX9_bring_8 : decode cX9_bring 8 = .ok (.getfield 75, 3) := by decide +kernel
theorem dX9_bring_11 : decode cX9_bring 11 = .ok (.iload_n 1, 1) := by decide +kernel
theorem dX9_bring_12 : decode cX9_bring 12 = .ok (.baload, 1) := by decide +kernel
theorem dX9_bring_13 : decode cX9_bring 13 = .ok (.ifCond .ne 5, 3) := by decide +kernel
theorem dX9_bring_16 : decode cX9_bring 16 = .ok (.iconst (-1), 1) := by decide +kernel
theorem dX9_bring_17 : decode cX9_bring 17 = .ok (.ireturn, 1) := by decide +kernel
theorem dX9_bring_18 : decode cX9_bring 18 = .ok (.aload_n 0, 1) := by decide +kernel
theorem dX9_bring_19 : decode cX9_bring 19 = .ok (.getfield 7, 3) := by decide +kernel
theorem dX9_bring_22 : decode cX9_bring 22 = .ok (.iload_n 1, 1) := by decide +kernel
theorem dX9_bring_23 : decode cX9_bring 23 = .ok (.iconst 0, 1) := by decide +kernel
theorem dX9_bring_24 : decode cX9_bring 24 = .ok (.iastore, 1) := by decide +kernel
theorem dX9_bring_25 : decode cX9_bring 25 = .ok (.iconst 0, 1) := by decide +kernel
theorem dX9_bring_26 : decode cX9_bring 26 = .ok (.istore_n 2, 1) := by decide +kernel
theorem dX9_bring_27 : decode cX9_bring 27 = .ok (.iload_n 2, 1) := by decide +kernel
theorem dX9_bring_28 : decode cX9_bring 28 = .ok (.aload_n 0, 1) := by decide +kernel
theorem dX9_bring_29 : decode cX9_bring 29 = .ok (.getfield 79, 3) := by decide +kernel
theorem dX9_bring_32 : decode cX9_bring 32 = .ok (.iload_n 1, 1) := by decide +kernel
theorem dX9_bring_33 : decode cX9_bring 33 = .ok (.iaload, 1) := by decide +kernel
theorem dX9_bring_34 : decode cX9_bring 34 = .ok (.if_icmp .ge 82, 3) := by decide +kernel
theorem dX9_bring_37 : decode cX9_bring 37 = .ok (.aload_n 0, 1) := by decide +kernel
theorem dX9_bring_38 : decode cX9_bring 38 = .ok (.getfield 82, 3) := by decide +kernel
theorem dX9_bring_41 : decode cX9_bring 41 = .ok (.sipush 600, 3) := by decide +kernel
theorem dX9_bring_44 : decode cX9_bring 44 = .ok (.iload_n 1, 1) := by decide +kernel
theorem dX9_bring_45 : decode cX9_bring 45 = .ok (.imul, 1) := by decide +kernel
theorem dX9_bring_46 : decode cX9_bring 46 = .ok (.iload_n 2, 1) := by decide +kernel
theorem dX9_bring_47 : decode cX9_bring 47 = .ok (.iadd, 1) := by decide +kernel
theorem dX9_bring_48 : decode cX9_bring 48 = .ok (.iaload, 1) := by decide +kernel
theorem dX9_bring_49 : decode cX9_bring 49 = .ok (.istore_n 3, 1) := by decide +kernel
theorem dX9_bring_50 : decode cX9_bring 50 = .ok (.iconst 0, 1) := by decide +kernel
theorem dX9_bring_51 : decode cX9_bring 51 = .ok (.istore 4, 2) := by decide +kernel
theorem dX9_bring_53 : decode cX9_bring 53 = .ok (.iload 4, 2) := by decide +kernel
theorem dX9_bring_55 : decode cX9_bring 55 = .ok (.aload_n 0, 1) := by decide +kernel
theorem dX9_bring_56 : decode cX9_bring 56 = .ok (.getfield 62, 3) := by decide +kernel
theorem dX9_bring_59 : decode cX9_bring 59 = .ok (.iload_n 3, 1) := by decide +kernel
theorem dX9_bring_60 : decode cX9_bring 60 = .ok (.iaload, 1) := by decide +kernel
theorem dX9_bring_61 : decode cX9_bring 61 = .ok (.if_icmp .ge 49, 3) := by decide +kernel
theorem dX9_bring_64 : decode cX9_bring 64 = .ok (.aload_n 0, 1) := by decide +kernel
theorem dX9_bring_65 : decode cX9_bring 65 = .ok (.getfield 13, 3) := by decide +kernel
theorem dX9_bring_68 : decode cX9_bring 68 = .ok (.sipush 600, 3) := by decide +kernel
theorem dX9_bring_71 : decode cX9_bring 71 = .ok (.iload_n 1, 1) := by decide +kernel
theorem dX9_bring_72 : decode cX9_bring 72 = .ok (.imul, 1) := by decide +kernel
theorem dX9_bring_73 : decode cX9_bring 73 = .ok (.aload_n 0, 1) := by decide +kernel
theorem dX9_bring_74 : decode cX9_bring 74 = .ok (.getfield 7, 3) := by decide +kernel
theorem dX9_bring_77 : decode cX9_bring 77 = .ok (.iload_n 1, 1) := by decide +kernel
theorem dX9_bring_78 : decode cX9_bring 78 = .ok (.iaload, 1) := by decide +kernel
theorem dX9_bring_79 : decode cX9_bring 79 = .ok (.iadd, 1) := by decide +kernel
theorem dX9_bring_80 : decode cX9_bring 80 = .ok (.aload_n 0, 1) := by decide +kernel
theorem dX9_bring_81 : decode cX9_bring 81 = .ok (.getfield 66, 3) := by decide +kernel
theorem dX9_bring_84 : decode cX9_bring 84 = .ok (.sipush 200, 3) := by decide +kernel
theorem dX9_bring_87 : decode cX9_bring 87 = .ok (.iload_n 3, 1) := by decide +kernel
theorem dX9_bring_88 : decode cX9_bring 88 = .ok (.imul, 1) := by decide +kernel
theorem dX9_bring_89 : decode cX9_bring 89 = .ok (.iload 4, 2) := by decide +kernel
theorem dX9_bring_91 : decode cX9_bring 91 = .ok (.iadd, 1) := by decide +kernel
theorem dX9_bring_92 : decode cX9_bring 92 = .ok (.iaload, 1) := by decide +kernel
theorem dX9_bring_93 : decode cX9_bring 93 = .ok (.iastore, 1) := by decide +kernel
theorem dX9_bring_94 : decode cX9_bring 94 = .ok (.aload_n 0, 1) := by decide +kernel
theorem dX9_bring_95 : decode cX9_bring 95 = .ok (.getfield 7, 3) := by decide +kernel
theorem dX9_bring_98 : decode cX9_bring 98 = .ok (.iload_n 1, 1) := by decide +kernel
theorem dX9_bring_99 : decode cX9_bring 99 = .ok (.dup2, 1) := by decide +kernel
theorem dX9_bring_100 : decode cX9_bring 100 = .ok (.iaload, 1) := by decide +kernel
theorem dX9_bring_101 : decode cX9_bring 101 = .ok (.iconst 1, 1) := by decide +kernel
theorem dX9_bring_102 : decode cX9_bring 102 = .ok (.iadd, 1) := by decide +kernel
theorem dX9_bring_103 : decode cX9_bring 103 = .ok (.iastore, 1) := by decide +kernel
theorem dX9_bring_104 : decode cX9_bring 104 = .ok (.iinc 4 1, 3) := by decide +kernel
theorem dX9_bring_107 : decode cX9_bring 107 = .ok (.goto (-54), 3) := by decide +kernel
theorem dX9_bring_110 : decode cX9_bring 110 = .ok (.iinc 2 1, 3) := by decide +kernel
theorem dX9_bring_113 : decode cX9_bring 113 = .ok (.goto (-86), 3) := by decide +kernel
theorem dX9_bring_116 : decode cX9_bring 116 = .ok (.aload_n 0, 1) := by decide +kernel
theorem dX9_bring_117 : decode cX9_bring 117 = .ok (.getfield 7, 3) := by decide +kernel
theorem dX9_bring_120 : decode cX9_bring 120 = .ok (.iload_n 1, 1) := by decide +kernel
theorem dX9_bring_121 : decode cX9_bring 121 = .ok (.iaload, 1) := by decide +kernel
theorem dX9_bring_122 : decode cX9_bring 122 = .ok (.ireturn, 1) := by decide +kernel
theorem dX9_jumps_0 : decode cX9_jumps 0 = .ok (.iload_n 1, 1) := by decide +kernel
theorem dX9_jumps_1 : decode cX9_jumps 1 = .ok (.invokestatic 113, 3) := by decide +kernel
theorem dX9_jumps_4 : decode cX9_jumps 4 = .ok (.ifCond .eq 12, 3) := by decide +kernel
theorem dX9_jumps_7 : decode cX9_jumps 7 = .ok (.aload_n 0, 1) := by decide +kernel
theorem dX9_jumps_8 : decode cX9_jumps 8 = .ok (.getfield 75, 3) := by decide +kernel
theorem dX9_jumps_11 : decode cX9_jumps 11 = .ok (.iload_n 1, 1) := by decide +kernel
theorem dX9_jumps_12 : decode cX9_jumps 12 = .ok (.baload, 1) := by decide +kernel
theorem dX9_jumps_13 : decode cX9_jumps 13 = .ok (.ifCond .ne 5, 3) := by decide +kernel
theorem dX9_jumps_16 : decode cX9_jumps 16 = .ok (.iconst (-1), 1) := by decide +kernel
theorem dX9_jumps_17 : decode cX9_jumps 17 = .ok (.ireturn, 1) := by decide +kernel
theorem dX9_jumps_18 : decode cX9_jumps 18 = .ok (.iconst 0, 1) := by decide +kernel
theorem dX9_jumps_19 : decode cX9_jumps 19 = .ok (.istore_n 2, 1) := by decide +kernel
theorem dX9_jumps_20 : decode cX9_jumps 20 = .ok (.iconst 0, 1) := by decide +kernel
theorem dX9_jumps_21 : decode cX9_jumps 21 = .ok (.istore_n 3, 1) := by decide +kernel
theorem dX9_jumps_22 : decode cX9_jumps 22 = .ok (.iload_n 3, 1) := by decide +kernel
theorem dX9_jumps_23 : decode cX9_jumps 23 = .ok (.aload_n 0, 1) := by decide +kernel
theorem dX9_jumps_24 : decode cX9_jumps 24 = .ok (.getfield 79, 3) := by decide +kernel
theorem dX9_jumps_27 : decode cX9_jumps 27 = .ok (.iload_n 1, 1) := by decide +kernel
theorem dX9_jumps_28 : decode cX9_jumps 28 = .ok (.iaload, 1) := by decide +kernel
theorem dX9_jumps_29 : decode cX9_jumps 29 = .ok (.if_icmp .ge 47, 3) := by decide +kernel
theorem dX9_jumps_32 : decode cX9_jumps 32 = .ok (.iload_n 3, 1) := by decide +kernel
theorem dX9_jumps_33 : decode cX9_jumps 33 = .ok (.ifCond .eq 34, 3) := by decide +kernel
theorem dX9_jumps_36 : decode cX9_jumps 36 = .ok (.aload_n 0, 1) := by decide +kernel
theorem dX9_jumps_37 : decode cX9_jumps 37 = .ok (.getfield 82, 3) := by decide +kernel
theorem dX9_jumps_40 : decode cX9_jumps 40 = .ok (.sipush 600, 3) := by decide +kernel
theorem dX9_jumps_43 : decode cX9_jumps 43 = .ok (.iload_n 1, 1) := by decide +kernel
theorem dX9_jumps_44 : decode cX9_jumps 44 = .ok (.imul, 1) := by decide +kernel
theorem dX9_jumps_45 : decode cX9_jumps 45 = .ok (.iload_n 3, 1) := by decide +kernel
theorem dX9_jumps_46 : decode cX9_jumps 46 = .ok (.iadd, 1) := by decide +kernel
theorem dX9_jumps_47 : decode cX9_jumps 47 = .ok (.iaload, 1) := by decide +kernel
theorem dX9_jumps_48 : decode cX9_jumps 48 = .ok (.aload_n 0, 1) := by decide +kernel
theorem dX9_jumps_49 : decode cX9_jumps 49 = .ok (.getfield 82, 3) := by decide +kernel
theorem dX9_jumps_52 : decode cX9_jumps 52 = .ok (.sipush 600, 3) := by decide +kernel
theorem dX9_jumps_55 : decode cX9_jumps 55 = .ok (.iload_n 1, 1) := by decide +kernel
theorem dX9_jumps_56 : decode cX9_jumps 56 = .ok (.imul, 1) := by decide +kernel
theorem dX9_jumps_57 : decode cX9_jumps 57 = .ok (.iload_n 3, 1) := by decide +kernel
theorem dX9_jumps_58 : decode cX9_jumps 58 = .ok (.iadd, 1) := by decide +kernel
theorem dX9_jumps_59 : decode cX9_jumps 59 = .ok (.iconst 1, 1) := by decide +kernel
theorem dX9_jumps_60 : decode cX9_jumps 60 = .ok (.isub, 1) := by decide +kernel
theorem dX9_jumps_61 : decode cX9_jumps 61 = .ok (.iaload, 1) := by decide +kernel
theorem dX9_jumps_62 : decode cX9_jumps 62 = .ok (.iconst 1, 1) := by decide +kernel
theorem dX9_jumps_63 : decode cX9_jumps 63 = .ok (.iadd, 1) := by decide +kernel
theorem dX9_jumps_64 : decode cX9_jumps 64 = .ok (.if_icmp .eq 6, 3) := by decide +kernel
theorem dX9_jumps_67 : decode cX9_jumps 67 = .ok (.iinc 2 1, 3) := by decide +kernel
theorem dX9_jumps_70 : decode cX9_jumps 70 = .ok (.iinc 3 1, 3) := by decide +kernel
theorem dX9_jumps_73 : decode cX9_jumps 73 = .ok (.goto (-51), 3) := by decide +kernel
theorem dX9_jumps_76 : decode cX9_jumps 76 = .ok (.iload_n 2, 1) := by decide +kernel
theorem dX9_jumps_77 : decode cX9_jumps 77 = .ok (.ireturn, 1) := by decide +kernel
theorem dX9_number_0 : decode cX9_number 0 = .ok (.iload_n 1, 1) := by decide +kernel
theorem dX9_number_1 : decode cX9_number 1 = .ok (.invokestatic 113, 3) := by decide +kernel
theorem dX9_number_4 : decode cX9_number 4 = .ok (.ifCond .eq 41, 3) := by decide +kernel
theorem dX9_number_7 : decode cX9_number 7 = .ok (.aload_n 0, 1) := by decide +kernel
theorem dX9_number_8 : decode cX9_number 8 = .ok (.getfield 75, 3) := by decide +kernel
theorem dX9_number_11 : decode cX9_number 11 = .ok (.iload_n 1, 1) := by decide +kernel
theorem dX9_number_12 : decode cX9_number 12 = .ok (.baload, 1) := by decide +kernel
theorem dX9_number_13 : decode cX9_number 13 = .ok (.ifCond .eq 32, 3) := by decide +kernel
theorem dX9_number_16 : decode cX9_number 16 = .ok (.iload_n 2, 1) := by decide +kernel
theorem dX9_number_17 : decode cX9_number 17 = .ok (.ifCond .lt 28, 3) := by decide +kernel
theorem dX9_number_20 : decode cX9_number 20 = .ok (.iload_n 2, 1) := by decide +kernel
theorem dX9_number_21 : decode cX9_number 21 = .ok (.aload_n 0, 1) := by decide +kernel
theorem dX9_number_22 : decode cX9_number 22 = .ok (.getfield 79, 3) := by decide +kernel
theorem dX9_number_25 : decode cX9_number 25 = .ok (.iload_n 1, 1) := by decide +kernel
theorem dX9_number_26 : decode cX9_number 26 = .ok (.iaload, 1) := by decide +kernel
theorem dX9_number_27 : decode cX9_number 27 = .ok (.if_icmp .ge 18, 3) := by decide +kernel
theorem dX9_number_30 : decode cX9_number 30 = .ok (.aload_n 0, 1) := by decide +kernel
theorem dX9_number_31 : decode cX9_number 31 = .ok (.getfield 82, 3) := by decide +kernel
theorem dX9_number_34 : decode cX9_number 34 = .ok (.sipush 600, 3) := by decide +kernel
theorem dX9_number_37 : decode cX9_number 37 = .ok (.iload_n 1, 1) := by decide +kernel
theorem dX9_number_38 : decode cX9_number 38 = .ok (.imul, 1) := by decide +kernel
theorem dX9_number_39 : decode cX9_number 39 = .ok (.iload_n 2, 1) := by decide +kernel
theorem dX9_number_40 : decode cX9_number 40 = .ok (.iadd, 1) := by decide +kernel
theorem dX9_number_41 : decode cX9_number 41 = .ok (.iaload, 1) := by decide +kernel
theorem dX9_number_42 : decode cX9_number 42 = .ok (.goto 4, 3) := by decide +kernel
theorem dX9_number_45 : decode cX9_number 45 = .ok (.iconst (-1), 1) := by decide +kernel
theorem dX9_number_46 : decode cX9_number 46 = .ok (.ireturn, 1) := by decide +kernel
theorem dX9_piece_0 : decode cX9_piece 0 = .ok (.aload_n 0, 1) := by decide +kernel
theorem dX9_piece_1 : decode cX9_piece 1 = .ok (.iload_n 1, 1) := by decide +kernel
theorem dX9_piece_2 : decode cX9_piece 2 = .ok (.invokevirtual 167, 3) := by decide +kernel
theorem dX9_piece_5 : decode cX9_piece 5 = .ok (.ifCond .ne 5, 3) := by decide +kernel
theorem dX9_piece_8 : decode cX9_piece 8 = .ok (.iconst (-1), 1) := by decide +kernel
theorem dX9_piece_9 : decode cX9_piece 9 = .ok (.ireturn, 1) := by decide +kernel
theorem dX9_piece_10 : decode cX9_piece 10 = .ok (.iload_n 2, 1) := by decide +kernel
theorem dX9_piece_11 : decode cX9_piece 11 = .ok (.ifCond .ne 12, 3) := by decide +kernel
theorem dX9_piece_14 : decode cX9_piece 14 = .ok (.aload_n 0, 1) := by decide +kernel
theorem dX9_piece_15 : decode cX9_piece 15 = .ok (.getfield 62, 3) := by decide +kernel
theorem dX9_piece_18 : decode cX9_piece 18 = .ok (.iload_n 1, 1) := by decide +kernel
theorem dX9_piece_19 : decode cX9_piece 19 = .ok (.iaload, 1) := by decide +kernel
theorem dX9_piece_20 : decode cX9_piece 20 = .ok (.goto 32, 3) := by decide +kernel
theorem dX9_piece_23 : decode cX9_piece 23 = .ok (.iload_n 2, 1) := by decide +kernel
theorem dX9_piece_24 : decode cX9_piece 24 = .ok (.iconst 1, 1) := by decide +kernel
theorem dX9_piece_25 : decode cX9_piece 25 = .ok (.if_icmp .ne 12, 3) := by decide +kernel
theorem dX9_piece_28 : decode cX9_piece 28 = .ok (.aload_n 0, 1) := by decide +kernel
theorem dX9_piece_29 : decode cX9_piece 29 = .ok (.getfield 72, 3) := by decide +kernel
theorem dX9_piece_32 : decode cX9_piece 32 = .ok (.iload_n 1, 1) := by decide +kernel
theorem dX9_piece_33 : decode cX9_piece 33 = .ok (.iaload, 1) := by decide +kernel
theorem dX9_piece_34 : decode cX9_piece 34 = .ok (.goto 18, 3) := by decide +kernel
theorem dX9_piece_37 : decode cX9_piece 37 = .ok (.iload_n 2, 1) := by decide +kernel
theorem dX9_piece_38 : decode cX9_piece 38 = .ok (.iconst 2, 1) := by decide +kernel
theorem dX9_piece_39 : decode cX9_piece 39 = .ok (.if_icmp .ne 12, 3) := by decide +kernel
theorem dX9_piece_42 : decode cX9_piece 42 = .ok (.aload_n 0, 1) := by decide +kernel
theorem dX9_piece_43 : decode cX9_piece 43 = .ok (.getfield 69, 3) := by decide +kernel
theorem dX9_piece_46 : decode cX9_piece 46 = .ok (.iload_n 1, 1) := by decide +kernel
theorem dX9_piece_47 : decode cX9_piece 47 = .ok (.iaload, 1) := by decide +kernel
theorem dX9_piece_48 : decode cX9_piece 48 = .ok (.goto 4, 3) := by decide +kernel
theorem dX9_piece_51 : decode cX9_piece 51 = .ok (.iconst (-1), 1) := by decide +kernel
theorem dX9_piece_52 : decode cX9_piece 52 = .ok (.ireturn, 1) := by decide +kernel
theorem dX9_count_0 : decode cX9_count 0 = .ok (.iconst 0, 1) := by decide +kernel
theorem dX9_count_1 : decode cX9_count 1 = .ok (.istore_n 2, 1) := by decide +kernel
theorem dX9_count_2 : decode cX9_count 2 = .ok (.iconst 1, 1) := by decide +kernel
theorem dX9_count_3 : decode cX9_count 3 = .ok (.istore_n 3, 1) := by decide +kernel
theorem dX9_count_4 : decode cX9_count 4 = .ok (.iload_n 3, 1) := by decide +kernel
theorem dX9_count_5 : decode cX9_count 5 = .ok (.sipush 300, 3) := by decide +kernel
theorem dX9_count_8 : decode cX9_count 8 = .ok (.if_icmp .gt 18, 3) := by decide +kernel
theorem dX9_count_11 : decode cX9_count 11 = .ok (.iload_n 2, 1) := by decide +kernel
theorem dX9_count_12 : decode cX9_count 12 = .ok (.aload_n 0, 1) := by decide +kernel
theorem dX9_count_13 : decode cX9_count 13 = .ok (.getfield 62, 3) := by decide +kernel
theorem dX9_count_16 : decode cX9_count 16 = .ok (.iload_n 3, 1) := by decide +kernel
theorem dX9_count_17 : decode cX9_count 17 = .ok (.iaload, 1) := by decide +kernel
theorem dX9_count_18 : decode cX9_count 18 = .ok (.iadd, 1) := by decide +kernel
theorem dX9_count_19 : decode cX9_count 19 = .ok (.istore_n 2, 1) := by decide +kernel
theorem dX9_count_20 : decode cX9_count 20 = .ok (.iinc 3 1, 3) := by decide +kernel
theorem dX9_count_23 : decode cX9_count 23 = .ok (.goto (-19), 3) := by decide +kernel
theorem dX9_count_26 : decode cX9_count 26 = .ok (.iconst 0, 1) := by decide +kernel
theorem dX9_count_27 : decode cX9_count 27 = .ok (.istore_n 3, 1) := by decide +kernel
theorem dX9_count_28 : decode cX9_count 28 = .ok (.iconst 0, 1) := by decide +kernel
theorem dX9_count_29 : decode cX9_count 29 = .ok (.istore 4, 2) := by decide +kernel
theorem dX9_count_31 : decode cX9_count 31 = .ok (.iconst 0, 1) := by decide +kernel
theorem dX9_count_32 : decode cX9_count 32 = .ok (.istore 5, 2) := by decide +kernel
theorem dX9_count_34 : decode cX9_count 34 = .ok (.iload 5, 2) := by decide +kernel
theorem dX9_count_36 : decode cX9_count 36 = .ok (.bipush 8, 2) := by decide +kernel
theorem dX9_count_38 : decode cX9_count 38 = .ok (.if_icmp .ge 35, 3) := by decide +kernel
theorem dX9_count_41 : decode cX9_count 41 = .ok (.aload_n 0, 1) := by decide +kernel
theorem dX9_count_42 : decode cX9_count 42 = .ok (.getfield 75, 3) := by decide +kernel
theorem dX9_count_45 : decode cX9_count 45 = .ok (.iload 5, 2) := by decide +kernel
theorem dX9_count_47 : decode cX9_count 47 = .ok (.baload, 1) := by decide +kernel
theorem dX9_count_48 : decode cX9_count 48 = .ok (.ifCond .ne 6, 3) := by decide +kernel
theorem dX9_count_51 : decode cX9_count 51 = .ok (.goto 16, 3) := by decide +kernel
theorem dX9_count_54 : decode cX9_count 54 = .ok (.iload_n 3, 1) := by decide +kernel
theorem dX9_count_55 : decode cX9_count 55 = .ok (.aload_n 0, 1) := by decide +kernel
theorem dX9_count_56 : decode cX9_count 56 = .ok (.getfield 79, 3) := by decide +kernel
theorem dX9_count_59 : decode cX9_count 59 = .ok (.iload 5, 2) := by decide +kernel
theorem dX9_count_61 : decode cX9_count 61 = .ok (.iaload, 1) := by decide +kernel
theorem dX9_count_62 : decode cX9_count 62 = .ok (.iadd, 1) := by decide +kernel
theorem dX9_count_63 : decode cX9_count 63 = .ok (.istore_n 3, 1) := by decide +kernel
theorem dX9_count_64 : decode cX9_count 64 = .ok (.iinc 4 1, 3) := by decide +kernel
theorem dX9_count_67 : decode cX9_count 67 = .ok (.iinc 5 1, 3) := by decide +kernel
theorem dX9_count_70 : decode cX9_count 70 = .ok (.goto (-36), 3) := by decide +kernel
theorem dX9_count_73 : decode cX9_count 73 = .ok (.iload_n 1, 1) := by decide +kernel
theorem dX9_count_74 : decode cX9_count 74 = .ok (.tableswitch 74 0 5 #[38, 43, 45, 47, 66, 71], 38) := by decide +kernel
theorem dX9_count_112 : decode cX9_count 112 = .ok (.aload_n 0, 1) := by decide +kernel
theorem dX9_count_113 : decode cX9_count 113 = .ok (.invokevirtual 181, 3) := by decide +kernel
theorem dX9_count_116 : decode cX9_count 116 = .ok (.ireturn, 1) := by decide +kernel
theorem dX9_count_117 : decode cX9_count 117 = .ok (.iload_n 2, 1) := by decide +kernel
theorem dX9_count_118 : decode cX9_count 118 = .ok (.ireturn, 1) := by decide +kernel
theorem dX9_count_119 : decode cX9_count 119 = .ok (.iload_n 3, 1) := by decide +kernel
theorem dX9_count_120 : decode cX9_count 120 = .ok (.ireturn, 1) := by decide +kernel
theorem dX9_count_121 : decode cX9_count 121 = .ok (.iload_n 2, 1) := by decide +kernel
theorem dX9_count_122 : decode cX9_count 122 = .ok (.aload_n 0, 1) := by decide +kernel
theorem dX9_count_123 : decode cX9_count 123 = .ok (.getfield 43, 3) := by decide +kernel
theorem dX9_count_126 : decode cX9_count 126 = .ok (.aload_n 0, 1) := by decide +kernel
theorem dX9_count_127 : decode cX9_count 127 = .ok (.invokevirtual 181, 3) := by decide +kernel
theorem dX9_count_130 : decode cX9_count 130 = .ok (.imul, 1) := by decide +kernel
theorem dX9_count_131 : decode cX9_count 131 = .ok (.iadd, 1) := by decide +kernel
theorem dX9_count_132 : decode cX9_count 132 = .ok (.aload_n 0, 1) := by decide +kernel
theorem dX9_count_133 : decode cX9_count 133 = .ok (.getfield 47, 3) := by decide +kernel
theorem dX9_count_136 : decode cX9_count 136 = .ok (.iload_n 3, 1) := by decide +kernel
theorem dX9_count_137 : decode cX9_count 137 = .ok (.imul, 1) := by decide +kernel
theorem dX9_count_138 : decode cX9_count 138 = .ok (.iadd, 1) := by decide +kernel
theorem dX9_count_139 : decode cX9_count 139 = .ok (.ireturn, 1) := by decide +kernel
theorem dX9_count_140 : decode cX9_count 140 = .ok (.aload_n 0, 1) := by decide +kernel
theorem dX9_count_141 : decode cX9_count 141 = .ok (.getfield 174, 3) := by decide +kernel
theorem dX9_count_144 : decode cX9_count 144 = .ok (.ireturn, 1) := by decide +kernel
theorem dX9_count_145 : decode cX9_count 145 = .ok (.iload 4, 2) := by decide +kernel
theorem dX9_count_147 : decode cX9_count 147 = .ok (.ireturn, 1) := by decide +kernel
theorem dX9_count_148 : decode cX9_count 148 = .ok (.iconst (-1), 1) := by decide +kernel
theorem dX9_count_149 : decode cX9_count 149 = .ok (.ireturn, 1) := by decide +kernel
theorem dX9_prices_0 : decode cX9_prices 0 = .ok (.iload_n 1, 1) := by decide +kernel
theorem dX9_prices_1 : decode cX9_prices 1 = .ok (.iconst 0, 1) := by decide +kernel
theorem dX9_prices_2 : decode cX9_prices 2 = .ok (.bipush 100, 2) := by decide +kernel
theorem dX9_prices_4 : decode cX9_prices 4 = .ok (.invokestatic 117, 3) := by decide +kernel
theorem dX9_prices_7 : decode cX9_prices 7 = .ok (.ifCond .eq 13, 3) := by decide +kernel
theorem dX9_prices_10 : decode cX9_prices 10 = .ok (.iload_n 2, 1) := by decide +kernel
theorem dX9_prices_11 : decode cX9_prices 11 = .ok (.iconst 0, 1) := by decide +kernel
theorem dX9_prices_12 : decode cX9_prices 12 = .ok (.bipush 100, 2) := by decide +kernel
theorem dX9_prices_14 : decode cX9_prices 14 = .ok (.invokestatic 117, 3) := by decide +kernel
theorem dX9_prices_17 : decode cX9_prices 17 = .ok (.ifCond .ne 5, 3) := by decide +kernel
theorem dX9_prices_20 : decode cX9_prices 20 = .ok (.iconst 0, 1) := by decide +kernel
theorem dX9_prices_21 : decode cX9_prices 21 = .ok (.ireturn, 1) := by decide +kernel
theorem dX9_prices_22 : decode cX9_prices 22 = .ok (.aload_n 0, 1) := by decide +kernel
theorem dX9_prices_23 : decode cX9_prices 23 = .ok (.iload_n 1, 1) := by decide +kernel
theorem dX9_prices_24 : decode cX9_prices 24 = .ok (.putfield 43, 3) := by decide +kernel
theorem dX9_prices_27 : decode cX9_prices 27 = .ok (.aload_n 0, 1) := by decide +kernel
theorem dX9_prices_28 : decode cX9_prices 28 = .ok (.iload_n 2, 1) := by decide +kernel
theorem dX9_prices_29 : decode cX9_prices 29 = .ok (.putfield 47, 3) := by decide +kernel
theorem dX9_prices_32 : decode cX9_prices 32 = .ok (.iconst 1, 1) := by decide +kernel
theorem dX9_prices_33 : decode cX9_prices 33 = .ok (.ireturn, 1) := by decide +kernel
theorem dX9_pairAt_0 : decode cX9_pairAt 0 = .ok (.sipush 512, 3) := by decide +kernel
theorem dX9_pairAt_3 : decode cX9_pairAt 3 = .ok (.iload_n 0, 1) := by decide +kernel
theorem dX9_pairAt_4 : decode cX9_pairAt 4 = .ok (.imul, 1) := by decide +kernel
theorem dX9_pairAt_5 : decode cX9_pairAt 5 = .ok (.iload_n 1, 1) := by decide +kernel
theorem dX9_pairAt_6 : decode cX9_pairAt 6 = .ok (.iadd, 1) := by decide +kernel
theorem dX9_pairAt_7 : decode cX9_pairAt 7 = .ok (.ireturn, 1) := by decide +kernel
theorem dX9_mostOften_0 : decode cX9_mostOften 0 = .ok (.iconst (-1), 1) := by decide +kernel
theorem dX9_mostOften_1 : decode cX9_mostOften 1 = .ok (.istore_n 1, 1) := by decide +kernel
theorem dX9_mostOften_2 : decode cX9_mostOften 2 = .ok (.iconst 0, 1) := by decide +kernel
theorem dX9_mostOften_3 : decode cX9_mostOften 3 = .ok (.istore_n 2, 1) := by decide +kernel
theorem dX9_mostOften_4 : decode cX9_mostOften 4 = .ok (.iconst 0, 1) := by decide +kernel
theorem dX9_mostOften_5 : decode cX9_mostOften 5 = .ok (.istore_n 3, 1) := by decide +kernel
theorem dX9_mostOften_6 : decode cX9_mostOften 6 = .ok (.iload_n 3, 1) := by decide +kernel
theorem dX9_mostOften_7 : decode cX9_mostOften 7 = .ok (.bipush 8, 2) := by decide +kernel
theorem dX9_mostOften_9 : decode cX9_mostOften 9 = .ok (.if_icmp .ge 75, 3) := by decide +kernel
theorem dX9_mostOften_12 : decode cX9_mostOften 12 = .ok (.iload_n 2, 1) := by decide +kernel
theorem dX9_mostOften_13 : decode cX9_mostOften 13 = .ok (.istore 4, 2) := by decide +kernel
theorem dX9_mostOften_15 : decode cX9_mostOften 15 = .ok (.iload 4, 2) := by decide +kernel
theorem dX9_mostOften_17 : decode cX9_mostOften 17 = .ok (.iconst 1, 1) := by decide +kernel
theorem dX9_mostOften_18 : decode cX9_mostOften 18 = .ok (.iadd, 1) := by decide +kernel
theorem dX9_mostOften_19 : decode cX9_mostOften 19 = .ok (.aload_n 0, 1) := by decide +kernel
theorem dX9_mostOften_20 : decode cX9_mostOften 20 = .ok (.getfield 91, 3) := by decide +kernel
theorem dX9_mostOften_23 : decode cX9_mostOften 23 = .ok (.iload_n 3, 1) := by decide +kernel
theorem dX9_mostOften_24 : decode cX9_mostOften 24 = .ok (.iaload, 1) := by decide +kernel
theorem dX9_mostOften_25 : decode cX9_mostOften 25 = .ok (.if_icmp .ge 46, 3) := by decide +kernel
theorem dX9_mostOften_28 : decode cX9_mostOften 28 = .ok (.aload_n 0, 1) := by decide +kernel
theorem dX9_mostOften_29 : decode cX9_mostOften 29 = .ok (.getfield 88, 3) := by decide +kernel
theorem dX9_mostOften_32 : decode cX9_mostOften 32 = .ok (.iload 4, 2) := by decide +kernel
theorem dX9_mostOften_34 : decode cX9_mostOften 34 = .ok (.iaload, 1) := by decide +kernel
theorem dX9_mostOften_35 : decode cX9_mostOften 35 = .ok (.aload_n 0, 1) := by decide +kernel
theorem dX9_mostOften_36 : decode cX9_mostOften 36 = .ok (.getfield 88, 3) := by decide +kernel
theorem dX9_mostOften_39 : decode cX9_mostOften 39 = .ok (.iload 4, 2) := by decide +kernel
theorem dX9_mostOften_41 : decode cX9_mostOften 41 = .ok (.iconst 1, 1) := by decide +kernel
theorem dX9_mostOften_42 : decode cX9_mostOften 42 = .ok (.iadd, 1) := by decide +kernel
theorem dX9_mostOften_43 : decode cX9_mostOften 43 = .ok (.iaload, 1) := by decide +kernel
theorem dX9_mostOften_44 : decode cX9_mostOften 44 = .ok (.invokestatic 192, 3) := by decide +kernel
theorem dX9_mostOften_47 : decode cX9_mostOften 47 = .ok (.istore 5, 2) := by decide +kernel
theorem dX9_mostOften_49 : decode cX9_mostOften 49 = .ok (.aload_n 0, 1) := by decide +kernel
theorem dX9_mostOften_50 : decode cX9_mostOften 50 = .ok (.getfield 95, 3) := by decide +kernel
theorem dX9_mostOften_53 : decode cX9_mostOften 53 = .ok (.iload 5, 2) := by decide +kernel
theorem dX9_mostOften_55 : decode cX9_mostOften 55 = .ok (.iconst 0, 1) := by decide +kernel
theorem dX9_mostOften_56 : decode cX9_mostOften 56 = .ok (.iastore, 1) := by decide +kernel
theorem dX9_mostOften_57 : decode cX9_mostOften 57 = .ok (.aload_n 0, 1) := by decide +kernel
theorem dX9_mostOften_58 : decode cX9_mostOften 58 = .ok (.getfield 98, 3) := by decide +kernel
theorem dX9_mostOften_61 : decode cX9_mostOften 61 = .ok (.iload 5, 2) := by decide +kernel
theorem dX9_mostOften_63 : decode cX9_mostOften 63 = .ok (.iconst (-1), 1) := by decide +kernel
theorem dX9_mostOften_64 : decode cX9_mostOften 64 = .ok (.iastore, 1) := by decide +kernel
theorem dX9_mostOften_65 : decode cX9_mostOften 65 = .ok (.iinc 4 1, 3) := by decide +kernel
theorem dX9_mostOften_68 : decode cX9_mostOften 68 = .ok (.goto (-53), 3) := by decide +kernel
theorem dX9_mostOften_71 : decode cX9_mostOften 71 = .ok (.aload_n 0, 1) := by decide +kernel
theorem dX9_mostOften_72 : decode cX9_mostOften 72 = .ok (.getfield 91, 3) := by decide +kernel
theorem dX9_mostOften_75 : decode cX9_mostOften 75 = .ok (.iload_n 3, 1) := by decide +kernel
theorem dX9_mostOften_76 : decode cX9_mostOften 76 = .ok (.iaload, 1) := by decide +kernel
theorem dX9_mostOften_77 : decode cX9_mostOften 77 = .ok (.istore_n 2, 1) := by decide +kernel
theorem dX9_mostOften_78 : decode cX9_mostOften 78 = .ok (.iinc 3 1, 3) := by decide +kernel
theorem dX9_mostOften_81 : decode cX9_mostOften 81 = .ok (.goto (-75), 3) := by decide +kernel
theorem dX9_mostOften_84 : decode cX9_mostOften 84 = .ok (.iconst 0, 1) := by decide +kernel
theorem dX9_mostOften_85 : decode cX9_mostOften 85 = .ok (.istore_n 2, 1) := by decide +kernel
theorem dX9_mostOften_86 : decode cX9_mostOften 86 = .ok (.iconst 0, 1) := by decide +kernel
theorem dX9_mostOften_87 : decode cX9_mostOften 87 = .ok (.istore_n 3, 1) := by decide +kernel
theorem dX9_mostOften_88 : decode cX9_mostOften 88 = .ok (.iload_n 3, 1) := by decide +kernel
theorem dX9_mostOften_89 : decode cX9_mostOften 89 = .ok (.bipush 8, 2) := by decide +kernel
theorem dX9_mostOften_91 : decode cX9_mostOften 91 = .ok (.if_icmp .ge 164, 3) := by decide +kernel
theorem dX9_mostOften_94 : decode cX9_mostOften 94 = .ok (.iload_n 2, 1) := by decide +kernel
theorem dX9_mostOften_95 : decode cX9_mostOften 95 = .ok (.istore 4, 2) := by decide +kernel
theorem dX9_mostOften_97 : decode cX9_mostOften 97 = .ok (.iload 4, 2) := by decide +kernel
theorem dX9_mostOften_99 : decode cX9_mostOften 99 = .ok (.iconst 1, 1) := by decide +kernel
theorem dX9_mostOften_100 : decode cX9_mostOften 100 = .ok (.iadd, 1) := by decide +kernel
theorem dX9_mostOften_101 : decode cX9_mostOften 101 = .ok (.aload_n 0, 1) := by decide +kernel
theorem dX9_mostOften_102 : decode cX9_mostOften 102 = .ok (.getfield 91, 3) := by decide +kernel
theorem dX9_mostOften_105 : decode cX9_mostOften 105 = .ok (.iload_n 3, 1) := by decide +kernel
theorem dX9_mostOften_106 : decode cX9_mostOften 106 = .ok (.iaload, 1) := by decide +kernel
theorem dX9_mostOften_107 : decode cX9_mostOften 107 = .ok (.if_icmp .ge 135, 3) := by decide +kernel
theorem dX9_mostOften_110 : decode cX9_mostOften 110 = .ok (.aload_n 0, 1) := by decide +kernel
theorem dX9_mostOften_111 : decode cX9_mostOften 111 = .ok (.getfield 88, 3) := by decide +kernel
theorem dX9_mostOften_114 : decode cX9_mostOften 114 = .ok (.iload 4, 2) := by decide +kernel
theorem dX9_mostOften_116 : decode cX9_mostOften 116 = .ok (.iaload, 1) := by decide +kernel
theorem dX9_mostOften_117 : decode cX9_mostOften 117 = .ok (.aload_n 0, 1) := by decide +kernel
theorem dX9_mostOften_118 : decode cX9_mostOften 118 = .ok (.getfield 88, 3) := by decide +kernel
theorem dX9_mostOften_121 : decode cX9_mostOften 121 = .ok (.iload 4, 2) := by decide +kernel
theorem dX9_mostOften_123 : decode cX9_mostOften 123 = .ok (.iconst 1, 1) := by decide +kernel
