theorem dX9_isWord_38 : decode cX9_isWord 38 = .ok (.iadd, 1) := by decide +kernel
theorem dX9_isWord_39 : decode cX9_isWord 39 = .ok (.baload, 1) := by decide +kernel
theorem dX9_isWord_40 : decode cX9_isWord 40 = .ok (.iload 4, 2) := by decide +kernel
theorem dX9_isWord_42 : decode cX9_isWord 42 = .ok (.if_icmp .ne 7, 3) := by decide +kernel
theorem dX9_isWord_45 : decode cX9_isWord 45 = .ok (.iconst 1, 1) := by decide +kernel
theorem dX9_isWord_46 : decode cX9_isWord 46 = .ok (.goto 4, 3) := by decide +kernel
theorem dX9_isWord_49 : decode cX9_isWord 49 = .ok (.iconst 0, 1) := by decide +kernel
theorem dX9_isWord_50 : decode cX9_isWord 50 = .ok (.ireturn, 1) := by decide +kernel
theorem dX9_word_0 : decode cX9_word 0 = .ok (.aload_n 0, 1) := by decide +kernel
theorem dX9_word_1 : decode cX9_word 1 = .ok (.getfield 149, 3) := by decide +kernel
theorem dX9_word_4 : decode cX9_word 4 = .ok (.istore_n 1, 1) := by decide +kernel
theorem dX9_word_5 : decode cX9_word 5 = .ok (.iconst 0, 1) := by decide +kernel
theorem dX9_word_6 : decode cX9_word 6 = .ok (.istore_n 2, 1) := by decide +kernel
theorem dX9_word_7 : decode cX9_word 7 = .ok (.iconst 1, 1) := by decide +kernel
theorem dX9_word_8 : decode cX9_word 8 = .ok (.istore_n 3, 1) := by decide +kernel
theorem dX9_word_9 : decode cX9_word 9 = .ok (.aload_n 0, 1) := by decide +kernel
theorem dX9_word_10 : decode cX9_word 10 = .ok (.getfield 149, 3) := by decide +kernel
theorem dX9_word_13 : decode cX9_word 13 = .ok (.aload_n 0, 1) := by decide +kernel
theorem dX9_word_14 : decode cX9_word 14 = .ok (.getfield 136, 3) := by decide +kernel
theorem dX9_word_17 : decode cX9_word 17 = .ok (.if_icmp .ge 86, 3) := by decide +kernel
theorem dX9_word_20 : decode cX9_word 20 = .ok (.aload_n 0, 1) := by decide +kernel
theorem dX9_word_21 : decode cX9_word 21 = .ok (.getfield 9, 3) := by decide +kernel
theorem dX9_word_24 : decode cX9_word 24 = .ok (.aload_n 0, 1) := by decide +kernel
theorem dX9_word_25 : decode cX9_word 25 = .ok (.getfield 149, 3) := by decide +kernel
theorem dX9_word_28 : decode cX9_word 28 = .ok (.baload, 1) := by decide +kernel
theorem dX9_word_29 : decode cX9_word 29 = .ok (.invokestatic 171, 3) := by decide +kernel
theorem dX9_word_32 : decode cX9_word 32 = .ok (.ifCond .eq 71, 3) := by decide +kernel
theorem dX9_word_35 : decode cX9_word 35 = .ok (.aload_n 0, 1) := by decide +kernel
theorem dX9_word_36 : decode cX9_word 36 = .ok (.getfield 9, 3) := by decide +kernel
theorem dX9_word_39 : decode cX9_word 39 = .ok (.aload_n 0, 1) := by decide +kernel
theorem dX9_word_40 : decode cX9_word 40 = .ok (.getfield 149, 3) := by decide +kernel
theorem dX9_word_43 : decode cX9_word 43 = .ok (.baload, 1) := by decide +kernel
theorem dX9_word_44 : decode cX9_word 44 = .ok (.bipush 97, 2) := by decide +kernel
theorem dX9_word_46 : decode cX9_word 46 = .ok (.isub, 1) := by decide +kernel
theorem dX9_word_47 : decode cX9_word 47 = .ok (.istore 4, 2) := by decide +kernel
theorem dX9_word_49 : decode cX9_word 49 = .ok (.iload_n 3, 1) := by decide +kernel
theorem dX9_word_50 : decode cX9_word 50 = .ok (.ifCond .eq 23, 3) := by decide +kernel
theorem dX9_word_53 : decode cX9_word 53 = .ok (.iload 4, 2) := by decide +kernel
theorem dX9_word_55 : decode cX9_word 55 = .ok (.bipush 12, 2) := by decide +kernel
theorem dX9_word_57 : decode cX9_word 57 = .ok (.if_icmp .ge 16, 3) := by decide +kernel
theorem dX9_word_60 : decode cX9_word 60 = .ok (.iload_n 2, 1) := by decide +kernel
theorem dX9_word_61 : decode cX9_word 61 = .ok (.iload 4, 2) := by decide +kernel
theorem dX9_word_63 : decode cX9_word 63 = .ok (.ishr, 1) := by decide +kernel
theorem dX9_word_64 : decode cX9_word 64 = .ok (.iconst 1, 1) := by decide +kernel
theorem dX9_word_65 : decode cX9_word 65 = .ok (.iand, 1) := by decide +kernel
theorem dX9_word_66 : decode cX9_word 66 = .ok (.ifCond .ne 7, 3) := by decide +kernel
theorem dX9_word_69 : decode cX9_word 69 = .ok (.iconst 1, 1) := by decide +kernel
theorem dX9_word_70 : decode cX9_word 70 = .ok (.goto 4, 3) := by decide +kernel
theorem dX9_word_73 : decode cX9_word 73 = .ok (.iconst 0, 1) := by decide +kernel
theorem dX9_word_74 : decode cX9_word 74 = .ok (.istore_n 3, 1) := by decide +kernel
theorem dX9_word_75 : decode cX9_word 75 = .ok (.iload_n 2, 1) := by decide +kernel
theorem dX9_word_76 : decode cX9_word 76 = .ok (.iload_n 3, 1) := by decide +kernel
theorem dX9_word_77 : decode cX9_word 77 = .ok (.ifCond .eq 10, 3) := by decide +kernel
theorem dX9_word_80 : decode cX9_word 80 = .ok (.iconst 1, 1) := by decide +kernel
theorem dX9_word_81 : decode cX9_word 81 = .ok (.iload 4, 2) := by decide +kernel
theorem dX9_word_83 : decode cX9_word 83 = .ok (.ishl, 1) := by decide +kernel
theorem dX9_word_84 : decode cX9_word 84 = .ok (.goto 4, 3) := by decide +kernel
theorem dX9_word_87 : decode cX9_word 87 = .ok (.iconst 0, 1) := by decide +kernel
theorem dX9_word_88 : decode cX9_word 88 = .ok (.ior, 1) := by decide +kernel
theorem dX9_word_89 : decode cX9_word 89 = .ok (.istore_n 2, 1) := by decide +kernel
theorem dX9_word_90 : decode cX9_word 90 = .ok (.aload_n 0, 1) := by decide +kernel
theorem dX9_word_91 : decode cX9_word 91 = .ok (.dup, 1) := by decide +kernel
theorem dX9_word_92 : decode cX9_word 92 = .ok (.getfield 149, 3) := by decide +kernel
theorem dX9_word_95 : decode cX9_word 95 = .ok (.iconst 1, 1) := by decide +kernel
theorem dX9_word_96 : decode cX9_word 96 = .ok (.iadd, 1) := by decide +kernel
theorem dX9_word_97 : decode cX9_word 97 = .ok (.putfield 149, 3) := by decide +kernel
theorem dX9_word_100 : decode cX9_word 100 = .ok (.goto (-91), 3) := by decide +kernel
theorem dX9_word_103 : decode cX9_word 103 = .ok (.aload_n 0, 1) := by decide +kernel
theorem dX9_word_104 : decode cX9_word 104 = .ok (.iload_n 1, 1) := by decide +kernel
theorem dX9_word_105 : decode cX9_word 105 = .ok (.bipush 104, 2) := by decide +kernel
theorem dX9_word_107 : decode cX9_word 107 = .ok (.bipush 105, 2) := by decide +kernel
theorem dX9_word_109 : decode cX9_word 109 = .ok (.bipush 116, 2) := by decide +kernel
theorem dX9_word_111 : decode cX9_word 111 = .ok (.invokevirtual 196, 3) := by decide +kernel
theorem dX9_word_114 : decode cX9_word 114 = .ok (.istore 4, 2) := by decide +kernel
theorem dX9_word_116 : decode cX9_word 116 = .ok (.aload_n 0, 1) := by decide +kernel
theorem dX9_word_117 : decode cX9_word 117 = .ok (.iload_n 1, 1) := by decide +kernel
theorem dX9_word_118 : decode cX9_word 118 = .ok (.bipush 109, 2) := by decide +kernel
theorem dX9_word_120 : decode cX9_word 120 = .ok (.bipush 97, 2) := by decide +kernel
theorem dX9_word_122 : decode cX9_word 122 = .ok (.bipush 120, 2) := by decide +kernel
theorem dX9_word_124 : decode cX9_word 124 = .ok (.invokevirtual 196, 3) := by decide +kernel
theorem dX9_word_127 : decode cX9_word 127 = .ok (.ifCond .eq 8, 3) := by decide +kernel
theorem dX9_word_130 : decode cX9_word 130 = .ok (.bipush 10, 2) := by decide +kernel
theorem dX9_word_132 : decode cX9_word 132 = .ok (.goto 52, 3) := by decide +kernel
theorem dX9_word_135 : decode cX9_word 135 = .ok (.aload_n 0, 1) := by decide +kernel
theorem dX9_word_136 : decode cX9_word 136 = .ok (.iload_n 1, 1) := by decide +kernel
theorem dX9_word_137 : decode cX9_word 137 = .ok (.bipush 109, 2) := by decide +kernel
theorem dX9_word_139 : decode cX9_word 139 = .ok (.bipush 105, 2) := by decide +kernel
theorem dX9_word_141 : decode cX9_word 141 = .ok (.bipush 110, 2) := by decide +kernel
theorem dX9_word_143 : decode cX9_word 143 = .ok (.invokevirtual 196, 3) := by decide +kernel
theorem dX9_word_146 : decode cX9_word 146 = .ok (.ifCond .eq 8, 3) := by decide +kernel
theorem dX9_word_149 : decode cX9_word 149 = .ok (.bipush 11, 2) := by decide +kernel
theorem dX9_word_151 : decode cX9_word 151 = .ok (.goto 33, 3) := by decide +kernel
theorem dX9_word_154 : decode cX9_word 154 = .ok (.iload 4, 2) := by decide +kernel
theorem dX9_word_156 : decode cX9_word 156 = .ok (.ifCond .eq 8, 3) := by decide +kernel
theorem dX9_word_159 : decode cX9_word 159 = .ok (.bipush 12, 2) := by decide +kernel
theorem dX9_word_161 : decode cX9_word 161 = .ok (.goto 23, 3) := by decide +kernel
theorem dX9_word_164 : decode cX9_word 164 = .ok (.aload_n 0, 1) := by decide +kernel
theorem dX9_word_165 : decode cX9_word 165 = .ok (.iload_n 1, 1) := by decide +kernel
theorem dX9_word_166 : decode cX9_word 166 = .ok (.bipush 115, 2) := by decide +kernel
theorem dX9_word_168 : decode cX9_word 168 = .ok (.bipush 117, 2) := by decide +kernel
theorem dX9_word_170 : decode cX9_word 170 = .ok (.bipush 98, 2) := by decide +kernel
theorem dX9_word_172 : decode cX9_word 172 = .ok (.invokevirtual 196, 3) := by decide +kernel
theorem dX9_word_175 : decode cX9_word 175 = .ok (.ifCond .eq 8, 3) := by decide +kernel
theorem dX9_word_178 : decode cX9_word 178 = .ok (.bipush 13, 2) := by decide +kernel
theorem dX9_word_180 : decode cX9_word 180 = .ok (.goto 4, 3) := by decide +kernel
theorem dX9_word_183 : decode cX9_word 183 = .ok (.iconst 0, 1) := by decide +kernel
theorem dX9_word_184 : decode cX9_word 184 = .ok (.istore 5, 2) := by decide +kernel
theorem dX9_word_186 : decode cX9_word 186 = .ok (.iload 5, 2) := by decide +kernel
theorem dX9_word_188 : decode cX9_word 188 = .ok (.ifCond .le 16, 3) := by decide +kernel
theorem dX9_word_191 : decode cX9_word 191 = .ok (.aload_n 0, 1) := by decide +kernel
theorem dX9_word_192 : decode cX9_word 192 = .ok (.invokevirtual 168, 3) := by decide +kernel
theorem dX9_word_195 : decode cX9_word 195 = .ok (.aload_n 0, 1) := by decide +kernel
theorem dX9_word_196 : decode cX9_word 196 = .ok (.iload 5, 2) := by decide +kernel
theorem dX9_word_198 : decode cX9_word 198 = .ok (.invokevirtual 162, 3) := by decide +kernel
theorem dX9_word_201 : decode cX9_word 201 = .ok (.goto 23, 3) := by decide +kernel
theorem dX9_word_204 : decode cX9_word 204 = .ok (.iload_n 3, 1) := by decide +kernel
theorem dX9_word_205 : decode cX9_word 205 = .ok (.ifCond .eq 14, 3) := by decide +kernel
theorem dX9_word_208 : decode cX9_word 208 = .ok (.aload_n 0, 1) := by decide +kernel
theorem dX9_word_209 : decode cX9_word 209 = .ok (.bipush 100, 2) := by decide +kernel
theorem dX9_word_211 : decode cX9_word 211 = .ok (.iload_n 2, 1) := by decide +kernel
theorem dX9_word_212 : decode cX9_word 212 = .ok (.iadd, 1) := by decide +kernel
theorem dX9_word_213 : decode cX9_word 213 = .ok (.invokevirtual 162, 3) := by decide +kernel
theorem dX9_word_216 : decode cX9_word 216 = .ok (.goto 8, 3) := by decide +kernel
theorem dX9_word_219 : decode cX9_word 219 = .ok (.aload_n 0, 1) := by decide +kernel
theorem dX9_word_220 : decode cX9_word 220 = .ok (.iload_n 1, 1) := by decide +kernel
theorem dX9_word_221 : decode cX9_word 221 = .ok (.invokevirtual 187, 3) := by decide +kernel
theorem dX9_word_224 : decode cX9_word 224 = .ok (.return_, 1) := by decide +kernel
theorem dX9_evaluate_0 : decode cX9_evaluate 0 = .ok (.aload_n 0, 1) := by decide +kernel
theorem dX9_evaluate_1 : decode cX9_evaluate 1 = .ok (.iconst 0, 1) := by decide +kernel
theorem dX9_evaluate_2 : decode cX9_evaluate 2 = .ok (.putfield 62, 3) := by decide +kernel
theorem dX9_evaluate_5 : decode cX9_evaluate 5 = .ok (.aload_n 0, 1) := by decide +kernel
theorem dX9_evaluate_6 : decode cX9_evaluate 6 = .ok (.iconst 0, 1) := by decide +kernel
theorem dX9_evaluate_7 : decode cX9_evaluate 7 = .ok (.putfield 149, 3) := by decide +kernel
theorem dX9_evaluate_10 : decode cX9_evaluate 10 = .ok (.aload_n 0, 1) := by decide +kernel
theorem dX9_evaluate_11 : decode cX9_evaluate 11 = .ok (.iconst 0, 1) := by decide +kernel
theorem dX9_evaluate_12 : decode cX9_evaluate 12 = .ok (.putfield 190, 3) := by decide +kernel
theorem dX9_evaluate_15 : decode cX9_evaluate 15 = .ok (.aload_n 0, 1) := by decide +kernel
theorem dX9_evaluate_16 : decode cX9_evaluate 16 = .ok (.iconst (-1), 1) := by decide +kernel
theorem dX9_evaluate_17 : decode cX9_evaluate 17 = .ok (.putfield 146, 3) := by decide +kernel
theorem dX9_evaluate_20 : decode cX9_evaluate 20 = .ok (.aload_n 0, 1) := by decide +kernel
theorem dX9_evaluate_21 : decode cX9_evaluate 21 = .ok (.iconst 0, 1) := by decide +kernel
theorem dX9_evaluate_22 : decode cX9_evaluate 22 = .ok (.putfield 152, 3) := by decide +kernel
theorem dX9_evaluate_25 : decode cX9_evaluate 25 = .ok (.aload_n 0, 1) := by decide +kernel
theorem dX9_evaluate_26 : decode cX9_evaluate 26 = .ok (.invokevirtual 193, 3) := by decide +kernel
theorem dX9_evaluate_29 : decode cX9_evaluate 29 = .ok (.aload_n 0, 1) := by decide +kernel
theorem dX9_evaluate_30 : decode cX9_evaluate 30 = .ok (.getfield 146, 3) := by decide +kernel
theorem dX9_evaluate_33 : decode cX9_evaluate 33 = .ok (.ifCond .ge 18, 3) := by decide +kernel
theorem dX9_evaluate_36 : decode cX9_evaluate 36 = .ok (.aload_n 0, 1) := by decide +kernel
theorem dX9_evaluate_37 : decode cX9_evaluate 37 = .ok (.invokevirtual 158, 3) := by decide +kernel
theorem dX9_evaluate_40 : decode cX9_evaluate 40 = .ok (.ifCond .lt 11, 3) := by decide +kernel
theorem dX9_evaluate_43 : decode cX9_evaluate 43 = .ok (.aload_n 0, 1) := by decide +kernel
theorem dX9_evaluate_44 : decode cX9_evaluate 44 = .ok (.aload_n 0, 1) := by decide +kernel
theorem dX9_evaluate_45 : decode cX9_evaluate 45 = .ok (.getfield 149, 3) := by decide +kernel
theorem dX9_evaluate_48 : decode cX9_evaluate 48 = .ok (.invokevirtual 187, 3) := by decide +kernel
theorem dX9_evaluate_51 : decode cX9_evaluate 51 = .ok (.aload_n 0, 1) := by decide +kernel
theorem dX9_evaluate_52 : decode cX9_evaluate 52 = .ok (.iconst 0, 1) := by decide +kernel
theorem dX9_evaluate_53 : decode cX9_evaluate 53 = .ok (.putfield 136, 3) := by decide +kernel
theorem dX9_evaluate_56 : decode cX9_evaluate 56 = .ok (.aload_n 0, 1) := by decide +kernel
theorem dX9_evaluate_57 : decode cX9_evaluate 57 = .ok (.aload_n 0, 1) := by decide +kernel
theorem dX9_evaluate_58 : decode cX9_evaluate 58 = .ok (.getfield 146, 3) := by decide +kernel
theorem dX9_evaluate_61 : decode cX9_evaluate 61 = .ok (.putfield 16, 3) := by decide +kernel
theorem dX9_evaluate_64 : decode cX9_evaluate 64 = .ok (.aload_n 0, 1) := by decide +kernel
theorem dX9_evaluate_65 : decode cX9_evaluate 65 = .ok (.getfield 146, 3) := by decide +kernel
theorem dX9_evaluate_68 : decode cX9_evaluate 68 = .ok (.ifCond .lt 9, 3) := by decide +kernel
theorem dX9_evaluate_71 : decode cX9_evaluate 71 = .ok (.aload_n 0, 1) := by decide +kernel
theorem dX9_evaluate_72 : decode cX9_evaluate 72 = .ok (.iconst 1, 1) := by decide +kernel
theorem dX9_evaluate_73 : decode cX9_evaluate 73 = .ok (.invokevirtual 139, 3) := by decide +kernel
theorem dX9_evaluate_76 : decode cX9_evaluate 76 = .ok (.ireturn, 1) := by decide +kernel
theorem dX9_evaluate_77 : decode cX9_evaluate 77 = .ok (.aload_n 0, 1) := by decide +kernel
theorem dX9_evaluate_78 : decode cX9_evaluate 78 = .ok (.getfield 133, 3) := by decide +kernel
theorem dX9_evaluate_81 : decode cX9_evaluate 81 = .ok (.sipush 200, 3) := by decide +kernel
theorem dX9_evaluate_84 : decode cX9_evaluate 84 = .ok (.if_icmp .ne 9, 3) := by decide +kernel
theorem dX9_evaluate_87 : decode cX9_evaluate 87 = .ok (.aload_n 0, 1) := by decide +kernel
theorem dX9_evaluate_88 : decode cX9_evaluate 88 = .ok (.iconst 2, 1) := by decide +kernel
theorem dX9_evaluate_89 : decode cX9_evaluate 89 = .ok (.invokevirtual 139, 3) := by decide +kernel
theorem dX9_evaluate_92 : decode cX9_evaluate 92 = .ok (.ireturn, 1) := by decide +kernel
theorem dX9_evaluate_93 : decode cX9_evaluate 93 = .ok (.aload_n 0, 1) := by decide +kernel
theorem dX9_evaluate_94 : decode cX9_evaluate 94 = .ok (.invokevirtual 200, 3) := by decide +kernel
theorem dX9_evaluate_97 : decode cX9_evaluate 97 = .ok (.ifCond .eq 10, 3) := by decide +kernel
theorem dX9_evaluate_100 : decode cX9_evaluate 100 = .ok (.aload_n 0, 1) := by decide +kernel
theorem dX9_evaluate_101 : decode cX9_evaluate 101 = .ok (.invokevirtual 204, 3) := by decide +kernel
theorem dX9_evaluate_104 : decode cX9_evaluate 104 = .ok (.goto 8, 3) := by decide +kernel
theorem dX9_evaluate_107 : decode cX9_evaluate 107 = .ok (.aload_n 0, 1) := by decide +kernel
theorem dX9_evaluate_108 : decode cX9_evaluate 108 = .ok (.iconst 3, 1) := by decide +kernel
theorem dX9_evaluate_109 : decode cX9_evaluate 109 = .ok (.invokevirtual 139, 3) := by decide +kernel
theorem dX9_evaluate_112 : decode cX9_evaluate 112 = .ok (.ireturn, 1) := by decide +kernel
theorem dX9_run_0 : decode cX9_run 0 = .ok (.iconst (-1), 1) := by decide +kernel
theorem dX9_run_1 : decode cX9_run 1 = .ok (.istore_n 1, 1) := by decide +kernel
theorem dX9_run_2 : decode cX9_run 2 = .ok (.iconst 0, 1) := by decide +kernel
theorem dX9_run_3 : decode cX9_run 3 = .ok (.istore_n 2, 1) := by decide +kernel
theorem dX9_run_4 : decode cX9_run 4 = .ok (.iload_n 2, 1) := by decide +kernel
theorem dX9_run_5 : decode cX9_run 5 = .ok (.aload_n 0, 1) := by decide +kernel
theorem dX9_run_6 : decode cX9_run 6 = .ok (.getfield 152, 3) := by decide +kernel
theorem dX9_run_9 : decode cX9_run 9 = .ok (.if_icmp .ge 128, 3) := by decide +kernel
theorem dX9_run_12 : decode cX9_run 12 = .ok (.aload_n 0, 1) := by decide +kernel
theorem dX9_run_13 : decode cX9_run 13 = .ok (.getfield 59, 3) := by decide +kernel
theorem dX9_run_16 : decode cX9_run 16 = .ok (.iload_n 2, 1) := by decide +kernel
theorem dX9_run_17 : decode cX9_run 17 = .ok (.iaload, 1) := by decide +kernel
theorem dX9_run_18 : decode cX9_run 18 = .ok (.istore_n 3, 1) := by decide +kernel
theorem dX9_run_19 : decode cX9_run 19 = .ok (.iload_n 3, 1) := by decide +kernel
theorem dX9_run_20 : decode cX9_run 20 = .ok (.bipush 99, 2) := by decide +kernel
theorem dX9_run_22 : decode cX9_run 22 = .ok (.if_icmp .lt 55, 3) := by decide +kernel
theorem dX9_run_25 : decode cX9_run 25 = .ok (.iinc 1 1, 3) := by decide +kernel
theorem dX9_run_28 : decode cX9_run 28 = .ok (.aload_n 0, 1) := by decide +kernel
theorem dX9_run_29 : decode cX9_run 29 = .ok (.getfield 41, 3) := by decide +kernel
theorem dX9_run_32 : decode cX9_run 32 = .ok (.iload_n 1, 1) := by decide +kernel
theorem dX9_run_33 : decode cX9_run 33 = .ok (.invokestatic 69, 3) := by decide +kernel
theorem dX9_run_36 : decode cX9_run 36 = .ok (.iload_n 3, 1) := by decide +kernel
theorem dX9_run_37 : decode cX9_run 37 = .ok (.sipush 10000, 3) := by decide +kernel
theorem dX9_run_40 : decode cX9_run 40 = .ok (.if_icmp .lt 16, 3) := by decide +kernel
theorem dX9_run_43 : decode cX9_run 43 = .ok (.aload_n 0, 1) := by decide +kernel
theorem dX9_run_44 : decode cX9_run 44 = .ok (.iload_n 3, 1) := by decide +kernel
theorem dX9_run_45 : decode cX9_run 45 = .ok (.sipush 10000, 3) := by decide +kernel
theorem dX9_run_48 : decode cX9_run 48 = .ok (.isub, 1) := by decide +kernel
theorem dX9_run_49 : decode cX9_run 49 = .ok (.iload_n 1, 1) := by decide +kernel
theorem dX9_run_50 : decode cX9_run 50 = .ok (.invokevirtual 207, 3) := by decide +kernel
theorem dX9_run_53 : decode cX9_run 53 = .ok (.goto 78, 3) := by decide +kernel
theorem dX9_run_56 : decode cX9_run 56 = .ok (.iload_n 3, 1) := by decide +kernel
theorem dX9_run_57 : decode cX9_run 57 = .ok (.bipush 100, 2) := by decide +kernel
theorem dX9_run_59 : decode cX9_run 59 = .ok (.if_icmp .lt 72, 3) := by decide +kernel
theorem dX9_run_62 : decode cX9_run 62 = .ok (.aload_n 0, 1) := by decide +kernel
theorem dX9_run_63 : decode cX9_run 63 = .ok (.getfield 41, 3) := by decide +kernel
theorem dX9_run_66 : decode cX9_run 66 = .ok (.iload_n 1, 1) := by decide +kernel
theorem dX9_run_67 : decode cX9_run 67 = .ok (.iload_n 3, 1) := by decide +kernel
theorem dX9_run_68 : decode cX9_run 68 = .ok (.bipush 100, 2) := by decide +kernel
theorem dX9_run_70 : decode cX9_run 70 = .ok (.isub, 1) := by decide +kernel
theorem dX9_run_71 : decode cX9_run 71 = .ok (.invokestatic 98, 3) := by decide +kernel
theorem dX9_run_74 : decode cX9_run 74 = .ok (.goto 57, 3) := by decide +kernel
theorem dX9_run_77 : decode cX9_run 77 = .ok (.iload_n 3, 1) := by decide +kernel
theorem dX9_run_78 : decode cX9_run 78 = .ok (.bipush 10, 2) := by decide +kernel
theorem dX9_run_80 : decode cX9_run 80 = .ok (.if_icmp .lt 13, 3) := by decide +kernel
theorem dX9_run_83 : decode cX9_run 83 = .ok (.aload_n 0, 1) := by decide +kernel
theorem dX9_run_84 : decode cX9_run 84 = .ok (.iload_n 3, 1) := by decide +kernel
theorem dX9_run_85 : decode cX9_run 85 = .ok (.iload_n 1, 1) := by decide +kernel
theorem dX9_run_86 : decode cX9_run 86 = .ok (.iload_n 1, 1) := by decide +kernel
theorem dX9_run_87 : decode cX9_run 87 = .ok (.invokevirtual 210, 3) := by decide +kernel
theorem dX9_run_90 : decode cX9_run 90 = .ok (.goto 41, 3) := by decide +kernel
theorem dX9_run_93 : decode cX9_run 93 = .ok (.iinc 1 (-1), 3) := by decide +kernel
theorem dX9_run_96 : decode cX9_run 96 = .ok (.iload_n 3, 1) := by decide +kernel
theorem dX9_run_97 : decode cX9_run 97 = .ok (.iconst 5, 1) := by decide +kernel
theorem dX9_run_98 : decode cX9_run 98 = .ok (.if_icmp .eq 9, 3) := by decide +kernel
theorem dX9_run_101 : decode cX9_run 101 = .ok (.iload_n 3, 1) := by decide +kernel
theorem dX9_run_102 : decode cX9_run 102 = .ok (.bipush 6, 2) := by decide +kernel
theorem dX9_run_104 : decode cX9_run 104 = .ok (.if_icmp .ne 18, 3) := by decide +kernel
theorem dX9_run_107 : decode cX9_run 107 = .ok (.aload_n 0, 1) := by decide +kernel
theorem dX9_run_108 : decode cX9_run 108 = .ok (.getfield 41, 3) := by decide +kernel
theorem dX9_run_111 : decode cX9_run 111 = .ok (.iload_n 1, 1) := by decide +kernel
theorem dX9_run_112 : decode cX9_run 112 = .ok (.iconst 1, 1) := by decide +kernel
theorem dX9_run_113 : decode cX9_run 113 = .ok (.iadd, 1) := by decide +kernel
theorem dX9_run_114 : decode cX9_run 114 = .ok (.invokestatic 213, 3) := by decide +kernel
theorem dX9_run_117 : decode cX9_run 117 = .ok (.ifCond .ne 5, 3) := by decide +kernel
theorem dX9_run_120 : decode cX9_run 120 = .ok (.iconst 0, 1) := by decide +kernel
theorem dX9_run_121 : decode cX9_run 121 = .ok (.ireturn, 1) := by decide +kernel
theorem dX9_run_122 : decode cX9_run 122 = .ok (.aload_n 0, 1) := by decide +kernel
theorem dX9_run_123 : decode cX9_run 123 = .ok (.iload_n 3, 1) := by decide +kernel
theorem dX9_run_124 : decode cX9_run 124 = .ok (.iload_n 1, 1) := by decide +kernel
theorem dX9_run_125 : decode cX9_run 125 = .ok (.iload_n 1, 1) := by decide +kernel
theorem dX9_run_126 : decode cX9_run 126 = .ok (.iconst 1, 1) := by decide +kernel
theorem dX9_run_127 : decode cX9_run 127 = .ok (.iadd, 1) := by decide +kernel
theorem dX9_run_128 : decode cX9_run 128 = .ok (.invokevirtual 210, 3) := by decide +kernel
theorem dX9_run_131 : decode cX9_run 131 = .ok (.iinc 2 1, 3) := by decide +kernel
theorem dX9_run_134 : decode cX9_run 134 = .ok (.goto (-130), 3) := by decide +kernel
theorem dX9_run_137 : decode cX9_run 137 = .ok (.iconst 1, 1) := by decide +kernel
theorem dX9_run_138 : decode cX9_run 138 = .ok (.ireturn, 1) := by decide +kernel
theorem dX9_load_0 : decode cX9_load 0 = .ok (.iconst 0, 1) := by decide +kernel
theorem dX9_load_1 : decode cX9_load 1 = .ok (.istore_n 3, 1) := by decide +kernel
theorem dX9_load_2 : decode cX9_load 2 = .ok (.iload_n 3, 1) := by decide +kernel
theorem dX9_load_3 : decode cX9_load 3 = .ok (.bipush 64, 2) := by decide +kernel
theorem dX9_load_5 : decode cX9_load 5 = .ok (.if_icmp .ge 31, 3) := by decide +kernel
theorem dX9_load_8 : decode cX9_load 8 = .ok (.aload_n 0, 1) := by decide +kernel
theorem dX9_load_9 : decode cX9_load 9 = .ok (.getfield 41, 3) := by decide +kernel
theorem dX9_load_12 : decode cX9_load 12 = .ok (.bipush 64, 2) := by decide +kernel
theorem dX9_load_14 : decode cX9_load 14 = .ok (.iload_n 2, 1) := by decide +kernel
theorem dX9_load_15 : decode cX9_load 15 = .ok (.imul, 1) := by decide +kernel
theorem dX9_load_16 : decode cX9_load 16 = .ok (.iload_n 3, 1) := by decide +kernel
theorem dX9_load_17 : decode cX9_load 17 = .ok (.iadd, 1) := by decide +kernel
theorem dX9_load_18 : decode cX9_load 18 = .ok (.aload_n 0, 1) := by decide +kernel
theorem dX9_load_19 : decode cX9_load 19 = .ok (.getfield 24, 3) := by decide +kernel
theorem dX9_load_22 : decode cX9_load 22 = .ok (.bipush 64, 2) := by decide +kernel
theorem dX9_load_24 : decode cX9_load 24 = .ok (.iload_n 1, 1) := by decide +kernel
theorem dX9_load_25 : decode cX9_load 25 = .ok (.imul, 1) := by decide +kernel
theorem dX9_load_26 : decode cX9_load 26 = .ok (.iload_n 3, 1) := by decide +kernel
theorem dX9_load_27 : decode cX9_load 27 = .ok (.iadd, 1) := by decide +kernel
theorem dX9_load_28 : decode cX9_load 28 = .ok (.laload, 1) := by decide +kernel
theorem dX9_load_29 : decode cX9_load 29 = .ok (.lastore, 1) := by decide +kernel
theorem dX9_load_30 : decode cX9_load 30 = .ok (.iinc 3 1, 3) := by decide +kernel
theorem dX9_load_33 : decode cX9_load 33 = .ok (.goto (-31), 3) := by decide +kernel
theorem dX9_load_36 : decode cX9_load 36 = .ok (.return_, 1) := by decide +kernel
theorem dX9_made_0 : decode cX9_made 0 = .ok (.iconst 0, 1) := by decide +kernel
theorem dX9_made_1 : decode cX9_made 1 = .ok (.istore_n 1, 1) := by decide +kernel
theorem dX9_made_2 : decode cX9_made 2 = .ok (.iload_n 1, 1) := by decide +kernel
theorem dX9_made_3 : decode cX9_made 3 = .ok (.bipush 64, 2) := by decide +kernel
theorem dX9_made_5 : decode cX9_made 5 = .ok (.if_icmp .ge 29, 3) := by decide +kernel
theorem dX9_made_8 : decode cX9_made 8 = .ok (.aload_n 0, 1) := by decide +kernel
theorem dX9_made_9 : decode cX9_made 9 = .ok (.getfield 24, 3) := by decide +kernel
theorem dX9_made_12 : decode cX9_made 12 = .ok (.bipush 64, 2) := by decide +kernel
theorem dX9_made_14 : decode cX9_made 14 = .ok (.aload_n 0, 1) := by decide +kernel
theorem dX9_made_15 : decode cX9_made 15 = .ok (.getfield 133, 3) := by decide +kernel
theorem dX9_made_18 : decode cX9_made 18 = .ok (.imul, 1) := by decide +kernel
theorem dX9_made_19 : decode cX9_made 19 = .ok (.iload_n 1, 1) := by decide +kernel
theorem dX9_made_20 : decode cX9_made 20 = .ok (.iadd, 1) := by decide +kernel
theorem dX9_made_21 : decode cX9_made 21 = .ok (.aload_n 0, 1) := by decide +kernel
theorem dX9_made_22 : decode cX9_made 22 = .ok (.getfield 41, 3) := by decide +kernel
theorem dX9_made_25 : decode cX9_made 25 = .ok (.iload_n 1, 1) := by decide +kernel
theorem dX9_made_26 : decode cX9_made 26 = .ok (.laload, 1) := by decide +kernel
theorem dX9_made_27 : decode cX9_made 27 = .ok (.lastore, 1) := by decide +kernel
theorem dX9_made_28 : decode cX9_made 28 = .ok (.iinc 1 1, 3) := by decide +kernel
theorem dX9_made_31 : decode cX9_made 31 = .ok (.goto (-29), 3) := by decide +kernel
theorem dX9_made_34 : decode cX9_made 34 = .ok (.aload_n 0, 1) := by decide +kernel
theorem dX9_made_35 : decode cX9_made 35 = .ok (.dup, 1) := by decide +kernel
theorem dX9_made_36 : decode cX9_made 36 = .ok (.getfield 133, 3) := by decide +kernel
theorem dX9_made_39 : decode cX9_made 39 = .ok (.iconst 1, 1) := by decide +kernel
theorem dX9_made_40 : decode cX9_made 40 = .ok (.iadd, 1) := by decide +kernel
theorem dX9_made_41 : decode cX9_made 41 = .ok (.putfield 133, 3) := by decide +kernel
theorem dX9_made_44 : decode cX9_made 44 = .ok (.aload_n 0, 1) := by decide +kernel
theorem dX9_made_45 : decode cX9_made 45 = .ok (.dup, 1) := by decide +kernel
theorem dX9_made_46 : decode cX9_made 46 = .ok (.getfield 217, 3) := by decide +kernel
theorem dX9_made_49 : decode cX9_made 49 = .ok (.iconst 1, 1) := by decide +kernel
theorem dX9_made_50 : decode cX9_made 50 = .ok (.iadd, 1) := by decide +kernel
theorem dX9_made_51 : decode cX9_made 51 = .ok (.putfield 217, 3) := by decide +kernel
theorem dX9_made_54 : decode cX9_made 54 = .ok (.aload_n 0, 1) := by decide +kernel
theorem dX9_made_55 : decode cX9_made 55 = .ok (.getfield 133, 3) := by decide +kernel
theorem dX9_made_58 : decode cX9_made 58 = .ok (.iconst 1, 1) := by decide +kernel
theorem dX9_made_59 : decode cX9_made 59 = .ok (.isub, 1) := by decide +kernel
theorem dX9_made_60 : decode cX9_made 60 = .ok (.ireturn, 1) := by decide +kernel
theorem dX9_errorPosition_0 : decode cX9_errorPosition 0 = .ok (.aload_n 0, 1) := by decide +kernel
theorem dX9_errorPosition_1 : decode cX9_errorPosition 1 = .ok (.iconst 0, 1) := by decide +kernel
theorem dX9_errorPosition_2 : decode cX9_errorPosition 2 = .ok (.putfield 62, 3) := by decide +kernel
theorem dX9_errorPosition_5 : decode cX9_errorPosition 5 = .ok (.aload_n 0, 1) := by decide +kernel
theorem dX9_errorPosition_6 : decode cX9_errorPosition 6 = .ok (.getfield 16, 3) := by decide +kernel
theorem dX9_errorPosition_9 : decode cX9_errorPosition 9 = .ok (.ireturn, 1) := by decide +kernel
theorem dX9_look__0 : decode cX9_look_ 0 = .ok (.iload_n 1, 1) := by decide +kernel
theorem dX9_look__1 : decode cX9_look_ 1 = .ok (.ifCond .lt 11, 3) := by decide +kernel
theorem dX9_look__4 : decode cX9_look_ 4 = .ok (.iload_n 1, 1) := by decide +kernel
theorem dX9_look__5 : decode cX9_look_ 5 = .ok (.aload_n 0, 1) := by decide +kernel
theorem dX9_look__6 : decode cX9_look_ 6 = .ok (.getfield 133, 3) := by decide +kernel
theorem dX9_look__9 : decode cX9_look_ 9 = .ok (.if_icmp .lt 7, 3) := by decide +kernel
theorem dX9_look__12 : decode cX9_look_ 12 = .ok (.iconst 1, 1) := by decide +kernel
theorem dX9_look__13 : decode cX9_look_ 13 = .ok (.goto 17, 3) := by decide +kernel
theorem dX9_look__16 : decode cX9_look_ 16 = .ok (.aload_n 0, 1) := by decide +kernel
theorem dX9_look__17 : decode cX9_look_ 17 = .ok (.getfield 20, 3) := by decide +kernel
theorem dX9_look__20 : decode cX9_look_ 20 = .ok (.iload_n 1, 1) := by decide +kernel
theorem dX9_look__21 : decode cX9_look_ 21 = .ok (.baload, 1) := by decide +kernel
theorem dX9_look__22 : decode cX9_look_ 22 = .ok (.ifCond .eq 7, 3) := by decide +kernel
theorem dX9_look__25 : decode cX9_look_ 25 = .ok (.iconst 2, 1) := by decide +kernel
theorem dX9_look__26 : decode cX9_look_ 26 = .ok (.goto 4, 3) := by decide +kernel
theorem dX9_look__29 : decode cX9_look_ 29 = .ok (.iconst 0, 1) := by decide +kernel
theorem dX9_look__30 : decode cX9_look_ 30 = .ok (.ireturn, 1) := by decide +kernel
theorem dX9_look___0 : decode cX9_look__ 0 = .ok (.aload_n 0, 1) := by decide +kernel
theorem dX9_look___1 : decode cX9_look__ 1 = .ok (.iload_n 1, 1) := by decide +kernel
theorem dX9_look___2 : decode cX9_look__ 2 = .ok (.invokevirtual 220, 3) := by decide +kernel
theorem dX9_look___5 : decode cX9_look__ 5 = .ok (.istore_n 3, 1) := by decide +kernel
theorem dX9_look___6 : decode cX9_look__ 6 = .ok (.aload_n 0, 1) := by decide +kernel
theorem dX9_look___7 : decode cX9_look__ 7 = .ok (.iload_n 2, 1) := by decide +kernel
theorem dX9_look___8 : decode cX9_look__ 8 = .ok (.invokevirtual 220, 3) := by decide +kernel
theorem dX9_look___11 : decode cX9_look__ 11 = .ok (.istore 4, 2) := by decide +kernel
theorem dX9_look___13 : decode cX9_look__ 13 = .ok (.iload_n 3, 1) := by decide +kernel
theorem dX9_look___14 : decode cX9_look__ 14 = .ok (.iconst 1, 1) := by decide +kernel
theorem dX9_look___15 : decode cX9_look__ 15 = .ok (.if_icmp .eq 9, 3) := by decide +kernel
theorem dX9_look___18 : decode cX9_look__ 18 = .ok (.iload 4, 2) := by decide +kernel
theorem dX9_look___20 : decode cX9_look__ 20 = .ok (.iconst 1, 1) := by decide +kernel
theorem dX9_look___21 : decode cX9_look__ 21 = .ok (.if_icmp .ne 7, 3) := by decide +kernel
theorem dX9_look___24 : decode cX9_look__ 24 = .ok (.iconst 1, 1) := by decide +kernel
theorem dX9_look___25 : decode cX9_look__ 25 = .ok (.goto 9, 3) := by decide +kernel
theorem dX9_look___28 : decode cX9_look__ 28 = .ok (.iload_n 3, 1) := by decide +kernel
theorem dX9_look___29 : decode cX9_look__ 29 = .ok (.iload 4, 2) := by decide +kernel
theorem dX9_look___31 : decode cX9_look__ 31 = .ok (.invokestatic 222, 3) := by decide +kernel
theorem dX9_look___34 : decode cX9_look__ 34 = .ok (.ireturn, 1) := by decide +kernel
theorem dX9_elementsIn_0 : decode cX9_elementsIn 0 = .ok (.iconst 0, 1) := by decide +kernel
theorem dX9_elementsIn_1 : decode cX9_elementsIn 1 = .ok (.istore_n 1, 1) := by decide +kernel
theorem dX9_elementsIn_2 : decode cX9_elementsIn 2 = .ok (.iconst 0, 1) := by decide +kernel
theorem dX9_elementsIn_3 : decode cX9_elementsIn 3 = .ok (.istore_n 2, 1) := by decide +kernel
theorem dX9_elementsIn_4 : decode cX9_elementsIn 4 = .ok (.iload_n 2, 1) := by decide +kernel
theorem dX9_elementsIn_5 : decode cX9_elementsIn 5 = .ok (.bipush 12, 2) := by decide +kernel
theorem dX9_elementsIn_7 : decode cX9_elementsIn 7 = .ok (.if_icmp .ge 17, 3) := by decide +kernel
theorem dX9_elementsIn_10 : decode cX9_elementsIn 10 = .ok (.iload_n 1, 1) := by decide +kernel
theorem dX9_elementsIn_11 : decode cX9_elementsIn 11 = .ok (.iload_n 0, 1) := by decide +kernel
theorem dX9_elementsIn_12 : decode cX9_elementsIn 12 = .ok (.iload_n 2, 1) := by decide +kernel
theorem dX9_elementsIn_13 : decode cX9_elementsIn 13 = .ok (.ishr, 1) := by decide +kernel
theorem dX9_elementsIn_14 : decode cX9_elementsIn 14 = .ok (.iconst 1, 1) := by decide +kernel
theorem dX9_elementsIn_15 : decode cX9_elementsIn 15 = .ok (.iand, 1) := by decide +kernel
theorem dX9_elementsIn_16 : decode cX9_elementsIn 16 = .ok (.iadd, 1) := by decide +kernel
theorem dX9_elementsIn_17 : decode cX9_elementsIn 17 = .ok (.istore_n 1, 1) := by decide +kernel
theorem dX9_elementsIn_18 : decode cX9_elementsIn 18 = .ok (.iinc 2 1, 3) := by decide +kernel
theorem dX9_elementsIn_21 : decode cX9_elementsIn 21 = .ok (.goto (-17), 3) := by decide +kernel
theorem dX9_elementsIn_24 : decode cX9_elementsIn 24 = .ok (.iload_n 1, 1) := by decide +kernel
theorem dX9_elementsIn_25 : decode cX9_elementsIn 25 = .ok (.ireturn, 1) := by decide +kernel
theorem dX9_write_0 : decode cX9_write 0 = .ok (.aload_n 0, 1) := by decide +kernel
theorem dX9_write_1 : decode cX9_write 1 = .ok (.aload_n 0, 1) := by decide +kernel
theorem dX9_write_2 : decode cX9_write 2 = .ok (.iload_n 1, 1) := by decide +kernel
theorem dX9_write_3 : decode cX9_write 3 = .ok (.invokevirtual 220, 3) := by decide +kernel
theorem dX9_write_6 : decode cX9_write 6 = .ok (.putfield 62, 3) := by decide +kernel
theorem dX9_write_9 : decode cX9_write 9 = .ok (.aload_n 0, 1) := by decide +kernel
theorem dX9_write_10 : decode cX9_write 10 = .ok (.getfield 62, 3) := by decide +kernel
theorem dX9_write_13 : decode cX9_write 13 = .ok (.ifCond .eq 5, 3) := by decide +kernel
theorem dX9_write_16 : decode cX9_write 16 = .ok (.iconst 0, 1) := by decide +kernel
theorem dX9_write_17 : decode cX9_write 17 = .ok (.ireturn, 1) := by decide +kernel
theorem dX9_write_18 : decode cX9_write 18 = .ok (.iconst 0, 1) := by decide +kernel
theorem dX9_write_19 : decode cX9_write 19 = .ok (.istore_n 2, 1) := by decide +kernel
theorem dX9_write_20 : decode cX9_write 20 = .ok (.iconst 0, 1) := by decide +kernel
theorem dX9_write_21 : decode cX9_write 21 = .ok (.istore_n 3, 1) := by decide +kernel
theorem dX9_write_22 : decode cX9_write 22 = .ok (.iload_n 3, 1) := by decide +kernel
theorem dX9_write_23 : decode cX9_write 23 = .ok (.sipush 4096, 3) := by decide +kernel
theorem dX9_write_26 : decode cX9_write 26 = .ok (.if_icmp .ge 42, 3) := by decide +kernel
theorem dX9_write_29 : decode cX9_write 29 = .ok (.aload_n 0, 1) := by decide +kernel
theorem dX9_write_30 : decode cX9_write 30 = .ok (.getfield 24, 3) := by decide +kernel
theorem dX9_write_33 : decode cX9_write 33 = .ok (.iload_n 1, 1) := by decide +kernel
theorem dX9_write_34 : decode cX9_write 34 = .ok (.iload_n 3, 1) := by decide +kernel
theorem dX9_write_35 : decode cX9_write 35 = .ok (.invokestatic 65, 3) := by decide +kernel
theorem dX9_write_38 : decode cX9_write 38 = .ok (.ifCond .eq 24, 3) := by decide +kernel
theorem dX9_write_41 : decode cX9_write 41 = .ok (.iload_n 2, 1) := by decide +kernel
theorem dX9_write_42 : decode cX9_write 42 = .ok (.iload_n 2, 1) := by decide +kernel
theorem dX9_write_43 : decode cX9_write 43 = .ok (.ifCond .le 7, 3) := by decide +kernel
theorem dX9_write_46 : decode cX9_write 46 = .ok (.iconst 1, 1) := by decide +kernel
theorem dX9_write_47 : decode cX9_write 47 = .ok (.goto 4, 3) := by decide +kernel
theorem dX9_write_50 : decode cX9_write 50 = .ok (.iconst 0, 1) := by decide +kernel
theorem dX9_write_51 : decode cX9_write 51 = .ok (.iload_n 3, 1) := by decide +kernel
theorem dX9_write_52 : decode cX9_write 52 = .ok (.invokestatic 228, 3) := by decide +kernel
theorem dX9_write_55 : decode cX9_write 55 = .ok (.iconst 1, 1) := by decide +kernel
theorem dX9_write_56 : decode cX9_write 56 = .ok (.invokestatic 222, 3) := by decide +kernel
theorem dX9_write_59 : decode cX9_write 59 = .ok (.iadd, 1) := by decide +kernel
theorem dX9_write_60 : decode cX9_write 60 = .ok (.iadd, 1) := by decide +kernel
theorem dX9_write_61 : decode cX9_write 61 = .ok (.istore_n 2, 1) := by decide +kernel
theorem dX9_write_62 : decode cX9_write 62 = .ok (.iinc 3 1, 3) := by decide +kernel
theorem dX9_write_65 : decode cX9_write 65 = .ok (.goto (-43), 3) := by decide +kernel
theorem dX9_write_68 : decode cX9_write 68 = .ok (.iload_n 2, 1) := by decide +kernel
theorem dX9_write_69 : decode cX9_write 69 = .ok (.sipush 1000, 3) := by decide +kernel
theorem dX9_write_72 : decode cX9_write 72 = .ok (.if_icmp .le 9, 3) := by decide +kernel
theorem dX9_write_75 : decode cX9_write 75 = .ok (.aload_n 0, 1) := by decide +kernel
theorem dX9_write_76 : decode cX9_write 76 = .ok (.iconst 3, 1) := by decide +kernel
theorem dX9_write_77 : decode cX9_write 77 = .ok (.invokevirtual 139, 3) := by decide +kernel
theorem dX9_write_80 : decode cX9_write 80 = .ok (.ireturn, 1) := by decide +kernel
theorem dX9_write_81 : decode cX9_write 81 = .ok (.aload_n 0, 1) := by decide +kernel
theorem dX9_write_82 : decode cX9_write 82 = .ok (.iconst 0, 1) := by decide +kernel
theorem dX9_write_83 : decode cX9_write 83 = .ok (.putfield 231, 3) := by decide +kernel
theorem dX9_write_86 : decode cX9_write 86 = .ok (.iconst 0, 1) := by decide +kernel
theorem dX9_write_87 : decode cX9_write 87 = .ok (.istore_n 3, 1) := by decide +kernel
theorem dX9_write_88 : decode cX9_write 88 = .ok (.iload_n 3, 1) := by decide +kernel
theorem dX9_write_89 : decode cX9_write 89 = .ok (.sipush 4096, 3) := by decide +kernel
theorem dX9_write_92 : decode cX9_write 92 = .ok (.if_icmp .ge 82, 3) := by decide +kernel
theorem dX9_write_95 : decode cX9_write 95 = .ok (.aload_n 0, 1) := by decide +kernel
theorem dX9_write_96 : decode cX9_write 96 = .ok (.getfield 24, 3) := by decide +kernel
theorem dX9_write_99 : decode cX9_write 99 = .ok (.iload_n 1, 1) := by decide +kernel
theorem dX9_write_100 : decode cX9_write 100 = .ok (.iload_n 3, 1) := by decide +kernel
theorem dX9_write_101 : decode cX9_write 101 = .ok (.invokestatic 65, 3) := by decide +kernel
theorem dX9_write_104 : decode cX9_write 104 = .ok (.ifCond .ne 6, 3) := by decide +kernel
theorem dX9_write_107 : decode cX9_write 107 = .ok (.goto 61, 3) := by decide +kernel
theorem dX9_write_110 : decode cX9_write 110 = .ok (.aload_n 0, 1) := by decide +kernel
theorem dX9_write_111 : decode cX9_write 111 = .ok (.getfield 231, 3) := by decide +kernel
theorem dX9_write_114 : decode cX9_write 114 = .ok (.ifCond .le 9, 3) := by decide +kernel
theorem dX9_write_117 : decode cX9_write 117 = .ok (.aload_n 0, 1) := by decide +kernel
theorem dX9_write_118 : decode cX9_write 118 = .ok (.bipush 43, 2) := by decide +kernel
theorem dX9_write_120 : decode cX9_write 120 = .ok (.invokevirtual 234, 3) := by decide +kernel
theorem dX9_write_123 : decode cX9_write 123 = .ok (.iload_n 3, 1) := by decide +kernel
theorem dX9_write_124 : decode cX9_write 124 = .ok (.ifCond .ne 9, 3) := by decide +kernel
theorem dX9_write_127 : decode cX9_write 127 = .ok (.aload_n 0, 1) := by decide +kernel
theorem dX9_write_128 : decode cX9_write 128 = .ok (.bipush 49, 2) := by decide +kernel
theorem dX9_write_130 : decode cX9_write 130 = .ok (.invokevirtual 234, 3) := by decide +kernel
theorem dX9_write_133 : decode cX9_write 133 = .ok (.iconst 0, 1) := by decide +kernel
theorem dX9_write_134 : decode cX9_write 134 = .ok (.istore 4, 2) := by decide +kernel
theorem dX9_write_136 : decode cX9_write 136 = .ok (.iload 4, 2) := by decide +kernel
theorem dX9_write_138 : decode cX9_write 138 = .ok (.bipush 12, 2) := by decide +kernel
theorem dX9_write_140 : decode cX9_write 140 = .ok (.if_icmp .ge 28, 3) := by decide +kernel
theorem dX9_write_143 : decode cX9_write 143 = .ok (.iload_n 3, 1) := by decide +kernel
theorem dX9_write_144 : decode cX9_write 144 = .ok (.iload 4, 2) := by decide +kernel
theorem dX9_write_146 : decode cX9_write 146 = .ok (.ishr, 1) := by decide +kernel
theorem dX9_write_147 : decode cX9_write 147 = .ok (.iconst 1, 1) := by decide +kernel
theorem dX9_write_148 : decode cX9_write 148 = .ok (.iand, 1) := by decide +kernel
theorem dX9_write_149 : decode cX9_write 149 = .ok (.iconst 1, 1) := by decide +kernel
theorem dX9_write_150 : decode cX9_write 150 = .ok (.if_icmp .ne 12, 3) := by decide +kernel
theorem dX9_write_153 : decode cX9_write 153 = .ok (.aload_n 0, 1) := by decide +kernel
theorem dX9_write_154 : decode cX9_write 154 = .ok (.bipush 97, 2) := by decide +kernel
theorem dX9_write_156 : decode cX9_write 156 = .ok (.iload 4, 2) := by decide +kernel
theorem dX9_write_158 : decode cX9_write 158 = .ok (.iadd, 1) := by decide +kernel
theorem dX9_write_159 : decode cX9_write 159 = .ok (.invokevirtual 234, 3) := by decide +kernel
theorem dX9_write_162 : decode cX9_write 162 = .ok (.iinc 4 1, 3) := by decide +kernel
theorem dX9_write_165 : decode cX9_write 165 = .ok (.goto (-29), 3) := by decide +kernel
theorem dX9_write_168 : decode cX9_write 168 = .ok (.iinc 3 1, 3) := by decide +kernel
theorem dX9_write_171 : decode cX9_write 171 = .ok (.goto (-83), 3) := by decide +kernel
theorem dX9_write_174 : decode cX9_write 174 = .ok (.aload_n 0, 1) := by decide +kernel
theorem dX9_write_175 : decode cX9_write 175 = .ok (.getfield 231, 3) := by decide +kernel
theorem dX9_write_178 : decode cX9_write 178 = .ok (.ifCond .ne 9, 3) := by decide +kernel
theorem dX9_write_181 : decode cX9_write 181 = .ok (.aload_n 0, 1) := by decide +kernel
theorem dX9_write_182 : decode cX9_write 182 = .ok (.bipush 48, 2) := by decide +kernel
theorem dX9_write_184 : decode cX9_write 184 = .ok (.invokevirtual 234, 3) := by decide +kernel
theorem dX9_write_187 : decode cX9_write 187 = .ok (.aload_n 0, 1) := by decide +kernel
theorem dX9_write_188 : decode cX9_write 188 = .ok (.getfield 231, 3) := by decide +kernel
theorem dX9_write_191 : decode cX9_write 191 = .ok (.ireturn, 1) := by decide +kernel
theorem dX9_letter_0 : decode cX9_letter 0 = .ok (.aload_n 0, 1) := by decide +kernel
theorem dX9_letter_1 : decode cX9_letter 1 = .ok (.getfield 13, 3) := by decide +kernel
theorem dX9_letter_4 : decode cX9_letter 4 = .ok (.aload_n 0, 1) := by decide +kernel
theorem dX9_letter_5 : decode cX9_letter 5 = .ok (.getfield 231, 3) := by decide +kernel
theorem dX9_letter_8 : decode cX9_letter 8 = .ok (.iload_n 1, 1) := by decide +kernel
theorem dX9_letter_9 : decode cX9_letter 9 = .ok (.i2b, 1) := by decide +kernel
theorem dX9_letter_10 : decode cX9_letter 10 = .ok (.bastore, 1) := by decide +kernel
theorem dX9_letter_11 : decode cX9_letter 11 = .ok (.aload_n 0, 1) := by decide +kernel
theorem dX9_letter_12 : decode cX9_letter 12 = .ok (.dup, 1) := by decide +kernel
theorem dX9_letter_13 : decode cX9_letter 13 = .ok (.getfield 231, 3) := by decide +kernel
theorem dX9_letter_16 : decode cX9_letter 16 = .ok (.iconst 1, 1) := by decide +kernel
theorem dX9_letter_17 : decode cX9_letter 17 = .ok (.iadd, 1) := by decide +kernel
theorem dX9_letter_18 : decode cX9_letter 18 = .ok (.putfield 231, 3) := by decide +kernel
theorem dX9_letter_21 : decode cX9_letter 21 = .ok (.return_, 1) := by decide +kernel
theorem dX9_outputByte_0 : decode cX9_outputByte 0 = .ok (.aload_n 0, 1) := by decide +kernel
theorem dX9_outputByte_1 : decode cX9_outputByte 1 = .ok (.iconst 0, 1) := by decide +kernel
theorem dX9_outputByte_2 : decode cX9_outputByte 2 = .ok (.putfield 62, 3) := by decide +kernel
theorem dX9_outputByte_5 : decode cX9_outputByte 5 = .ok (.iload_n 1, 1) := by decide +kernel
theorem dX9_outputByte_6 : decode cX9_outputByte 6 = .ok (.ifCond .lt 20, 3) := by decide +kernel
theorem dX9_outputByte_9 : decode cX9_outputByte 9 = .ok (.iload_n 1, 1) := by decide +kernel
theorem dX9_outputByte_10 : decode cX9_outputByte 10 = .ok (.aload_n 0, 1) := by decide +kernel
theorem dX9_outputByte_11 : decode cX9_outputByte 11 = .ok (.getfield 231, 3) := by decide +kernel
theorem dX9_outputByte_14 : decode cX9_outputByte 14 = .ok (.if_icmp .ge 12, 3) := by decide +kernel
theorem dX9_outputByte_17 : decode cX9_outputByte 17 = .ok (.aload_n 0, 1) := by decide +kernel
theorem dX9_outputByte_18 : decode cX9_outputByte 18 = .ok (.getfield 13, 3) := by decide +kernel
theorem dX9_outputByte_21 : decode cX9_outputByte 21 = .ok (.iload_n 1, 1) := by decide +kernel
theorem dX9_outputByte_22 : decode cX9_outputByte 22 = .ok (.baload, 1) := by decide +kernel
theorem dX9_outputByte_23 : decode cX9_outputByte 23 = .ok (.goto 8, 3) := by decide +kernel
theorem dX9_outputByte_26 : decode cX9_outputByte 26 = .ok (.aload_n 0, 1) := by decide +kernel
theorem dX9_outputByte_27 : decode cX9_outputByte 27 = .ok (.iconst 1, 1) := by decide +kernel
theorem dX9_outputByte_28 : decode cX9_outputByte 28 = .ok (.invokevirtual 139, 3) := by decide +kernel
theorem dX9_outputByte_31 : decode cX9_outputByte 31 = .ok (.ireturn, 1) := by decide +kernel
theorem dX9_isMask_0 : decode cX9_isMask 0 = .ok (.iload_n 0, 1) := by decide +kernel
theorem dX9_isMask_1 : decode cX9_isMask 1 = .ok (.ifCond .lt 14, 3) := by decide +kernel
theorem dX9_isMask_4 : decode cX9_isMask 4 = .ok (.iload_n 0, 1) := by decide +kernel
theorem dX9_isMask_5 : decode cX9_isMask 5 = .ok (.sipush 4096, 3) := by decide +kernel
theorem dX9_isMask_8 : decode cX9_isMask 8 = .ok (.if_icmp .ge 7, 3) := by decide +kernel
theorem dX9_isMask_11 : decode cX9_isMask 11 = .ok (.iconst 1, 1) := by decide +kernel
theorem dX9_isMask_12 : decode cX9_isMask 12 = .ok (.goto 4, 3) := by decide +kernel
theorem dX9_isMask_15 : decode cX9_isMask 15 = .ok (.iconst 0, 1) := by decide +kernel
theorem dX9_isMask_16 : decode cX9_isMask 16 = .ok (.ireturn, 1) := by decide +kernel
theorem dX9_isElement_0 : decode cX9_isElement 0 = .ok (.iload_n 0, 1) := by decide +kernel
theorem dX9_isElement_1 : decode cX9_isElement 1 = .ok (.ifCond .lt 13, 3) := by decide +kernel
theorem dX9_isElement_4 : decode cX9_isElement 4 = .ok (.iload_n 0, 1) := by decide +kernel
theorem dX9_isElement_5 : decode cX9_isElement 5 = .ok (.bipush 12, 2) := by decide +kernel
theorem dX9_isElement_7 : decode cX9_isElement 7 = .ok (.if_icmp .ge 7, 3) := by decide +kernel
theorem dX9_isElement_10 : decode cX9_isElement 10 = .ok (.iconst 1, 1) := by decide +kernel
theorem dX9_isElement_11 : decode cX9_isElement 11 = .ok (.goto 4, 3) := by decide +kernel
theorem dX9_isElement_14 : decode cX9_isElement 14 = .ok (.iconst 0, 1) := by decide +kernel
theorem dX9_isElement_15 : decode cX9_isElement 15 = .ok (.ireturn, 1) := by decide +kernel
theorem dX9_single_0 : decode cX9_single 0 = .ok (.aload_n 0, 1) := by decide +kernel
theorem dX9_single_1 : decode cX9_single 1 = .ok (.iconst 0, 1) := by decide +kernel
theorem dX9_single_2 : decode cX9_single 2 = .ok (.putfield 62, 3) := by decide +kernel
theorem dX9_single_5 : decode cX9_single 5 = .ok (.iload_n 1, 1) := by decide +kernel
theorem dX9_single_6 : decode cX9_single 6 = .ok (.invokestatic 237, 3) := by decide +kernel
theorem dX9_single_9 : decode cX9_single 9 = .ok (.ifCond .ne 9, 3) := by decide +kernel
theorem dX9_single_12 : decode cX9_single 12 = .ok (.aload_n 0, 1) := by decide +kernel
theorem dX9_single_13 : decode cX9_single 13 = .ok (.iconst 1, 1) := by decide +kernel
theorem dX9_single_14 : decode cX9_single 14 = .ok (.invokevirtual 139, 3) := by decide +kernel
theorem dX9_single_17 : decode cX9_single 17 = .ok (.ireturn, 1) := by decide +kernel
theorem dX9_single_18 : decode cX9_single 18 = .ok (.aload_n 0, 1) := by decide +kernel
theorem dX9_single_19 : decode cX9_single 19 = .ok (.getfield 133, 3) := by decide +kernel
theorem dX9_single_22 : decode cX9_single 22 = .ok (.sipush 200, 3) := by decide +kernel
theorem dX9_single_25 : decode cX9_single 25 = .ok (.if_icmp .ne 9, 3) := by decide +kernel
theorem dX9_single_28 : decode cX9_single 28 = .ok (.aload_n 0, 1) := by decide +kernel
theorem dX9_single_29 : decode cX9_single 29 = .ok (.iconst 2, 1) := by decide +kernel
theorem dX9_single_30 : decode cX9_single 30 = .ok (.invokevirtual 139, 3) := by decide +kernel
theorem dX9_single_33 : decode cX9_single 33 = .ok (.ireturn, 1) := by decide +kernel
theorem dX9_single_34 : decode cX9_single 34 = .ok (.aload_n 0, 1) := by decide +kernel
theorem dX9_single_35 : decode cX9_single 35 = .ok (.getfield 41, 3) := by decide +kernel
theorem dX9_single_38 : decode cX9_single 38 = .ok (.iconst 0, 1) := by decide +kernel
theorem dX9_single_39 : decode cX9_single 39 = .ok (.invokestatic 69, 3) := by decide +kernel
theorem dX9_single_42 : decode cX9_single 42 = .ok (.aload_n 0, 1) := by decide +kernel
theorem dX9_single_43 : decode cX9_single 43 = .ok (.getfield 41, 3) := by decide +kernel
theorem dX9_single_46 : decode cX9_single 46 = .ok (.iconst 0, 1) := by decide +kernel
theorem dX9_single_47 : decode cX9_single 47 = .ok (.iload_n 1, 1) := by decide +kernel
theorem dX9_single_48 : decode cX9_single 48 = .ok (.invokestatic 98, 3) := by decide +kernel
theorem dX9_single_51 : decode cX9_single 51 = .ok (.aload_n 0, 1) := by decide +kernel
theorem dX9_single_52 : decode cX9_single 52 = .ok (.invokevirtual 204, 3) := by decide +kernel
theorem dX9_single_55 : decode cX9_single 55 = .ok (.ireturn, 1) := by decide +kernel
theorem dX9_subsetsOf_0 : decode cX9_subsetsOf 0 = .ok (.aload_n 0, 1) := by decide +kernel
theorem dX9_subsetsOf_1 : decode cX9_subsetsOf 1 = .ok (.iconst 0, 1) := by decide +kernel
theorem dX9_subsetsOf_2 : decode cX9_subsetsOf 2 = .ok (.putfield 62, 3) := by decide +kernel
theorem dX9_subsetsOf_5 : decode cX9_subsetsOf 5 = .ok (.iload_n 1, 1) := by decide +kernel
theorem dX9_subsetsOf_6 : decode cX9_subsetsOf 6 = .ok (.invokestatic 237, 3) := by decide +kernel
theorem dX9_subsetsOf_9 : decode cX9_subsetsOf 9 = .ok (.ifCond .eq 14, 3) := by decide +kernel
theorem dX9_subsetsOf_12 : decode cX9_subsetsOf 12 = .ok (.iload_n 2, 1) := by decide +kernel
theorem dX9_subsetsOf_13 : decode cX9_subsetsOf 13 = .ok (.iconst (-1), 1) := by decide +kernel
theorem dX9_subsetsOf_14 : decode cX9_subsetsOf 14 = .ok (.if_icmp .lt 9, 3) := by decide +kernel
theorem dX9_subsetsOf_17 : decode cX9_subsetsOf 17 = .ok (.iload_n 2, 1) := by decide +kernel
theorem dX9_subsetsOf_18 : decode cX9_subsetsOf 18 = .ok (.bipush 12, 2) := by decide +kernel
theorem dX9_subsetsOf_20 : decode cX9_subsetsOf 20 = .ok (.if_icmp .le 9, 3) := by decide +kernel
theorem dX9_subsetsOf_23 : decode cX9_subsetsOf 23 = .ok (.aload_n 0, 1) := by decide +kernel
theorem dX9_subsetsOf_24 : decode cX9_subsetsOf 24 = .ok (.iconst 1, 1) := by decide +kernel
theorem dX9_subsetsOf_25 : decode cX9_subsetsOf 25 = .ok (.invokevirtual 139, 3) := by decide +kernel
theorem dX9_subsetsOf_28 : decode cX9_subsetsOf 28 = .ok (.ireturn, 1) := by decide +kernel
theorem dX9_subsetsOf_29 : decode cX9_subsetsOf 29 = .ok (.aload_n 0, 1) := by decide +kernel
theorem dX9_subsetsOf_30 : decode cX9_subsetsOf 30 = .ok (.getfield 133, 3) := by decide +kernel
theorem dX9_subsetsOf_33 : decode cX9_subsetsOf 33 = .ok (.sipush 200, 3) := by decide +kernel
theorem dX9_subsetsOf_36 : decode cX9_subsetsOf 36 = .ok (.if_icmp .ne 9, 3) := by decide +kernel
theorem dX9_subsetsOf_39 : decode cX9_subsetsOf 39 = .ok (.aload_n 0, 1) := by decide +kernel
theorem dX9_subsetsOf_40 : decode cX9_subsetsOf 40 = .ok (.iconst 2, 1) := by decide +kernel
theorem dX9_subsetsOf_41 : decode cX9_subsetsOf 41 = .ok (.invokevirtual 139, 3) := by decide +kernel
theorem dX9_subsetsOf_44 : decode cX9_subsetsOf 44 = .ok (.ireturn, 1) := by decide +kernel
theorem dX9_subsetsOf_45 : decode cX9_subsetsOf 45 = .ok (.aload_n 0, 1) := by decide +kernel
theorem dX9_subsetsOf_46 : decode cX9_subsetsOf 46 = .ok (.getfield 41, 3) := by decide +kernel
theorem dX9_subsetsOf_49 : decode cX9_subsetsOf 49 = .ok (.iconst 0, 1) := by decide +kernel
theorem dX9_subsetsOf_50 : decode cX9_subsetsOf 50 = .ok (.invokestatic 69, 3) := by decide +kernel
theorem dX9_subsetsOf_53 : decode cX9_subsetsOf 53 = .ok (.iconst 0, 1) := by decide +kernel
theorem dX9_subsetsOf_54 : decode cX9_subsetsOf 54 = .ok (.istore_n 3, 1) := by decide +kernel
theorem dX9_subsetsOf_55 : decode cX9_subsetsOf 55 = .ok (.iload_n 3, 1) := by decide +kernel
theorem dX9_subsetsOf_56 : decode cX9_subsetsOf 56 = .ok (.sipush 4096, 3) := by decide +kernel
theorem dX9_subsetsOf_59 : decode cX9_subsetsOf 59 = .ok (.if_icmp .ge 38, 3) := by decide +kernel
theorem dX9_subsetsOf_62 : decode cX9_subsetsOf 62 = .ok (.iload_n 3, 1) := by decide +kernel
theorem dX9_subsetsOf_63 : decode cX9_subsetsOf 63 = .ok (.iload_n 1, 1) := by decide +kernel
theorem dX9_subsetsOf_64 : decode cX9_subsetsOf 64 = .ok (.iconst (-1), 1) := by decide +kernel
theorem dX9_subsetsOf_65 : decode cX9_subsetsOf 65 = .ok (.ixor, 1) := by decide +kernel
theorem dX9_subsetsOf_66 : decode cX9_subsetsOf 66 = .ok (.iand, 1) := by decide +kernel
theorem dX9_subsetsOf_67 : decode cX9_subsetsOf 67 = .ok (.ifCond .ne 24, 3) := by decide +kernel
theorem dX9_subsetsOf_70 : decode cX9_subsetsOf 70 = .ok (.iload_n 2, 1) := by decide +kernel
theorem dX9_subsetsOf_71 : decode cX9_subsetsOf 71 = .ok (.ifCond .lt 11, 3) := by decide +kernel
theorem dX9_subsetsOf_74 : decode cX9_subsetsOf 74 = .ok (.iload_n 3, 1) := by decide +kernel
theorem dX9_subsetsOf_75 : decode cX9_subsetsOf 75 = .ok (.invokestatic 228, 3) := by decide +kernel
theorem dX9_subsetsOf_78 : decode cX9_subsetsOf 78 = .ok (.iload_n 2, 1) := by decide +kernel
theorem dX9_subsetsOf_79 : decode cX9_subsetsOf 79 = .ok (.if_icmp .ne 12, 3) := by decide +kernel
theorem dX9_subsetsOf_82 : decode cX9_subsetsOf 82 = .ok (.aload_n 0, 1) := by decide +kernel
theorem dX9_subsetsOf_83 : decode cX9_subsetsOf 83 = .ok (.getfield 41, 3) := by decide +kernel
theorem dX9_subsetsOf_86 : decode cX9_subsetsOf 86 = .ok (.iconst 0, 1) := by decide +kernel
theorem dX9_subsetsOf_87 : decode cX9_subsetsOf 87 = .ok (.iload_n 3, 1) := by decide +kernel
theorem dX9_subsetsOf_88 : decode cX9_subsetsOf 88 = .ok (.invokestatic 98, 3) := by decide +kernel
theorem dX9_subsetsOf_91 : decode cX9_subsetsOf 91 = .ok (.iinc 3 1, 3) := by decide +kernel
theorem dX9_subsetsOf_94 : decode cX9_subsetsOf 94 = .ok (.goto (-39), 3) := by decide +kernel
theorem dX9_subsetsOf_97 : decode cX9_subsetsOf 97 = .ok (.aload_n 0, 1) := by decide +kernel
theorem dX9_subsetsOf_98 : decode cX9_subsetsOf 98 = .ok (.invokevirtual 204, 3) := by decide +kernel
theorem dX9_subsetsOf_101 : decode cX9_subsetsOf 101 = .ok (.ireturn, 1) := by decide +kernel
theorem dX9_release_0 : decode cX9_release 0 = .ok (.aload_n 0, 1) := by decide +kernel
theorem dX9_release_1 : decode cX9_release 1 = .ok (.aload_n 0, 1) := by decide +kernel
theorem dX9_release_2 : decode cX9_release 2 = .ok (.iload_n 1, 1) := by decide +kernel
theorem dX9_release_3 : decode cX9_release 3 = .ok (.invokevirtual 220, 3) := by decide +kernel
theorem dX9_release_6 : decode cX9_release 6 = .ok (.putfield 62, 3) := by decide +kernel
theorem dX9_release_9 : decode cX9_release 9 = .ok (.aload_n 0, 1) := by decide +kernel
theorem dX9_release_10 : decode cX9_release 10 = .ok (.getfield 62, 3) := by decide +kernel
theorem dX9_release_13 : decode cX9_release 13 = .ok (.ifCond .eq 5, 3) := by decide +kernel
theorem dX9_release_16 : decode cX9_release 16 = .ok (.iconst 0, 1) := by decide +kernel
theorem dX9_release_17 : decode cX9_release 17 = .ok (.ireturn, 1) := by decide +kernel
theorem dX9_release_18 : decode cX9_release 18 = .ok (.aload_n 0, 1) := by decide +kernel
theorem dX9_release_19 : decode cX9_release 19 = .ok (.getfield 20, 3) := by decide +kernel
theorem dX9_release_22 : decode cX9_release 22 = .ok (.iload_n 1, 1) := by decide +kernel
theorem dX9_release_23 : decode cX9_release 23 = .ok (.iconst 1, 1) := by decide +kernel
theorem dX9_release_24 : decode cX9_release 24 = .ok (.bastore, 1) := by decide +kernel
theorem dX9_release_25 : decode cX9_release 25 = .ok (.aload_n 0, 1) := by decide +kernel
theorem dX9_release_26 : decode cX9_release 26 = .ok (.dup, 1) := by decide +kernel
theorem dX9_release_27 : decode cX9_release 27 = .ok (.getfield 217, 3) := by decide +kernel
theorem dX9_release_30 : decode cX9_release 30 = .ok (.iconst 1, 1) := by decide +kernel
theorem dX9_release_31 : decode cX9_release 31 = .ok (.isub, 1) := by decide +kernel
theorem dX9_release_32 : decode cX9_release 32 = .ok (.putfield 217, 3) := by decide +kernel
theorem dX9_release_35 : decode cX9_release 35 = .ok (.aload_n 0, 1) := by decide +kernel
theorem dX9_release_36 : decode cX9_release 36 = .ok (.getfield 217, 3) := by decide +kernel
theorem dX9_release_39 : decode cX9_release 39 = .ok (.ireturn, 1) := by decide +kernel
theorem dX9_createdCount_0 : decode cX9_createdCount 0 = .ok (.aload_n 0, 1) := by decide +kernel
theorem dX9_createdCount_1 : decode cX9_createdCount 1 = .ok (.iconst 0, 1) := by decide +kernel
theorem dX9_createdCount_2 : decode cX9_createdCount 2 = .ok (.putfield 62, 3) := by decide +kernel
theorem dX9_createdCount_5 : decode cX9_createdCount 5 = .ok (.aload_n 0, 1) := by decide +kernel
theorem dX9_createdCount_6 : decode cX9_createdCount 6 = .ok (.getfield 133, 3) := by decide +kernel
theorem dX9_createdCount_9 : decode cX9_createdCount 9 = .ok (.ireturn, 1) := by decide +kernel
theorem dX9_nodeCount_0 : decode cX9_nodeCount 0 = .ok (.aload_n 0, 1) := by decide +kernel
theorem dX9_nodeCount_1 : decode cX9_nodeCount 1 = .ok (.iconst 0, 1) := by decide +kernel
theorem dX9_nodeCount_2 : decode cX9_nodeCount 2 = .ok (.putfield 62, 3) := by decide +kernel
theorem dX9_nodeCount_5 : decode cX9_nodeCount 5 = .ok (.aload_n 0, 1) := by decide +kernel
theorem dX9_nodeCount_6 : decode cX9_nodeCount 6 = .ok (.invokevirtual 240, 3) := by decide +kernel
theorem dX9_nodeCount_9 : decode cX9_nodeCount 9 = .ok (.ireturn, 1) := by decide +kernel
theorem dX9_nodesOf_0 : decode cX9_nodesOf 0 = .ok (.aload_n 0, 1) := by decide +kernel
theorem dX9_nodesOf_1 : decode cX9_nodesOf 1 = .ok (.aload_n 0, 1) := by decide +kernel
theorem dX9_nodesOf_2 : decode cX9_nodesOf 2 = .ok (.iload_n 1, 1) := by decide +kernel
theorem dX9_nodesOf_3 : decode cX9_nodesOf 3 = .ok (.invokevirtual 220, 3) := by decide +kernel
theorem dX9_nodesOf_6 : decode cX9_nodesOf 6 = .ok (.putfield 62, 3) := by decide +kernel
theorem dX9_nodesOf_9 : decode cX9_nodesOf 9 = .ok (.aload_n 0, 1) := by decide +kernel
theorem dX9_nodesOf_10 : decode cX9_nodesOf 10 = .ok (.getfield 62, 3) := by decide +kernel
theorem dX9_nodesOf_13 : decode cX9_nodesOf 13 = .ok (.ifCond .ne 11, 3) := by decide +kernel
theorem dX9_nodesOf_16 : decode cX9_nodesOf 16 = .ok (.aload_n 0, 1) := by decide +kernel
theorem dX9_nodesOf_17 : decode cX9_nodesOf 17 = .ok (.iload_n 1, 1) := by decide +kernel
theorem dX9_nodesOf_18 : decode cX9_nodesOf 18 = .ok (.invokevirtual 243, 3) := by decide +kernel
theorem dX9_nodesOf_21 : decode cX9_nodesOf 21 = .ok (.goto 4, 3) := by decide +kernel
theorem dX9_nodesOf_24 : decode cX9_nodesOf 24 = .ok (.iconst 0, 1) := by decide +kernel
theorem dX9_nodesOf_25 : decode cX9_nodesOf 25 = .ok (.ireturn, 1) := by decide +kernel
theorem dX9_two_0 : decode cX9_two 0 = .ok (.aload_n 0, 1) := by decide +kernel
theorem dX9_two_1 : decode cX9_two 1 = .ok (.aload_n 0, 1) := by decide +kernel
theorem dX9_two_2 : decode cX9_two 2 = .ok (.iload_n 2, 1) := by decide +kernel
theorem dX9_two_3 : decode cX9_two 3 = .ok (.iload_n 3, 1) := by decide +kernel
theorem dX9_two_4 : decode cX9_two 4 = .ok (.invokevirtual 246, 3) := by decide +kernel
theorem dX9_two_7 : decode cX9_two 7 = .ok (.putfield 62, 3) := by decide +kernel
theorem dX9_two_10 : decode cX9_two 10 = .ok (.aload_n 0, 1) := by decide +kernel
theorem dX9_two_11 : decode cX9_two 11 = .ok (.getfield 62, 3) := by decide +kernel
theorem dX9_two_14 : decode cX9_two 14 = .ok (.ifCond .eq 5, 3) := by decide +kernel
theorem dX9_two_17 : decode cX9_two 17 = .ok (.iconst 0, 1) := by decide +kernel
theorem dX9_two_18 : decode cX9_two 18 = .ok (.ireturn, 1) := by decide +kernel
theorem dX9_two_19 : decode cX9_two 19 = .ok (.aload_n 0, 1) := by decide +kernel
theorem dX9_two_20 : decode cX9_two 20 = .ok (.getfield 133, 3) := by decide +kernel
theorem dX9_two_23 : decode cX9_two 23 = .ok (.sipush 200, 3) := by decide +kernel
theorem dX9_two_26 : decode cX9_two 26 = .ok (.if_icmp .ne 9, 3) := by decide +kernel
theorem dX9_two_29 : decode cX9_two 29 = .ok (.aload_n 0, 1) := by decide +kernel
theorem dX9_two_30 : decode cX9_two 30 = .ok (.iconst 3, 1) := by decide +kernel
theorem dX9_two_31 : decode cX9_two 31 = .ok (.invokevirtual 139, 3) := by decide +kernel
theorem dX9_two_34 : decode cX9_two 34 = .ok (.ireturn, 1) := by decide +kernel
theorem dX9_two_35 : decode cX9_two 35 = .ok (.aload_n 0, 1) := by decide +kernel
theorem dX9_two_36 : decode cX9_two 36 = .ok (.iload_n 2, 1) := by decide +kernel
theorem dX9_two_37 : decode cX9_two 37 = .ok (.iconst 0, 1) := by decide +kernel
theorem dX9_two_38 : decode cX9_two 38 = .ok (.invokevirtual 207, 3) := by decide +kernel
theorem dX9_two_41 : decode cX9_two 41 = .ok (.aload_n 0, 1) := by decide +kernel
theorem dX9_two_42 : decode cX9_two 42 = .ok (.iload_n 3, 1) := by decide +kernel
theorem dX9_two_43 : decode cX9_two 43 = .ok (.iconst 1, 1) := by decide +kernel
theorem dX9_two_44 : decode cX9_two 44 = .ok (.invokevirtual 207, 3) := by decide +kernel
theorem dX9_two_47 : decode cX9_two 47 = .ok (.iload_n 1, 1) := by decide +kernel
theorem dX9_two_48 : decode cX9_two 48 = .ok (.iconst 5, 1) := by decide +kernel
theorem dX9_two_49 : decode cX9_two 49 = .ok (.if_icmp .eq 9, 3) := by decide +kernel
theorem dX9_two_52 : decode cX9_two 52 = .ok (.iload_n 1, 1) := by decide +kernel
theorem dX9_two_53 : decode cX9_two 53 = .ok (.bipush 6, 2) := by decide +kernel
theorem dX9_two_55 : decode cX9_two 55 = .ok (.if_icmp .ne 20, 3) := by decide +kernel
theorem dX9_two_58 : decode cX9_two 58 = .ok (.aload_n 0, 1) := by decide +kernel
theorem dX9_two_59 : decode cX9_two 59 = .ok (.getfield 41, 3) := by decide +kernel
theorem dX9_two_62 : decode cX9_two 62 = .ok (.iconst 1, 1) := by decide +kernel
theorem dX9_two_63 : decode cX9_two 63 = .ok (.invokestatic 213, 3) := by decide +kernel
theorem dX9_two_66 : decode cX9_two 66 = .ok (.ifCond .ne 9, 3) := by decide +kernel
theorem dX9_two_69 : decode cX9_two 69 = .ok (.aload_n 0, 1) := by decide +kernel
theorem dX9_two_70 : decode cX9_two 70 = .ok (.iconst 4, 1) := by decide +kernel
theorem dX9_two_71 : decode cX9_two 71 = .ok (.invokevirtual 139, 3) := by decide +kernel
theorem dX9_two_74 : decode cX9_two 74 = .ok (.ireturn, 1) := by decide +kernel
theorem dX9_two_75 : decode cX9_two 75 = .ok (.aload_n 0, 1) := by decide +kernel
theorem dX9_two_76 : decode cX9_two 76 = .ok (.iload_n 1, 1) := by decide +kernel
theorem dX9_two_77 : decode cX9_two 77 = .ok (.iconst 0, 1) := by decide +kernel
theorem dX9_two_78 : decode cX9_two 78 = .ok (.iconst 1, 1) := by decide +kernel
theorem dX9_two_79 : decode cX9_two 79 = .ok (.invokevirtual 210, 3) := by decide +kernel
theorem dX9_two_82 : decode cX9_two 82 = .ok (.aload_n 0, 1) := by decide +kernel
theorem dX9_two_83 : decode cX9_two 83 = .ok (.invokevirtual 204, 3) := by decide +kernel
theorem dX9_two_86 : decode cX9_two 86 = .ok (.ireturn, 1) := by decide +kernel
theorem dX9_one_0 : decode cX9_one 0 = .ok (.aload_n 0, 1) := by decide +kernel
theorem dX9_one_1 : decode cX9_one 1 = .ok (.aload_n 0, 1) := by decide +kernel
theorem dX9_one_2 : decode cX9_one 2 = .ok (.iload_n 2, 1) := by decide +kernel
theorem dX9_one_3 : decode cX9_one 3 = .ok (.invokevirtual 220, 3) := by decide +kernel
theorem dX9_one_6 : decode cX9_one 6 = .ok (.putfield 62, 3) := by decide +kernel
theorem dX9_one_9 : decode cX9_one 9 = .ok (.aload_n 0, 1) := by decide +kernel
theorem dX9_one_10 : decode cX9_one 10 = .ok (.getfield 62, 3) := by decide +kernel
theorem dX9_one_13 : decode cX9_one 13 = .ok (.ifCond .eq 5, 3) := by decide +kernel
theorem dX9_one_16 : decode cX9_one 16 = .ok (.iconst 0, 1) := by decide +kernel
theorem dX9_one_17 : decode cX9_one 17 = .ok (.ireturn, 1) := by decide +kernel
theorem dX9_one_18 : decode cX9_one 18 = .ok (.aload_n 0, 1) := by decide +kernel
theorem dX9_one_19 : decode cX9_one 19 = .ok (.getfield 133, 3) := by decide +kernel
theorem dX9_one_22 : decode cX9_one 22 = .ok (.sipush 200, 3) := by decide +kernel
theorem dX9_one_25 : decode cX9_one 25 = .ok (.if_icmp .ne 9, 3) := by decide +kernel
theorem dX9_one_28 : decode cX9_one 28 = .ok (.aload_n 0, 1) := by decide +kernel
theorem dX9_one_29 : decode cX9_one 29 = .ok (.iconst 3, 1) := by decide +kernel
theorem dX9_one_30 : decode cX9_one 30 = .ok (.invokevirtual 139, 3) := by decide +kernel
theorem dX9_one_33 : decode cX9_one 33 = .ok (.ireturn, 1) := by decide +kernel
theorem dX9_one_34 : decode cX9_one 34 = .ok (.aload_n 0, 1) := by decide +kernel
theorem dX9_one_35 : decode cX9_one 35 = .ok (.iload_n 2, 1) := by decide +kernel
theorem dX9_one_36 : decode cX9_one 36 = .ok (.iconst 0, 1) := by decide +kernel
theorem dX9_one_37 : decode cX9_one 37 = .ok (.invokevirtual 207, 3) := by decide +kernel
theorem dX9_one_40 : decode cX9_one 40 = .ok (.aload_n 0, 1) := by decide +kernel
theorem dX9_one_41 : decode cX9_one 41 = .ok (.iload_n 1, 1) := by decide +kernel
theorem dX9_one_42 : decode cX9_one 42 = .ok (.iconst 0, 1) := by decide +kernel
theorem dX9_one_43 : decode cX9_one 43 = .ok (.iconst 0, 1) := by decide +kernel
theorem dX9_one_44 : decode cX9_one 44 = .ok (.invokevirtual 210, 3) := by decide +kernel
theorem dX9_one_47 : decode cX9_one 47 = .ok (.aload_n 0, 1) := by decide +kernel
theorem dX9_one_48 : decode cX9_one 48 = .ok (.invokevirtual 204, 3) := by decide +kernel
theorem dX9_one_51 : decode cX9_one 51 = .ok (.ireturn, 1) := by decide +kernel
theorem dX9_union_0 : decode cX9_union 0 = .ok (.aload_n 0, 1) := by decide +kernel
theorem dX9_union_1 : decode cX9_union 1 = .ok (.iconst 1, 1) := by decide +kernel
theorem dX9_union_2 : decode cX9_union 2 = .ok (.iload_n 1, 1) := by decide +kernel
theorem dX9_union_3 : decode cX9_union 3 = .ok (.iload_n 2, 1) := by decide +kernel
theorem dX9_union_4 : decode cX9_union 4 = .ok (.invokevirtual 248, 3) := by decide +kernel
theorem dX9_union_7 : decode cX9_union 7 = .ok (.ireturn, 1) := by decide +kernel
theorem dX9_intersection_0 : decode cX9_intersection 0 = .ok (.aload_n 0, 1) := by decide +kernel
theorem dX9_intersection_1 : decode cX9_intersection 1 = .ok (.iconst 3, 1) := by decide +kernel
theorem dX9_intersection_2 : decode cX9_intersection 2 = .ok (.iload_n 1, 1) := by decide +kernel
theorem dX9_intersection_3 : decode cX9_intersection 3 = .ok (.iload_n 2, 1) := by decide +kernel
theorem dX9_intersection_4 : decode cX9_intersection 4 = .ok (.invokevirtual 248, 3) := by decide +kernel
theorem dX9_intersection_7 : decode cX9_intersection 7 = .ok (.ireturn, 1) := by decide +kernel
theorem dX9_difference_0 : decode cX9_difference 0 = .ok (.aload_n 0, 1) := by decide +kernel
theorem dX9_difference_1 : decode cX9_difference 1 = .ok (.iconst 2, 1) := by decide +kernel
theorem dX9_difference_2 : decode cX9_difference 2 = .ok (.iload_n 1, 1) := by decide +kernel
theorem dX9_difference_3 : decode cX9_difference 3 = .ok (.iload_n 2, 1) := by decide +kernel
theorem dX9_difference_4 : decode cX9_difference 4 = .ok (.invokevirtual 248, 3) := by decide +kernel
theorem dX9_difference_7 : decode cX9_difference 7 = .ok (.ireturn, 1) := by decide +kernel
theorem dX9_join_0 : decode cX9_join 0 = .ok (.aload_n 0, 1) := by decide +kernel
theorem dX9_join_1 : decode cX9_join 1 = .ok (.iconst 4, 1) := by decide +kernel
theorem dX9_join_2 : decode cX9_join 2 = .ok (.iload_n 1, 1) := by decide +kernel
theorem dX9_join_3 : decode cX9_join 3 = .ok (.iload_n 2, 1) := by decide +kernel
theorem dX9_join_4 : decode cX9_join 4 = .ok (.invokevirtual 248, 3) := by decide +kernel
theorem dX9_join_7 : decode cX9_join 7 = .ok (.ireturn, 1) := by decide +kernel
theorem dX9_meet_0 : decode cX9_meet 0 = .ok (.aload_n 0, 1) := by decide +kernel
theorem dX9_meet_1 : decode cX9_meet 1 = .ok (.bipush 7, 2) := by decide +kernel
theorem dX9_meet_3 : decode cX9_meet 3 = .ok (.iload_n 1, 1) := by decide +kernel
theorem dX9_meet_4 : decode cX9_meet 4 = .ok (.iload_n 2, 1) := by decide +kernel
theorem dX9_meet_5 : decode cX9_meet 5 = .ok (.invokevirtual 248, 3) := by decide +kernel
theorem dX9_meet_8 : decode cX9_meet 8 = .ok (.ireturn, 1) := by decide +kernel
theorem dX9_quotient_0 : decode cX9_quotient 0 = .ok (.aload_n 0, 1) := by decide +kernel
theorem dX9_quotient_1 : decode cX9_quotient 1 = .ok (.iconst 5, 1) := by decide +kernel
theorem dX9_quotient_2 : decode cX9_quotient 2 = .ok (.iload_n 1, 1) := by decide +kernel
theorem dX9_quotient_3 : decode cX9_quotient 3 = .ok (.iload_n 2, 1) := by decide +kernel
theorem dX9_quotient_4 : decode cX9_quotient 4 = .ok (.invokevirtual 248, 3) := by decide +kernel
theorem dX9_quotient_7 : decode cX9_quotient 7 = .ok (.ireturn, 1) := by decide +kernel
theorem dX9_remainder_0 : decode cX9_remainder 0 = .ok (.aload_n 0, 1) := by decide +kernel
theorem dX9_remainder_1 : decode cX9_remainder 1 = .ok (.bipush 6, 2) := by decide +kernel
theorem dX9_remainder_3 : decode cX9_remainder 3 = .ok (.iload_n 1, 1) := by decide +kernel
theorem dX9_remainder_4 : decode cX9_remainder 4 = .ok (.iload_n 2, 1) := by decide +kernel
theorem dX9_remainder_5 : decode cX9_remainder 5 = .ok (.invokevirtual 248, 3) := by decide +kernel
theorem dX9_remainder_8 : decode cX9_remainder 8 = .ok (.ireturn, 1) := by decide +kernel
theorem dX9_supersets_0 : decode cX9_supersets 0 = .ok (.aload_n 0, 1) := by decide +kernel
theorem dX9_supersets_1 : decode cX9_supersets 1 = .ok (.bipush 8, 2) := by decide +kernel
theorem dX9_supersets_3 : decode cX9_supersets 3 = .ok (.iload_n 1, 1) := by decide +kernel
theorem dX9_supersets_4 : decode cX9_supersets 4 = .ok (.iload_n 2, 1) := by decide +kernel
theorem dX9_supersets_5 : decode cX9_supersets 5 = .ok (.invokevirtual 248, 3) := by decide +kernel
theorem dX9_supersets_8 : decode cX9_supersets 8 = .ok (.ireturn, 1) := by decide +kernel
theorem dX9_subsets_0 : decode cX9_subsets 0 = .ok (.aload_n 0, 1) := by decide +kernel
theorem dX9_subsets_1 : decode cX9_subsets 1 = .ok (.bipush 9, 2) := by decide +kernel
theorem dX9_subsets_3 : decode cX9_subsets 3 = .ok (.iload_n 1, 1) := by decide +kernel
theorem dX9_subsets_4 : decode cX9_subsets 4 = .ok (.iload_n 2, 1) := by decide +kernel
theorem dX9_subsets_5 : decode cX9_subsets 5 = .ok (.invokevirtual 248, 3) := by decide +kernel
theorem dX9_subsets_8 : decode cX9_subsets 8 = .ok (.ireturn, 1) := by decide +kernel
theorem dX9_maximal_0 : decode cX9_maximal 0 = .ok (.aload_n 0, 1) := by decide +kernel
theorem dX9_maximal_1 : decode cX9_maximal 1 = .ok (.bipush 10, 2) := by decide +kernel
theorem dX9_maximal_3 : decode cX9_maximal 3 = .ok (.iload_n 1, 1) := by decide +kernel
theorem dX9_maximal_4 : decode cX9_maximal 4 = .ok (.invokevirtual 251, 3) := by decide +kernel
theorem dX9_maximal_7 : decode cX9_maximal 7 = .ok (.ireturn, 1) := by decide +kernel
theorem dX9_minimal_0 : decode cX9_minimal 0 = .ok (.aload_n 0, 1) := by decide +kernel
theorem dX9_minimal_1 : decode cX9_minimal 1 = .ok (.bipush 11, 2) := by decide +kernel
theorem dX9_minimal_3 : decode cX9_minimal 3 = .ok (.iload_n 1, 1) := by decide +kernel
theorem dX9_minimal_4 : decode cX9_minimal 4 = .ok (.invokevirtual 251, 3) := by decide +kernel
theorem dX9_minimal_7 : decode cX9_minimal 7 = .ok (.ireturn, 1) := by decide +kernel
theorem dX9_hitting_0 : decode cX9_hitting 0 = .ok (.aload_n 0, 1) := by decide +kernel
theorem dX9_hitting_1 : decode cX9_hitting 1 = .ok (.bipush 12, 2) := by decide +kernel
theorem dX9_hitting_3 : decode cX9_hitting 3 = .ok (.iload_n 1, 1) := by decide +kernel
theorem dX9_hitting_4 : decode cX9_hitting 4 = .ok (.invokevirtual 251, 3) := by decide +kernel
theorem dX9_hitting_7 : decode cX9_hitting 7 = .ok (.ireturn, 1) := by decide +kernel
theorem dX9_closure_0 : decode cX9_closure 0 = .ok (.aload_n 0, 1) := by decide +kernel
theorem dX9_closure_1 : decode cX9_closure 1 = .ok (.bipush 13, 2) := by decide +kernel
theorem dX9_closure_3 : decode cX9_closure 3 = .ok (.iload_n 1, 1) := by decide +kernel
theorem dX9_closure_4 : decode cX9_closure 4 = .ok (.invokevirtual 251, 3) := by decide +kernel
theorem dX9_closure_7 : decode cX9_closure 7 = .ok (.ireturn, 1) := by decide +kernel
theorem dX9_change_0 : decode cX9_change 0 = .ok (.aload_n 0, 1) := by decide +kernel
theorem dX9_change_1 : decode cX9_change 1 = .ok (.aload_n 0, 1) := by decide +kernel
theorem dX9_change_2 : decode cX9_change 2 = .ok (.iload_n 1, 1) := by decide +kernel
theorem dX9_change_3 : decode cX9_change 3 = .ok (.invokevirtual 220, 3) := by decide +kernel
theorem dX9_change_6 : decode cX9_change 6 = .ok (.iconst 1, 1) := by decide +kernel
theorem dX9_change_7 : decode cX9_change 7 = .ok (.if_icmp .eq 10, 3) := by decide +kernel
theorem dX9_change_10 : decode cX9_change 10 = .ok (.iload_n 2, 1) := by decide +kernel
theorem dX9_change_11 : decode cX9_change 11 = .ok (.invokestatic 254, 3) := by decide +kernel
theorem dX9_change_14 : decode cX9_change 14 = .ok (.ifCond .ne 7, 3) := by decide +kernel
theorem dX9_change_17 : decode cX9_change 17 = .ok (.iconst 1, 1) := by decide +kernel
theorem dX9_change_18 : decode cX9_change 18 = .ok (.goto 8, 3) := by decide +kernel
theorem dX9_change_21 : decode cX9_change 21 = .ok (.aload_n 0, 1) := by decide +kernel
theorem dX9_change_22 : decode cX9_change 22 = .ok (.iload_n 1, 1) := by decide +kernel
theorem dX9_change_23 : decode cX9_change 23 = .ok (.invokevirtual 220, 3) := by decide +kernel
theorem dX9_change_26 : decode cX9_change 26 = .ok (.putfield 62, 3) := by decide +kernel
theorem dX9_change_29 : decode cX9_change 29 = .ok (.aload_n 0, 1) := by decide +kernel
theorem dX9_change_30 : decode cX9_change 30 = .ok (.getfield 62, 3) := by decide +kernel
theorem dX9_change_33 : decode cX9_change 33 = .ok (.ifCond .eq 5, 3) := by decide +kernel
theorem dX9_change_36 : decode cX9_change 36 = .ok (.iconst 0, 1) := by decide +kernel
theorem dX9_change_37 : decode cX9_change 37 = .ok (.ireturn, 1) := by decide +kernel
theorem dX9_change_38 : decode cX9_change 38 = .ok (.aload_n 0, 1) := by decide +kernel
theorem dX9_change_39 : decode cX9_change 39 = .ok (.getfield 133, 3) := by decide +kernel
theorem dX9_change_42 : decode cX9_change 42 = .ok (.sipush 200, 3) := by decide +kernel
theorem dX9_change_45 : decode cX9_change 45 = .ok (.if_icmp .ne 9, 3) := by decide +kernel
theorem dX9_change_48 : decode cX9_change 48 = .ok (.aload_n 0, 1) := by decide +kernel
theorem dX9_change_49 : decode cX9_change 49 = .ok (.iconst 3, 1) := by decide +kernel
theorem dX9_change_50 : decode cX9_change 50 = .ok (.invokevirtual 139, 3) := by decide +kernel
theorem dX9_change_53 : decode cX9_change 53 = .ok (.ireturn, 1) := by decide +kernel
theorem dX9_change_54 : decode cX9_change 54 = .ok (.aload_n 0, 1) := by decide +kernel
theorem dX9_change_55 : decode cX9_change 55 = .ok (.getfield 41, 3) := by decide +kernel
theorem dX9_change_58 : decode cX9_change 58 = .ok (.iconst 0, 1) := by decide +kernel
theorem dX9_change_59 : decode cX9_change 59 = .ok (.invokestatic 69, 3) := by decide +kernel
theorem dX9_change_62 : decode cX9_change 62 = .ok (.iconst 0, 1) := by decide +kernel
theorem dX9_change_63 : decode cX9_change 63 = .ok (.istore_n 3, 1) := by decide +kernel
theorem dX9_change_64 : decode cX9_change 64 = .ok (.iload_n 3, 1) := by decide +kernel
theorem dX9_change_65 : decode cX9_change 65 = .ok (.sipush 4096, 3) := by decide +kernel
theorem dX9_change_68 : decode cX9_change 68 = .ok (.if_icmp .ge 34, 3) := by decide +kernel
theorem dX9_change_71 : decode cX9_change 71 = .ok (.aload_n 0, 1) := by decide +kernel
theorem dX9_change_72 : decode cX9_change 72 = .ok (.getfield 24, 3) := by decide +kernel
theorem dX9_change_75 : decode cX9_change 75 = .ok (.iload_n 1, 1) := by decide +kernel
theorem dX9_change_76 : decode cX9_change 76 = .ok (.iload_n 3, 1) := by decide +kernel
theorem dX9_change_77 : decode cX9_change 77 = .ok (.invokestatic 65, 3) := by decide +kernel
theorem dX9_change_80 : decode cX9_change 80 = .ok (.ifCond .eq 16, 3) := by decide +kernel
theorem dX9_change_83 : decode cX9_change 83 = .ok (.aload_n 0, 1) := by decide +kernel
theorem dX9_change_84 : decode cX9_change 84 = .ok (.getfield 41, 3) := by decide +kernel
theorem dX9_change_87 : decode cX9_change 87 = .ok (.iconst 0, 1) := by decide +kernel
theorem dX9_change_88 : decode cX9_change 88 = .ok (.iload_n 3, 1) := by decide +kernel
theorem dX9_change_89 : decode cX9_change 89 = .ok (.iconst 1, 1) := by decide +kernel
theorem dX9_change_90 : decode cX9_change 90 = .ok (.iload_n 2, 1) := by decide +kernel
theorem dX9_change_91 : decode cX9_change 91 = .ok (.ishl, 1) := by decide +kernel
theorem dX9_change_92 : decode cX9_change 92 = .ok (.ixor, 1) := by decide +kernel
theorem dX9_change_93 : decode cX9_change 93 = .ok (.invokestatic 98, 3) := by decide +kernel
theorem dX9_change_96 : decode cX9_change 96 = .ok (.iinc 3 1, 3) := by decide +kernel
theorem dX9_change_99 : decode cX9_change 99 = .ok (.goto (-35), 3) := by decide +kernel
theorem dX9_change_102 : decode cX9_change 102 = .ok (.aload_n 0, 1) := by decide +kernel
theorem dX9_change_103 : decode cX9_change 103 = .ok (.invokevirtual 204, 3) := by decide +kernel
theorem dX9_change_106 : decode cX9_change 106 = .ok (.ireturn, 1) := by decide +kernel
theorem dX9_costOf_0 : decode cX9_costOf 0 = .ok (.iconst 0, 1) := by decide +kernel
theorem dX9_costOf_1 : decode cX9_costOf 1 = .ok (.istore_n 2, 1) := by decide +kernel
theorem dX9_costOf_2 : decode cX9_costOf 2 = .ok (.iconst 0, 1) := by decide +kernel
theorem dX9_costOf_3 : decode cX9_costOf 3 = .ok (.istore_n 3, 1) := by decide +kernel
theorem dX9_costOf_4 : decode cX9_costOf 4 = .ok (.iload_n 3, 1) := by decide +kernel
theorem dX9_costOf_5 : decode cX9_costOf 5 = .ok (.bipush 12, 2) := by decide +kernel
theorem dX9_costOf_7 : decode cX9_costOf 7 = .ok (.if_icmp .ge 24, 3) := by decide +kernel
theorem dX9_costOf_10 : decode cX9_costOf 10 = .ok (.iload_n 2, 1) := by decide +kernel
theorem dX9_costOf_11 : decode cX9_costOf 11 = .ok (.iload_n 1, 1) := by decide +kernel
theorem dX9_costOf_12 : decode cX9_costOf 12 = .ok (.iload_n 3, 1) := by decide +kernel
theorem dX9_costOf_13 : decode cX9_costOf 13 = .ok (.ishr, 1) := by decide +kernel
theorem dX9_costOf_14 : decode cX9_costOf 14 = .ok (.iconst 1, 1) := by decide +kernel
theorem dX9_costOf_15 : decode cX9_costOf 15 = .ok (.iand, 1) := by decide +kernel
theorem dX9_costOf_16 : decode cX9_costOf 16 = .ok (.aload_n 0, 1) := by decide +kernel
theorem dX9_costOf_17 : decode cX9_costOf 17 = .ok (.getfield 28, 3) := by decide +kernel
theorem dX9_costOf_20 : decode cX9_costOf 20 = .ok (.iload_n 3, 1) := by decide +kernel
theorem dX9_costOf_21 : decode cX9_costOf 21 = .ok (.iaload, 1) := by decide +kernel
theorem dX9_costOf_22 : decode cX9_costOf 22 = .ok (.imul, 1) := by decide +kernel
theorem dX9_costOf_23 : decode cX9_costOf 23 = .ok (.iadd, 1) := by decide +kernel
theorem dX9_costOf_24 : decode cX9_costOf 24 = .ok (.istore_n 2, 1) := by decide +kernel
theorem dX9_costOf_25 : decode cX9_costOf 25 = .ok (.iinc 3 1, 3) := by decide +kernel
theorem dX9_costOf_28 : decode cX9_costOf 28 = .ok (.goto (-24), 3) := by decide +kernel
theorem dX9_costOf_31 : decode cX9_costOf 31 = .ok (.iload_n 2, 1) := by decide +kernel
theorem dX9_costOf_32 : decode cX9_costOf 32 = .ok (.ireturn, 1) := by decide +kernel
theorem dX9_withCost_0 : decode cX9_withCost 0 = .ok (.aload_n 0, 1) := by decide +kernel
theorem dX9_withCost_1 : decode cX9_withCost 1 = .ok (.aload_n 0, 1) := by decide +kernel
theorem dX9_withCost_2 : decode cX9_withCost 2 = .ok (.iload_n 1, 1) := by decide +kernel
theorem dX9_withCost_3 : decode cX9_withCost 3 = .ok (.invokevirtual 220, 3) := by decide +kernel
theorem dX9_withCost_6 : decode cX9_withCost 6 = .ok (.putfield 62, 3) := by decide +kernel
theorem dX9_withCost_9 : decode cX9_withCost 9 = .ok (.aload_n 0, 1) := by decide +kernel
theorem dX9_withCost_10 : decode cX9_withCost 10 = .ok (.getfield 62, 3) := by decide +kernel
theorem dX9_withCost_13 : decode cX9_withCost 13 = .ok (.ifCond .eq 5, 3) := by decide +kernel
theorem dX9_withCost_16 : decode cX9_withCost 16 = .ok (.iconst 0, 1) := by decide +kernel
theorem dX9_withCost_17 : decode cX9_withCost 17 = .ok (.ireturn, 1) := by decide +kernel
theorem dX9_withCost_18 : decode cX9_withCost 18 = .ok (.aload_n 0, 1) := by decide +kernel
theorem dX9_withCost_19 : decode cX9_withCost 19 = .ok (.getfield 133, 3) := by decide +kernel
theorem dX9_withCost_22 : decode cX9_withCost 22 = .ok (.sipush 200, 3) := by decide +kernel
theorem dX9_withCost_25 : decode cX9_withCost 25 = .ok (.if_icmp .ne 9, 3) := by decide +kernel
theorem dX9_withCost_28 : decode cX9_withCost 28 = .ok (.aload_n 0, 1) := by decide +kernel
theorem dX9_withCost_29 : decode cX9_withCost 29 = .ok (.iconst 3, 1) := by decide +kernel
theorem dX9_withCost_30 : decode cX9_withCost 30 = .ok (.invokevirtual 139, 3) := by decide +kernel
theorem dX9_withCost_33 : decode cX9_withCost 33 = .ok (.ireturn, 1) := by decide +kernel
theorem dX9_withCost_34 : decode cX9_withCost 34 = .ok (.aload_n 0, 1) := by decide +kernel
theorem dX9_withCost_35 : decode cX9_withCost 35 = .ok (.getfield 41, 3) := by decide +kernel
theorem dX9_withCost_38 : decode cX9_withCost 38 = .ok (.iconst 0, 1) := by decide +kernel
theorem dX9_withCost_39 : decode cX9_withCost 39 = .ok (.invokestatic 69, 3) := by decide +kernel
theorem dX9_withCost_42 : decode cX9_withCost 42 = .ok (.iconst 0, 1) := by decide +kernel
theorem dX9_withCost_43 : decode cX9_withCost 43 = .ok (.istore 4, 2) := by decide +kernel
theorem dX9_withCost_45 : decode cX9_withCost 45 = .ok (.iload 4, 2) := by decide +kernel
theorem dX9_withCost_47 : decode cX9_withCost 47 = .ok (.sipush 4096, 3) := by decide +kernel
theorem dX9_withCost_50 : decode cX9_withCost 50 = .ok (.if_icmp .ge 52, 3) := by decide +kernel
theorem dX9_withCost_53 : decode cX9_withCost 53 = .ok (.aload_n 0, 1) := by decide +kernel
theorem dX9_withCost_54 : decode cX9_withCost 54 = .ok (.getfield 24, 3) := by decide +kernel
theorem dX9_withCost_57 : decode cX9_withCost 57 = .ok (.iload_n 1, 1) := by decide +kernel
theorem dX9_withCost_58 : decode cX9_withCost 58 = .ok (.iload 4, 2) := by decide +kernel
theorem dX9_withCost_60 : decode cX9_withCost 60 = .ok (.invokestatic 65, 3) := by decide +kernel
theorem dX9_withCost_63 : decode cX9_withCost 63 = .ok (.ifCond .eq 33, 3) := by decide +kernel
theorem dX9_withCost_66 : decode cX9_withCost 66 = .ok (.aload_n 0, 1) := by decide +kernel
theorem dX9_withCost_67 : decode cX9_withCost 67 = .ok (.iload 4, 2) := by decide +kernel
theorem dX9_withCost_69 : decode cX9_withCost 69 = .ok (.invokevirtual 257, 3) := by decide +kernel
theorem dX9_withCost_72 : decode cX9_withCost 72 = .ok (.iload_n 2, 1) := by decide +kernel
theorem dX9_withCost_73 : decode cX9_withCost 73 = .ok (.if_icmp .lt 23, 3) := by decide +kernel
theorem dX9_withCost_76 : decode cX9_withCost 76 = .ok (.aload_n 0, 1) := by decide +kernel
theorem dX9_withCost_77 : decode cX9_withCost 77 = .ok (.iload 4, 2) := by decide +kernel
theorem dX9_withCost_79 : decode cX9_withCost 79 = .ok (.invokevirtual 257, 3) := by decide +kernel
theorem dX9_withCost_82 : decode cX9_withCost 82 = .ok (.iload_n 3, 1) := by decide +kernel
theorem dX9_withCost_83 : decode cX9_withCost 83 = .ok (.if_icmp .gt 13, 3) := by decide +kernel
theorem dX9_withCost_86 : decode cX9_withCost 86 = .ok (.aload_n 0, 1) := by decide +kernel
theorem dX9_withCost_87 : decode cX9_withCost 87 = .ok (.getfield 41, 3) := by decide +kernel
theorem dX9_withCost_90 : decode cX9_withCost 90 = .ok (.iconst 0, 1) := by decide +kernel
theorem dX9_withCost_91 : decode cX9_withCost 91 = .ok (.iload 4, 2) := by decide +kernel
theorem dX9_withCost_93 : decode cX9_withCost 93 = .ok (.invokestatic 98, 3) := by decide +kernel
theorem dX9_withCost_96 : decode cX9_withCost 96 = .ok (.iinc 4 1, 3) := by decide +kernel
theorem dX9_withCost_99 : decode cX9_withCost 99 = .ok (.goto (-54), 3) := by decide +kernel
theorem dX9_withCost_102 : decode cX9_withCost 102 = .ok (.aload_n 0, 1) := by decide +kernel
theorem dX9_withCost_103 : decode cX9_withCost 103 = .ok (.invokevirtual 204, 3) := by decide +kernel
theorem dX9_withCost_106 : decode cX9_withCost 106 = .ok (.ireturn, 1) := by decide +kernel
theorem dX9_count_0 : decode cX9_count 0 = .ok (.aload_n 0, 1) := by decide +kernel
theorem dX9_count_1 : decode cX9_count 1 = .ok (.aload_n 0, 1) := by decide +kernel
theorem dX9_count_2 : decode cX9_count 2 = .ok (.iload_n 1, 1) := by decide +kernel
theorem dX9_count_3 : decode cX9_count 3 = .ok (.invokevirtual 220, 3) := by decide +kernel
theorem dX9_count_6 : decode cX9_count 6 = .ok (.putfield 62, 3) := by decide +kernel
theorem dX9_count_9 : decode cX9_count 9 = .ok (.aload_n 0, 1) := by decide +kernel
theorem dX9_count_10 : decode cX9_count 10 = .ok (.getfield 62, 3) := by decide +kernel
theorem dX9_count_13 : decode cX9_count 13 = .ok (.ifCond .ne 14, 3) := by decide +kernel
theorem dX9_count_16 : decode cX9_count 16 = .ok (.aload_n 0, 1) := by decide +kernel
theorem dX9_count_17 : decode cX9_count 17 = .ok (.getfield 24, 3) := by decide +kernel
theorem dX9_count_20 : decode cX9_count 20 = .ok (.iload_n 1, 1) := by decide +kernel
theorem dX9_count_21 : decode cX9_count 21 = .ok (.invokestatic 213, 3) := by decide +kernel
theorem dX9_count_24 : decode cX9_count 24 = .ok (.goto 4, 3) := by decide +kernel
theorem dX9_count_27 : decode cX9_count 27 = .ok (.iconst 0, 1) := by decide +kernel
theorem dX9_count_28 : decode cX9_count 28 = .ok (.ireturn, 1) := by decide +kernel
theorem dX9_countOfSize_0 : decode cX9_countOfSize 0 = .ok (.aload_n 0, 1) := by decide +kernel
theorem dX9_countOfSize_1 : decode cX9_countOfSize 1 = .ok (.aload_n 0, 1) := by decide +kernel
theorem dX9_countOfSize_2 : decode cX9_countOfSize 2 = .ok (.iload_n 1, 1) := by decide +kernel
theorem dX9_countOfSize_3 : decode cX9_countOfSize 3 = .ok (.invokevirtual 220, 3) := by decide +kernel
theorem dX9_countOfSize_6 : decode cX9_countOfSize 6 = .ok (.putfield 62, 3) := by decide +kernel
theorem dX9_countOfSize_9 : decode cX9_countOfSize 9 = .ok (.iconst 0, 1) := by decide +kernel
theorem dX9_countOfSize_10 : decode cX9_countOfSize 10 = .ok (.istore_n 3, 1) := by decide +kernel
theorem dX9_countOfSize_11 : decode cX9_countOfSize 11 = .ok (.iconst 0, 1) := by decide +kernel
theorem dX9_countOfSize_12 : decode cX9_countOfSize 12 = .ok (.istore 4, 2) := by decide +kernel
theorem dX9_countOfSize_14 : decode cX9_countOfSize 14 = .ok (.iload 4, 2) := by decide +kernel
theorem dX9_countOfSize_16 : decode cX9_countOfSize 16 = .ok (.sipush 4096, 3) := by decide +kernel
theorem dX9_countOfSize_19 : decode cX9_countOfSize 19 = .ok (.if_icmp .ge 46, 3) := by decide +kernel
theorem dX9_countOfSize_22 : decode cX9_countOfSize 22 = .ok (.aload_n 0, 1) := by decide +kernel
theorem dX9_countOfSize_23 : decode cX9_countOfSize 23 = .ok (.getfield 62, 3) := by decide +kernel
theorem dX9_countOfSize_26 : decode cX9_countOfSize 26 = .ok (.ifCond .ne 39, 3) := by decide +kernel
theorem dX9_countOfSize_29 : decode cX9_countOfSize 29 = .ok (.iload_n 3, 1) := by decide +kernel
theorem dX9_countOfSize_30 : decode cX9_countOfSize 30 = .ok (.aload_n 0, 1) := by decide +kernel
theorem dX9_countOfSize_31 : decode cX9_countOfSize 31 = .ok (.getfield 24, 3) := by decide +kernel
theorem dX9_countOfSize_34 : decode cX9_countOfSize 34 = .ok (.iload_n 1, 1) := by decide +kernel
theorem dX9_countOfSize_35 : decode cX9_countOfSize 35 = .ok (.iload 4, 2) := by decide +kernel
theorem dX9_countOfSize_37 : decode cX9_countOfSize 37 = .ok (.invokestatic 65, 3) := by decide +kernel
theorem dX9_countOfSize_40 : decode cX9_countOfSize 40 = .ok (.ifCond .eq 16, 3) := by decide +kernel
theorem dX9_countOfSize_43 : decode cX9_countOfSize 43 = .ok (.iload 4, 2) := by decide +kernel
theorem dX9_countOfSize_45 : decode cX9_countOfSize 45 = .ok (.invokestatic 228, 3) := by decide +kernel
theorem dX9_countOfSize_48 : decode cX9_countOfSize 48 = .ok (.iload_n 2, 1) := by decide +kernel
theorem dX9_countOfSize_49 : decode cX9_countOfSize 49 = .ok (.if_icmp .ne 7, 3) := by decide +kernel
theorem dX9_countOfSize_52 : decode cX9_countOfSize 52 = .ok (.iconst 1, 1) := by decide +kernel
theorem dX9_countOfSize_53 : decode cX9_countOfSize 53 = .ok (.goto 4, 3) := by decide +kernel
theorem dX9_countOfSize_56 : decode cX9_countOfSize 56 = .ok (.iconst 0, 1) := by decide +kernel
theorem dX9_countOfSize_57 : decode cX9_countOfSize 57 = .ok (.iadd, 1) := by decide +kernel
theorem dX9_countOfSize_58 : decode cX9_countOfSize 58 = .ok (.istore_n 3, 1) := by decide +kernel
theorem dX9_countOfSize_59 : decode cX9_countOfSize 59 = .ok (.iinc 4 1, 3) := by decide +kernel
theorem dX9_countOfSize_62 : decode cX9_countOfSize 62 = .ok (.goto (-48), 3) := by decide +kernel
theorem dX9_countOfSize_65 : decode cX9_countOfSize 65 = .ok (.iload_n 3, 1) := by decide +kernel
theorem dX9_countOfSize_66 : decode cX9_countOfSize 66 = .ok (.ireturn, 1) := by decide +kernel
theorem dX9_countWith_0 : decode cX9_countWith 0 = .ok (.aload_n 0, 1) := by decide +kernel
theorem dX9_countWith_1 : decode cX9_countWith 1 = .ok (.aload_n 0, 1) := by decide +kernel
theorem dX9_countWith_2 : decode cX9_countWith 2 = .ok (.iload_n 1, 1) := by decide +kernel
theorem dX9_countWith_3 : decode cX9_countWith 3 = .ok (.invokevirtual 220, 3) := by decide +kernel
theorem dX9_countWith_6 : decode cX9_countWith 6 = .ok (.iconst 1, 1) := by decide +kernel
theorem dX9_countWith_7 : decode cX9_countWith 7 = .ok (.if_icmp .eq 10, 3) := by decide +kernel
theorem dX9_countWith_10 : decode cX9_countWith 10 = .ok (.iload_n 2, 1) := by decide +kernel
theorem dX9_countWith_11 : decode cX9_countWith 11 = .ok (.invokestatic 254, 3) := by decide +kernel
theorem dX9_countWith_14 : decode cX9_countWith 14 = .ok (.ifCond .ne 7, 3) := by decide +kernel
theorem dX9_countWith_17 : decode cX9_countWith 17 = .ok (.iconst 1, 1) := by decide +kernel
theorem dX9_countWith_18 : decode cX9_countWith 18 = .ok (.goto 8, 3) := by decide +kernel
theorem dX9_countWith_21 : decode cX9_countWith 21 = .ok (.aload_n 0, 1) := by decide +kernel
theorem dX9_countWith_22 : decode cX9_countWith 22 = .ok (.iload_n 1, 1) := by decide +kernel
theorem dX9_countWith_23 : decode cX9_countWith 23 = .ok (.invokevirtual 220, 3) := by decide +kernel
theorem dX9_countWith_26 : decode cX9_countWith 26 = .ok (.putfield 62, 3) := by decide +kernel
theorem dX9_countWith_29 : decode cX9_countWith 29 = .ok (.iconst 0, 1) := by decide +kernel
theorem dX9_countWith_30 : decode cX9_countWith 30 = .ok (.istore_n 3, 1) := by decide +kernel
theorem dX9_countWith_31 : decode cX9_countWith 31 = .ok (.iconst 0, 1) := by decide +kernel
theorem dX9_countWith_32 : decode cX9_countWith 32 = .ok (.istore 4, 2) := by decide +kernel
theorem dX9_countWith_34 : decode cX9_countWith 34 = .ok (.iload 4, 2) := by decide +kernel
theorem dX9_countWith_36 : decode cX9_countWith 36 = .ok (.sipush 4096, 3) := by decide +kernel
theorem dX9_countWith_39 : decode cX9_countWith 39 = .ok (.if_icmp .ge 47, 3) := by decide +kernel
theorem dX9_countWith_42 : decode cX9_countWith 42 = .ok (.aload_n 0, 1) := by decide +kernel
theorem dX9_countWith_43 : decode cX9_countWith 43 = .ok (.getfield 62, 3) := by decide +kernel
theorem dX9_countWith_46 : decode cX9_countWith 46 = .ok (.ifCond .ne 40, 3) := by decide +kernel
theorem dX9_countWith_49 : decode cX9_countWith 49 = .ok (.iload_n 3, 1) := by decide +kernel
theorem dX9_countWith_50 : decode cX9_countWith 50 = .ok (.aload_n 0, 1) := by decide +kernel
theorem dX9_countWith_51 : decode cX9_countWith 51 = .ok (.getfield 24, 3) := by decide +kernel
theorem dX9_countWith_54 : decode cX9_countWith 54 = .ok (.iload_n 1, 1) := by decide +kernel
theorem dX9_countWith_55 : decode cX9_countWith 55 = .ok (.iload 4, 2) := by decide +kernel
theorem dX9_countWith_57 : decode cX9_countWith 57 = .ok (.invokestatic 65, 3) := by decide +kernel
theorem dX9_countWith_60 : decode cX9_countWith 60 = .ok (.ifCond .eq 17, 3) := by decide +kernel
theorem dX9_countWith_63 : decode cX9_countWith 63 = .ok (.iload 4, 2) := by decide +kernel
theorem dX9_countWith_65 : decode cX9_countWith 65 = .ok (.iload_n 2, 1) := by decide +kernel
theorem dX9_countWith_66 : decode cX9_countWith 66 = .ok (.ishr, 1) := by decide +kernel
theorem dX9_countWith_67 : decode cX9_countWith 67 = .ok (.iconst 1, 1) := by decide +kernel
theorem dX9_countWith_68 : decode cX9_countWith 68 = .ok (.iand, 1) := by decide +kernel
theorem dX9_countWith_69 : decode cX9_countWith 69 = .ok (.iconst 1, 1) := by decide +kernel
theorem dX9_countWith_70 : decode cX9_countWith 70 = .ok (.if_icmp .ne 7, 3) := by decide +kernel
theorem dX9_countWith_73 : decode cX9_countWith 73 = .ok (.iconst 1, 1) := by decide +kernel
theorem dX9_countWith_74 : decode cX9_countWith 74 = .ok (.goto 4, 3) := by decide +kernel
theorem dX9_countWith_77 : decode cX9_countWith 77 = .ok (.iconst 0, 1) := by decide +kernel
theorem dX9_countWith_78 : decode cX9_countWith 78 = .ok (.iadd, 1) := by decide +kernel
theorem dX9_countWith_79 : decode cX9_countWith 79 = .ok (.istore_n 3, 1) := by decide +kernel
theorem dX9_countWith_80 : decode cX9_countWith 80 = .ok (.iinc 4 1, 3) := by decide +kernel
theorem dX9_countWith_83 : decode cX9_countWith 83 = .ok (.goto (-49), 3) := by decide +kernel
theorem dX9_countWith_86 : decode cX9_countWith 86 = .ok (.iload_n 3, 1) := by decide +kernel
theorem dX9_countWith_87 : decode cX9_countWith 87 = .ok (.ireturn, 1) := by decide +kernel
theorem dX9_contains_0 : decode cX9_contains 0 = .ok (.aload_n 0, 1) := by decide +kernel
theorem dX9_contains_1 : decode cX9_contains 1 = .ok (.aload_n 0, 1) := by decide +kernel
theorem dX9_contains_2 : decode cX9_contains 2 = .ok (.iload_n 1, 1) := by decide +kernel
theorem dX9_contains_3 : decode cX9_contains 3 = .ok (.invokevirtual 220, 3) := by decide +kernel
theorem dX9_contains_6 : decode cX9_contains 6 = .ok (.putfield 62, 3) := by decide +kernel
theorem dX9_contains_9 : decode cX9_contains 9 = .ok (.aload_n 0, 1) := by decide +kernel
theorem dX9_contains_10 : decode cX9_contains 10 = .ok (.getfield 62, 3) := by decide +kernel
theorem dX9_contains_13 : decode cX9_contains 13 = .ok (.ifCond .ne 26, 3) := by decide +kernel
theorem dX9_contains_16 : decode cX9_contains 16 = .ok (.iload_n 2, 1) := by decide +kernel
theorem dX9_contains_17 : decode cX9_contains 17 = .ok (.invokestatic 237, 3) := by decide +kernel
theorem dX9_contains_20 : decode cX9_contains 20 = .ok (.ifCond .eq 19, 3) := by decide +kernel
theorem dX9_contains_23 : decode cX9_contains 23 = .ok (.aload_n 0, 1) := by decide +kernel
theorem dX9_contains_24 : decode cX9_contains 24 = .ok (.getfield 24, 3) := by decide +kernel
theorem dX9_contains_27 : decode cX9_contains 27 = .ok (.iload_n 1, 1) := by decide +kernel
theorem dX9_contains_28 : decode cX9_contains 28 = .ok (.iload_n 2, 1) := by decide +kernel
theorem dX9_contains_29 : decode cX9_contains 29 = .ok (.invokestatic 65, 3) := by decide +kernel
theorem dX9_contains_32 : decode cX9_contains 32 = .ok (.ifCond .eq 7, 3) := by decide +kernel
theorem dX9_contains_35 : decode cX9_contains 35 = .ok (.iconst 1, 1) := by decide +kernel
theorem dX9_contains_36 : decode cX9_contains 36 = .ok (.goto 4, 3) := by decide +kernel
theorem dX9_contains_39 : decode cX9_contains 39 = .ok (.iconst 0, 1) := by decide +kernel
theorem dX9_contains_40 : decode cX9_contains 40 = .ok (.ireturn, 1) := by decide +kernel
theorem dX9_areEqual_0 : decode cX9_areEqual 0 = .ok (.aload_n 0, 1) := by decide +kernel
theorem dX9_areEqual_1 : decode cX9_areEqual 1 = .ok (.aload_n 0, 1) := by decide +kernel
theorem dX9_areEqual_2 : decode cX9_areEqual 2 = .ok (.iload_n 1, 1) := by decide +kernel
theorem dX9_areEqual_3 : decode cX9_areEqual 3 = .ok (.iload_n 2, 1) := by decide +kernel
theorem dX9_areEqual_4 : decode cX9_areEqual 4 = .ok (.invokevirtual 246, 3) := by decide +kernel
theorem dX9_areEqual_7 : decode cX9_areEqual 7 = .ok (.putfield 62, 3) := by decide +kernel
theorem dX9_areEqual_10 : decode cX9_areEqual 10 = .ok (.aload_n 0, 1) := by decide +kernel
theorem dX9_areEqual_11 : decode cX9_areEqual 11 = .ok (.getfield 62, 3) := by decide +kernel
theorem dX9_areEqual_14 : decode cX9_areEqual 14 = .ok (.ifCond .ne 7, 3) := by decide +kernel
theorem dX9_areEqual_17 : decode cX9_areEqual 17 = .ok (.iconst 1, 1) := by decide +kernel
theorem dX9_areEqual_18 : decode cX9_areEqual 18 = .ok (.goto 4, 3) := by decide +kernel
theorem dX9_areEqual_21 : decode cX9_areEqual 21 = .ok (.iconst 0, 1) := by decide +kernel
theorem dX9_areEqual_22 : decode cX9_areEqual 22 = .ok (.istore_n 3, 1) := by decide +kernel
theorem dX9_areEqual_23 : decode cX9_areEqual 23 = .ok (.iconst 0, 1) := by decide +kernel
theorem dX9_areEqual_24 : decode cX9_areEqual 24 = .ok (.istore 4, 2) := by decide +kernel
theorem dX9_areEqual_26 : decode cX9_areEqual 26 = .ok (.iload 4, 2) := by decide +kernel
theorem dX9_areEqual_28 : decode cX9_areEqual 28 = .ok (.bipush 64, 2) := by decide +kernel
theorem dX9_areEqual_30 : decode cX9_areEqual 30 = .ok (.if_icmp .ge 47, 3) := by decide +kernel
theorem dX9_areEqual_33 : decode cX9_areEqual 33 = .ok (.iload_n 3, 1) := by decide +kernel
theorem dX9_areEqual_34 : decode cX9_areEqual 34 = .ok (.ifCond .eq 43, 3) := by decide +kernel
theorem dX9_areEqual_37 : decode cX9_areEqual 37 = .ok (.aload_n 0, 1) := by decide +kernel
theorem dX9_areEqual_38 : decode cX9_areEqual 38 = .ok (.getfield 24, 3) := by decide +kernel
theorem dX9_areEqual_41 : decode cX9_areEqual 41 = .ok (.bipush 64, 2) := by decide +kernel
theorem dX9_areEqual_43 : decode cX9_areEqual 43 = .ok (.iload_n 1, 1) := by decide +kernel
theorem dX9_areEqual_44 : decode cX9_areEqual 44 = .ok (.imul, 1) := by decide +kernel
theorem dX9_areEqual_45 : decode cX9_areEqual 45 = .ok (.iload 4, 2) := by decide +kernel
theorem dX9_areEqual_47 : decode cX9_areEqual 47 = .ok (.iadd, 1) := by decide +kernel
theorem dX9_areEqual_48 : decode cX9_areEqual 48 = .ok (.laload, 1) := by decide +kernel
theorem dX9_areEqual_49 : decode cX9_areEqual 49 = .ok (.aload_n 0, 1) := by decide +kernel
theorem dX9_areEqual_50 : decode cX9_areEqual 50 = .ok (.getfield 24, 3) := by decide +kernel
theorem dX9_areEqual_53 : decode cX9_areEqual 53 = .ok (.bipush 64, 2) := by decide +kernel
theorem dX9_areEqual_55 : decode cX9_areEqual 55 = .ok (.iload_n 2, 1) := by decide +kernel
theorem dX9_areEqual_56 : decode cX9_areEqual 56 = .ok (.imul, 1) := by decide +kernel
theorem dX9_areEqual_57 : decode cX9_areEqual 57 = .ok (.iload 4, 2) := by decide +kernel
theorem dX9_areEqual_59 : decode cX9_areEqual 59 = .ok (.iadd, 1) := by decide +kernel
theorem dX9_areEqual_60 : decode cX9_areEqual 60 = .ok (.laload, 1) := by decide +kernel
theorem dX9_areEqual_61 : decode cX9_areEqual 61 = .ok (.lcmp, 1) := by decide +kernel
theorem dX9_areEqual_62 : decode cX9_areEqual 62 = .ok (.ifCond .ne 7, 3) := by decide +kernel
theorem dX9_areEqual_65 : decode cX9_areEqual 65 = .ok (.iconst 1, 1) := by decide +kernel
theorem dX9_areEqual_66 : decode cX9_areEqual 66 = .ok (.goto 4, 3) := by decide +kernel
theorem dX9_areEqual_69 : decode cX9_areEqual 69 = .ok (.iconst 0, 1) := by decide +kernel
theorem dX9_areEqual_70 : decode cX9_areEqual 70 = .ok (.istore_n 3, 1) := by decide +kernel
theorem dX9_areEqual_71 : decode cX9_areEqual 71 = .ok (.iinc 4 1, 3) := by decide +kernel
theorem dX9_areEqual_74 : decode cX9_areEqual 74 = .ok (.goto (-48), 3) := by decide +kernel
theorem dX9_areEqual_77 : decode cX9_areEqual 77 = .ok (.iload_n 3, 1) := by decide +kernel
theorem dX9_areEqual_78 : decode cX9_areEqual 78 = .ok (.ireturn, 1) := by decide +kernel
theorem dX9_isPartOf_0 : decode cX9_isPartOf 0 = .ok (.aload_n 0, 1) := by decide +kernel
theorem dX9_isPartOf_1 : decode cX9_isPartOf 1 = .ok (.aload_n 0, 1) := by decide +kernel
theorem dX9_isPartOf_2 : decode cX9_isPartOf 2 = .ok (.iload_n 1, 1) := by decide +kernel
theorem dX9_isPartOf_3 : decode cX9_isPartOf 3 = .ok (.iload_n 2, 1) := by decide +kernel
theorem dX9_isPartOf_4 : decode cX9_isPartOf 4 = .ok (.invokevirtual 246, 3) := by decide +kernel
theorem dX9_isPartOf_7 : decode cX9_isPartOf 7 = .ok (.putfield 62, 3) := by decide +kernel
theorem dX9_isPartOf_10 : decode cX9_isPartOf 10 = .ok (.aload_n 0, 1) := by decide +kernel
theorem dX9_isPartOf_11 : decode cX9_isPartOf 11 = .ok (.getfield 62, 3) := by decide +kernel
theorem dX9_isPartOf_14 : decode cX9_isPartOf 14 = .ok (.ifCond .ne 7, 3) := by decide +kernel
theorem dX9_isPartOf_17 : decode cX9_isPartOf 17 = .ok (.iconst 1, 1) := by decide +kernel
theorem dX9_isPartOf_18 : decode cX9_isPartOf 18 = .ok (.goto 4, 3) := by decide +kernel
theorem dX9_isPartOf_21 : decode cX9_isPartOf 21 = .ok (.iconst 0, 1) := by decide +kernel
theorem dX9_isPartOf_22 : decode cX9_isPartOf 22 = .ok (.istore_n 3, 1) := by decide +kernel
theorem dX9_isPartOf_23 : decode cX9_isPartOf 23 = .ok (.iconst 0, 1) := by decide +kernel
theorem dX9_isPartOf_24 : decode cX9_isPartOf 24 = .ok (.istore 4, 2) := by decide +kernel
theorem dX9_isPartOf_26 : decode cX9_isPartOf 26 = .ok (.iload 4, 2) := by decide +kernel
theorem dX9_isPartOf_28 : decode cX9_isPartOf 28 = .ok (.bipush 64, 2) := by decide +kernel
theorem dX9_isPartOf_30 : decode cX9_isPartOf 30 = .ok (.if_icmp .ge 53, 3) := by decide +kernel
theorem dX9_isPartOf_33 : decode cX9_isPartOf 33 = .ok (.iload_n 3, 1) := by decide +kernel
theorem dX9_isPartOf_34 : decode cX9_isPartOf 34 = .ok (.ifCond .eq 49, 3) := by decide +kernel
theorem dX9_isPartOf_37 : decode cX9_isPartOf 37 = .ok (.aload_n 0, 1) := by decide +kernel
theorem dX9_isPartOf_38 : decode cX9_isPartOf 38 = .ok (.getfield 24, 3) := by decide +kernel
theorem dX9_isPartOf_41 : decode cX9_isPartOf 41 = .ok (.bipush 64, 2) := by decide +kernel
theorem dX9_isPartOf_43 : decode cX9_isPartOf 43 = .ok (.iload_n 1, 1) := by decide +kernel
theorem dX9_isPartOf_44 : decode cX9_isPartOf 44 = .ok (.imul, 1) := by decide +kernel
theorem dX9_isPartOf_45 : decode cX9_isPartOf 45 = .ok (.iload 4, 2) := by decide +kernel
theorem dX9_isPartOf_47 : decode cX9_isPartOf 47 = .ok (.iadd, 1) := by decide +kernel
theorem dX9_isPartOf_48 : decode cX9_isPartOf 48 = .ok (.laload, 1) := by decide +kernel
theorem dX9_isPartOf_49 : decode cX9_isPartOf 49 = .ok (.aload_n 0, 1) := by decide +kernel
theorem dX9_isPartOf_50 : decode cX9_isPartOf 50 = .ok (.getfield 24, 3) := by decide +kernel
theorem dX9_isPartOf_53 : decode cX9_isPartOf 53 = .ok (.bipush 64, 2) := by decide +kernel
theorem dX9_isPartOf_55 : decode cX9_isPartOf 55 = .ok (.iload_n 2, 1) := by decide +kernel
theorem dX9_isPartOf_56 : decode cX9_isPartOf 56 = .ok (.imul, 1) := by decide +kernel
theorem dX9_isPartOf_57 : decode cX9_isPartOf 57 = .ok (.iload 4, 2) := by decide +kernel
theorem dX9_isPartOf_59 : decode cX9_isPartOf 59 = .ok (.iadd, 1) := by decide +kernel
theorem dX9_isPartOf_60 : decode cX9_isPartOf 60 = .ok (.laload, 1) := by decide +kernel
theorem dX9_isPartOf_61 : decode cX9_isPartOf 61 = .ok (.ldc2_w 105, 3) := by decide +kernel
theorem dX9_isPartOf_64 : decode cX9_isPartOf 64 = .ok (.lxor, 1) := by decide +kernel
theorem dX9_isPartOf_65 : decode cX9_isPartOf 65 = .ok (.land, 1) := by decide +kernel
theorem dX9_isPartOf_66 : decode cX9_isPartOf 66 = .ok (.lconst 0, 1) := by decide +kernel
theorem dX9_isPartOf_67 : decode cX9_isPartOf 67 = .ok (.lcmp, 1) := by decide +kernel
theorem dX9_isPartOf_68 : decode cX9_isPartOf 68 = .ok (.ifCond .ne 7, 3) := by decide +kernel
theorem dX9_isPartOf_71 : decode cX9_isPartOf 71 = .ok (.iconst 1, 1) := by decide +kernel
theorem dX9_isPartOf_72 : decode cX9_isPartOf 72 = .ok (.goto 4, 3) := by decide +kernel
theorem dX9_isPartOf_75 : decode cX9_isPartOf 75 = .ok (.iconst 0, 1) := by decide +kernel
theorem dX9_isPartOf_76 : decode cX9_isPartOf 76 = .ok (.istore_n 3, 1) := by decide +kernel
theorem dX9_isPartOf_77 : decode cX9_isPartOf 77 = .ok (.iinc 4 1, 3) := by decide +kernel
theorem dX9_isPartOf_80 : decode cX9_isPartOf 80 = .ok (.goto (-54), 3) := by decide +kernel
theorem dX9_isPartOf_83 : decode cX9_isPartOf 83 = .ok (.iload_n 3, 1) := by decide +kernel
theorem dX9_isPartOf_84 : decode cX9_isPartOf 84 = .ok (.ireturn, 1) := by decide +kernel
theorem dX9_setAt_0 : decode cX9_setAt 0 = .ok (.aload_n 0, 1) := by decide +kernel
theorem dX9_setAt_1 : decode cX9_setAt 1 = .ok (.aload_n 0, 1) := by decide +kernel
theorem dX9_setAt_2 : decode cX9_setAt 2 = .ok (.iload_n 1, 1) := by decide +kernel
theorem dX9_setAt_3 : decode cX9_setAt 3 = .ok (.invokevirtual 220, 3) := by decide +kernel
theorem dX9_setAt_6 : decode cX9_setAt 6 = .ok (.putfield 62, 3) := by decide +kernel
theorem dX9_setAt_9 : decode cX9_setAt 9 = .ok (.aload_n 0, 1) := by decide +kernel
theorem dX9_setAt_10 : decode cX9_setAt 10 = .ok (.getfield 62, 3) := by decide +kernel
theorem dX9_setAt_13 : decode cX9_setAt 13 = .ok (.ifCond .eq 5, 3) := by decide +kernel
theorem dX9_setAt_16 : decode cX9_setAt 16 = .ok (.iconst 0, 1) := by decide +kernel
theorem dX9_setAt_17 : decode cX9_setAt 17 = .ok (.ireturn, 1) := by decide +kernel
theorem dX9_setAt_18 : decode cX9_setAt 18 = .ok (.iconst 0, 1) := by decide +kernel
theorem dX9_setAt_19 : decode cX9_setAt 19 = .ok (.istore_n 3, 1) := by decide +kernel
theorem dX9_setAt_20 : decode cX9_setAt 20 = .ok (.iconst 0, 1) := by decide +kernel
theorem dX9_setAt_21 : decode cX9_setAt 21 = .ok (.istore 4, 2) := by decide +kernel
theorem dX9_setAt_23 : decode cX9_setAt 23 = .ok (.iload 4, 2) := by decide +kernel
theorem dX9_setAt_25 : decode cX9_setAt 25 = .ok (.sipush 4096, 3) := by decide +kernel
theorem dX9_setAt_28 : decode cX9_setAt 28 = .ok (.if_icmp .ge 36, 3) := by decide +kernel
theorem dX9_setAt_31 : decode cX9_setAt 31 = .ok (.aload_n 0, 1) := by decide +kernel
theorem dX9_setAt_32 : decode cX9_setAt 32 = .ok (.getfield 24, 3) := by decide +kernel
theorem dX9_setAt_35 : decode cX9_setAt 35 = .ok (.iload_n 1, 1) := by decide +kernel
theorem dX9_setAt_36 : decode cX9_setAt 36 = .ok (.iload 4, 2) := by decide +kernel
theorem dX9_setAt_38 : decode cX9_setAt 38 = .ok (.invokestatic 65, 3) := by decide +kernel
theorem dX9_setAt_41 : decode cX9_setAt 41 = .ok (.ifCond .ne 6, 3) := by decide +kernel
theorem dX9_setAt_44 : decode cX9_setAt 44 = .ok (.goto 14, 3) := by decide +kernel
theorem dX9_setAt_47 : decode cX9_setAt 47 = .ok (.iload_n 3, 1) := by decide +kernel
theorem dX9_setAt_48 : decode cX9_setAt 48 = .ok (.iload_n 2, 1) := by decide +kernel
theorem dX9_setAt_49 : decode cX9_setAt 49 = .ok (.if_icmp .ne 6, 3) := by decide +kernel
theorem dX9_setAt_52 : decode cX9_setAt 52 = .ok (.iload 4, 2) := by decide +kernel
theorem dX9_setAt_54 : decode cX9_setAt 54 = .ok (.ireturn, 1) := by decide +kernel
theorem dX9_setAt_55 : decode cX9_setAt 55 = .ok (.iinc 3 1, 3) := by decide +kernel
theorem dX9_setAt_58 : decode cX9_setAt 58 = .ok (.iinc 4 1, 3) := by decide +kernel
theorem dX9_setAt_61 : decode cX9_setAt 61 = .ok (.goto (-38), 3) := by decide +kernel
theorem dX9_setAt_64 : decode cX9_setAt 64 = .ok (.aload_n 0, 1) := by decide +kernel
theorem dX9_setAt_65 : decode cX9_setAt 65 = .ok (.iconst 2, 1) := by decide +kernel
theorem dX9_setAt_66 : decode cX9_setAt 66 = .ok (.invokevirtual 139, 3) := by decide +kernel
theorem dX9_setAt_69 : decode cX9_setAt 69 = .ok (.ireturn, 1) := by decide +kernel
theorem dX9_indexOf_0 : decode cX9_indexOf 0 = .ok (.aload_n 0, 1) := by decide +kernel
theorem dX9_indexOf_1 : decode cX9_indexOf 1 = .ok (.aload_n 0, 1) := by decide +kernel
theorem dX9_indexOf_2 : decode cX9_indexOf 2 = .ok (.iload_n 1, 1) := by decide +kernel
theorem dX9_indexOf_3 : decode cX9_indexOf 3 = .ok (.invokevirtual 220, 3) := by decide +kernel
theorem dX9_indexOf_6 : decode cX9_indexOf 6 = .ok (.putfield 62, 3) := by decide +kernel
theorem dX9_indexOf_9 : decode cX9_indexOf 9 = .ok (.aload_n 0, 1) := by decide +kernel
theorem dX9_indexOf_10 : decode cX9_indexOf 10 = .ok (.getfield 62, 3) := by decide +kernel
theorem dX9_indexOf_13 : decode cX9_indexOf 13 = .ok (.ifCond .ne 10, 3) := by decide +kernel
theorem dX9_indexOf_16 : decode cX9_indexOf 16 = .ok (.iload_n 2, 1) := by decide +kernel
theorem dX9_indexOf_17 : decode cX9_indexOf 17 = .ok (.invokestatic 237, 3) := by decide +kernel
theorem dX9_indexOf_20 : decode cX9_indexOf 20 = .ok (.ifCond .ne 16, 3) := by decide +kernel
theorem dX9_indexOf_23 : decode cX9_indexOf 23 = .ok (.aload_n 0, 1) := by decide +kernel
theorem dX9_indexOf_24 : decode cX9_indexOf 24 = .ok (.getfield 62, 3) := by decide +kernel
theorem dX9_indexOf_27 : decode cX9_indexOf 27 = .ok (.ifCond .ne 7, 3) := by decide +kernel
theorem dX9_indexOf_30 : decode cX9_indexOf 30 = .ok (.iconst (-1), 1) := by decide +kernel
theorem dX9_indexOf_31 : decode cX9_indexOf 31 = .ok (.goto 4, 3) := by decide +kernel
theorem dX9_indexOf_34 : decode cX9_indexOf 34 = .ok (.iconst 0, 1) := by decide +kernel
theorem dX9_indexOf_35 : decode cX9_indexOf 35 = .ok (.ireturn, 1) := by decide +kernel
theorem dX9_indexOf_36 : decode cX9_indexOf 36 = .ok (.aload_n 0, 1) := by decide +kernel
theorem dX9_indexOf_37 : decode cX9_indexOf 37 = .ok (.getfield 24, 3) := by decide +kernel
theorem dX9_indexOf_40 : decode cX9_indexOf 40 = .ok (.iload_n 1, 1) := by decide +kernel
theorem dX9_indexOf_41 : decode cX9_indexOf 41 = .ok (.iload_n 2, 1) := by decide +kernel
theorem dX9_indexOf_42 : decode cX9_indexOf 42 = .ok (.invokestatic 65, 3) := by decide +kernel
theorem dX9_indexOf_45 : decode cX9_indexOf 45 = .ok (.ifCond .ne 5, 3) := by decide +kernel
theorem dX9_indexOf_48 : decode cX9_indexOf 48 = .ok (.iconst (-1), 1) := by decide +kernel
theorem dX9_indexOf_49 : decode cX9_indexOf 49 = .ok (.ireturn, 1) := by decide +kernel
theorem dX9_indexOf_50 : decode cX9_indexOf 50 = .ok (.iconst 0, 1) := by decide +kernel
theorem dX9_indexOf_51 : decode cX9_indexOf 51 = .ok (.istore_n 3, 1) := by decide +kernel
theorem dX9_indexOf_52 : decode cX9_indexOf 52 = .ok (.iconst 0, 1) := by decide +kernel
theorem dX9_indexOf_53 : decode cX9_indexOf 53 = .ok (.istore 4, 2) := by decide +kernel
theorem dX9_indexOf_55 : decode cX9_indexOf 55 = .ok (.iload 4, 2) := by decide +kernel
theorem dX9_indexOf_57 : decode cX9_indexOf 57 = .ok (.iload_n 2, 1) := by decide +kernel
theorem dX9_indexOf_58 : decode cX9_indexOf 58 = .ok (.if_icmp .ge 30, 3) := by decide +kernel
theorem dX9_indexOf_61 : decode cX9_indexOf 61 = .ok (.iload_n 3, 1) := by decide +kernel
theorem dX9_indexOf_62 : decode cX9_indexOf 62 = .ok (.aload_n 0, 1) := by decide +kernel
theorem dX9_indexOf_63 : decode cX9_indexOf 63 = .ok (.getfield 24, 3) := by decide +kernel
theorem dX9_indexOf_66 : decode cX9_indexOf 66 = .ok (.iload_n 1, 1) := by decide +kernel
theorem dX9_indexOf_67 : decode cX9_indexOf 67 = .ok (.iload 4, 2) := by decide +kernel
theorem dX9_indexOf_69 : decode cX9_indexOf 69 = .ok (.invokestatic 65, 3) := by decide +kernel
theorem dX9_indexOf_72 : decode cX9_indexOf 72 = .ok (.ifCond .eq 7, 3) := by decide +kernel
theorem dX9_indexOf_75 : decode cX9_indexOf 75 = .ok (.iconst 1, 1) := by decide +kernel
theorem dX9_indexOf_76 : decode cX9_indexOf 76 = .ok (.goto 4, 3) := by decide +kernel
theorem dX9_indexOf_79 : decode cX9_indexOf 79 = .ok (.iconst 0, 1) := by decide +kernel
theorem dX9_indexOf_80 : decode cX9_indexOf 80 = .ok (.iadd, 1) := by decide +kernel
theorem dX9_indexOf_81 : decode cX9_indexOf 81 = .ok (.istore_n 3, 1) := by decide +kernel
theorem dX9_indexOf_82 : decode cX9_indexOf 82 = .ok (.iinc 4 1, 3) := by decide +kernel
theorem dX9_indexOf_85 : decode cX9_indexOf 85 = .ok (.goto (-30), 3) := by decide +kernel
theorem dX9_indexOf_88 : decode cX9_indexOf 88 = .ok (.iload_n 3, 1) := by decide +kernel
theorem dX9_indexOf_89 : decode cX9_indexOf 89 = .ok (.ireturn, 1) := by decide +kernel
theorem dX9_setCost_0 : decode cX9_setCost 0 = .ok (.aload_n 0, 1) := by decide +kernel
theorem dX9_setCost_1 : decode cX9_setCost 1 = .ok (.iconst 0, 1) := by decide +kernel
theorem dX9_setCost_2 : decode cX9_setCost 2 = .ok (.putfield 62, 3) := by decide +kernel
theorem dX9_setCost_5 : decode cX9_setCost 5 = .ok (.iload_n 1, 1) := by decide +kernel
theorem dX9_setCost_6 : decode cX9_setCost 6 = .ok (.invokestatic 254, 3) := by decide +kernel
theorem dX9_setCost_9 : decode cX9_setCost 9 = .ok (.ifCond .ne 9, 3) := by decide +kernel
theorem dX9_setCost_12 : decode cX9_setCost 12 = .ok (.aload_n 0, 1) := by decide +kernel
theorem dX9_setCost_13 : decode cX9_setCost 13 = .ok (.iconst 1, 1) := by decide +kernel
theorem dX9_setCost_14 : decode cX9_setCost 14 = .ok (.invokevirtual 139, 3) := by decide +kernel
theorem dX9_setCost_17 : decode cX9_setCost 17 = .ok (.ireturn, 1) := by decide +kernel
theorem dX9_setCost_18 : decode cX9_setCost 18 = .ok (.iload_n 2, 1) := by decide +kernel
theorem dX9_setCost_19 : decode cX9_setCost 19 = .ok (.sipush (-1000), 3) := by decide +kernel
theorem dX9_setCost_22 : decode cX9_setCost 22 = .ok (.if_icmp .lt 10, 3) := by decide +kernel
theorem dX9_setCost_25 : decode cX9_setCost 25 = .ok (.iload_n 2, 1) := by decide +kernel
theorem dX9_setCost_26 : decode cX9_setCost 26 = .ok (.sipush 1000, 3) := by decide +kernel
theorem dX9_setCost_29 : decode cX9_setCost 29 = .ok (.if_icmp .le 9, 3) := by decide +kernel
theorem dX9_setCost_32 : decode cX9_setCost 32 = .ok (.aload_n 0, 1) := by decide +kernel
theorem dX9_setCost_33 : decode cX9_setCost 33 = .ok (.iconst 2, 1) := by decide +kernel
theorem dX9_setCost_34 : decode cX9_setCost 34 = .ok (.invokevirtual 139, 3) := by decide +kernel
theorem dX9_setCost_37 : decode cX9_setCost 37 = .ok (.ireturn, 1) := by decide +kernel
theorem dX9_setCost_38 : decode cX9_setCost 38 = .ok (.aload_n 0, 1) := by decide +kernel
theorem dX9_setCost_39 : decode cX9_setCost 39 = .ok (.getfield 28, 3) := by decide +kernel
theorem dX9_setCost_42 : decode cX9_setCost 42 = .ok (.iload_n 1, 1) := by decide +kernel
theorem dX9_setCost_43 : decode cX9_setCost 43 = .ok (.iaload, 1) := by decide +kernel
theorem dX9_setCost_44 : decode cX9_setCost 44 = .ok (.istore_n 3, 1) := by decide +kernel
theorem dX9_setCost_45 : decode cX9_setCost 45 = .ok (.aload_n 0, 1) := by decide +kernel
theorem dX9_setCost_46 : decode cX9_setCost 46 = .ok (.getfield 28, 3) := by decide +kernel
theorem dX9_setCost_49 : decode cX9_setCost 49 = .ok (.iload_n 1, 1) := by decide +kernel
theorem dX9_setCost_50 : decode cX9_setCost 50 = .ok (.iload_n 2, 1) := by decide +kernel
theorem dX9_setCost_51 : decode cX9_setCost 51 = .ok (.iastore, 1) := by decide +kernel
theorem dX9_setCost_52 : decode cX9_setCost 52 = .ok (.iload_n 3, 1) := by decide +kernel
theorem dX9_setCost_53 : decode cX9_setCost 53 = .ok (.ireturn, 1) := by decide +kernel
theorem dX9_leastCost_0 : decode cX9_leastCost 0 = .ok (.aload_n 0, 1) := by decide +kernel
theorem dX9_leastCost_1 : decode cX9_leastCost 1 = .ok (.aload_n 0, 1) := by decide +kernel
theorem dX9_leastCost_2 : decode cX9_leastCost 2 = .ok (.iload_n 1, 1) := by decide +kernel
theorem dX9_leastCost_3 : decode cX9_leastCost 3 = .ok (.invokevirtual 220, 3) := by decide +kernel
theorem dX9_leastCost_6 : decode cX9_leastCost 6 = .ok (.putfield 62, 3) := by decide +kernel
theorem dX9_leastCost_9 : decode cX9_leastCost 9 = .ok (.aload_n 0, 1) := by decide +kernel
theorem dX9_leastCost_10 : decode cX9_leastCost 10 = .ok (.getfield 62, 3) := by decide +kernel
theorem dX9_leastCost_13 : decode cX9_leastCost 13 = .ok (.ifCond .eq 5, 3) := by decide +kernel
theorem dX9_leastCost_16 : decode cX9_leastCost 16 = .ok (.iconst 0, 1) := by decide +kernel
theorem dX9_leastCost_17 : decode cX9_leastCost 17 = .ok (.ireturn, 1) := by decide +kernel
theorem dX9_leastCost_18 : decode cX9_leastCost 18 = .ok (.aload_n 0, 1) := by decide +kernel
theorem dX9_leastCost_19 : decode cX9_leastCost 19 = .ok (.getfield 24, 3) := by decide +kernel
theorem dX9_leastCost_22 : decode cX9_leastCost 22 = .ok (.iload_n 1, 1) := by decide +kernel
theorem dX9_leastCost_23 : decode cX9_leastCost 23 = .ok (.invokestatic 213, 3) := by decide +kernel
theorem dX9_leastCost_26 : decode cX9_leastCost 26 = .ok (.ifCond .ne 9, 3) := by decide +kernel
theorem dX9_leastCost_29 : decode cX9_leastCost 29 = .ok (.aload_n 0, 1) := by decide +kernel
theorem dX9_leastCost_30 : decode cX9_leastCost 30 = .ok (.iconst 2, 1) := by decide +kernel
theorem dX9_leastCost_31 : decode cX9_leastCost 31 = .ok (.invokevirtual 139, 3) := by decide +kernel
theorem dX9_leastCost_34 : decode cX9_leastCost 34 = .ok (.ireturn, 1) := by decide +kernel
theorem dX9_leastCost_35 : decode cX9_leastCost 35 = .ok (.sipush 12000, 3) := by decide +kernel
theorem dX9_leastCost_38 : decode cX9_leastCost 38 = .ok (.istore_n 2, 1) := by decide +kernel
theorem dX9_leastCost_39 : decode cX9_leastCost 39 = .ok (.iconst 0, 1) := by decide +kernel
theorem dX9_leastCost_40 : decode cX9_leastCost 40 = .ok (.istore_n 3, 1) := by decide +kernel
theorem dX9_leastCost_41 : decode cX9_leastCost 41 = .ok (.iload_n 3, 1) := by decide +kernel
theorem dX9_leastCost_42 : decode cX9_leastCost 42 = .ok (.sipush 4096, 3) := by decide +kernel
theorem dX9_leastCost_45 : decode cX9_leastCost 45 = .ok (.if_icmp .ge 31, 3) := by decide +kernel
theorem dX9_leastCost_48 : decode cX9_leastCost 48 = .ok (.aload_n 0, 1) := by decide +kernel
theorem dX9_leastCost_49 : decode cX9_leastCost 49 = .ok (.getfield 24, 3) := by decide +kernel
theorem dX9_leastCost_52 : decode cX9_leastCost 52 = .ok (.iload_n 1, 1) := by decide +kernel
theorem dX9_leastCost_53 : decode cX9_leastCost 53 = .ok (.iload_n 3, 1) := by decide +kernel
theorem dX9_leastCost_54 : decode cX9_leastCost 54 = .ok (.invokestatic 65, 3) := by decide +kernel
theorem dX9_leastCost_57 : decode cX9_leastCost 57 = .ok (.ifCond .eq 13, 3) := by decide +kernel
theorem dX9_leastCost_60 : decode cX9_leastCost 60 = .ok (.iload_n 2, 1) := by decide +kernel
theorem dX9_leastCost_61 : decode cX9_leastCost 61 = .ok (.aload_n 0, 1) := by decide +kernel
theorem dX9_leastCost_62 : decode cX9_leastCost 62 = .ok (.iload_n 3, 1) := by decide +kernel
theorem dX9_leastCost_63 : decode cX9_leastCost 63 = .ok (.invokevirtual 257, 3) := by decide +kernel
theorem dX9_leastCost_66 : decode cX9_leastCost 66 = .ok (.invokestatic 260, 3) := by decide +kernel
theorem dX9_leastCost_69 : decode cX9_leastCost 69 = .ok (.istore_n 2, 1) := by decide +kernel
theorem dX9_leastCost_70 : decode cX9_leastCost 70 = .ok (.iinc 3 1, 3) := by decide +kernel
theorem dX9_leastCost_73 : decode cX9_leastCost 73 = .ok (.goto (-32), 3) := by decide +kernel
theorem dX9_leastCost_76 : decode cX9_leastCost 76 = .ok (.iload_n 2, 1) := by decide +kernel
theorem dX9_leastCost_77 : decode cX9_leastCost 77 = .ok (.ireturn, 1) := by decide +kernel
theorem dX9_meanCost_0 : decode cX9_meanCost 0 = .ok (.aload_n 0, 1) := by decide +kernel
theorem dX9_meanCost_1 : decode cX9_meanCost 1 = .ok (.aload_n 0, 1) := by decide +kernel
theorem dX9_meanCost_2 : decode cX9_meanCost 2 = .ok (.iload_n 1, 1) := by decide +kernel
theorem dX9_meanCost_3 : decode cX9_meanCost 3 = .ok (.invokevirtual 220, 3) := by decide +kernel
theorem dX9_meanCost_6 : decode cX9_meanCost 6 = .ok (.putfield 62, 3) := by decide +kernel
theorem dX9_meanCost_9 : decode cX9_meanCost 9 = .ok (.aload_n 0, 1) := by decide +kernel
theorem dX9_meanCost_10 : decode cX9_meanCost 10 = .ok (.getfield 62, 3) := by decide +kernel
theorem dX9_meanCost_13 : decode cX9_meanCost 13 = .ok (.ifCond .eq 5, 3) := by decide +kernel
theorem dX9_meanCost_16 : decode cX9_meanCost 16 = .ok (.dconst 0, 1) := by decide +kernel
theorem dX9_meanCost_17 : decode cX9_meanCost 17 = .ok (.dreturn, 1) := by decide +kernel
theorem dX9_meanCost_18 : decode cX9_meanCost 18 = .ok (.lconst 0, 1) := by decide +kernel
theorem dX9_meanCost_19 : decode cX9_meanCost 19 = .ok (.lstore_n 2, 1) := by decide +kernel
theorem dX9_meanCost_20 : decode cX9_meanCost 20 = .ok (.aload_n 0, 1) := by decide +kernel
theorem dX9_meanCost_21 : decode cX9_meanCost 21 = .ok (.getfield 24, 3) := by decide +kernel
theorem dX9_meanCost_24 : decode cX9_meanCost 24 = .ok (.iload_n 1, 1) := by decide +kernel
theorem dX9_meanCost_25 : decode cX9_meanCost 25 = .ok (.invokestatic 213, 3) := by decide +kernel
theorem dX9_meanCost_28 : decode cX9_meanCost 28 = .ok (.istore 4, 2) := by decide +kernel
theorem dX9_meanCost_30 : decode cX9_meanCost 30 = .ok (.iload 4, 2) := by decide +kernel
theorem dX9_meanCost_32 : decode cX9_meanCost 32 = .ok (.ifCond .ne 10, 3) := by decide +kernel
theorem dX9_meanCost_35 : decode cX9_meanCost 35 = .ok (.aload_n 0, 1) := by decide +kernel
theorem dX9_meanCost_36 : decode cX9_meanCost 36 = .ok (.iconst 2, 1) := by decide +kernel
theorem dX9_meanCost_37 : decode cX9_meanCost 37 = .ok (.invokevirtual 139, 3) := by decide +kernel
theorem dX9_meanCost_40 : decode cX9_meanCost 40 = .ok (.i2d, 1) := by decide +kernel
theorem dX9_meanCost_41 : decode cX9_meanCost 41 = .ok (.dreturn, 1) := by decide +kernel
theorem dX9_meanCost_42 : decode cX9_meanCost 42 = .ok (.iconst 0, 1) := by decide +kernel
theorem dX9_meanCost_43 : decode cX9_meanCost 43 = .ok (.istore 5, 2) := by decide +kernel
theorem dX9_meanCost_45 : decode cX9_meanCost 45 = .ok (.iload 5, 2) := by decide +kernel
theorem dX9_meanCost_47 : decode cX9_meanCost 47 = .ok (.sipush 4096, 3) := by decide +kernel
theorem dX9_meanCost_50 : decode cX9_meanCost 50 = .ok (.if_icmp .ge 36, 3) := by decide +kernel
theorem dX9_meanCost_53 : decode cX9_meanCost 53 = .ok (.lload_n 2, 1) := by decide +kernel
theorem dX9_meanCost_54 : decode cX9_meanCost 54 = .ok (.aload_n 0, 1) := by decide +kernel
theorem dX9_meanCost_55 : decode cX9_meanCost 55 = .ok (.getfield 24, 3) := by decide +kernel
theorem dX9_meanCost_58 : decode cX9_meanCost 58 = .ok (.iload_n 1, 1) := by decide +kernel
theorem dX9_meanCost_59 : decode cX9_meanCost 59 = .ok (.iload 5, 2) := by decide +kernel
theorem dX9_meanCost_61 : decode cX9_meanCost 61 = .ok (.invokestatic 65, 3) := by decide +kernel
theorem dX9_meanCost_64 : decode cX9_meanCost 64 = .ok (.ifCond .eq 13, 3) := by decide +kernel
theorem dX9_meanCost_67 : decode cX9_meanCost 67 = .ok (.aload_n 0, 1) := by decide +kernel
theorem dX9_meanCost_68 : decode cX9_meanCost 68 = .ok (.iload 5, 2) := by decide +kernel
theorem dX9_meanCost_70 : decode cX9_meanCost 70 = .ok (.invokevirtual 257, 3) := by decide +kernel
theorem dX9_meanCost_73 : decode cX9_meanCost 73 = .ok (.i2l, 1) := by decide +kernel
theorem dX9_meanCost_74 : decode cX9_meanCost 74 = .ok (.goto 4, 3) := by decide +kernel
theorem dX9_meanCost_77 : decode cX9_meanCost 77 = .ok (.lconst 0, 1) := by decide +kernel
theorem dX9_meanCost_78 : decode cX9_meanCost 78 = .ok (.ladd, 1) := by decide +kernel
theorem dX9_meanCost_79 : decode cX9_meanCost 79 = .ok (.lstore_n 2, 1) := by decide +kernel
theorem dX9_meanCost_80 : decode cX9_meanCost 80 = .ok (.iinc 5 1, 3) := by decide +kernel
theorem dX9_meanCost_83 : decode cX9_meanCost 83 = .ok (.goto (-38), 3) := by decide +kernel
theorem dX9_meanCost_86 : decode cX9_meanCost 86 = .ok (.lload_n 2, 1) := by decide +kernel
theorem dX9_meanCost_87 : decode cX9_meanCost 87 = .ok (.l2d, 1) := by decide +kernel
theorem dX9_meanCost_88 : decode cX9_meanCost 88 = .ok (.iload 4, 2) := by decide +kernel
theorem dX9_meanCost_90 : decode cX9_meanCost 90 = .ok (.i2d, 1) := by decide +kernel
theorem dX9_meanCost_91 : decode cX9_meanCost 91 = .ok (.ddiv, 1) := by decide +kernel
theorem dX9_meanCost_92 : decode cX9_meanCost 92 = .ok (.dreturn, 1) := by decide +kernel
theorem dX9_enumerate_0 : decode cX9_enumerate 0 = .ok (.aload_n 0, 1) := by decide +kernel
theorem dX9_enumerate_1 : decode cX9_enumerate 1 = .ok (.aload_n 0, 1) := by decide +kernel
theorem dX9_enumerate_2 : decode cX9_enumerate 2 = .ok (.iload_n 1, 1) := by decide +kernel
theorem dX9_enumerate_3 : decode cX9_enumerate 3 = .ok (.invokevirtual 220, 3) := by decide +kernel
theorem dX9_enumerate_6 : decode cX9_enumerate 6 = .ok (.putfield 62, 3) := by decide +kernel
theorem dX9_enumerate_9 : decode cX9_enumerate 9 = .ok (.aload_n 0, 1) := by decide +kernel
theorem dX9_enumerate_10 : decode cX9_enumerate 10 = .ok (.getfield 62, 3) := by decide +kernel
theorem dX9_enumerate_13 : decode cX9_enumerate 13 = .ok (.ifCond .eq 5, 3) := by decide +kernel
theorem dX9_enumerate_16 : decode cX9_enumerate 16 = .ok (.iconst 0, 1) := by decide +kernel
theorem dX9_enumerate_17 : decode cX9_enumerate 17 = .ok (.ireturn, 1) := by decide +kernel
theorem dX9_enumerate_18 : decode cX9_enumerate 18 = .ok (.iload_n 3, 1) := by decide +kernel
theorem dX9_enumerate_19 : decode cX9_enumerate 19 = .ok (.iconst 1, 1) := by decide +kernel
theorem dX9_enumerate_20 : decode cX9_enumerate 20 = .ok (.if_icmp .lt 10, 3) := by decide +kernel
theorem dX9_enumerate_23 : decode cX9_enumerate 23 = .ok (.iload_n 3, 1) := by decide +kernel
theorem dX9_enumerate_24 : decode cX9_enumerate 24 = .ok (.sipush 300, 3) := by decide +kernel
theorem dX9_enumerate_27 : decode cX9_enumerate 27 = .ok (.if_icmp .le 9, 3) := by decide +kernel
theorem dX9_enumerate_30 : decode cX9_enumerate 30 = .ok (.aload_n 0, 1) := by decide +kernel
theorem dX9_enumerate_31 : decode cX9_enumerate 31 = .ok (.iconst 3, 1) := by decide +kernel
theorem dX9_enumerate_32 : decode cX9_enumerate 32 = .ok (.invokevirtual 139, 3) := by decide +kernel
theorem dX9_enumerate_35 : decode cX9_enumerate 35 = .ok (.ireturn, 1) := by decide +kernel
theorem dX9_enumerate_36 : decode cX9_enumerate 36 = .ok (.aload_n 0, 1) := by decide +kernel
theorem dX9_enumerate_37 : decode cX9_enumerate 37 = .ok (.iconst 0, 1) := by decide +kernel
theorem dX9_enumerate_38 : decode cX9_enumerate 38 = .ok (.putfield 263, 3) := by decide +kernel
theorem dX9_enumerate_41 : decode cX9_enumerate 41 = .ok (.iconst 0, 1) := by decide +kernel
theorem dX9_enumerate_42 : decode cX9_enumerate 42 = .ok (.istore 4, 2) := by decide +kernel
theorem dX9_enumerate_44 : decode cX9_enumerate 44 = .ok (.iload 4, 2) := by decide +kernel
theorem dX9_enumerate_46 : decode cX9_enumerate 46 = .ok (.sipush 4096, 3) := by decide +kernel
theorem dX9_enumerate_49 : decode cX9_enumerate 49 = .ok (.if_icmp .ge 163, 3) := by decide +kernel
theorem dX9_enumerate_52 : decode cX9_enumerate 52 = .ok (.aload_n 0, 1) := by decide +kernel
theorem dX9_enumerate_53 : decode cX9_enumerate 53 = .ok (.getfield 24, 3) := by decide +kernel
theorem dX9_enumerate_56 : decode cX9_enumerate 56 = .ok (.iload_n 1, 1) := by decide +kernel
theorem dX9_enumerate_57 : decode cX9_enumerate 57 = .ok (.iload 4, 2) := by decide +kernel
theorem dX9_enumerate_59 : decode cX9_enumerate 59 = .ok (.invokestatic 65, 3) := by decide +kernel
theorem dX9_enumerate_62 : decode cX9_enumerate 62 = .ok (.ifCond .eq 144, 3) := by decide +kernel
theorem dX9_enumerate_65 : decode cX9_enumerate 65 = .ok (.aload_n 0, 1) := by decide +kernel
theorem dX9_enumerate_66 : decode cX9_enumerate 66 = .ok (.iload 4, 2) := by decide +kernel
theorem dX9_enumerate_68 : decode cX9_enumerate 68 = .ok (.invokevirtual 257, 3) := by decide +kernel
theorem dX9_enumerate_71 : decode cX9_enumerate 71 = .ok (.iload_n 2, 1) := by decide +kernel
theorem dX9_enumerate_72 : decode cX9_enumerate 72 = .ok (.if_icmp .le 6, 3) := by decide +kernel
theorem dX9_enumerate_75 : decode cX9_enumerate 75 = .ok (.goto 131, 3) := by decide +kernel
theorem dX9_enumerate_78 : decode cX9_enumerate 78 = .ok (.aload_n 0, 1) := by decide +kernel
theorem dX9_enumerate_79 : decode cX9_enumerate 79 = .ok (.getfield 263, 3) := by decide +kernel
theorem dX9_enumerate_82 : decode cX9_enumerate 82 = .ok (.iload_n 3, 1) := by decide +kernel
theorem dX9_enumerate_83 : decode cX9_enumerate 83 = .ok (.if_icmp .ne 27, 3) := by decide +kernel
theorem dX9_enumerate_86 : decode cX9_enumerate 86 = .ok (.aload_n 0, 1) := by decide +kernel
theorem dX9_enumerate_87 : decode cX9_enumerate 87 = .ok (.iload 4, 2) := by decide +kernel
theorem dX9_enumerate_89 : decode cX9_enumerate 89 = .ok (.invokevirtual 257, 3) := by decide +kernel
theorem dX9_enumerate_92 : decode cX9_enumerate 92 = .ok (.aload_n 0, 1) := by decide +kernel
theorem dX9_enumerate_93 : decode cX9_enumerate 93 = .ok (.aload_n 0, 1) := by decide +kernel
theorem dX9_enumerate_94 : decode cX9_enumerate 94 = .ok (.getfield 32, 3) := by decide +kernel
theorem dX9_enumerate_97 : decode cX9_enumerate 97 = .ok (.iload_n 3, 1) := by decide +kernel
theorem dX9_enumerate_98 : decode cX9_enumerate 98 = .ok (.iconst 1, 1) := by decide +kernel
theorem dX9_enumerate_99 : decode cX9_enumerate 99 = .ok (.isub, 1) := by decide +kernel
theorem dX9_enumerate_100 : decode cX9_enumerate 100 = .ok (.iaload, 1) := by decide +kernel
theorem dX9_enumerate_101 : decode cX9_enumerate 101 = .ok (.invokevirtual 257, 3) := by decide +kernel
theorem dX9_enumerate_104 : decode cX9_enumerate 104 = .ok (.if_icmp .lt 6, 3) := by decide +kernel
theorem dX9_enumerate_107 : decode cX9_enumerate 107 = .ok (.goto 99, 3) := by decide +kernel
theorem dX9_enumerate_110 : decode cX9_enumerate 110 = .ok (.aload_n 0, 1) := by decide +kernel
theorem dX9_enumerate_111 : decode cX9_enumerate 111 = .ok (.getfield 263, 3) := by decide +kernel
theorem dX9_enumerate_114 : decode cX9_enumerate 114 = .ok (.iload_n 3, 1) := by decide +kernel
theorem dX9_enumerate_115 : decode cX9_enumerate 115 = .ok (.if_icmp .ne 9, 3) := by decide +kernel
theorem dX9_enumerate_118 : decode cX9_enumerate 118 = .ok (.iload_n 3, 1) := by decide +kernel
theorem dX9_enumerate_119 : decode cX9_enumerate 119 = .ok (.iconst 1, 1) := by decide +kernel
theorem dX9_enumerate_120 : decode cX9_enumerate 120 = .ok (.isub, 1) := by decide +kernel
theorem dX9_enumerate_121 : decode cX9_enumerate 121 = .ok (.goto 7, 3) := by decide +kernel
theorem dX9_enumerate_124 : decode cX9_enumerate 124 = .ok (.aload_n 0, 1) := by decide +kernel
theorem dX9_enumerate_125 : decode cX9_enumerate 125 = .ok (.getfield 263, 3) := by decide +kernel
theorem dX9_enumerate_128 : decode cX9_enumerate 128 = .ok (.istore 5, 2) := by decide +kernel
theorem dX9_enumerate_130 : decode cX9_enumerate 130 = .ok (.iload 5, 2) := by decide +kernel
theorem dX9_enumerate_132 : decode cX9_enumerate 132 = .ok (.ifCond .le 47, 3) := by decide +kernel
theorem dX9_enumerate_135 : decode cX9_enumerate 135 = .ok (.aload_n 0, 1) := by decide +kernel
theorem dX9_enumerate_136 : decode cX9_enumerate 136 = .ok (.aload_n 0, 1) := by decide +kernel
theorem dX9_enumerate_137 : decode cX9_enumerate 137 = .ok (.getfield 32, 3) := by decide +kernel
theorem dX9_enumerate_140 : decode cX9_enumerate 140 = .ok (.iload 5, 2) := by decide +kernel
theorem dX9_enumerate_142 : decode cX9_enumerate 142 = .ok (.iconst 1, 1) := by decide +kernel
theorem dX9_enumerate_143 : decode cX9_enumerate 143 = .ok (.isub, 1) := by decide +kernel
theorem dX9_enumerate_144 : decode cX9_enumerate 144 = .ok (.iaload, 1) := by decide +kernel
theorem dX9_enumerate_145 : decode cX9_enumerate 145 = .ok (.invokevirtual 257, 3) := by decide +kernel
theorem dX9_enumerate_148 : decode cX9_enumerate 148 = .ok (.aload_n 0, 1) := by decide +kernel
theorem dX9_enumerate_149 : decode cX9_enumerate 149 = .ok (.iload 4, 2) := by decide +kernel
theorem dX9_enumerate_151 : decode cX9_enumerate 151 = .ok (.invokevirtual 257, 3) := by decide +kernel
theorem dX9_enumerate_154 : decode cX9_enumerate 154 = .ok (.if_icmp .le 25, 3) := by decide +kernel
theorem dX9_enumerate_157 : decode cX9_enumerate 157 = .ok (.aload_n 0, 1) := by decide +kernel
theorem dX9_enumerate_158 : decode cX9_enumerate 158 = .ok (.getfield 32, 3) := by decide +kernel
theorem dX9_enumerate_161 : decode cX9_enumerate 161 = .ok (.iload 5, 2) := by decide +kernel
theorem dX9_enumerate_163 : decode cX9_enumerate 163 = .ok (.aload_n 0, 1) := by decide +kernel
theorem dX9_enumerate_164 : decode cX9_enumerate 164 = .ok (.getfield 32, 3) := by decide +kernel
theorem dX9_enumerate_167 : decode cX9_enumerate 167 = .ok (.iload 5, 2) := by decide +kernel
theorem dX9_enumerate_169 : decode cX9_enumerate 169 = .ok (.iconst 1, 1) := by decide +kernel
theorem dX9_enumerate_170 : decode cX9_enumerate 170 = .ok (.isub, 1) := by decide +kernel
theorem dX9_enumerate_171 : decode cX9_enumerate 171 = .ok (.iaload, 1) := by decide +kernel
theorem dX9_enumerate_172 : decode cX9_enumerate 172 = .ok (.iastore, 1) := by decide +kernel
theorem dX9_enumerate_173 : decode cX9_enumerate 173 = .ok (.iinc 5 (-1), 3) := by decide +kernel
theorem dX9_enumerate_176 : decode cX9_enumerate 176 = .ok (.goto (-46), 3) := by decide +kernel
theorem dX9_enumerate_179 : decode cX9_enumerate 179 = .ok (.aload_n 0, 1) := by decide +kernel
theorem dX9_enumerate_180 : decode cX9_enumerate 180 = .ok (.getfield 32, 3) := by decide +kernel
theorem dX9_enumerate_183 : decode cX9_enumerate 183 = .ok (.iload 5, 2) := by decide +kernel
theorem dX9_enumerate_185 : decode cX9_enumerate 185 = .ok (.iload 4, 2) := by decide +kernel
theorem dX9_enumerate_187 : decode cX9_enumerate 187 = .ok (.iastore, 1) := by decide +kernel
theorem dX9_enumerate_188 : decode cX9_enumerate 188 = .ok (.aload_n 0, 1) := by decide +kernel
theorem dX9_enumerate_189 : decode cX9_enumerate 189 = .ok (.getfield 263, 3) := by decide +kernel
theorem dX9_enumerate_192 : decode cX9_enumerate 192 = .ok (.iload_n 3, 1) := by decide +kernel
theorem dX9_enumerate_193 : decode cX9_enumerate 193 = .ok (.if_icmp .ge 13, 3) := by decide +kernel
theorem dX9_enumerate_196 : decode cX9_enumerate 196 = .ok (.aload_n 0, 1) := by decide +kernel
theorem dX9_enumerate_197 : decode cX9_enumerate 197 = .ok (.dup, 1) := by decide +kernel
theorem dX9_enumerate_198 : decode cX9_enumerate 198 = .ok (.getfield 263, 3) := by decide +kernel
theorem dX9_enumerate_201 : decode cX9_enumerate 201 = .ok (.iconst 1, 1) := by decide +kernel
theorem dX9_enumerate_202 : decode cX9_enumerate 202 = .ok (.iadd, 1) := by decide +kernel
theorem dX9_enumerate_203 : decode cX9_enumerate 203 = .ok (.putfield 263, 3) := by decide +kernel
theorem dX9_enumerate_206 : decode cX9_enumerate 206 = .ok (.iinc 4 1, 3) := by decide +kernel
theorem dX9_enumerate_209 : decode cX9_enumerate 209 = .ok (.goto (-165), 3) := by decide +kernel
theorem dX9_enumerate_212 : decode cX9_enumerate 212 = .ok (.aload_n 0, 1) := by decide +kernel
theorem dX9_enumerate_213 : decode cX9_enumerate 213 = .ok (.getfield 263, 3) := by decide +kernel
theorem dX9_enumerate_216 : decode cX9_enumerate 216 = .ok (.ireturn, 1) := by decide +kernel
theorem dX9_enumerated_0 : decode cX9_enumerated 0 = .ok (.aload_n 0, 1) := by decide +kernel
theorem dX9_enumerated_1 : decode cX9_enumerated 1 = .ok (.iconst 0, 1) := by decide +kernel
theorem dX9_enumerated_2 : decode cX9_enumerated 2 = .ok (.putfield 62, 3) := by decide +kernel
theorem dX9_enumerated_5 : decode cX9_enumerated 5 = .ok (.iload_n 1, 1) := by decide +kernel
theorem dX9_enumerated_6 : decode cX9_enumerated 6 = .ok (.ifCond .lt 20, 3) := by decide +kernel
theorem dX9_enumerated_9 : decode cX9_enumerated 9 = .ok (.iload_n 1, 1) := by decide +kernel
theorem dX9_enumerated_10 : decode cX9_enumerated 10 = .ok (.aload_n 0, 1) := by decide +kernel
theorem dX9_enumerated_11 : decode cX9_enumerated 11 = .ok (.getfield 263, 3) := by decide +kernel
theorem dX9_enumerated_14 : decode cX9_enumerated 14 = .ok (.if_icmp .ge 12, 3) := by decide +kernel
theorem dX9_enumerated_17 : decode cX9_enumerated 17 = .ok (.aload_n 0, 1) := by decide +kernel
theorem dX9_enumerated_18 : decode cX9_enumerated 18 = .ok (.getfield 32, 3) := by decide +kernel
theorem dX9_enumerated_21 : decode cX9_enumerated 21 = .ok (.iload_n 1, 1) := by decide +kernel
theorem dX9_enumerated_22 : decode cX9_enumerated 22 = .ok (.iaload, 1) := by decide +kernel
theorem dX9_enumerated_23 : decode cX9_enumerated 23 = .ok (.goto 8, 3) := by decide +kernel
theorem dX9_enumerated_26 : decode cX9_enumerated 26 = .ok (.aload_n 0, 1) := by decide +kernel
theorem dX9_enumerated_27 : decode cX9_enumerated 27 = .ok (.iconst 1, 1) := by decide +kernel
theorem dX9_enumerated_28 : decode cX9_enumerated 28 = .ok (.invokevirtual 139, 3) := by decide +kernel
theorem dX9_enumerated_31 : decode cX9_enumerated 31 = .ok (.ireturn, 1) := by decide +kernel
theorem dX9_digest_0 : decode cX9_digest 0 = .ok (.aload_n 0, 1) := by decide +kernel
theorem dX9_digest_1 : decode cX9_digest 1 = .ok (.iconst 0, 1) := by decide +kernel
theorem dX9_digest_2 : decode cX9_digest 2 = .ok (.putfield 62, 3) := by decide +kernel
theorem dX9_digest_5 : decode cX9_digest 5 = .ok (.ldc2_w 266, 3) := by decide +kernel
theorem dX9_digest_8 : decode cX9_digest 8 = .ok (.aload_n 0, 1) := by decide +kernel
theorem dX9_digest_9 : decode cX9_digest 9 = .ok (.getfield 133, 3) := by decide +kernel
theorem dX9_digest_12 : decode cX9_digest 12 = .ok (.i2l, 1) := by decide +kernel
theorem dX9_digest_13 : decode cX9_digest 13 = .ok (.ladd, 1) := by decide +kernel
theorem dX9_digest_14 : decode cX9_digest 14 = .ok (.lstore_n 1, 1) := by decide +kernel
theorem dX9_digest_15 : decode cX9_digest 15 = .ok (.iconst 0, 1) := by decide +kernel
theorem dX9_digest_16 : decode cX9_digest 16 = .ok (.istore_n 3, 1) := by decide +kernel
theorem dX9_digest_17 : decode cX9_digest 17 = .ok (.iload_n 3, 1) := by decide +kernel
theorem dX9_digest_18 : decode cX9_digest 18 = .ok (.aload_n 0, 1) := by decide +kernel
theorem dX9_digest_19 : decode cX9_digest 19 = .ok (.getfield 133, 3) := by decide +kernel
theorem dX9_digest_22 : decode cX9_digest 22 = .ok (.if_icmp .ge 55, 3) := by decide +kernel
theorem dX9_digest_25 : decode cX9_digest 25 = .ok (.aload_n 0, 1) := by decide +kernel
theorem dX9_digest_26 : decode cX9_digest 26 = .ok (.getfield 20, 3) := by decide +kernel
theorem dX9_digest_29 : decode cX9_digest 29 = .ok (.iload_n 3, 1) := by decide +kernel
theorem dX9_digest_30 : decode cX9_digest 30 = .ok (.baload, 1) := by decide +kernel
theorem dX9_digest_31 : decode cX9_digest 31 = .ok (.ifCond .eq 13, 3) := by decide +kernel
theorem dX9_digest_34 : decode cX9_digest 34 = .ok (.lload_n 1, 1) := by decide +kernel
theorem dX9_digest_35 : decode cX9_digest 35 = .ok (.ldc2_w 268, 3) := by decide +kernel
theorem dX9_digest_38 : decode cX9_digest 38 = .ok (.lmul, 1) := by decide +kernel
theorem dX9_digest_39 : decode cX9_digest 39 = .ok (.lconst 1, 1) := by decide +kernel
theorem dX9_digest_40 : decode cX9_digest 40 = .ok (.lsub, 1) := by decide +kernel
theorem dX9_digest_41 : decode cX9_digest 41 = .ok (.goto 29, 3) := by decide +kernel
theorem dX9_digest_44 : decode cX9_digest 44 = .ok (.lload_n 1, 1) := by decide +kernel
theorem dX9_digest_45 : decode cX9_digest 45 = .ok (.ldc2_w 268, 3) := by decide +kernel
theorem dX9_digest_48 : decode cX9_digest 48 = .ok (.lmul, 1) := by decide +kernel
theorem dX9_digest_49 : decode cX9_digest 49 = .ok (.aload_n 0, 1) := by decide +kernel
theorem dX9_digest_50 : decode cX9_digest 50 = .ok (.getfield 24, 3) := by decide +kernel
theorem dX9_digest_53 : decode cX9_digest 53 = .ok (.iload_n 3, 1) := by decide +kernel
theorem dX9_digest_54 : decode cX9_digest 54 = .ok (.invokestatic 213, 3) := by decide +kernel
theorem dX9_digest_57 : decode cX9_digest 57 = .ok (.i2l, 1) := by decide +kernel
theorem dX9_digest_58 : decode cX9_digest 58 = .ok (.ladd, 1) := by decide +kernel
theorem dX9_digest_59 : decode cX9_digest 59 = .ok (.ldc2_w 268, 3) := by decide +kernel
theorem dX9_digest_62 : decode cX9_digest 62 = .ok (.lmul, 1) := by decide +kernel
theorem dX9_digest_63 : decode cX9_digest 63 = .ok (.aload_n 0, 1) := by decide +kernel
theorem dX9_digest_64 : decode cX9_digest 64 = .ok (.iload_n 3, 1) := by decide +kernel
theorem dX9_digest_65 : decode cX9_digest 65 = .ok (.invokevirtual 243, 3) := by decide +kernel
theorem dX9_digest_68 : decode cX9_digest 68 = .ok (.i2l, 1) := by decide +kernel
theorem dX9_digest_69 : decode cX9_digest 69 = .ok (.ladd, 1) := by decide +kernel
theorem dX9_digest_70 : decode cX9_digest 70 = .ok (.lstore_n 1, 1) := by decide +kernel
theorem dX9_digest_71 : decode cX9_digest 71 = .ok (.iinc 3 1, 3) := by decide +kernel
theorem dX9_digest_74 : decode cX9_digest 74 = .ok (.goto (-57), 3) := by decide +kernel
theorem dX9_digest_77 : decode cX9_digest 77 = .ok (.lload_n 1, 1) := by decide +kernel
theorem dX9_digest_78 : decode cX9_digest 78 = .ok (.ldc2_w 268, 3) := by decide +kernel
theorem dX9_digest_81 : decode cX9_digest 81 = .ok (.lmul, 1) := by decide +kernel
theorem dX9_digest_82 : decode cX9_digest 82 = .ok (.aload_n 0, 1) := by decide +kernel
theorem dX9_digest_83 : decode cX9_digest 83 = .ok (.invokevirtual 240, 3) := by decide +kernel
theorem dX9_digest_86 : decode cX9_digest 86 = .ok (.i2l, 1) := by decide +kernel
theorem dX9_digest_87 : decode cX9_digest 87 = .ok (.ladd, 1) := by decide +kernel
theorem dX9_digest_88 : decode cX9_digest 88 = .ok (.lstore_n 1, 1) := by decide +kernel
theorem dX9_digest_89 : decode cX9_digest 89 = .ok (.iconst 0, 1) := by decide +kernel
theorem dX9_digest_90 : decode cX9_digest 90 = .ok (.istore_n 3, 1) := by decide +kernel
theorem dX9_digest_91 : decode cX9_digest 91 = .ok (.iload_n 3, 1) := by decide +kernel
theorem dX9_digest_92 : decode cX9_digest 92 = .ok (.bipush 12, 2) := by decide +kernel
theorem dX9_digest_94 : decode cX9_digest 94 = .ok (.if_icmp .ge 23, 3) := by decide +kernel
theorem dX9_digest_97 : decode cX9_digest 97 = .ok (.lload_n 1, 1) := by decide +kernel
theorem dX9_digest_98 : decode cX9_digest 98 = .ok (.ldc2_w 268, 3) := by decide +kernel
theorem dX9_digest_101 : decode cX9_digest 101 = .ok (.lmul, 1) := by decide +kernel
theorem dX9_digest_102 : decode cX9_digest 102 = .ok (.aload_n 0, 1) := by decide +kernel
theorem dX9_digest_103 : decode cX9_digest 103 = .ok (.getfield 28, 3) := by decide +kernel
theorem dX9_digest_106 : decode cX9_digest 106 = .ok (.iload_n 3, 1) := by decide +kernel
theorem dX9_digest_107 : decode cX9_digest 107 = .ok (.iaload, 1) := by decide +kernel
theorem dX9_digest_108 : decode cX9_digest 108 = .ok (.i2l, 1) := by decide +kernel
theorem dX9_digest_109 : decode cX9_digest 109 = .ok (.ladd, 1) := by decide +kernel
theorem dX9_digest_110 : decode cX9_digest 110 = .ok (.lstore_n 1, 1) := by decide +kernel
theorem dX9_digest_111 : decode cX9_digest 111 = .ok (.iinc 3 1, 3) := by decide +kernel
theorem dX9_digest_114 : decode cX9_digest 114 = .ok (.goto (-23), 3) := by decide +kernel
theorem dX9_digest_117 : decode cX9_digest 117 = .ok (.lload_n 1, 1) := by decide +kernel
theorem dX9_digest_118 : decode cX9_digest 118 = .ok (.lreturn, 1) := by decide +kernel
theorem dJx00060_init_a7421_0 : decode cJx00060_init_a7421 0 = .ok (.aload_n 0, 1) := by decide +kernel
theorem dJx00060_init_a7421_1 : decode cJx00060_init_a7421 1 = .ok (.aload_n 1, 1) := by decide +kernel
theorem dJx00060_init_a7421_2 : decode cJx00060_init_a7421 2 = .ok (.invokespecial 7, 3) := by decide +kernel
theorem dJx00060_init_a7421_5 : decode cJx00060_init_a7421 5 = .ok (.return_, 1) := by decide +kernel
theorem dJ6_numberOfLeadingZeros_0f7a4_0 : decode cJ6_numberOfLeadingZeros_0f7a4 0 = .ok (.iload_n 0, 1) := by decide +kernel
theorem dJ6_numberOfLeadingZeros_0f7a4_1 : decode cJ6_numberOfLeadingZeros_0f7a4 1 = .ok (.ifCond .gt 14, 3) := by decide +kernel
theorem dJ6_numberOfLeadingZeros_0f7a4_4 : decode cJ6_numberOfLeadingZeros_0f7a4 4 = .ok (.iload_n 0, 1) := by decide +kernel
theorem dJ6_numberOfLeadingZeros_0f7a4_5 : decode cJ6_numberOfLeadingZeros_0f7a4 5 = .ok (.ifCond .ne 8, 3) := by decide +kernel
theorem dJ6_numberOfLeadingZeros_0f7a4_8 : decode cJ6_numberOfLeadingZeros_0f7a4 8 = .ok (.bipush 32, 2) := by decide +kernel
theorem dJ6_numberOfLeadingZeros_0f7a4_10 : decode cJ6_numberOfLeadingZeros_0f7a4 10 = .ok (.goto 4, 3) := by decide +kernel
theorem dJ6_numberOfLeadingZeros_0f7a4_13 : decode cJ6_numberOfLeadingZeros_0f7a4 13 = .ok (.iconst 0, 1) := by decide +kernel
theorem dJ6_numberOfLeadingZeros_0f7a4_14 : decode cJ6_numberOfLeadingZeros_0f7a4 14 = .ok (.ireturn, 1) := by decide +kernel
theorem dJ6_numberOfLeadingZeros_0f7a4_15 : decode cJ6_numberOfLeadingZeros_0f7a4 15 = .ok (.bipush 31, 2) := by decide +kernel
theorem dJ6_numberOfLeadingZeros_0f7a4_17 : decode cJ6_numberOfLeadingZeros_0f7a4 17 = .ok (.istore_n 1, 1) := by decide +kernel
theorem dJ6_numberOfLeadingZeros_0f7a4_18 : decode cJ6_numberOfLeadingZeros_0f7a4 18 = .ok (.iload_n 0, 1) := by decide +kernel
theorem dJ6_numberOfLeadingZeros_0f7a4_19 : decode cJ6_numberOfLeadingZeros_0f7a4 19 = .ok (.ldc_w 264, 3) := by decide +kernel
theorem dJ6_numberOfLeadingZeros_0f7a4_22 : decode cJ6_numberOfLeadingZeros_0f7a4 22 = .ok (.if_icmp .lt 11, 3) := by decide +kernel
theorem dJ6_numberOfLeadingZeros_0f7a4_25 : decode cJ6_numberOfLeadingZeros_0f7a4 25 = .ok (.iinc 1 (-16), 3) := by decide +kernel
theorem dJ6_numberOfLeadingZeros_0f7a4_28 : decode cJ6_numberOfLeadingZeros_0f7a4 28 = .ok (.iload_n 0, 1) := by decide +kernel
theorem dJ6_numberOfLeadingZeros_0f7a4_29 : decode cJ6_numberOfLeadingZeros_0f7a4 29 = .ok (.bipush 16, 2) := by decide +kernel
theorem dJ6_numberOfLeadingZeros_0f7a4_31 : decode cJ6_numberOfLeadingZeros_0f7a4 31 = .ok (.iushr, 1) := by decide +kernel
theorem dJ6_numberOfLeadingZeros_0f7a4_32 : decode cJ6_numberOfLeadingZeros_0f7a4 32 = .ok (.istore_n 0, 1) := by decide +kernel
theorem dJ6_numberOfLeadingZeros_0f7a4_33 : decode cJ6_numberOfLeadingZeros_0f7a4 33 = .ok (.iload_n 0, 1) := by decide +kernel
theorem dJ6_numberOfLeadingZeros_0f7a4_34 : decode cJ6_numberOfLeadingZeros_0f7a4 34 = .ok (.sipush 256, 3) := by decide +kernel
theorem dJ6_numberOfLeadingZeros_0f7a4_37 : decode cJ6_numberOfLeadingZeros_0f7a4 37 = .ok (.if_icmp .lt 11, 3) := by decide +kernel
theorem dJ6_numberOfLeadingZeros_0f7a4_40 : decode cJ6_numberOfLeadingZeros_0f7a4 40 = .ok (.iinc 1 (-8), 3) := by decide +kernel
theorem dJ6_numberOfLeadingZeros_0f7a4_43 : decode cJ6_numberOfLeadingZeros_0f7a4 43 = .ok (.iload_n 0, 1) := by decide +kernel
theorem dJ6_numberOfLeadingZeros_0f7a4_44 : decode cJ6_numberOfLeadingZeros_0f7a4 44 = .ok (.bipush 8, 2) := by decide +kernel
theorem dJ6_numberOfLeadingZeros_0f7a4_46 : decode cJ6_numberOfLeadingZeros_0f7a4 46 = .ok (.iushr, 1) := by decide +kernel
theorem dJ6_numberOfLeadingZeros_0f7a4_47 : decode cJ6_numberOfLeadingZeros_0f7a4 47 = .ok (.istore_n 0, 1) := by decide +kernel
theorem dJ6_numberOfLeadingZeros_0f7a4_48 : decode cJ6_numberOfLeadingZeros_0f7a4 48 = .ok (.iload_n 0, 1) := by decide +kernel
theorem dJ6_numberOfLeadingZeros_0f7a4_49 : decode cJ6_numberOfLeadingZeros_0f7a4 49 = .ok (.bipush 16, 2) := by decide +kernel
theorem dJ6_numberOfLeadingZeros_0f7a4_51 : decode cJ6_numberOfLeadingZeros_0f7a4 51 = .ok (.if_icmp .lt 10, 3) := by decide +kernel
theorem dJ6_numberOfLeadingZeros_0f7a4_54 : decode cJ6_numberOfLeadingZeros_0f7a4 54 = .ok (.iinc 1 (-4), 3) := by decide +kernel
theorem dJ6_numberOfLeadingZeros_0f7a4_57 : decode cJ6_numberOfLeadingZeros_0f7a4 57 = .ok (.iload_n 0, 1) := by decide +kernel
theorem dJ6_numberOfLeadingZeros_0f7a4_58 : decode cJ6_numberOfLeadingZeros_0f7a4 58 = .ok (.iconst 4, 1) := by decide +kernel
theorem dJ6_numberOfLeadingZeros_0f7a4_59 : decode cJ6_numberOfLeadingZeros_0f7a4 59 = .ok (.iushr, 1) := by decide +kernel
theorem dJ6_numberOfLeadingZeros_0f7a4_60 : decode cJ6_numberOfLeadingZeros_0f7a4 60 = .ok (.istore_n 0, 1) := by decide +kernel
theorem dJ6_numberOfLeadingZeros_0f7a4_61 : decode cJ6_numberOfLeadingZeros_0f7a4 61 = .ok (.iload_n 0, 1) := by decide +kernel
theorem dJ6_numberOfLeadingZeros_0f7a4_62 : decode cJ6_numberOfLeadingZeros_0f7a4 62 = .ok (.iconst 4, 1) := by decide +kernel
theorem dJ6_numberOfLeadingZeros_0f7a4_63 : decode cJ6_numberOfLeadingZeros_0f7a4 63 = .ok (.if_icmp .lt 10, 3) := by decide +kernel
theorem dJ6_numberOfLeadingZeros_0f7a4_66 : decode cJ6_numberOfLeadingZeros_0f7a4 66 = .ok (.iinc 1 (-2), 3) := by decide +kernel
theorem dJ6_numberOfLeadingZeros_0f7a4_69 : decode cJ6_numberOfLeadingZeros_0f7a4 69 = .ok (.iload_n 0, 1) := by decide +kernel
theorem dJ6_numberOfLeadingZeros_0f7a4_70 : decode cJ6_numberOfLeadingZeros_0f7a4 70 = .ok (.iconst 2, 1) := by decide +kernel
theorem dJ6_numberOfLeadingZeros_0f7a4_71 : decode cJ6_numberOfLeadingZeros_0f7a4 71 = .ok (.iushr, 1) := by decide +kernel
theorem dJ6_numberOfLeadingZeros_0f7a4_72 : decode cJ6_numberOfLeadingZeros_0f7a4 72 = .ok (.istore_n 0, 1) := by decide +kernel
theorem dJ6_numberOfLeadingZeros_0f7a4_73 : decode cJ6_numberOfLeadingZeros_0f7a4 73 = .ok (.iload_n 1, 1) := by decide +kernel
theorem dJ6_numberOfLeadingZeros_0f7a4_74 : decode cJ6_numberOfLeadingZeros_0f7a4 74 = .ok (.iload_n 0, 1) := by decide +kernel
theorem dJ6_numberOfLeadingZeros_0f7a4_75 : decode cJ6_numberOfLeadingZeros_0f7a4 75 = .ok (.iconst 1, 1) := by decide +kernel
theorem dJ6_numberOfLeadingZeros_0f7a4_76 : decode cJ6_numberOfLeadingZeros_0f7a4 76 = .ok (.iushr, 1) := by decide +kernel
theorem dJ6_numberOfLeadingZeros_0f7a4_77 : decode cJ6_numberOfLeadingZeros_0f7a4 77 = .ok (.isub, 1) := by decide +kernel
theorem dJ6_numberOfLeadingZeros_0f7a4_78 : decode cJ6_numberOfLeadingZeros_0f7a4 78 = .ok (.ireturn, 1) := by decide +kernel
theorem dJ6_numberOfTrailingZeros_0f7a4_0 : decode cJ6_numberOfTrailingZeros_0f7a4 0 = .ok (.iload_n 0, 1) := by decide +kernel
theorem dJ6_numberOfTrailingZeros_0f7a4_1 : decode cJ6_numberOfTrailingZeros_0f7a4 1 = .ok (.iconst (-1), 1) := by decide +kernel
theorem dJ6_numberOfTrailingZeros_0f7a4_2 : decode cJ6_numberOfTrailingZeros_0f7a4 2 = .ok (.ixor, 1) := by decide +kernel
theorem dJ6_numberOfTrailingZeros_0f7a4_3 : decode cJ6_numberOfTrailingZeros_0f7a4 3 = .ok (.iload_n 0, 1) := by decide +kernel
theorem dJ6_numberOfTrailingZeros_0f7a4_4 : decode cJ6_numberOfTrailingZeros_0f7a4 4 = .ok (.iconst 1, 1) := by decide +kernel
theorem dJ6_numberOfTrailingZeros_0f7a4_5 : decode cJ6_numberOfTrailingZeros_0f7a4 5 = .ok (.isub, 1) := by decide +kernel
theorem dJ6_numberOfTrailingZeros_0f7a4_6 : decode cJ6_numberOfTrailingZeros_0f7a4 6 = .ok (.iand, 1) := by decide +kernel
theorem dJ6_numberOfTrailingZeros_0f7a4_7 : decode cJ6_numberOfTrailingZeros_0f7a4 7 = .ok (.istore_n 0, 1) := by decide +kernel
theorem dJ6_numberOfTrailingZeros_0f7a4_8 : decode cJ6_numberOfTrailingZeros_0f7a4 8 = .ok (.iload_n 0, 1) := by decide +kernel
theorem dJ6_numberOfTrailingZeros_0f7a4_9 : decode cJ6_numberOfTrailingZeros_0f7a4 9 = .ok (.ifCond .gt 8, 3) := by decide +kernel
theorem dJ6_numberOfTrailingZeros_0f7a4_12 : decode cJ6_numberOfTrailingZeros_0f7a4 12 = .ok (.iload_n 0, 1) := by decide +kernel
theorem dJ6_numberOfTrailingZeros_0f7a4_13 : decode cJ6_numberOfTrailingZeros_0f7a4 13 = .ok (.bipush 32, 2) := by decide +kernel
theorem dJ6_numberOfTrailingZeros_0f7a4_15 : decode cJ6_numberOfTrailingZeros_0f7a4 15 = .ok (.iand, 1) := by decide +kernel
theorem dJ6_numberOfTrailingZeros_0f7a4_16 : decode cJ6_numberOfTrailingZeros_0f7a4 16 = .ok (.ireturn, 1) := by decide +kernel
theorem dJ6_numberOfTrailingZeros_0f7a4_17 : decode cJ6_numberOfTrailingZeros_0f7a4 17 = .ok (.iconst 1, 1) := by decide +kernel
theorem dJ6_numberOfTrailingZeros_0f7a4_18 : decode cJ6_numberOfTrailingZeros_0f7a4 18 = .ok (.istore_n 1, 1) := by decide +kernel
theorem dJ6_numberOfTrailingZeros_0f7a4_19 : decode cJ6_numberOfTrailingZeros_0f7a4 19 = .ok (.iload_n 0, 1) := by decide +kernel
theorem dJ6_numberOfTrailingZeros_0f7a4_20 : decode cJ6_numberOfTrailingZeros_0f7a4 20 = .ok (.ldc_w 264, 3) := by decide +kernel
theorem dJ6_numberOfTrailingZeros_0f7a4_23 : decode cJ6_numberOfTrailingZeros_0f7a4 23 = .ok (.if_icmp .le 11, 3) := by decide +kernel
theorem dJ6_numberOfTrailingZeros_0f7a4_26 : decode cJ6_numberOfTrailingZeros_0f7a4 26 = .ok (.iinc 1 16, 3) := by decide +kernel
theorem dJ6_numberOfTrailingZeros_0f7a4_29 : decode cJ6_numberOfTrailingZeros_0f7a4 29 = .ok (.iload_n 0, 1) := by decide +kernel
theorem dJ6_numberOfTrailingZeros_0f7a4_30 : decode cJ6_numberOfTrailingZeros_0f7a4 30 = .ok (.bipush 16, 2) := by decide +kernel
theorem dJ6_numberOfTrailingZeros_0f7a4_32 : decode cJ6_numberOfTrailingZeros_0f7a4 32 = .ok (.iushr, 1) := by decide +kernel
theorem dJ6_numberOfTrailingZeros_0f7a4_33 : decode cJ6_numberOfTrailingZeros_0f7a4 33 = .ok (.istore_n 0, 1) := by decide +kernel
theorem dJ6_numberOfTrailingZeros_0f7a4_34 : decode cJ6_numberOfTrailingZeros_0f7a4 34 = .ok (.iload_n 0, 1) := by decide +kernel
theorem dJ6_numberOfTrailingZeros_0f7a4_35 : decode cJ6_numberOfTrailingZeros_0f7a4 35 = .ok (.sipush 256, 3) := by decide +kernel
theorem dJ6_numberOfTrailingZeros_0f7a4_38 : decode cJ6_numberOfTrailingZeros_0f7a4 38 = .ok (.if_icmp .le 11, 3) := by decide +kernel
theorem dJ6_numberOfTrailingZeros_0f7a4_41 : decode cJ6_numberOfTrailingZeros_0f7a4 41 = .ok (.iinc 1 8, 3) := by decide +kernel
theorem dJ6_numberOfTrailingZeros_0f7a4_44 : decode cJ6_numberOfTrailingZeros_0f7a4 44 = .ok (.iload_n 0, 1) := by decide +kernel
theorem dJ6_numberOfTrailingZeros_0f7a4_45 : decode cJ6_numberOfTrailingZeros_0f7a4 45 = .ok (.bipush 8, 2) := by decide +kernel
theorem dJ6_numberOfTrailingZeros_0f7a4_47 : decode cJ6_numberOfTrailingZeros_0f7a4 47 = .ok (.iushr, 1) := by decide +kernel
theorem dJ6_numberOfTrailingZeros_0f7a4_48 : decode cJ6_numberOfTrailingZeros_0f7a4 48 = .ok (.istore_n 0, 1) := by decide +kernel
theorem dJ6_numberOfTrailingZeros_0f7a4_49 : decode cJ6_numberOfTrailingZeros_0f7a4 49 = .ok (.iload_n 0, 1) := by decide +kernel
theorem dJ6_numberOfTrailingZeros_0f7a4_50 : decode cJ6_numberOfTrailingZeros_0f7a4 50 = .ok (.bipush 16, 2) := by decide +kernel
theorem dJ6_numberOfTrailingZeros_0f7a4_52 : decode cJ6_numberOfTrailingZeros_0f7a4 52 = .ok (.if_icmp .le 10, 3) := by decide +kernel
theorem dJ6_numberOfTrailingZeros_0f7a4_55 : decode cJ6_numberOfTrailingZeros_0f7a4 55 = .ok (.iinc 1 4, 3) := by decide +kernel
theorem dJ6_numberOfTrailingZeros_0f7a4_58 : decode cJ6_numberOfTrailingZeros_0f7a4 58 = .ok (.iload_n 0, 1) := by decide +kernel
theorem dJ6_numberOfTrailingZeros_0f7a4_59 : decode cJ6_numberOfTrailingZeros_0f7a4 59 = .ok (.iconst 4, 1) := by decide +kernel
theorem dJ6_numberOfTrailingZeros_0f7a4_60 : decode cJ6_numberOfTrailingZeros_0f7a4 60 = .ok (.iushr, 1) := by decide +kernel
theorem dJ6_numberOfTrailingZeros_0f7a4_61 : decode cJ6_numberOfTrailingZeros_0f7a4 61 = .ok (.istore_n 0, 1) := by decide +kernel
theorem dJ6_numberOfTrailingZeros_0f7a4_62 : decode cJ6_numberOfTrailingZeros_0f7a4 62 = .ok (.iload_n 0, 1) := by decide +kernel
theorem dJ6_numberOfTrailingZeros_0f7a4_63 : decode cJ6_numberOfTrailingZeros_0f7a4 63 = .ok (.iconst 4, 1) := by decide +kernel
theorem dJ6_numberOfTrailingZeros_0f7a4_64 : decode cJ6_numberOfTrailingZeros_0f7a4 64 = .ok (.if_icmp .le 10, 3) := by decide +kernel
theorem dJ6_numberOfTrailingZeros_0f7a4_67 : decode cJ6_numberOfTrailingZeros_0f7a4 67 = .ok (.iinc 1 2, 3) := by decide +kernel
theorem dJ6_numberOfTrailingZeros_0f7a4_70 : decode cJ6_numberOfTrailingZeros_0f7a4 70 = .ok (.iload_n 0, 1) := by decide +kernel
theorem dJ6_numberOfTrailingZeros_0f7a4_71 : decode cJ6_numberOfTrailingZeros_0f7a4 71 = .ok (.iconst 2, 1) := by decide +kernel
theorem dJ6_numberOfTrailingZeros_0f7a4_72 : decode cJ6_numberOfTrailingZeros_0f7a4 72 = .ok (.iushr, 1) := by decide +kernel
theorem dJ6_numberOfTrailingZeros_0f7a4_73 : decode cJ6_numberOfTrailingZeros_0f7a4 73 = .ok (.istore_n 0, 1) := by decide +kernel
theorem dJ6_numberOfTrailingZeros_0f7a4_74 : decode cJ6_numberOfTrailingZeros_0f7a4 74 = .ok (.iload_n 1, 1) := by decide +kernel
theorem dJ6_numberOfTrailingZeros_0f7a4_75 : decode cJ6_numberOfTrailingZeros_0f7a4 75 = .ok (.iload_n 0, 1) := by decide +kernel
theorem dJ6_numberOfTrailingZeros_0f7a4_76 : decode cJ6_numberOfTrailingZeros_0f7a4 76 = .ok (.iconst 1, 1) := by decide +kernel
theorem dJ6_numberOfTrailingZeros_0f7a4_77 : decode cJ6_numberOfTrailingZeros_0f7a4 77 = .ok (.iushr, 1) := by decide +kernel
theorem dJ6_numberOfTrailingZeros_0f7a4_78 : decode cJ6_numberOfTrailingZeros_0f7a4 78 = .ok (.iadd, 1) := by decide +kernel
theorem dJ6_numberOfTrailingZeros_0f7a4_79 : decode cJ6_numberOfTrailingZeros_0f7a4 79 = .ok (.ireturn, 1) := by decide +kernel
theorem dJ6_bitCount_0f7a4_0 : decode cJ6_bitCount_0f7a4 0 = .ok (.iload_n 0, 1) := by decide +kernel
theorem dJ6_bitCount_0f7a4_1 : decode cJ6_bitCount_0f7a4 1 = .ok (.iload_n 0, 1) := by decide +kernel
theorem dJ6_bitCount_0f7a4_2 : decode cJ6_bitCount_0f7a4 2 = .ok (.iconst 1, 1) := by decide +kernel
theorem dJ6_bitCount_0f7a4_3 : decode cJ6_bitCount_0f7a4 3 = .ok (.iushr, 1) := by decide +kernel
theorem dJ6_bitCount_0f7a4_4 : decode cJ6_bitCount_0f7a4 4 = .ok (.ldc_w 265, 3) := by decide +kernel
theorem dJ6_bitCount_0f7a4_7 : decode cJ6_bitCount_0f7a4 7 = .ok (.iand, 1) := by decide +kernel
theorem dJ6_bitCount_0f7a4_8 : decode cJ6_bitCount_0f7a4 8 = .ok (.isub, 1) := by decide +kernel
theorem dJ6_bitCount_0f7a4_9 : decode cJ6_bitCount_0f7a4 9 = .ok (.istore_n 0, 1) := by decide +kernel
theorem dJ6_bitCount_0f7a4_10 : decode cJ6_bitCount_0f7a4 10 = .ok (.iload_n 0, 1) := by decide +kernel
theorem dJ6_bitCount_0f7a4_11 : decode cJ6_bitCount_0f7a4 11 = .ok (.ldc_w 266, 3) := by decide +kernel
theorem dJ6_bitCount_0f7a4_14 : decode cJ6_bitCount_0f7a4 14 = .ok (.iand, 1) := by decide +kernel
theorem dJ6_bitCount_0f7a4_15 : decode cJ6_bitCount_0f7a4 15 = .ok (.iload_n 0, 1) := by decide +kernel
theorem dJ6_bitCount_0f7a4_16 : decode cJ6_bitCount_0f7a4 16 = .ok (.iconst 2, 1) := by decide +kernel
theorem dJ6_bitCount_0f7a4_17 : decode cJ6_bitCount_0f7a4 17 = .ok (.iushr, 1) := by decide +kernel
theorem dJ6_bitCount_0f7a4_18 : decode cJ6_bitCount_0f7a4 18 = .ok (.ldc_w 266, 3) := by decide +kernel
theorem dJ6_bitCount_0f7a4_21 : decode cJ6_bitCount_0f7a4 21 = .ok (.iand, 1) := by decide +kernel
theorem dJ6_bitCount_0f7a4_22 : decode cJ6_bitCount_0f7a4 22 = .ok (.iadd, 1) := by decide +kernel
theorem dJ6_bitCount_0f7a4_23 : decode cJ6_bitCount_0f7a4 23 = .ok (.istore_n 0, 1) := by decide +kernel
theorem dJ6_bitCount_0f7a4_24 : decode cJ6_bitCount_0f7a4 24 = .ok (.iload_n 0, 1) := by decide +kernel
theorem dJ6_bitCount_0f7a4_25 : decode cJ6_bitCount_0f7a4 25 = .ok (.iload_n 0, 1) := by decide +kernel
theorem dJ6_bitCount_0f7a4_26 : decode cJ6_bitCount_0f7a4 26 = .ok (.iconst 4, 1) := by decide +kernel
theorem dJ6_bitCount_0f7a4_27 : decode cJ6_bitCount_0f7a4 27 = .ok (.iushr, 1) := by decide +kernel
theorem dJ6_bitCount_0f7a4_28 : decode cJ6_bitCount_0f7a4 28 = .ok (.iadd, 1) := by decide +kernel
theorem dJ6_bitCount_0f7a4_29 : decode cJ6_bitCount_0f7a4 29 = .ok (.ldc_w 267, 3) := by decide +kernel
theorem dJ6_bitCount_0f7a4_32 : decode cJ6_bitCount_0f7a4 32 = .ok (.iand, 1) := by decide +kernel
theorem dJ6_bitCount_0f7a4_33 : decode cJ6_bitCount_0f7a4 33 = .ok (.istore_n 0, 1) := by decide +kernel
theorem dJ6_bitCount_0f7a4_34 : decode cJ6_bitCount_0f7a4 34 = .ok (.iload_n 0, 1) := by decide +kernel
theorem dJ6_bitCount_0f7a4_35 : decode cJ6_bitCount_0f7a4 35 = .ok (.iload_n 0, 1) := by decide +kernel
theorem dJ6_bitCount_0f7a4_36 : decode cJ6_bitCount_0f7a4 36 = .ok (.bipush 8, 2) := by decide +kernel
theorem dJ6_bitCount_0f7a4_38 : decode cJ6_bitCount_0f7a4 38 = .ok (.iushr, 1) := by decide +kernel
theorem dJ6_bitCount_0f7a4_39 : decode cJ6_bitCount_0f7a4 39 = .ok (.iadd, 1) := by decide +kernel
theorem dJ6_bitCount_0f7a4_40 : decode cJ6_bitCount_0f7a4 40 = .ok (.istore_n 0, 1) := by decide +kernel
theorem dJ6_bitCount_0f7a4_41 : decode cJ6_bitCount_0f7a4 41 = .ok (.iload_n 0, 1) := by decide +kernel
theorem dJ6_bitCount_0f7a4_42 : decode cJ6_bitCount_0f7a4 42 = .ok (.iload_n 0, 1) := by decide +kernel
theorem dJ6_bitCount_0f7a4_43 : decode cJ6_bitCount_0f7a4 43 = .ok (.bipush 16, 2) := by decide +kernel
theorem dJ6_bitCount_0f7a4_45 : decode cJ6_bitCount_0f7a4 45 = .ok (.iushr, 1) := by decide +kernel
theorem dJ6_bitCount_0f7a4_46 : decode cJ6_bitCount_0f7a4 46 = .ok (.iadd, 1) := by decide +kernel
theorem dJ6_bitCount_0f7a4_47 : decode cJ6_bitCount_0f7a4 47 = .ok (.istore_n 0, 1) := by decide +kernel
theorem dJ6_bitCount_0f7a4_48 : decode cJ6_bitCount_0f7a4 48 = .ok (.iload_n 0, 1) := by decide +kernel
theorem dJ6_bitCount_0f7a4_49 : decode cJ6_bitCount_0f7a4 49 = .ok (.bipush 63, 2) := by decide +kernel
theorem dJ6_bitCount_0f7a4_51 : decode cJ6_bitCount_0f7a4 51 = .ok (.iand, 1) := by decide +kernel
theorem dJ6_bitCount_0f7a4_52 : decode cJ6_bitCount_0f7a4 52 = .ok (.ireturn, 1) := by decide +kernel
theorem dJ13_numberOfLeadingZeros_95d88_0 : decode cJ13_numberOfLeadingZeros_95d88 0 = .ok (.lload_n 0, 1) := by decide +kernel
theorem dJ13_numberOfLeadingZeros_95d88_1 : decode cJ13_numberOfLeadingZeros_95d88 1 = .ok (.bipush 32, 2) := by decide +kernel
theorem dJ13_numberOfLeadingZeros_95d88_3 : decode cJ13_numberOfLeadingZeros_95d88 3 = .ok (.lushr, 1) := by decide +kernel
theorem dJ13_numberOfLeadingZeros_95d88_4 : decode cJ13_numberOfLeadingZeros_95d88 4 = .ok (.l2i, 1) := by decide +kernel
theorem dJ13_numberOfLeadingZeros_95d88_5 : decode cJ13_numberOfLeadingZeros_95d88 5 = .ok (.istore_n 2, 1) := by decide +kernel
theorem dJ13_numberOfLeadingZeros_95d88_6 : decode cJ13_numberOfLeadingZeros_95d88 6 = .ok (.iload_n 2, 1) := by decide +kernel
theorem dJ13_numberOfLeadingZeros_95d88_7 : decode cJ13_numberOfLeadingZeros_95d88 7 = .ok (.ifCond .ne 14, 3) := by decide +kernel
theorem dJ13_numberOfLeadingZeros_95d88_10 : decode cJ13_numberOfLeadingZeros_95d88 10 = .ok (.bipush 32, 2) := by decide +kernel
theorem dJ13_numberOfLeadingZeros_95d88_12 : decode cJ13_numberOfLeadingZeros_95d88 12 = .ok (.lload_n 0, 1) := by decide +kernel
theorem dJ13_numberOfLeadingZeros_95d88_13 : decode cJ13_numberOfLeadingZeros_95d88 13 = .ok (.l2i, 1) := by decide +kernel
theorem dJ13_numberOfLeadingZeros_95d88_14 : decode cJ13_numberOfLeadingZeros_95d88 14 = .ok (.invokestatic 308, 3) := by decide +kernel
theorem dJ13_numberOfLeadingZeros_95d88_17 : decode cJ13_numberOfLeadingZeros_95d88 17 = .ok (.iadd, 1) := by decide +kernel
theorem dJ13_numberOfLeadingZeros_95d88_18 : decode cJ13_numberOfLeadingZeros_95d88 18 = .ok (.goto 7, 3) := by decide +kernel
theorem dJ13_numberOfLeadingZeros_95d88_21 : decode cJ13_numberOfLeadingZeros_95d88 21 = .ok (.iload_n 2, 1) := by decide +kernel
theorem dJ13_numberOfLeadingZeros_95d88_22 : decode cJ13_numberOfLeadingZeros_95d88 22 = .ok (.invokestatic 308, 3) := by decide +kernel
theorem dJ13_numberOfLeadingZeros_95d88_25 : decode cJ13_numberOfLeadingZeros_95d88 25 = .ok (.ireturn, 1) := by decide +kernel
theorem dJ13_numberOfTrailingZeros_95d88_0 : decode cJ13_numberOfTrailingZeros_95d88 0 = .ok (.lload_n 0, 1) := by decide +kernel
theorem dJ13_numberOfTrailingZeros_95d88_1 : decode cJ13_numberOfTrailingZeros_95d88 1 = .ok (.l2i, 1) := by decide +kernel
theorem dJ13_numberOfTrailingZeros_95d88_2 : decode cJ13_numberOfTrailingZeros_95d88 2 = .ok (.istore_n 2, 1) := by decide +kernel
theorem dJ13_numberOfTrailingZeros_95d88_3 : decode cJ13_numberOfTrailingZeros_95d88 3 = .ok (.iload_n 2, 1) := by decide +kernel
theorem dJ13_numberOfTrailingZeros_95d88_4 : decode cJ13_numberOfTrailingZeros_95d88 4 = .ok (.ifCond .ne 17, 3) := by decide +kernel
theorem dJ13_numberOfTrailingZeros_95d88_7 : decode cJ13_numberOfTrailingZeros_95d88 7 = .ok (.bipush 32, 2) := by decide +kernel
theorem dJ13_numberOfTrailingZeros_95d88_9 : decode cJ13_numberOfTrailingZeros_95d88 9 = .ok (.lload_n 0, 1) := by decide +kernel
theorem dJ13_numberOfTrailingZeros_95d88_10 : decode cJ13_numberOfTrailingZeros_95d88 10 = .ok (.bipush 32, 2) := by decide +kernel
theorem dJ13_numberOfTrailingZeros_95d88_12 : decode cJ13_numberOfTrailingZeros_95d88 12 = .ok (.lushr, 1) := by decide +kernel
theorem dJ13_numberOfTrailingZeros_95d88_13 : decode cJ13_numberOfTrailingZeros_95d88 13 = .ok (.l2i, 1) := by decide +kernel
theorem dJ13_numberOfTrailingZeros_95d88_14 : decode cJ13_numberOfTrailingZeros_95d88 14 = .ok (.invokestatic 311, 3) := by decide +kernel
theorem dJ13_numberOfTrailingZeros_95d88_17 : decode cJ13_numberOfTrailingZeros_95d88 17 = .ok (.iadd, 1) := by decide +kernel
theorem dJ13_numberOfTrailingZeros_95d88_18 : decode cJ13_numberOfTrailingZeros_95d88 18 = .ok (.goto 7, 3) := by decide +kernel
theorem dJ13_numberOfTrailingZeros_95d88_21 : decode cJ13_numberOfTrailingZeros_95d88 21 = .ok (.iload_n 2, 1) := by decide +kernel
theorem dJ13_numberOfTrailingZeros_95d88_22 : decode cJ13_numberOfTrailingZeros_95d88 22 = .ok (.invokestatic 311, 3) := by decide +kernel
theorem dJ13_numberOfTrailingZeros_95d88_25 : decode cJ13_numberOfTrailingZeros_95d88 25 = .ok (.ireturn, 1) := by decide +kernel
theorem dJ13_bitCount_95d88_0 : decode cJ13_bitCount_95d88 0 = .ok (.lload_n 0, 1) := by decide +kernel
theorem dJ13_bitCount_95d88_1 : decode cJ13_bitCount_95d88 1 = .ok (.lload_n 0, 1) := by decide +kernel
theorem dJ13_bitCount_95d88_2 : decode cJ13_bitCount_95d88 2 = .ok (.iconst 1, 1) := by decide +kernel
theorem dJ13_bitCount_95d88_3 : decode cJ13_bitCount_95d88 3 = .ok (.lushr, 1) := by decide +kernel
theorem dJ13_bitCount_95d88_4 : decode cJ13_bitCount_95d88 4 = .ok (.ldc2_w 314, 3) := by decide +kernel
theorem dJ13_bitCount_95d88_7 : decode cJ13_bitCount_95d88 7 = .ok (.land, 1) := by decide +kernel
theorem dJ13_bitCount_95d88_8 : decode cJ13_bitCount_95d88 8 = .ok (.lsub, 1) := by decide +kernel
theorem dJ13_bitCount_95d88_9 : decode cJ13_bitCount_95d88 9 = .ok (.lstore_n 0, 1) := by decide +kernel
theorem dJ13_bitCount_95d88_10 : decode cJ13_bitCount_95d88 10 = .ok (.lload_n 0, 1) := by decide +kernel
theorem dJ13_bitCount_95d88_11 : decode cJ13_bitCount_95d88 11 = .ok (.ldc2_w 316, 3) := by decide +kernel
theorem dJ13_bitCount_95d88_14 : decode cJ13_bitCount_95d88 14 = .ok (.land, 1) := by decide +kernel
theorem dJ13_bitCount_95d88_15 : decode cJ13_bitCount_95d88 15 = .ok (.lload_n 0, 1) := by decide +kernel
theorem dJ13_bitCount_95d88_16 : decode cJ13_bitCount_95d88 16 = .ok (.iconst 2, 1) := by decide +kernel
theorem dJ13_bitCount_95d88_17 : decode cJ13_bitCount_95d88 17 = .ok (.lushr, 1) := by decide +kernel
theorem dJ13_bitCount_95d88_18 : decode cJ13_bitCount_95d88 18 = .ok (.ldc2_w 316, 3) := by decide +kernel
theorem dJ13_bitCount_95d88_21 : decode cJ13_bitCount_95d88 21 = .ok (.land, 1) := by decide +kernel
theorem dJ13_bitCount_95d88_22 : decode cJ13_bitCount_95d88 22 = .ok (.ladd, 1) := by decide +kernel
theorem dJ13_bitCount_95d88_23 : decode cJ13_bitCount_95d88 23 = .ok (.lstore_n 0, 1) := by decide +kernel
theorem dJ13_bitCount_95d88_24 : decode cJ13_bitCount_95d88 24 = .ok (.lload_n 0, 1) := by decide +kernel
theorem dJ13_bitCount_95d88_25 : decode cJ13_bitCount_95d88 25 = .ok (.lload_n 0, 1) := by decide +kernel
theorem dJ13_bitCount_95d88_26 : decode cJ13_bitCount_95d88 26 = .ok (.iconst 4, 1) := by decide +kernel
theorem dJ13_bitCount_95d88_27 : decode cJ13_bitCount_95d88 27 = .ok (.lushr, 1) := by decide +kernel
theorem dJ13_bitCount_95d88_28 : decode cJ13_bitCount_95d88 28 = .ok (.ladd, 1) := by decide +kernel
theorem dJ13_bitCount_95d88_29 : decode cJ13_bitCount_95d88 29 = .ok (.ldc2_w 318, 3) := by decide +kernel
theorem dJ13_bitCount_95d88_32 : decode cJ13_bitCount_95d88 32 = .ok (.land, 1) := by decide +kernel
theorem dJ13_bitCount_95d88_33 : decode cJ13_bitCount_95d88 33 = .ok (.lstore_n 0, 1) := by decide +kernel
theorem dJ13_bitCount_95d88_34 : decode cJ13_bitCount_95d88 34 = .ok (.lload_n 0, 1) := by decide +kernel
theorem dJ13_bitCount_95d88_35 : decode cJ13_bitCount_95d88 35 = .ok (.lload_n 0, 1) := by decide +kernel
theorem dJ13_bitCount_95d88_36 : decode cJ13_bitCount_95d88 36 = .ok (.bipush 8, 2) := by decide +kernel
theorem dJ13_bitCount_95d88_38 : decode cJ13_bitCount_95d88 38 = .ok (.lushr, 1) := by decide +kernel
theorem dJ13_bitCount_95d88_39 : decode cJ13_bitCount_95d88 39 = .ok (.ladd, 1) := by decide +kernel
theorem dJ13_bitCount_95d88_40 : decode cJ13_bitCount_95d88 40 = .ok (.lstore_n 0, 1) := by decide +kernel
theorem dJ13_bitCount_95d88_41 : decode cJ13_bitCount_95d88 41 = .ok (.lload_n 0, 1) := by decide +kernel
theorem dJ13_bitCount_95d88_42 : decode cJ13_bitCount_95d88 42 = .ok (.lload_n 0, 1) := by decide +kernel
theorem dJ13_bitCount_95d88_43 : decode cJ13_bitCount_95d88 43 = .ok (.bipush 16, 2) := by decide +kernel
theorem dJ13_bitCount_95d88_45 : decode cJ13_bitCount_95d88 45 = .ok (.lushr, 1) := by decide +kernel
theorem dJ13_bitCount_95d88_46 : decode cJ13_bitCount_95d88 46 = .ok (.ladd, 1) := by decide +kernel
theorem dJ13_bitCount_95d88_47 : decode cJ13_bitCount_95d88 47 = .ok (.lstore_n 0, 1) := by decide +kernel
theorem dJ13_bitCount_95d88_48 : decode cJ13_bitCount_95d88 48 = .ok (.lload_n 0, 1) := by decide +kernel
theorem dJ13_bitCount_95d88_49 : decode cJ13_bitCount_95d88 49 = .ok (.lload_n 0, 1) := by decide +kernel
theorem dJ13_bitCount_95d88_50 : decode cJ13_bitCount_95d88 50 = .ok (.bipush 32, 2) := by decide +kernel
theorem dJ13_bitCount_95d88_52 : decode cJ13_bitCount_95d88 52 = .ok (.lushr, 1) := by decide +kernel
theorem dJ13_bitCount_95d88_53 : decode cJ13_bitCount_95d88 53 = .ok (.ladd, 1) := by decide +kernel
theorem dJ13_bitCount_95d88_54 : decode cJ13_bitCount_95d88 54 = .ok (.lstore_n 0, 1) := by decide +kernel
theorem dJ13_bitCount_95d88_55 : decode cJ13_bitCount_95d88 55 = .ok (.lload_n 0, 1) := by decide +kernel
theorem dJ13_bitCount_95d88_56 : decode cJ13_bitCount_95d88 56 = .ok (.l2i, 1) := by decide +kernel
theorem dJ13_bitCount_95d88_57 : decode cJ13_bitCount_95d88 57 = .ok (.bipush 127, 2) := by decide +kernel
theorem dJ13_bitCount_95d88_59 : decode cJ13_bitCount_95d88 59 = .ok (.iand, 1) := by decide +kernel
theorem dJ13_bitCount_95d88_60 : decode cJ13_bitCount_95d88 60 = .ok (.ireturn, 1) := by decide +kernel
theorem dJ9_max_7cf53_0 : decode cJ9_max_7cf53 0 = .ok (.iload_n 0, 1) := by decide +kernel
theorem dJ9_max_7cf53_1 : decode cJ9_max_7cf53 1 = .ok (.iload_n 1, 1) := by decide +kernel
theorem dJ9_max_7cf53_2 : decode cJ9_max_7cf53 2 = .ok (.if_icmp .lt 7, 3) := by decide +kernel
theorem dJ9_max_7cf53_5 : decode cJ9_max_7cf53 5 = .ok (.iload_n 0, 1) := by decide +kernel
theorem dJ9_max_7cf53_6 : decode cJ9_max_7cf53 6 = .ok (.goto 4, 3) := by decide +kernel
theorem dJ9_max_7cf53_9 : decode cJ9_max_7cf53 9 = .ok (.iload_n 1, 1) := by decide +kernel
theorem dJ9_max_7cf53_10 : decode cJ9_max_7cf53 10 = .ok (.ireturn, 1) := by decide +kernel
theorem dJ9_min_7cf53_0 : decode cJ9_min_7cf53 0 = .ok (.iload_n 0, 1) := by decide +kernel
theorem dJ9_min_7cf53_1 : decode cJ9_min_7cf53 1 = .ok (.iload_n 1, 1) := by decide +kernel
theorem dJ9_min_7cf53_2 : decode cJ9_min_7cf53 2 = .ok (.if_icmp .gt 7, 3) := by decide +kernel
theorem dJ9_min_7cf53_5 : decode cJ9_min_7cf53 5 = .ok (.iload_n 0, 1) := by decide +kernel
theorem dJ9_min_7cf53_6 : decode cJ9_min_7cf53 6 = .ok (.goto 4, 3) := by decide +kernel
theorem dJ9_min_7cf53_9 : decode cJ9_min_7cf53 9 = .ok (.iload_n 1, 1) := by decide +kernel
theorem dJ9_min_7cf53_10 : decode cJ9_min_7cf53 10 = .ok (.ireturn, 1) := by decide +kernel
theorem dJ7_fill_d0a16_0 : decode cJ7_fill_d0a16 0 = .ok (.iconst 0, 1) := by decide +kernel
theorem dJ7_fill_d0a16_1 : decode cJ7_fill_d0a16 1 = .ok (.istore_n 3, 1) := by decide +kernel
theorem dJ7_fill_d0a16_2 : decode cJ7_fill_d0a16 2 = .ok (.aload_n 0, 1) := by decide +kernel
theorem dJ7_fill_d0a16_3 : decode cJ7_fill_d0a16 3 = .ok (.arraylength, 1) := by decide +kernel
theorem dJ7_fill_d0a16_4 : decode cJ7_fill_d0a16 4 = .ok (.istore 4, 2) := by decide +kernel
theorem dJ7_fill_d0a16_6 : decode cJ7_fill_d0a16 6 = .ok (.iload_n 3, 1) := by decide +kernel
theorem dJ7_fill_d0a16_7 : decode cJ7_fill_d0a16 7 = .ok (.iload 4, 2) := by decide +kernel
theorem dJ7_fill_d0a16_9 : decode cJ7_fill_d0a16 9 = .ok (.if_icmp .ge 13, 3) := by decide +kernel
theorem dJ7_fill_d0a16_12 : decode cJ7_fill_d0a16 12 = .ok (.aload_n 0, 1) := by decide +kernel
theorem dJ7_fill_d0a16_13 : decode cJ7_fill_d0a16 13 = .ok (.iload_n 3, 1) := by decide +kernel
theorem dJ7_fill_d0a16_14 : decode cJ7_fill_d0a16 14 = .ok (.lload_n 1, 1) := by decide +kernel
theorem dJ7_fill_d0a16_15 : decode cJ7_fill_d0a16 15 = .ok (.lastore, 1) := by decide +kernel
theorem dJ7_fill_d0a16_16 : decode cJ7_fill_d0a16 16 = .ok (.iinc 3 1, 3) := by decide +kernel
theorem dJ7_fill_d0a16_19 : decode cJ7_fill_d0a16 19 = .ok (.goto (-13), 3) := by decide +kernel
theorem dJ7_fill_d0a16_22 : decode cJ7_fill_d0a16 22 = .ok (.return_, 1) := by decide +kernel
theorem dJ7_copyOf_59c91_0 : decode cJ7_copyOf_59c91 0 = .ok (.iload_n 1, 1) := by decide +kernel
theorem dJ7_copyOf_59c91_1 : decode cJ7_copyOf_59c91 1 = .ok (.aload_n 0, 1) := by decide +kernel
theorem dJ7_copyOf_59c91_2 : decode cJ7_copyOf_59c91 2 = .ok (.arraylength, 1) := by decide +kernel
theorem dJ7_copyOf_59c91_3 : decode cJ7_copyOf_59c91 3 = .ok (.if_icmp .ne 11, 3) := by decide +kernel
theorem dJ7_copyOf_59c91_6 : decode cJ7_copyOf_59c91 6 = .ok (.aload_n 0, 1) := by decide +kernel
theorem dJ7_copyOf_59c91_7 : decode cJ7_copyOf_59c91 7 = .ok (.invokevirtual 316, 3) := by decide +kernel
theorem dJ7_copyOf_59c91_10 : decode cJ7_copyOf_59c91 10 = .ok (.checkcast 317, 3) := by decide +kernel
theorem dJ7_copyOf_59c91_13 : decode cJ7_copyOf_59c91 13 = .ok (.areturn, 1) := by decide +kernel
theorem dJ7_copyOf_59c91_14 : decode cJ7_copyOf_59c91 14 = .ok (.iload_n 1, 1) := by decide +kernel
theorem dJ7_copyOf_59c91_15 : decode cJ7_copyOf_59c91 15 = .ok (.newarray .int, 2) := by decide +kernel
theorem dJ7_copyOf_59c91_17 : decode cJ7_copyOf_59c91 17 = .ok (.astore_n 2, 1) := by decide +kernel
theorem dJ7_copyOf_59c91_18 : decode cJ7_copyOf_59c91 18 = .ok (.aload_n 0, 1) := by decide +kernel
theorem dJ7_copyOf_59c91_19 : decode cJ7_copyOf_59c91 19 = .ok (.iconst 0, 1) := by decide +kernel
theorem dJ7_copyOf_59c91_20 : decode cJ7_copyOf_59c91 20 = .ok (.aload_n 2, 1) := by decide +kernel
theorem dJ7_copyOf_59c91_21 : decode cJ7_copyOf_59c91 21 = .ok (.iconst 0, 1) := by decide +kernel
theorem dJ7_copyOf_59c91_22 : decode cJ7_copyOf_59c91 22 = .ok (.aload_n 0, 1) := by decide +kernel
theorem dJ7_copyOf_59c91_23 : decode cJ7_copyOf_59c91 23 = .ok (.arraylength, 1) := by decide +kernel
theorem dJ7_copyOf_59c91_24 : decode cJ7_copyOf_59c91 24 = .ok (.iload_n 1, 1) := by decide +kernel
theorem dJ7_copyOf_59c91_25 : decode cJ7_copyOf_59c91 25 = .ok (.invokestatic 304, 3) := by decide +kernel
theorem dJ7_copyOf_59c91_28 : decode cJ7_copyOf_59c91 28 = .ok (.invokestatic 150, 3) := by decide +kernel
theorem dJ7_copyOf_59c91_31 : decode cJ7_copyOf_59c91 31 = .ok (.aload_n 2, 1) := by decide +kernel
theorem dJ7_copyOf_59c91_32 : decode cJ7_copyOf_59c91 32 = .ok (.areturn, 1) := by decide +kernel
theorem dJ7_copyOf_c38d5_0 : decode cJ7_copyOf_c38d5 0 = .ok (.iload_n 1, 1) := by decide +kernel
theorem dJ7_copyOf_c38d5_1 : decode cJ7_copyOf_c38d5 1 = .ok (.aload_n 0, 1) := by decide +kernel
theorem dJ7_copyOf_c38d5_2 : decode cJ7_copyOf_c38d5 2 = .ok (.arraylength, 1) := by decide +kernel
theorem dJ7_copyOf_c38d5_3 : decode cJ7_copyOf_c38d5 3 = .ok (.if_icmp .ne 11, 3) := by decide +kernel
theorem dJ7_copyOf_c38d5_6 : decode cJ7_copyOf_c38d5 6 = .ok (.aload_n 0, 1) := by decide +kernel
theorem dJ7_copyOf_c38d5_7 : decode cJ7_copyOf_c38d5 7 = .ok (.invokevirtual 319, 3) := by decide +kernel
theorem dJ7_copyOf_c38d5_10 : decode cJ7_copyOf_c38d5 10 = .ok (.checkcast 320, 3) := by decide +kernel
theorem dJ7_copyOf_c38d5_13 : decode cJ7_copyOf_c38d5 13 = .ok (.areturn, 1) := by decide +kernel
theorem dJ7_copyOf_c38d5_14 : decode cJ7_copyOf_c38d5 14 = .ok (.iload_n 1, 1) := by decide +kernel
theorem dJ7_copyOf_c38d5_15 : decode cJ7_copyOf_c38d5 15 = .ok (.newarray .long, 2) := by decide +kernel
theorem dJ7_copyOf_c38d5_17 : decode cJ7_copyOf_c38d5 17 = .ok (.astore_n 2, 1) := by decide +kernel
theorem dJ7_copyOf_c38d5_18 : decode cJ7_copyOf_c38d5 18 = .ok (.aload_n 0, 1) := by decide +kernel
theorem dJ7_copyOf_c38d5_19 : decode cJ7_copyOf_c38d5 19 = .ok (.iconst 0, 1) := by decide +kernel
theorem dJ7_copyOf_c38d5_20 : decode cJ7_copyOf_c38d5 20 = .ok (.aload_n 2, 1) := by decide +kernel
theorem dJ7_copyOf_c38d5_21 : decode cJ7_copyOf_c38d5 21 = .ok (.iconst 0, 1) := by decide +kernel
theorem dJ7_copyOf_c38d5_22 : decode cJ7_copyOf_c38d5 22 = .ok (.aload_n 0, 1) := by decide +kernel
theorem dJ7_copyOf_c38d5_23 : decode cJ7_copyOf_c38d5 23 = .ok (.arraylength, 1) := by decide +kernel
theorem dJ7_copyOf_c38d5_24 : decode cJ7_copyOf_c38d5 24 = .ok (.iload_n 1, 1) := by decide +kernel
theorem dJ7_copyOf_c38d5_25 : decode cJ7_copyOf_c38d5 25 = .ok (.invokestatic 304, 3) := by decide +kernel
theorem dJ7_copyOf_c38d5_28 : decode cJ7_copyOf_c38d5 28 = .ok (.invokestatic 150, 3) := by decide +kernel
theorem dJ7_copyOf_c38d5_31 : decode cJ7_copyOf_c38d5 31 = .ok (.aload_n 2, 1) := by decide +kernel
theorem dJ7_copyOf_c38d5_32 : decode cJ7_copyOf_c38d5 32 = .ok (.areturn, 1) := by decide +kernel
theorem dL_feed_0 : decode cL_feed 0 = .ok (.aload 6, 2) := by decide +kernel
theorem dL_feed_2 : decode cL_feed 2 = .ok (.iconst 0, 1) := by decide +kernel
theorem dL_feed_3 : decode cL_feed 3 = .ok (.aload_n 0, 1) := by decide +kernel
theorem dL_feed_4 : decode cL_feed 4 = .ok (.iload_n 1, 1) := by decide +kernel
theorem dL_feed_5 : decode cL_feed 5 = .ok (.iload_n 2, 1) := by decide +kernel
theorem dL_feed_6 : decode cL_feed 6 = .ok (.iload_n 3, 1) := by decide +kernel
theorem dL_feed_7 : decode cL_feed 7 = .ok (.iload 4, 2) := by decide +kernel
theorem dL_feed_9 : decode cL_feed 9 = .ok (.iload 5, 2) := by decide +kernel
theorem dL_feed_11 : decode cL_feed 11 = .ok (.invokevirtual 7, 3) := by decide +kernel
theorem dL_feed_14 : decode cL_feed 14 = .ok (.i2l, 1) := by decide +kernel
theorem dL_feed_15 : decode cL_feed 15 = .ok (.lastore, 1) := by decide +kernel
theorem dL_feed_16 : decode cL_feed 16 = .ok (.goto 7, 3) := by decide +kernel
theorem dL_feed_19 : decode cL_feed 19 = .ok (.astore 7, 2) := by decide +kernel
theorem dL_feed_21 : decode cL_feed 21 = .ok (.iconst 1, 1) := by decide +kernel
theorem dL_feed_22 : decode cL_feed 22 = .ok (.ireturn, 1) := by decide +kernel
theorem dL_feed_23 : decode cL_feed 23 = .ok (.iconst 0, 1) := by decide +kernel
theorem dL_feed_24 : decode cL_feed 24 = .ok (.ireturn, 1) := by decide +kernel
theorem dL_trim_0 : decode cL_trim 0 = .ok (.aload_n 2, 1) := by decide +kernel
theorem dL_trim_1 : decode cL_trim 1 = .ok (.iconst 0, 1) := by decide +kernel
theorem dL_trim_2 : decode cL_trim 2 = .ok (.aload_n 0, 1) := by decide +kernel
theorem dL_trim_3 : decode cL_trim 3 = .ok (.iload_n 1, 1) := by decide +kernel
theorem dL_trim_4 : decode cL_trim 4 = .ok (.invokevirtual 15, 3) := by decide +kernel
theorem dL_trim_7 : decode cL_trim 7 = .ok (.i2l, 1) := by decide +kernel
theorem dL_trim_8 : decode cL_trim 8 = .ok (.lastore, 1) := by decide +kernel
theorem dL_trim_9 : decode cL_trim 9 = .ok (.goto 6, 3) := by decide +kernel
theorem dL_trim_12 : decode cL_trim 12 = .ok (.astore_n 3, 1) := by decide +kernel
theorem dL_trim_13 : decode cL_trim 13 = .ok (.iconst 1, 1) := by decide +kernel
theorem dL_trim_14 : decode cL_trim 14 = .ok (.ireturn, 1) := by decide +kernel
theorem dL_trim_15 : decode cL_trim 15 = .ok (.iconst 0, 1) := by decide +kernel
theorem dL_trim_16 : decode cL_trim 16 = .ok (.ireturn, 1) := by decide +kernel
theorem dL_evaluate_0 : decode cL_evaluate 0 = .ok (.aload_n 1, 1) := by decide +kernel
theorem dL_evaluate_1 : decode cL_evaluate 1 = .ok (.iconst 0, 1) := by decide +kernel
theorem dL_evaluate_2 : decode cL_evaluate 2 = .ok (.aload_n 0, 1) := by decide +kernel
theorem dL_evaluate_3 : decode cL_evaluate 3 = .ok (.invokevirtual 21, 3) := by decide +kernel
theorem dL_evaluate_6 : decode cL_evaluate 6 = .ok (.i2l, 1) := by decide +kernel
theorem dL_evaluate_7 : decode cL_evaluate 7 = .ok (.lastore, 1) := by decide +kernel
theorem dL_evaluate_8 : decode cL_evaluate 8 = .ok (.goto 12, 3) := by decide +kernel
theorem dL_evaluate_11 : decode cL_evaluate 11 = .ok (.astore_n 2, 1) := by decide +kernel
theorem dL_evaluate_12 : decode cL_evaluate 12 = .ok (.iconst 1, 1) := by decide +kernel
theorem dL_evaluate_13 : decode cL_evaluate 13 = .ok (.ireturn, 1) := by decide +kernel
theorem dL_evaluate_14 : decode cL_evaluate 14 = .ok (.astore_n 2, 1) := by decide +kernel
theorem dL_evaluate_15 : decode cL_evaluate 15 = .ok (.iconst 2, 1) := by decide +kernel
theorem dL_evaluate_16 : decode cL_evaluate 16 = .ok (.ireturn, 1) := by decide +kernel
theorem dL_evaluate_17 : decode cL_evaluate 17 = .ok (.astore_n 2, 1) := by decide +kernel
theorem dL_evaluate_18 : decode cL_evaluate 18 = .ok (.iconst 3, 1) := by decide +kernel
theorem dL_evaluate_19 : decode cL_evaluate 19 = .ok (.ireturn, 1) := by decide +kernel
theorem dL_evaluate_20 : decode cL_evaluate 20 = .ok (.iconst 0, 1) := by decide +kernel
theorem dL_evaluate_21 : decode cL_evaluate 21 = .ok (.ireturn, 1) := by decide +kernel
theorem dL_write_0 : decode cL_write 0 = .ok (.aload_n 2, 1) := by decide +kernel
theorem dL_write_1 : decode cL_write 1 = .ok (.iconst 0, 1) := by decide +kernel
theorem dL_write_2 : decode cL_write 2 = .ok (.aload_n 0, 1) := by decide +kernel
theorem dL_write_3 : decode cL_write 3 = .ok (.iload_n 1, 1) := by decide +kernel
theorem dL_write_4 : decode cL_write 4 = .ok (.invokevirtual 27, 3) := by decide +kernel
theorem dL_write_7 : decode cL_write 7 = .ok (.i2l, 1) := by decide +kernel
theorem dL_write_8 : decode cL_write 8 = .ok (.lastore, 1) := by decide +kernel
theorem dL_write_9 : decode cL_write 9 = .ok (.goto 12, 3) := by decide +kernel
theorem dL_write_12 : decode cL_write 12 = .ok (.astore_n 3, 1) := by decide +kernel
theorem dL_write_13 : decode cL_write 13 = .ok (.iconst 1, 1) := by decide +kernel
theorem dL_write_14 : decode cL_write 14 = .ok (.ireturn, 1) := by decide +kernel
theorem dL_write_15 : decode cL_write 15 = .ok (.astore_n 3, 1) := by decide +kernel
theorem dL_write_16 : decode cL_write 16 = .ok (.iconst 2, 1) := by decide +kernel
theorem dL_write_17 : decode cL_write 17 = .ok (.ireturn, 1) := by decide +kernel
theorem dL_write_18 : decode cL_write 18 = .ok (.astore_n 3, 1) := by decide +kernel
theorem dL_write_19 : decode cL_write 19 = .ok (.iconst 3, 1) := by decide +kernel
theorem dL_write_20 : decode cL_write 20 = .ok (.ireturn, 1) := by decide +kernel
theorem dL_write_21 : decode cL_write 21 = .ok (.iconst 0, 1) := by decide +kernel
theorem dL_write_22 : decode cL_write 22 = .ok (.ireturn, 1) := by decide +kernel
theorem dL_outputByte_0 : decode cL_outputByte 0 = .ok (.aload_n 2, 1) := by decide +kernel
theorem dL_outputByte_1 : decode cL_outputByte 1 = .ok (.iconst 0, 1) := by decide +kernel
theorem dL_outputByte_2 : decode cL_outputByte 2 = .ok (.aload_n 0, 1) := by decide +kernel
theorem dL_outputByte_3 : decode cL_outputByte 3 = .ok (.iload_n 1, 1) := by decide +kernel
theorem dL_outputByte_4 : decode cL_outputByte 4 = .ok (.invokevirtual 34, 3) := by decide +kernel
theorem dL_outputByte_7 : decode cL_outputByte 7 = .ok (.i2l, 1) := by decide +kernel
theorem dL_outputByte_8 : decode cL_outputByte 8 = .ok (.lastore, 1) := by decide +kernel
theorem dL_outputByte_9 : decode cL_outputByte 9 = .ok (.goto 6, 3) := by decide +kernel
theorem dL_outputByte_12 : decode cL_outputByte 12 = .ok (.astore_n 3, 1) := by decide +kernel
theorem dL_outputByte_13 : decode cL_outputByte 13 = .ok (.iconst 1, 1) := by decide +kernel
theorem dL_outputByte_14 : decode cL_outputByte 14 = .ok (.ireturn, 1) := by decide +kernel
theorem dL_outputByte_15 : decode cL_outputByte 15 = .ok (.iconst 0, 1) := by decide +kernel
theorem dL_outputByte_16 : decode cL_outputByte 16 = .ok (.ireturn, 1) := by decide +kernel
theorem dL_single_0 : decode cL_single 0 = .ok (.aload_n 2, 1) := by decide +kernel
theorem dL_single_1 : decode cL_single 1 = .ok (.iconst 0, 1) := by decide +kernel
theorem dL_single_2 : decode cL_single 2 = .ok (.aload_n 0, 1) := by decide +kernel
theorem dL_single_3 : decode cL_single 3 = .ok (.iload_n 1, 1) := by decide +kernel
theorem dL_single_4 : decode cL_single 4 = .ok (.invokevirtual 37, 3) := by decide +kernel
theorem dL_single_7 : decode cL_single 7 = .ok (.i2l, 1) := by decide +kernel
theorem dL_single_8 : decode cL_single 8 = .ok (.lastore, 1) := by decide +kernel
theorem dL_single_9 : decode cL_single 9 = .ok (.goto 9, 3) := by decide +kernel
theorem dL_single_12 : decode cL_single 12 = .ok (.astore_n 3, 1) := by decide +kernel
theorem dL_single_13 : decode cL_single 13 = .ok (.iconst 1, 1) := by decide +kernel
theorem dL_single_14 : decode cL_single 14 = .ok (.ireturn, 1) := by decide +kernel
theorem dL_single_15 : decode cL_single 15 = .ok (.astore_n 3, 1) := by decide +kernel
theorem dL_single_16 : decode cL_single 16 = .ok (.iconst 2, 1) := by decide +kernel
theorem dL_single_17 : decode cL_single 17 = .ok (.ireturn, 1) := by decide +kernel
theorem dL_single_18 : decode cL_single 18 = .ok (.iconst 0, 1) := by decide +kernel
theorem dL_single_19 : decode cL_single 19 = .ok (.ireturn, 1) := by decide +kernel
theorem dL_subsetsOf_0 : decode cL_subsetsOf 0 = .ok (.aload_n 3, 1) := by decide +kernel
theorem dL_subsetsOf_1 : decode cL_subsetsOf 1 = .ok (.iconst 0, 1) := by decide +kernel
theorem dL_subsetsOf_2 : decode cL_subsetsOf 2 = .ok (.aload_n 0, 1) := by decide +kernel
theorem dL_subsetsOf_3 : decode cL_subsetsOf 3 = .ok (.iload_n 1, 1) := by decide +kernel
theorem dL_subsetsOf_4 : decode cL_subsetsOf 4 = .ok (.iload_n 2, 1) := by decide +kernel
theorem dL_subsetsOf_5 : decode cL_subsetsOf 5 = .ok (.invokevirtual 40, 3) := by decide +kernel
theorem dL_subsetsOf_8 : decode cL_subsetsOf 8 = .ok (.i2l, 1) := by decide +kernel
theorem dL_subsetsOf_9 : decode cL_subsetsOf 9 = .ok (.lastore, 1) := by decide +kernel
theorem dL_subsetsOf_10 : decode cL_subsetsOf 10 = .ok (.goto 11, 3) := by decide +kernel
theorem dL_subsetsOf_13 : decode cL_subsetsOf 13 = .ok (.astore 4, 2) := by decide +kernel
theorem dL_subsetsOf_15 : decode cL_subsetsOf 15 = .ok (.iconst 1, 1) := by decide +kernel
theorem dL_subsetsOf_16 : decode cL_subsetsOf 16 = .ok (.ireturn, 1) := by decide +kernel
theorem dL_subsetsOf_17 : decode cL_subsetsOf 17 = .ok (.astore 4, 2) := by decide +kernel
theorem dL_subsetsOf_19 : decode cL_subsetsOf 19 = .ok (.iconst 2, 1) := by decide +kernel
theorem dL_subsetsOf_20 : decode cL_subsetsOf 20 = .ok (.ireturn, 1) := by decide +kernel
theorem dL_subsetsOf_21 : decode cL_subsetsOf 21 = .ok (.iconst 0, 1) := by decide +kernel
theorem dL_subsetsOf_22 : decode cL_subsetsOf 22 = .ok (.ireturn, 1) := by decide +kernel
theorem dL_release_0 : decode cL_release 0 = .ok (.aload_n 2, 1) := by decide +kernel
theorem dL_release_1 : decode cL_release 1 = .ok (.iconst 0, 1) := by decide +kernel
theorem dL_release_2 : decode cL_release 2 = .ok (.aload_n 0, 1) := by decide +kernel
theorem dL_release_3 : decode cL_release 3 = .ok (.iload_n 1, 1) := by decide +kernel
theorem dL_release_4 : decode cL_release 4 = .ok (.invokevirtual 44, 3) := by decide +kernel
theorem dL_release_7 : decode cL_release 7 = .ok (.i2l, 1) := by decide +kernel
theorem dL_release_8 : decode cL_release 8 = .ok (.lastore, 1) := by decide +kernel
theorem dL_release_9 : decode cL_release 9 = .ok (.goto 9, 3) := by decide +kernel
theorem dL_release_12 : decode cL_release 12 = .ok (.astore_n 3, 1) := by decide +kernel
theorem dL_release_13 : decode cL_release 13 = .ok (.iconst 1, 1) := by decide +kernel
theorem dL_release_14 : decode cL_release 14 = .ok (.ireturn, 1) := by decide +kernel
theorem dL_release_15 : decode cL_release 15 = .ok (.astore_n 3, 1) := by decide +kernel
theorem dL_release_16 : decode cL_release 16 = .ok (.iconst 2, 1) := by decide +kernel
theorem dL_release_17 : decode cL_release 17 = .ok (.ireturn, 1) := by decide +kernel
theorem dL_release_18 : decode cL_release 18 = .ok (.iconst 0, 1) := by decide +kernel
theorem dL_release_19 : decode cL_release 19 = .ok (.ireturn, 1) := by decide +kernel
theorem dL_nodesOf_0 : decode cL_nodesOf 0 = .ok (.aload_n 2, 1) := by decide +kernel
theorem dL_nodesOf_1 : decode cL_nodesOf 1 = .ok (.iconst 0, 1) := by decide +kernel
theorem dL_nodesOf_2 : decode cL_nodesOf 2 = .ok (.aload_n 0, 1) := by decide +kernel
theorem dL_nodesOf_3 : decode cL_nodesOf 3 = .ok (.iload_n 1, 1) := by decide +kernel
theorem dL_nodesOf_4 : decode cL_nodesOf 4 = .ok (.invokevirtual 47, 3) := by decide +kernel
theorem dL_nodesOf_7 : decode cL_nodesOf 7 = .ok (.i2l, 1) := by decide +kernel
theorem dL_nodesOf_8 : decode cL_nodesOf 8 = .ok (.lastore, 1) := by decide +kernel
theorem dL_nodesOf_9 : decode cL_nodesOf 9 = .ok (.goto 9, 3) := by decide +kernel
theorem dL_nodesOf_12 : decode cL_nodesOf 12 = .ok (.astore_n 3, 1) := by decide +kernel
theorem dL_nodesOf_13 : decode cL_nodesOf 13 = .ok (.iconst 1, 1) := by decide +kernel
theorem dL_nodesOf_14 : decode cL_nodesOf 14 = .ok (.ireturn, 1) := by decide +kernel
theorem dL_nodesOf_15 : decode cL_nodesOf 15 = .ok (.astore_n 3, 1) := by decide +kernel
theorem dL_nodesOf_16 : decode cL_nodesOf 16 = .ok (.iconst 2, 1) := by decide +kernel
theorem dL_nodesOf_17 : decode cL_nodesOf 17 = .ok (.ireturn, 1) := by decide +kernel
theorem dL_nodesOf_18 : decode cL_nodesOf 18 = .ok (.iconst 0, 1) := by decide +kernel
theorem dL_nodesOf_19 : decode cL_nodesOf 19 = .ok (.ireturn, 1) := by decide +kernel
theorem dL_union_0 : decode cL_union 0 = .ok (.aload_n 3, 1) := by decide +kernel
theorem dL_union_1 : decode cL_union 1 = .ok (.iconst 0, 1) := by decide +kernel
theorem dL_union_2 : decode cL_union 2 = .ok (.aload_n 0, 1) := by decide +kernel
theorem dL_union_3 : decode cL_union 3 = .ok (.iload_n 1, 1) := by decide +kernel
theorem dL_union_4 : decode cL_union 4 = .ok (.iload_n 2, 1) := by decide +kernel
theorem dL_union_5 : decode cL_union 5 = .ok (.invokevirtual 50, 3) := by decide +kernel
theorem dL_union_8 : decode cL_union 8 = .ok (.i2l, 1) := by decide +kernel
theorem dL_union_9 : decode cL_union 9 = .ok (.lastore, 1) := by decide +kernel
theorem dL_union_10 : decode cL_union 10 = .ok (.goto 15, 3) := by decide +kernel
theorem dL_union_13 : decode cL_union 13 = .ok (.astore 4, 2) := by decide +kernel
theorem dL_union_15 : decode cL_union 15 = .ok (.iconst 1, 1) := by decide +kernel
theorem dL_union_16 : decode cL_union 16 = .ok (.ireturn, 1) := by decide +kernel
theorem dL_union_17 : decode cL_union 17 = .ok (.astore 4, 2) := by decide +kernel
theorem dL_union_19 : decode cL_union 19 = .ok (.iconst 2, 1) := by decide +kernel
theorem dL_union_20 : decode cL_union 20 = .ok (.ireturn, 1) := by decide +kernel
theorem dL_union_21 : decode cL_union 21 = .ok (.astore 4, 2) := by decide +kernel
theorem dL_union_23 : decode cL_union 23 = .ok (.iconst 3, 1) := by decide +kernel
theorem dL_union_24 : decode cL_union 24 = .ok (.ireturn, 1) := by decide +kernel
theorem dL_union_25 : decode cL_union 25 = .ok (.iconst 0, 1) := by decide +kernel
theorem dL_union_26 : decode cL_union 26 = .ok (.ireturn, 1) := by decide +kernel
theorem dL_intersection_0 : decode cL_intersection 0 = .ok (.aload_n 3, 1) := by decide +kernel
theorem dL_intersection_1 : decode cL_intersection 1 = .ok (.iconst 0, 1) := by decide +kernel
theorem dL_intersection_2 : decode cL_intersection 2 = .ok (.aload_n 0, 1) := by decide +kernel
theorem dL_intersection_3 : decode cL_intersection 3 = .ok (.iload_n 1, 1) := by decide +kernel
theorem dL_intersection_4 : decode cL_intersection 4 = .ok (.iload_n 2, 1) := by decide +kernel
theorem dL_intersection_5 : decode cL_intersection 5 = .ok (.invokevirtual 53, 3) := by decide +kernel
theorem dL_intersection_8 : decode cL_intersection 8 = .ok (.i2l, 1) := by decide +kernel
theorem dL_intersection_9 : decode cL_intersection 9 = .ok (.lastore, 1) := by decide +kernel
theorem dL_intersection_10 : decode cL_intersection 10 = .ok (.goto 15, 3) := by decide +kernel
theorem dL_intersection_13 : decode cL_intersection 13 = .ok (.astore 4, 2) := by decide +kernel
theorem dL_intersection_15 : decode cL_intersection 15 = .ok (.iconst 1, 1) := by decide +kernel
theorem dL_intersection_16 : decode cL_intersection 16 = .ok (.ireturn, 1) := by decide +kernel
theorem dL_intersection_17 : decode cL_intersection 17 = .ok (.astore 4, 2) := by decide +kernel
theorem dL_intersection_19 : decode cL_intersection 19 = .ok (.iconst 2, 1) := by decide +kernel
theorem dL_intersection_20 : decode cL_intersection 20 = .ok (.ireturn, 1) := by decide +kernel
theorem dL_intersection_21 : decode cL_intersection 21 = .ok (.astore 4, 2) := by decide +kernel
theorem dL_intersection_23 : decode cL_intersection 23 = .ok (.iconst 3, 1) := by decide +kernel
theorem dL_intersection_24 : decode cL_intersection 24 = .ok (.ireturn, 1) := by decide +kernel
theorem dL_intersection_25 : decode cL_intersection 25 = .ok (.iconst 0, 1) := by decide +kernel
theorem dL_intersection_26 : decode cL_intersection 26 = .ok (.ireturn, 1) := by decide +kernel
theorem dL_difference_0 : decode cL_difference 0 = .ok (.aload_n 3, 1) := by decide +kernel
theorem dL_difference_1 : decode cL_difference 1 = .ok (.iconst 0, 1) := by decide +kernel
theorem dL_difference_2 : decode cL_difference 2 = .ok (.aload_n 0, 1) := by decide +kernel
theorem dL_difference_3 : decode cL_difference 3 = .ok (.iload_n 1, 1) := by decide +kernel
theorem dL_difference_4 : decode cL_difference 4 = .ok (.iload_n 2, 1) := by decide +kernel
theorem dL_difference_5 : decode cL_difference 5 = .ok (.invokevirtual 56, 3) := by decide +kernel
theorem dL_difference_8 : decode cL_difference 8 = .ok (.i2l, 1) := by decide +kernel
theorem dL_difference_9 : decode cL_difference 9 = .ok (.lastore, 1) := by decide +kernel
theorem dL_difference_10 : decode cL_difference 10 = .ok (.goto 15, 3) := by decide +kernel
theorem dL_difference_13 : decode cL_difference 13 = .ok (.astore 4, 2) := by decide +kernel
theorem dL_difference_15 : decode cL_difference 15 = .ok (.iconst 1, 1) := by decide +kernel
theorem dL_difference_16 : decode cL_difference 16 = .ok (.ireturn, 1) := by decide +kernel
theorem dL_difference_17 : decode cL_difference 17 = .ok (.astore 4, 2) := by decide +kernel
theorem dL_difference_19 : decode cL_difference 19 = .ok (.iconst 2, 1) := by decide +kernel
theorem dL_difference_20 : decode cL_difference 20 = .ok (.ireturn, 1) := by decide +kernel
theorem dL_difference_21 : decode cL_difference 21 = .ok (.astore 4, 2) := by decide +kernel
theorem dL_difference_23 : decode cL_difference 23 = .ok (.iconst 3, 1) := by decide +kernel
theorem dL_difference_24 : decode cL_difference 24 = .ok (.ireturn, 1) := by decide +kernel
theorem dL_difference_25 : decode cL_difference 25 = .ok (.iconst 0, 1) := by decide +kernel
theorem dL_difference_26 : decode cL_difference 26 = .ok (.ireturn, 1) := by decide +kernel
theorem dL_join_0 : decode cL_join 0 = .ok (.aload_n 3, 1) := by decide +kernel
theorem dL_join_1 : decode cL_join 1 = .ok (.iconst 0, 1) := by decide +kernel
theorem dL_join_2 : decode cL_join 2 = .ok (.aload_n 0, 1) := by decide +kernel
theorem dL_join_3 : decode cL_join 3 = .ok (.iload_n 1, 1) := by decide +kernel
theorem dL_join_4 : decode cL_join 4 = .ok (.iload_n 2, 1) := by decide +kernel
theorem dL_join_5 : decode cL_join 5 = .ok (.invokevirtual 59, 3) := by decide +kernel
theorem dL_join_8 : decode cL_join 8 = .ok (.i2l, 1) := by decide +kernel
theorem dL_join_9 : decode cL_join 9 = .ok (.lastore, 1) := by decide +kernel
theorem dL_join_10 : decode cL_join 10 = .ok (.goto 15, 3) := by decide +kernel
theorem dL_join_13 : decode cL_join 13 = .ok (.astore 4, 2) := by decide +kernel
theorem dL_join_15 : decode cL_join 15 = .ok (.iconst 1, 1) := by decide +kernel
theorem dL_join_16 : decode cL_join 16 = .ok (.ireturn, 1) := by decide +kernel
theorem dL_join_17 : decode cL_join 17 = .ok (.astore 4, 2) := by decide +kernel
theorem dL_join_19 : decode cL_join 19 = .ok (.iconst 2, 1) := by decide +kernel
theorem dL_join_20 : decode cL_join 20 = .ok (.ireturn, 1) := by decide +kernel
theorem dL_join_21 : decode cL_join 21 = .ok (.astore 4, 2) := by decide +kernel
theorem dL_join_23 : decode cL_join 23 = .ok (.iconst 3, 1) := by decide +kernel
theorem dL_join_24 : decode cL_join 24 = .ok (.ireturn, 1) := by decide +kernel
theorem dL_join_25 : decode cL_join 25 = .ok (.iconst 0, 1) := by decide +kernel
theorem dL_join_26 : decode cL_join 26 = .ok (.ireturn, 1) := by decide +kernel
theorem dL_meet_0 : decode cL_meet 0 = .ok (.aload_n 3, 1) := by decide +kernel
theorem dL_meet_1 : decode cL_meet 1 = .ok (.iconst 0, 1) := by decide +kernel
theorem dL_meet_2 : decode cL_meet 2 = .ok (.aload_n 0, 1) := by decide +kernel
theorem dL_meet_3 : decode cL_meet 3 = .ok (.iload_n 1, 1) := by decide +kernel
theorem dL_meet_4 : decode cL_meet 4 = .ok (.iload_n 2, 1) := by decide +kernel
theorem dL_meet_5 : decode cL_meet 5 = .ok (.invokevirtual 62, 3) := by decide +kernel
theorem dL_meet_8 : decode cL_meet 8 = .ok (.i2l, 1) := by decide +kernel
theorem dL_meet_9 : decode cL_meet 9 = .ok (.lastore, 1) := by decide +kernel
theorem dL_meet_10 : decode cL_meet 10 = .ok (.goto 15, 3) := by decide +kernel
theorem dL_meet_13 : decode cL_meet 13 = .ok (.astore 4, 2) := by decide +kernel
theorem dL_meet_15 : decode cL_meet 15 = .ok (.iconst 1, 1) := by decide +kernel
theorem dL_meet_16 : decode cL_meet 16 = .ok (.ireturn, 1) := by decide +kernel
theorem dL_meet_17 : decode cL_meet 17 = .ok (.astore 4, 2) := by decide +kernel
theorem dL_meet_19 : decode cL_meet 19 = .ok (.iconst 2, 1) := by decide +kernel
theorem dL_meet_20 : decode cL_meet 20 = .ok (.ireturn, 1) := by decide +kernel
theorem dL_meet_21 : decode cL_meet 21 = .ok (.astore 4, 2) := by decide +kernel
theorem dL_meet_23 : decode cL_meet 23 = .ok (.iconst 3, 1) := by decide +kernel
theorem dL_meet_24 : decode cL_meet 24 = .ok (.ireturn, 1) := by decide +kernel
theorem dL_meet_25 : decode cL_meet 25 = .ok (.iconst 0, 1) := by decide +kernel
theorem dL_meet_26 : decode cL_meet 26 = .ok (.ireturn, 1) := by decide +kernel
theorem dL_quotient_0 : decode cL_quotient 0 = .ok (.aload_n 3, 1) := by decide +kernel
theorem dL_quotient_1 : decode cL_quotient 1 = .ok (.iconst 0, 1) := by decide +kernel
theorem dL_quotient_2 : decode cL_quotient 2 = .ok (.aload_n 0, 1) := by decide +kernel
theorem dL_quotient_3 : decode cL_quotient 3 = .ok (.iload_n 1, 1) := by decide +kernel
theorem dL_quotient_4 : decode cL_quotient 4 = .ok (.iload_n 2, 1) := by decide +kernel
theorem dL_quotient_5 : decode cL_quotient 5 = .ok (.invokevirtual 65, 3) := by decide +kernel
theorem dL_quotient_8 : decode cL_quotient 8 = .ok (.i2l, 1) := by decide +kernel
theorem dL_quotient_9 : decode cL_quotient 9 = .ok (.lastore, 1) := by decide +kernel
theorem dL_quotient_10 : decode cL_quotient 10 = .ok (.goto 19, 3) := by decide +kernel
theorem dL_quotient_13 : decode cL_quotient 13 = .ok (.astore 4, 2) := by decide +kernel
theorem dL_quotient_15 : decode cL_quotient 15 = .ok (.iconst 1, 1) := by decide +kernel
theorem dL_quotient_16 : decode cL_quotient 16 = .ok (.ireturn, 1) := by decide +kernel
theorem dL_quotient_17 : decode cL_quotient 17 = .ok (.astore 4, 2) := by decide +kernel
theorem dL_quotient_19 : decode cL_quotient 19 = .ok (.iconst 2, 1) := by decide +kernel
theorem dL_quotient_20 : decode cL_quotient 20 = .ok (.ireturn, 1) := by decide +kernel
theorem dL_quotient_21 : decode cL_quotient 21 = .ok (.astore 4, 2) := by decide +kernel
theorem dL_quotient_23 : decode cL_quotient 23 = .ok (.iconst 3, 1) := by decide +kernel
theorem dL_quotient_24 : decode cL_quotient 24 = .ok (.ireturn, 1) := by decide +kernel
theorem dL_quotient_25 : decode cL_quotient 25 = .ok (.astore 4, 2) := by decide +kernel
theorem dL_quotient_27 : decode cL_quotient 27 = .ok (.iconst 4, 1) := by decide +kernel
theorem dL_quotient_28 : decode cL_quotient 28 = .ok (.ireturn, 1) := by decide +kernel
theorem dL_quotient_29 : decode cL_quotient 29 = .ok (.iconst 0, 1) := by decide +kernel
theorem dL_quotient_30 : decode cL_quotient 30 = .ok (.ireturn, 1) := by decide +kernel
theorem dL_remainder_0 : decode cL_remainder 0 = .ok (.aload_n 3, 1) := by decide +kernel
theorem dL_remainder_1 : decode cL_remainder 1 = .ok (.iconst 0, 1) := by decide +kernel
theorem dL_remainder_2 : decode cL_remainder 2 = .ok (.aload_n 0, 1) := by decide +kernel
theorem dL_remainder_3 : decode cL_remainder 3 = .ok (.iload_n 1, 1) := by decide +kernel
theorem dL_remainder_4 : decode cL_remainder 4 = .ok (.iload_n 2, 1) := by decide +kernel
theorem dL_remainder_5 : decode cL_remainder 5 = .ok (.invokevirtual 68, 3) := by decide +kernel
theorem dL_remainder_8 : decode cL_remainder 8 = .ok (.i2l, 1) := by decide +kernel
theorem dL_remainder_9 : decode cL_remainder 9 = .ok (.lastore, 1) := by decide +kernel
theorem dL_remainder_10 : decode cL_remainder 10 = .ok (.goto 19, 3) := by decide +kernel
theorem dL_remainder_13 : decode cL_remainder 13 = .ok (.astore 4, 2) := by decide +kernel
theorem dL_remainder_15 : decode cL_remainder 15 = .ok (.iconst 1, 1) := by decide +kernel
theorem dL_remainder_16 : decode cL_remainder 16 = .ok (.ireturn, 1) := by decide +kernel
theorem dL_remainder_17 : decode cL_remainder 17 = .ok (.astore 4, 2) := by decide +kernel
theorem dL_remainder_19 : decode cL_remainder 19 = .ok (.iconst 2, 1) := by decide +kernel
theorem dL_remainder_20 : decode cL_remainder 20 = .ok (.ireturn, 1) := by decide +kernel
theorem dL_remainder_21 : decode cL_remainder 21 = .ok (.astore 4, 2) := by decide +kernel
theorem dL_remainder_23 : decode cL_remainder 23 = .ok (.iconst 3, 1) := by decide +kernel
theorem dL_remainder_24 : decode cL_remainder 24 = .ok (.ireturn, 1) := by decide +kernel
theorem dL_remainder_25 : decode cL_remainder 25 = .ok (.astore 4, 2) := by decide +kernel
theorem dL_remainder_27 : decode cL_remainder 27 = .ok (.iconst 4, 1) := by decide +kernel
theorem dL_remainder_28 : decode cL_remainder 28 = .ok (.ireturn, 1) := by decide +kernel
theorem dL_remainder_29 : decode cL_remainder 29 = .ok (.iconst 0, 1) := by decide +kernel
theorem dL_remainder_30 : decode cL_remainder 30 = .ok (.ireturn, 1) := by decide +kernel
theorem dL_supersets_0 : decode cL_supersets 0 = .ok (.aload_n 3, 1) := by decide +kernel
theorem dL_supersets_1 : decode cL_supersets 1 = .ok (.iconst 0, 1) := by decide +kernel
theorem dL_supersets_2 : decode cL_supersets 2 = .ok (.aload_n 0, 1) := by decide +kernel
theorem dL_supersets_3 : decode cL_supersets 3 = .ok (.iload_n 1, 1) := by decide +kernel
theorem dL_supersets_4 : decode cL_supersets 4 = .ok (.iload_n 2, 1) := by decide +kernel
theorem dL_supersets_5 : decode cL_supersets 5 = .ok (.invokevirtual 71, 3) := by decide +kernel
theorem dL_supersets_8 : decode cL_supersets 8 = .ok (.i2l, 1) := by decide +kernel
theorem dL_supersets_9 : decode cL_supersets 9 = .ok (.lastore, 1) := by decide +kernel
theorem dL_supersets_10 : decode cL_supersets 10 = .ok (.goto 15, 3) := by decide +kernel
theorem dL_supersets_13 : decode cL_supersets 13 = .ok (.astore 4, 2) := by decide +kernel
theorem dL_supersets_15 : decode cL_supersets 15 = .ok (.iconst 1, 1) := by decide +kernel
theorem dL_supersets_16 : decode cL_supersets 16 = .ok (.ireturn, 1) := by decide +kernel
theorem dL_supersets_17 : decode cL_supersets 17 = .ok (.astore 4, 2) := by decide +kernel
theorem dL_supersets_19 : decode cL_supersets 19 = .ok (.iconst 2, 1) := by decide +kernel
theorem dL_supersets_20 : decode cL_supersets 20 = .ok (.ireturn, 1) := by decide +kernel
theorem dL_supersets_21 : decode cL_supersets 21 = .ok (.astore 4, 2) := by decide +kernel
theorem dL_supersets_23 : decode cL_supersets 23 = .ok (.iconst 3, 1) := by decide +kernel
theorem dL_supersets_24 : decode cL_supersets 24 = .ok (.ireturn, 1) := by decide +kernel
theorem dL_supersets_25 : decode cL_supersets 25 = .ok (.iconst 0, 1) := by decide +kernel
theorem dL_supersets_26 : decode cL_supersets 26 = .ok (.ireturn, 1) := by decide +kernel
theorem dL_subsets_0 : decode cL_subsets 0 = .ok (.aload_n 3, 1) := by decide +kernel
theorem dL_subsets_1 : decode cL_subsets 1 = .ok (.iconst 0, 1) := by decide +kernel
theorem dL_subsets_2 : decode cL_subsets 2 = .ok (.aload_n 0, 1) := by decide +kernel
theorem dL_subsets_3 : decode cL_subsets 3 = .ok (.iload_n 1, 1) := by decide +kernel
theorem dL_subsets_4 : decode cL_subsets 4 = .ok (.iload_n 2, 1) := by decide +kernel
theorem dL_subsets_5 : decode cL_subsets 5 = .ok (.invokevirtual 74, 3) := by decide +kernel
theorem dL_subsets_8 : decode cL_subsets 8 = .ok (.i2l, 1) := by decide +kernel
theorem dL_subsets_9 : decode cL_subsets 9 = .ok (.lastore, 1) := by decide +kernel
theorem dL_subsets_10 : decode cL_subsets 10 = .ok (.goto 15, 3) := by decide +kernel
theorem dL_subsets_13 : decode cL_subsets 13 = .ok (.astore 4, 2) := by decide +kernel
theorem dL_subsets_15 : decode cL_subsets 15 = .ok (.iconst 1, 1) := by decide +kernel
theorem dL_subsets_16 : decode cL_subsets 16 = .ok (.ireturn, 1) := by decide +kernel
theorem dL_subsets_17 : decode cL_subsets 17 = .ok (.astore 4, 2) := by decide +kernel
theorem dL_subsets_19 : decode cL_subsets 19 = .ok (.iconst 2, 1) := by decide +kernel
theorem dL_subsets_20 : decode cL_subsets 20 = .ok (.ireturn, 1) := by decide +kernel
theorem dL_subsets_21 : decode cL_subsets 21 = .ok (.astore 4, 2) := by decide +kernel
theorem dL_subsets_23 : decode cL_subsets 23 = .ok (.iconst 3, 1) := by decide +kernel
theorem dL_subsets_24 : decode cL_subsets 24 = .ok (.ireturn, 1) := by decide +kernel
theorem dL_subsets_25 : decode cL_subsets 25 = .ok (.iconst 0, 1) := by decide +kernel
theorem dL_subsets_26 : decode cL_subsets 26 = .ok (.ireturn, 1) := by decide +kernel
theorem dL_maximal_0 : decode cL_maximal 0 = .ok (.aload_n 2, 1) := by decide +kernel
theorem dL_maximal_1 : decode cL_maximal 1 = .ok (.iconst 0, 1) := by decide +kernel
theorem dL_maximal_2 : decode cL_maximal 2 = .ok (.aload_n 0, 1) := by decide +kernel
theorem dL_maximal_3 : decode cL_maximal 3 = .ok (.iload_n 1, 1) := by decide +kernel
theorem dL_maximal_4 : decode cL_maximal 4 = .ok (.invokevirtual 77, 3) := by decide +kernel
theorem dL_maximal_7 : decode cL_maximal 7 = .ok (.i2l, 1) := by decide +kernel
theorem dL_maximal_8 : decode cL_maximal 8 = .ok (.lastore, 1) := by decide +kernel
theorem dL_maximal_9 : decode cL_maximal 9 = .ok (.goto 12, 3) := by decide +kernel
theorem dL_maximal_12 : decode cL_maximal 12 = .ok (.astore_n 3, 1) := by decide +kernel
theorem dL_maximal_13 : decode cL_maximal 13 = .ok (.iconst 1, 1) := by decide +kernel
theorem dL_maximal_14 : decode cL_maximal 14 = .ok (.ireturn, 1) := by decide +kernel
theorem dL_maximal_15 : decode cL_maximal 15 = .ok (.astore_n 3, 1) := by decide +kernel
theorem dL_maximal_16 : decode cL_maximal 16 = .ok (.iconst 2, 1) := by decide +kernel
theorem dL_maximal_17 : decode cL_maximal 17 = .ok (.ireturn, 1) := by decide +kernel
theorem dL_maximal_18 : decode cL_maximal 18 = .ok (.astore_n 3, 1) := by decide +kernel
theorem dL_maximal_19 : decode cL_maximal 19 = .ok (.iconst 3, 1) := by decide +kernel
theorem dL_maximal_20 : decode cL_maximal 20 = .ok (.ireturn, 1) := by decide +kernel
theorem dL_maximal_21 : decode cL_maximal 21 = .ok (.iconst 0, 1) := by decide +kernel
theorem dL_maximal_22 : decode cL_maximal 22 = .ok (.ireturn, 1) := by decide +kernel
theorem dL_minimal_0 : decode cL_minimal 0 = .ok (.aload_n 2, 1) := by decide +kernel
theorem dL_minimal_1 : decode cL_minimal 1 = .ok (.iconst 0, 1) := by decide +kernel
theorem dL_minimal_2 : decode cL_minimal 2 = .ok (.aload_n 0, 1) := by decide +kernel
theorem dL_minimal_3 : decode cL_minimal 3 = .ok (.iload_n 1, 1) := by decide +kernel
theorem dL_minimal_4 : decode cL_minimal 4 = .ok (.invokevirtual 80, 3) := by decide +kernel
theorem dL_minimal_7 : decode cL_minimal 7 = .ok (.i2l, 1) := by decide +kernel
theorem dL_minimal_8 : decode cL_minimal 8 = .ok (.lastore, 1) := by decide +kernel
theorem dL_minimal_9 : decode cL_minimal 9 = .ok (.goto 12, 3) := by decide +kernel
theorem dL_minimal_12 : decode cL_minimal 12 = .ok (.astore_n 3, 1) := by decide +kernel
theorem dL_minimal_13 : decode cL_minimal 13 = .ok (.iconst 1, 1) := by decide +kernel
theorem dL_minimal_14 : decode cL_minimal 14 = .ok (.ireturn, 1) := by decide +kernel
theorem dL_minimal_15 : decode cL_minimal 15 = .ok (.astore_n 3, 1) := by decide +kernel
theorem dL_minimal_16 : decode cL_minimal 16 = .ok (.iconst 2, 1) := by decide +kernel
theorem dL_minimal_17 : decode cL_minimal 17 = .ok (.ireturn, 1) := by decide +kernel
theorem dL_minimal_18 : decode cL_minimal 18 = .ok (.astore_n 3, 1) := by decide +kernel
theorem dL_minimal_19 : decode cL_minimal 19 = .ok (.iconst 3, 1) := by decide +kernel
theorem dL_minimal_20 : decode cL_minimal 20 = .ok (.ireturn, 1) := by decide +kernel
theorem dL_minimal_21 : decode cL_minimal 21 = .ok (.iconst 0, 1) := by decide +kernel
theorem dL_minimal_22 : decode cL_minimal 22 = .ok (.ireturn, 1) := by decide +kernel
theorem dL_hitting_0 : decode cL_hitting 0 = .ok (.aload_n 2, 1) := by decide +kernel
theorem dL_hitting_1 : decode cL_hitting 1 = .ok (.iconst 0, 1) := by decide +kernel
theorem dL_hitting_2 : decode cL_hitting 2 = .ok (.aload_n 0, 1) := by decide +kernel
theorem dL_hitting_3 : decode cL_hitting 3 = .ok (.iload_n 1, 1) := by decide +kernel
theorem dL_hitting_4 : decode cL_hitting 4 = .ok (.invokevirtual 83, 3) := by decide +kernel
theorem dL_hitting_7 : decode cL_hitting 7 = .ok (.i2l, 1) := by decide +kernel
theorem dL_hitting_8 : decode cL_hitting 8 = .ok (.lastore, 1) := by decide +kernel
theorem dL_hitting_9 : decode cL_hitting 9 = .ok (.goto 12, 3) := by decide +kernel
theorem dL_hitting_12 : decode cL_hitting 12 = .ok (.astore_n 3, 1) := by decide +kernel
theorem dL_hitting_13 : decode cL_hitting 13 = .ok (.iconst 1, 1) := by decide +kernel
theorem dL_hitting_14 : decode cL_hitting 14 = .ok (.ireturn, 1) := by decide +kernel
theorem dL_hitting_15 : decode cL_hitting 15 = .ok (.astore_n 3, 1) := by decide +kernel
theorem dL_hitting_16 : decode cL_hitting 16 = .ok (.iconst 2, 1) := by decide +kernel
theorem dL_hitting_17 : decode cL_hitting 17 = .ok (.ireturn, 1) := by decide +kernel
theorem dL_hitting_18 : decode cL_hitting 18 = .ok (.astore_n 3, 1) := by decide +kernel
theorem dL_hitting_19 : decode cL_hitting 19 = .ok (.iconst 3, 1) := by decide +kernel
theorem dL_hitting_20 : decode cL_hitting 20 = .ok (.ireturn, 1) := by decide +kernel
theorem dL_hitting_21 : decode cL_hitting 21 = .ok (.iconst 0, 1) := by decide +kernel
theorem dL_hitting_22 : decode cL_hitting 22 = .ok (.ireturn, 1) := by decide +kernel
theorem dL_closure_0 : decode cL_closure 0 = .ok (.aload_n 2, 1) := by decide +kernel
theorem dL_closure_1 : decode cL_closure 1 = .ok (.iconst 0, 1) := by decide +kernel
theorem dL_closure_2 : decode cL_closure 2 = .ok (.aload_n 0, 1) := by decide +kernel
theorem dL_closure_3 : decode cL_closure 3 = .ok (.iload_n 1, 1) := by decide +kernel
theorem dL_closure_4 : decode cL_closure 4 = .ok (.invokevirtual 86, 3) := by decide +kernel
theorem dL_closure_7 : decode cL_closure 7 = .ok (.i2l, 1) := by decide +kernel
theorem dL_closure_8 : decode cL_closure 8 = .ok (.lastore, 1) := by decide +kernel
theorem dL_closure_9 : decode cL_closure 9 = .ok (.goto 12, 3) := by decide +kernel
theorem dL_closure_12 : decode cL_closure 12 = .ok (.astore_n 3, 1) := by decide +kernel
theorem dL_closure_13 : decode cL_closure 13 = .ok (.iconst 1, 1) := by decide +kernel
theorem dL_closure_14 : decode cL_closure 14 = .ok (.ireturn, 1) := by decide +kernel
theorem dL_closure_15 : decode cL_closure 15 = .ok (.astore_n 3, 1) := by decide +kernel
theorem dL_closure_16 : decode cL_closure 16 = .ok (.iconst 2, 1) := by decide +kernel
theorem dL_closure_17 : decode cL_closure 17 = .ok (.ireturn, 1) := by decide +kernel
theorem dL_closure_18 : decode cL_closure 18 = .ok (.astore_n 3, 1) := by decide +kernel
theorem dL_closure_19 : decode cL_closure 19 = .ok (.iconst 3, 1) := by decide +kernel
theorem dL_closure_20 : decode cL_closure 20 = .ok (.ireturn, 1) := by decide +kernel
theorem dL_closure_21 : decode cL_closure 21 = .ok (.iconst 0, 1) := by decide +kernel
theorem dL_closure_22 : decode cL_closure 22 = .ok (.ireturn, 1) := by decide +kernel
theorem dL_change_0 : decode cL_change 0 = .ok (.aload_n 3, 1) := by decide +kernel
theorem dL_change_1 : decode cL_change 1 = .ok (.iconst 0, 1) := by decide +kernel
theorem dL_change_2 : decode cL_change 2 = .ok (.aload_n 0, 1) := by decide +kernel
theorem dL_change_3 : decode cL_change 3 = .ok (.iload_n 1, 1) := by decide +kernel
theorem dL_change_4 : decode cL_change 4 = .ok (.iload_n 2, 1) := by decide +kernel
theorem dL_change_5 : decode cL_change 5 = .ok (.invokevirtual 89, 3) := by decide +kernel
theorem dL_change_8 : decode cL_change 8 = .ok (.i2l, 1) := by decide +kernel
theorem dL_change_9 : decode cL_change 9 = .ok (.lastore, 1) := by decide +kernel
theorem dL_change_10 : decode cL_change 10 = .ok (.goto 15, 3) := by decide +kernel
theorem dL_change_13 : decode cL_change 13 = .ok (.astore 4, 2) := by decide +kernel
theorem dL_change_15 : decode cL_change 15 = .ok (.iconst 1, 1) := by decide +kernel
theorem dL_change_16 : decode cL_change 16 = .ok (.ireturn, 1) := by decide +kernel
theorem dL_change_17 : decode cL_change 17 = .ok (.astore 4, 2) := by decide +kernel
theorem dL_change_19 : decode cL_change 19 = .ok (.iconst 2, 1) := by decide +kernel
theorem dL_change_20 : decode cL_change 20 = .ok (.ireturn, 1) := by decide +kernel
theorem dL_change_21 : decode cL_change 21 = .ok (.astore 4, 2) := by decide +kernel
theorem dL_change_23 : decode cL_change 23 = .ok (.iconst 3, 1) := by decide +kernel
theorem dL_change_24 : decode cL_change 24 = .ok (.ireturn, 1) := by decide +kernel
theorem dL_change_25 : decode cL_change 25 = .ok (.iconst 0, 1) := by decide +kernel
theorem dL_change_26 : decode cL_change 26 = .ok (.ireturn, 1) := by decide +kernel
theorem dL_withCost_0 : decode cL_withCost 0 = .ok (.aload 4, 2) := by decide +kernel
theorem dL_withCost_2 : decode cL_withCost 2 = .ok (.iconst 0, 1) := by decide +kernel
theorem dL_withCost_3 : decode cL_withCost 3 = .ok (.aload_n 0, 1) := by decide +kernel
theorem dL_withCost_4 : decode cL_withCost 4 = .ok (.iload_n 1, 1) := by decide +kernel
theorem dL_withCost_5 : decode cL_withCost 5 = .ok (.iload_n 2, 1) := by decide +kernel
theorem dL_withCost_6 : decode cL_withCost 6 = .ok (.iload_n 3, 1) := by decide +kernel
theorem dL_withCost_7 : decode cL_withCost 7 = .ok (.invokevirtual 92, 3) := by decide +kernel
theorem dL_withCost_10 : decode cL_withCost 10 = .ok (.i2l, 1) := by decide +kernel
theorem dL_withCost_11 : decode cL_withCost 11 = .ok (.lastore, 1) := by decide +kernel
theorem dL_withCost_12 : decode cL_withCost 12 = .ok (.goto 15, 3) := by decide +kernel
theorem dL_withCost_15 : decode cL_withCost 15 = .ok (.astore 5, 2) := by decide +kernel
theorem dL_withCost_17 : decode cL_withCost 17 = .ok (.iconst 1, 1) := by decide +kernel
theorem dL_withCost_18 : decode cL_withCost 18 = .ok (.ireturn, 1) := by decide +kernel
theorem dL_withCost_19 : decode cL_withCost 19 = .ok (.astore 5, 2) := by decide +kernel
theorem dL_withCost_21 : decode cL_withCost 21 = .ok (.iconst 2, 1) := by decide +kernel
theorem dL_withCost_22 : decode cL_withCost 22 = .ok (.ireturn, 1) := by decide +kernel
theorem dL_withCost_23 : decode cL_withCost 23 = .ok (.astore 5, 2) := by decide +kernel
theorem dL_withCost_25 : decode cL_withCost 25 = .ok (.iconst 3, 1) := by decide +kernel
theorem dL_withCost_26 : decode cL_withCost 26 = .ok (.ireturn, 1) := by decide +kernel
theorem dL_withCost_27 : decode cL_withCost 27 = .ok (.iconst 0, 1) := by decide +kernel
theorem dL_withCost_28 : decode cL_withCost 28 = .ok (.ireturn, 1) := by decide +kernel
theorem dL_count_0 : decode cL_count 0 = .ok (.aload_n 2, 1) := by decide +kernel
theorem dL_count_1 : decode cL_count 1 = .ok (.iconst 0, 1) := by decide +kernel
theorem dL_count_2 : decode cL_count 2 = .ok (.aload_n 0, 1) := by decide +kernel
theorem dL_count_3 : decode cL_count 3 = .ok (.iload_n 1, 1) := by decide +kernel
theorem dL_count_4 : decode cL_count 4 = .ok (.invokevirtual 96, 3) := by decide +kernel
theorem dL_count_7 : decode cL_count 7 = .ok (.i2l, 1) := by decide +kernel
theorem dL_count_8 : decode cL_count 8 = .ok (.lastore, 1) := by decide +kernel
theorem dL_count_9 : decode cL_count 9 = .ok (.goto 9, 3) := by decide +kernel
theorem dL_count_12 : decode cL_count 12 = .ok (.astore_n 3, 1) := by decide +kernel
theorem dL_count_13 : decode cL_count 13 = .ok (.iconst 1, 1) := by decide +kernel
theorem dL_count_14 : decode cL_count 14 = .ok (.ireturn, 1) := by decide +kernel
theorem dL_count_15 : decode cL_count 15 = .ok (.astore_n 3, 1) := by decide +kernel
theorem dL_count_16 : decode cL_count 16 = .ok (.iconst 2, 1) := by decide +kernel
theorem dL_count_17 : decode cL_count 17 = .ok (.ireturn, 1) := by decide +kernel
theorem dL_count_18 : decode cL_count 18 = .ok (.iconst 0, 1) := by decide +kernel
theorem dL_count_19 : decode cL_count 19 = .ok (.ireturn, 1) := by decide +kernel
theorem dL_countOfSize_0 : decode cL_countOfSize 0 = .ok (.aload_n 3, 1) := by decide +kernel
theorem dL_countOfSize_1 : decode cL_countOfSize 1 = .ok (.iconst 0, 1) := by decide +kernel
theorem dL_countOfSize_2 : decode cL_countOfSize 2 = .ok (.aload_n 0, 1) := by decide +kernel
theorem dL_countOfSize_3 : decode cL_countOfSize 3 = .ok (.iload_n 1, 1) := by decide +kernel
theorem dL_countOfSize_4 : decode cL_countOfSize 4 = .ok (.iload_n 2, 1) := by decide +kernel
theorem dL_countOfSize_5 : decode cL_countOfSize 5 = .ok (.invokevirtual 99, 3) := by decide +kernel
theorem dL_countOfSize_8 : decode cL_countOfSize 8 = .ok (.i2l, 1) := by decide +kernel
theorem dL_countOfSize_9 : decode cL_countOfSize 9 = .ok (.lastore, 1) := by decide +kernel
theorem dL_countOfSize_10 : decode cL_countOfSize 10 = .ok (.goto 11, 3) := by decide +kernel
theorem dL_countOfSize_13 : decode cL_countOfSize 13 = .ok (.astore 4, 2) := by decide +kernel
theorem dL_countOfSize_15 : decode cL_countOfSize 15 = .ok (.iconst 1, 1) := by decide +kernel
theorem dL_countOfSize_16 : decode cL_countOfSize 16 = .ok (.ireturn, 1) := by decide +kernel
theorem dL_countOfSize_17 : decode cL_countOfSize 17 = .ok (.astore 4, 2) := by decide +kernel
theorem dL_countOfSize_19 : decode cL_countOfSize 19 = .ok (.iconst 2, 1) := by decide +kernel
theorem dL_countOfSize_20 : decode cL_countOfSize 20 = .ok (.ireturn, 1) := by decide +kernel
theorem dL_countOfSize_21 : decode cL_countOfSize 21 = .ok (.iconst 0, 1) := by decide +kernel
theorem dL_countOfSize_22 : decode cL_countOfSize 22 = .ok (.ireturn, 1) := by decide +kernel
theorem dL_countWith_0 : decode cL_countWith 0 = .ok (.aload_n 3, 1) := by decide +kernel
theorem dL_countWith_1 : decode cL_countWith 1 = .ok (.iconst 0, 1) := by decide +kernel
theorem dL_countWith_2 : decode cL_countWith 2 = .ok (.aload_n 0, 1) := by decide +kernel
theorem dL_countWith_3 : decode cL_countWith 3 = .ok (.iload_n 1, 1) := by decide +kernel
theorem dL_countWith_4 : decode cL_countWith 4 = .ok (.iload_n 2, 1) := by decide +kernel
theorem dL_countWith_5 : decode cL_countWith 5 = .ok (.invokevirtual 102, 3) := by decide +kernel
theorem dL_countWith_8 : decode cL_countWith 8 = .ok (.i2l, 1) := by decide +kernel
theorem dL_countWith_9 : decode cL_countWith 9 = .ok (.lastore, 1) := by decide +kernel
theorem dL_countWith_10 : decode cL_countWith 10 = .ok (.goto 11, 3) := by decide +kernel
theorem dL_countWith_13 : decode cL_countWith 13 = .ok (.astore 4, 2) := by decide +kernel
theorem dL_countWith_15 : decode cL_countWith 15 = .ok (.iconst 1, 1) := by decide +kernel
theorem dL_countWith_16 : decode cL_countWith 16 = .ok (.ireturn, 1) := by decide +kernel
theorem dL_countWith_17 : decode cL_countWith 17 = .ok (.astore 4, 2) := by decide +kernel
theorem dL_countWith_19 : decode cL_countWith 19 = .ok (.iconst 2, 1) := by decide +kernel
theorem dL_countWith_20 : decode cL_countWith 20 = .ok (.ireturn, 1) := by decide +kernel
theorem dL_countWith_21 : decode cL_countWith 21 = .ok (.iconst 0, 1) := by decide +kernel
theorem dL_countWith_22 : decode cL_countWith 22 = .ok (.ireturn, 1) := by decide +kernel
theorem dL_contains_0 : decode cL_contains 0 = .ok (.aload_n 3, 1) := by decide +kernel
theorem dL_contains_1 : decode cL_contains 1 = .ok (.iconst 0, 1) := by decide +kernel
theorem dL_contains_2 : decode cL_contains 2 = .ok (.aload_n 0, 1) := by decide +kernel
theorem dL_contains_3 : decode cL_contains 3 = .ok (.iload_n 1, 1) := by decide +kernel
theorem dL_contains_4 : decode cL_contains 4 = .ok (.iload_n 2, 1) := by decide +kernel
theorem dL_contains_5 : decode cL_contains 5 = .ok (.invokevirtual 105, 3) := by decide +kernel
theorem dL_contains_8 : decode cL_contains 8 = .ok (.ifCond .eq 7, 3) := by decide +kernel
theorem dL_contains_11 : decode cL_contains 11 = .ok (.lconst 1, 1) := by decide +kernel
theorem dL_contains_12 : decode cL_contains 12 = .ok (.goto 4, 3) := by decide +kernel
theorem dL_contains_15 : decode cL_contains 15 = .ok (.lconst 0, 1) := by decide +kernel
theorem dL_contains_16 : decode cL_contains 16 = .ok (.lastore, 1) := by decide +kernel
theorem dL_contains_17 : decode cL_contains 17 = .ok (.goto 11, 3) := by decide +kernel
theorem dL_contains_20 : decode cL_contains 20 = .ok (.astore 4, 2) := by decide +kernel
theorem dL_contains_22 : decode cL_contains 22 = .ok (.iconst 1, 1) := by decide +kernel
theorem dL_contains_23 : decode cL_contains 23 = .ok (.ireturn, 1) := by decide +kernel
theorem dL_contains_24 : decode cL_contains 24 = .ok (.astore 4, 2) := by decide +kernel
theorem dL_contains_26 : decode cL_contains 26 = .ok (.iconst 2, 1) := by decide +kernel
theorem dL_contains_27 : decode cL_contains 27 = .ok (.ireturn, 1) := by decide +kernel
theorem dL_contains_28 : decode cL_contains 28 = .ok (.iconst 0, 1) := by decide +kernel
theorem dL_contains_29 : decode cL_contains 29 = .ok (.ireturn, 1) := by decide +kernel
theorem dL_areEqual_0 : decode cL_areEqual 0 = .ok (.aload_n 3, 1) := by decide +kernel
theorem dL_areEqual_1 : decode cL_areEqual 1 = .ok (.iconst 0, 1) := by decide +kernel
theorem dL_areEqual_2 : decode cL_areEqual 2 = .ok (.aload_n 0, 1) := by decide +kernel
theorem dL_areEqual_3 : decode cL_areEqual 3 = .ok (.iload_n 1, 1) := by decide +kernel
theorem dL_areEqual_4 : decode cL_areEqual 4 = .ok (.iload_n 2, 1) := by decide +kernel
theorem dL_areEqual_5 : decode cL_areEqual 5 = .ok (.invokevirtual 109, 3) := by decide +kernel
theorem dL_areEqual_8 : decode cL_areEqual 8 = .ok (.ifCond .eq 7, 3) := by decide +kernel
theorem dL_areEqual_11 : decode cL_areEqual 11 = .ok (.lconst 1, 1) := by decide +kernel
theorem dL_areEqual_12 : decode cL_areEqual 12 = .ok (.goto 4, 3) := by decide +kernel
theorem dL_areEqual_15 : decode cL_areEqual 15 = .ok (.lconst 0, 1) := by decide +kernel
theorem dL_areEqual_16 : decode cL_areEqual 16 = .ok (.lastore, 1) := by decide +kernel
theorem dL_areEqual_17 : decode cL_areEqual 17 = .ok (.goto 11, 3) := by decide +kernel
theorem dL_areEqual_20 : decode cL_areEqual 20 = .ok (.astore 4, 2) := by decide +kernel
theorem dL_areEqual_22 : decode cL_areEqual 22 = .ok (.iconst 1, 1) := by decide +kernel
theorem dL_areEqual_23 : decode cL_areEqual 23 = .ok (.ireturn, 1) := by decide +kernel
theorem dL_areEqual_24 : decode cL_areEqual 24 = .ok (.astore 4, 2) := by decide +kernel
theorem dL_areEqual_26 : decode cL_areEqual 26 = .ok (.iconst 2, 1) := by decide +kernel
theorem dL_areEqual_27 : decode cL_areEqual 27 = .ok (.ireturn, 1) := by decide +kernel
theorem dL_areEqual_28 : decode cL_areEqual 28 = .ok (.iconst 0, 1) := by decide +kernel
theorem dL_areEqual_29 : decode cL_areEqual 29 = .ok (.ireturn, 1) := by decide +kernel
theorem dL_isPartOf_0 : decode cL_isPartOf 0 = .ok (.aload_n 3, 1) := by decide +kernel
theorem dL_isPartOf_1 : decode cL_isPartOf 1 = .ok (.iconst 0, 1) := by decide +kernel
theorem dL_isPartOf_2 : decode cL_isPartOf 2 = .ok (.aload_n 0, 1) := by decide +kernel
theorem dL_isPartOf_3 : decode cL_isPartOf 3 = .ok (.iload_n 1, 1) := by decide +kernel
theorem dL_isPartOf_4 : decode cL_isPartOf 4 = .ok (.iload_n 2, 1) := by decide +kernel
theorem dL_isPartOf_5 : decode cL_isPartOf 5 = .ok (.invokevirtual 112, 3) := by decide +kernel
theorem dL_isPartOf_8 : decode cL_isPartOf 8 = .ok (.ifCond .eq 7, 3) := by decide +kernel
theorem dL_isPartOf_11 : decode cL_isPartOf 11 = .ok (.lconst 1, 1) := by decide +kernel
theorem dL_isPartOf_12 : decode cL_isPartOf 12 = .ok (.goto 4, 3) := by decide +kernel
theorem dL_isPartOf_15 : decode cL_isPartOf 15 = .ok (.lconst 0, 1) := by decide +kernel
theorem dL_isPartOf_16 : decode cL_isPartOf 16 = .ok (.lastore, 1) := by decide +kernel
theorem dL_isPartOf_17 : decode cL_isPartOf 17 = .ok (.goto 11, 3) := by decide +kernel
theorem dL_isPartOf_20 : decode cL_isPartOf 20 = .ok (.astore 4, 2) := by decide +kernel
theorem dL_isPartOf_22 : decode cL_isPartOf 22 = .ok (.iconst 1, 1) := by decide +kernel
theorem dL_isPartOf_23 : decode cL_isPartOf 23 = .ok (.ireturn, 1) := by decide +kernel
theorem dL_isPartOf_24 : decode cL_isPartOf 24 = .ok (.astore 4, 2) := by decide +kernel
theorem dL_isPartOf_26 : decode cL_isPartOf 26 = .ok (.iconst 2, 1) := by decide +kernel
theorem dL_isPartOf_27 : decode cL_isPartOf 27 = .ok (.ireturn, 1) := by decide +kernel
theorem dL_isPartOf_28 : decode cL_isPartOf 28 = .ok (.iconst 0, 1) := by decide +kernel
theorem dL_isPartOf_29 : decode cL_isPartOf 29 = .ok (.ireturn, 1) := by decide +kernel
theorem dL_setAt_0 : decode cL_setAt 0 = .ok (.aload_n 3, 1) := by decide +kernel
theorem dL_setAt_1 : decode cL_setAt 1 = .ok (.iconst 0, 1) := by decide +kernel
theorem dL_setAt_2 : decode cL_setAt 2 = .ok (.aload_n 0, 1) := by decide +kernel
theorem dL_setAt_3 : decode cL_setAt 3 = .ok (.iload_n 1, 1) := by decide +kernel
theorem dL_setAt_4 : decode cL_setAt 4 = .ok (.iload_n 2, 1) := by decide +kernel
theorem dL_setAt_5 : decode cL_setAt 5 = .ok (.invokevirtual 115, 3) := by decide +kernel
theorem dL_setAt_8 : decode cL_setAt 8 = .ok (.i2l, 1) := by decide +kernel
theorem dL_setAt_9 : decode cL_setAt 9 = .ok (.lastore, 1) := by decide +kernel
theorem dL_setAt_10 : decode cL_setAt 10 = .ok (.goto 11, 3) := by decide +kernel
theorem dL_setAt_13 : decode cL_setAt 13 = .ok (.astore 4, 2) := by decide +kernel
theorem dL_setAt_15 : decode cL_setAt 15 = .ok (.iconst 1, 1) := by decide +kernel
theorem dL_setAt_16 : decode cL_setAt 16 = .ok (.ireturn, 1) := by decide +kernel
theorem dL_setAt_17 : decode cL_setAt 17 = .ok (.astore 4, 2) := by decide +kernel
theorem dL_setAt_19 : decode cL_setAt 19 = .ok (.iconst 2, 1) := by decide +kernel
theorem dL_setAt_20 : decode cL_setAt 20 = .ok (.ireturn, 1) := by decide +kernel
theorem dL_setAt_21 : decode cL_setAt 21 = .ok (.iconst 0, 1) := by decide +kernel
theorem dL_setAt_22 : decode cL_setAt 22 = .ok (.ireturn, 1) := by decide +kernel
theorem dL_indexOf_0 : decode cL_indexOf 0 = .ok (.aload_n 3, 1) := by decide +kernel
theorem dL_indexOf_1 : decode cL_indexOf 1 = .ok (.iconst 0, 1) := by decide +kernel
theorem dL_indexOf_2 : decode cL_indexOf 2 = .ok (.aload_n 0, 1) := by decide +kernel
theorem dL_indexOf_3 : decode cL_indexOf 3 = .ok (.iload_n 1, 1) := by decide +kernel
theorem dL_indexOf_4 : decode cL_indexOf 4 = .ok (.iload_n 2, 1) := by decide +kernel
theorem dL_indexOf_5 : decode cL_indexOf 5 = .ok (.invokevirtual 118, 3) := by decide +kernel
theorem dL_indexOf_8 : decode cL_indexOf 8 = .ok (.i2l, 1) := by decide +kernel
theorem dL_indexOf_9 : decode cL_indexOf 9 = .ok (.lastore, 1) := by decide +kernel
theorem dL_indexOf_10 : decode cL_indexOf 10 = .ok (.goto 11, 3) := by decide +kernel
theorem dL_indexOf_13 : decode cL_indexOf 13 = .ok (.astore 4, 2) := by decide +kernel
theorem dL_indexOf_15 : decode cL_indexOf 15 = .ok (.iconst 1, 1) := by decide +kernel
theorem dL_indexOf_16 : decode cL_indexOf 16 = .ok (.ireturn, 1) := by decide +kernel
theorem dL_indexOf_17 : decode cL_indexOf 17 = .ok (.astore 4, 2) := by decide +kernel
theorem dL_indexOf_19 : decode cL_indexOf 19 = .ok (.iconst 2, 1) := by decide +kernel
theorem dL_indexOf_20 : decode cL_indexOf 20 = .ok (.ireturn, 1) := by decide +kernel
theorem dL_indexOf_21 : decode cL_indexOf 21 = .ok (.iconst 0, 1) := by decide +kernel
theorem dL_indexOf_22 : decode cL_indexOf 22 = .ok (.ireturn, 1) := by decide +kernel
theorem dL_setCost_0 : decode cL_setCost 0 = .ok (.aload_n 3, 1) := by decide +kernel
theorem dL_setCost_1 : decode cL_setCost 1 = .ok (.iconst 0, 1) := by decide +kernel
theorem dL_setCost_2 : decode cL_setCost 2 = .ok (.aload_n 0, 1) := by decide +kernel
theorem dL_setCost_3 : decode cL_setCost 3 = .ok (.iload_n 1, 1) := by decide +kernel
theorem dL_setCost_4 : decode cL_setCost 4 = .ok (.iload_n 2, 1) := by decide +kernel
theorem dL_setCost_5 : decode cL_setCost 5 = .ok (.invokevirtual 121, 3) := by decide +kernel
theorem dL_setCost_8 : decode cL_setCost 8 = .ok (.i2l, 1) := by decide +kernel
theorem dL_setCost_9 : decode cL_setCost 9 = .ok (.lastore, 1) := by decide +kernel
theorem dL_setCost_10 : decode cL_setCost 10 = .ok (.goto 11, 3) := by decide +kernel
theorem dL_setCost_13 : decode cL_setCost 13 = .ok (.astore 4, 2) := by decide +kernel
theorem dL_setCost_15 : decode cL_setCost 15 = .ok (.iconst 1, 1) := by decide +kernel
theorem dL_setCost_16 : decode cL_setCost 16 = .ok (.ireturn, 1) := by decide +kernel
theorem dL_setCost_17 : decode cL_setCost 17 = .ok (.astore 4, 2) := by decide +kernel
theorem dL_setCost_19 : decode cL_setCost 19 = .ok (.iconst 2, 1) := by decide +kernel
theorem dL_setCost_20 : decode cL_setCost 20 = .ok (.ireturn, 1) := by decide +kernel
theorem dL_setCost_21 : decode cL_setCost 21 = .ok (.iconst 0, 1) := by decide +kernel
theorem dL_setCost_22 : decode cL_setCost 22 = .ok (.ireturn, 1) := by decide +kernel
theorem dL_leastCost_0 : decode cL_leastCost 0 = .ok (.aload_n 2, 1) := by decide +kernel
theorem dL_leastCost_1 : decode cL_leastCost 1 = .ok (.iconst 0, 1) := by decide +kernel
theorem dL_leastCost_2 : decode cL_leastCost 2 = .ok (.aload_n 0, 1) := by decide +kernel
theorem dL_leastCost_3 : decode cL_leastCost 3 = .ok (.iload_n 1, 1) := by decide +kernel
theorem dL_leastCost_4 : decode cL_leastCost 4 = .ok (.invokevirtual 124, 3) := by decide +kernel
theorem dL_leastCost_7 : decode cL_leastCost 7 = .ok (.i2l, 1) := by decide +kernel
theorem dL_leastCost_8 : decode cL_leastCost 8 = .ok (.lastore, 1) := by decide +kernel
theorem dL_leastCost_9 : decode cL_leastCost 9 = .ok (.goto 9, 3) := by decide +kernel
theorem dL_leastCost_12 : decode cL_leastCost 12 = .ok (.astore_n 3, 1) := by decide +kernel
theorem dL_leastCost_13 : decode cL_leastCost 13 = .ok (.iconst 1, 1) := by decide +kernel
theorem dL_leastCost_14 : decode cL_leastCost 14 = .ok (.ireturn, 1) := by decide +kernel
theorem dL_leastCost_15 : decode cL_leastCost 15 = .ok (.astore_n 3, 1) := by decide +kernel
theorem dL_leastCost_16 : decode cL_leastCost 16 = .ok (.iconst 2, 1) := by decide +kernel
theorem dL_leastCost_17 : decode cL_leastCost 17 = .ok (.ireturn, 1) := by decide +kernel
theorem dL_leastCost_18 : decode cL_leastCost 18 = .ok (.iconst 0, 1) := by decide +kernel
theorem dL_leastCost_19 : decode cL_leastCost 19 = .ok (.ireturn, 1) := by decide +kernel
theorem dL_meanCost_0 : decode cL_meanCost 0 = .ok (.aload_n 2, 1) := by decide +kernel
theorem dL_meanCost_1 : decode cL_meanCost 1 = .ok (.iconst 0, 1) := by decide +kernel
theorem dL_meanCost_2 : decode cL_meanCost 2 = .ok (.aload_n 0, 1) := by decide +kernel
theorem dL_meanCost_3 : decode cL_meanCost 3 = .ok (.iload_n 1, 1) := by decide +kernel
theorem dL_meanCost_4 : decode cL_meanCost 4 = .ok (.invokevirtual 127, 3) := by decide +kernel
theorem dL_meanCost_7 : decode cL_meanCost 7 = .ok (.dastore, 1) := by decide +kernel
theorem dL_meanCost_8 : decode cL_meanCost 8 = .ok (.goto 9, 3) := by decide +kernel
theorem dL_meanCost_11 : decode cL_meanCost 11 = .ok (.astore_n 3, 1) := by decide +kernel
theorem dL_meanCost_12 : decode cL_meanCost 12 = .ok (.iconst 1, 1) := by decide +kernel
theorem dL_meanCost_13 : decode cL_meanCost 13 = .ok (.ireturn, 1) := by decide +kernel
theorem dL_meanCost_14 : decode cL_meanCost 14 = .ok (.astore_n 3, 1) := by decide +kernel
theorem dL_meanCost_15 : decode cL_meanCost 15 = .ok (.iconst 2, 1) := by decide +kernel
theorem dL_meanCost_16 : decode cL_meanCost 16 = .ok (.ireturn, 1) := by decide +kernel
theorem dL_meanCost_17 : decode cL_meanCost 17 = .ok (.iconst 0, 1) := by decide +kernel
theorem dL_meanCost_18 : decode cL_meanCost 18 = .ok (.ireturn, 1) := by decide +kernel
theorem dL_enumerate_0 : decode cL_enumerate 0 = .ok (.aload 4, 2) := by decide +kernel
theorem dL_enumerate_2 : decode cL_enumerate 2 = .ok (.iconst 0, 1) := by decide +kernel
theorem dL_enumerate_3 : decode cL_enumerate 3 = .ok (.aload_n 0, 1) := by decide +kernel
theorem dL_enumerate_4 : decode cL_enumerate 4 = .ok (.iload_n 1, 1) := by decide +kernel
theorem dL_enumerate_5 : decode cL_enumerate 5 = .ok (.iload_n 2, 1) := by decide +kernel
theorem dL_enumerate_6 : decode cL_enumerate 6 = .ok (.iload_n 3, 1) := by decide +kernel
theorem dL_enumerate_7 : decode cL_enumerate 7 = .ok (.invokevirtual 131, 3) := by decide +kernel
theorem dL_enumerate_10 : decode cL_enumerate 10 = .ok (.i2l, 1) := by decide +kernel
theorem dL_enumerate_11 : decode cL_enumerate 11 = .ok (.lastore, 1) := by decide +kernel
theorem dL_enumerate_12 : decode cL_enumerate 12 = .ok (.goto 15, 3) := by decide +kernel
theorem dL_enumerate_15 : decode cL_enumerate 15 = .ok (.astore 5, 2) := by decide +kernel
theorem dL_enumerate_17 : decode cL_enumerate 17 = .ok (.iconst 1, 1) := by decide +kernel
theorem dL_enumerate_18 : decode cL_enumerate 18 = .ok (.ireturn, 1) := by decide +kernel
theorem dL_enumerate_19 : decode cL_enumerate 19 = .ok (.astore 5, 2) := by decide +kernel
theorem dL_enumerate_21 : decode cL_enumerate 21 = .ok (.iconst 2, 1) := by decide +kernel
theorem dL_enumerate_22 : decode cL_enumerate 22 = .ok (.ireturn, 1) := by decide +kernel
theorem dL_enumerate_23 : decode cL_enumerate 23 = .ok (.astore 5, 2) := by decide +kernel
theorem dL_enumerate_25 : decode cL_enumerate 25 = .ok (.iconst 3, 1) := by decide +kernel
theorem dL_enumerate_26 : decode cL_enumerate 26 = .ok (.ireturn, 1) := by decide +kernel
theorem dL_enumerate_27 : decode cL_enumerate 27 = .ok (.iconst 0, 1) := by decide +kernel
theorem dL_enumerate_28 : decode cL_enumerate 28 = .ok (.ireturn, 1) := by decide +kernel
theorem dL_enumerated_0 : decode cL_enumerated 0 = .ok (.aload_n 2, 1) := by decide +kernel
theorem dL_enumerated_1 : decode cL_enumerated 1 = .ok (.iconst 0, 1) := by decide +kernel
theorem dL_enumerated_2 : decode cL_enumerated 2 = .ok (.aload_n 0, 1) := by decide +kernel
theorem dL_enumerated_3 : decode cL_enumerated 3 = .ok (.iload_n 1, 1) := by decide +kernel
theorem dL_enumerated_4 : decode cL_enumerated 4 = .ok (.invokevirtual 134, 3) := by decide +kernel
theorem dL_enumerated_7 : decode cL_enumerated 7 = .ok (.i2l, 1) := by decide +kernel
theorem dL_enumerated_8 : decode cL_enumerated 8 = .ok (.lastore, 1) := by decide +kernel
theorem dL_enumerated_9 : decode cL_enumerated 9 = .ok (.goto 6, 3) := by decide +kernel
theorem dL_enumerated_12 : decode cL_enumerated 12 = .ok (.astore_n 3, 1) := by decide +kernel
theorem dL_enumerated_13 : decode cL_enumerated 13 = .ok (.iconst 1, 1) := by decide +kernel
theorem dL_enumerated_14 : decode cL_enumerated 14 = .ok (.ireturn, 1) := by decide +kernel
theorem dL_enumerated_15 : decode cL_enumerated 15 = .ok (.iconst 0, 1) := by decide +kernel
theorem dL_enumerated_16 : decode cL_enumerated 16 = .ok (.ireturn, 1) := by decide +kernel
theorem dL_law_0 : decode cL_law 0 = .ok (.new 8, 3) := by decide +kernel
theorem dL_law_3 : decode cL_law 3 = .ok (.dup, 1) := by decide +kernel
theorem dL_law_4 : decode cL_law 4 = .ok (.invokespecial 137, 3) := by decide +kernel
theorem dL_law_7 : decode cL_law 7 = .ok (.astore_n 1, 1) := by decide +kernel
theorem dL_law_8 : decode cL_law 8 = .ok (.new 138, 3) := by decide +kernel
theorem dL_law_11 : decode cL_law 11 = .ok (.dup, 1) := by decide +kernel
theorem dL_law_12 : decode cL_law 12 = .ok (.invokespecial 140, 3) := by decide +kernel
theorem dL_law_15 : decode cL_law 15 = .ok (.astore_n 2, 1) := by decide +kernel
theorem dL_law_16 : decode cL_law 16 = .ok (.iconst 1, 1) := by decide +kernel
theorem dL_law_17 : decode cL_law 17 = .ok (.newarray .long, 2) := by decide +kernel
theorem dL_law_19 : decode cL_law 19 = .ok (.astore_n 3, 1) := by decide +kernel
theorem dL_law_20 : decode cL_law 20 = .ok (.iconst 1, 1) := by decide +kernel
theorem dL_law_21 : decode cL_law 21 = .ok (.newarray .double, 2) := by decide +kernel
theorem dL_law_23 : decode cL_law 23 = .ok (.astore 4, 2) := by decide +kernel
theorem dL_law_25 : decode cL_law 25 = .ok (.iconst 0, 1) := by decide +kernel
theorem dL_law_26 : decode cL_law 26 = .ok (.istore 5, 2) := by decide +kernel
theorem dL_law_28 : decode cL_law 28 = .ok (.iload 5, 2) := by decide +kernel
theorem dL_law_30 : decode cL_law 30 = .ok (.aload_n 0, 1) := by decide +kernel
theorem dL_law_31 : decode cL_law 31 = .ok (.arraylength, 1) := by decide +kernel
theorem dL_law_32 : decode cL_law 32 = .ok (.bipush 6, 2) := by decide +kernel
theorem dL_law_34 : decode cL_law 34 = .ok (.isub, 1) := by decide +kernel
theorem dL_law_35 : decode cL_law 35 = .ok (.if_icmp .gt 2674, 3) := by decide +kernel
theorem dL_law_38 : decode cL_law 38 = .ok (.aload_n 0, 1) := by decide +kernel
theorem dL_law_39 : decode cL_law 39 = .ok (.iload 5, 2) := by decide +kernel
theorem dL_law_41 : decode cL_law 41 = .ok (.iaload, 1) := by decide +kernel
theorem dL_law_42 : decode cL_law 42 = .ok (.bipush 63, 2) := by decide +kernel
theorem dL_law_44 : decode cL_law 44 = .ok (.iand, 1) := by decide +kernel
theorem dL_law_45 : decode cL_law 45 = .ok (.tableswitch 2658 0 40 #[179, 283, 339, 383, 396, 452, 508, 564, 632, 688, 701, 714, 770, 838, 906, 974, 1042, 1110, 1178, 1246, 1314, 1382, 1438, 1494, 1550, 1606, 1674, 1754, 1810, 1878, 1946, 2021, 2096, 2171, 2239, 2307, 2375, 2431, 2508, 2588, 2644], 179) := by decide +kernel
theorem dL_law_224 : decode cL_law 224 = .ok (.aload_n 1, 1) := by decide +kernel
theorem dL_law_225 : decode cL_law 225 = .ok (.aload_n 0, 1) := by decide +kernel
theorem dL_law_226 : decode cL_law 226 = .ok (.iload 5, 2) := by decide +kernel
theorem dL_law_228 : decode cL_law 228 = .ok (.iconst 1, 1) := by decide +kernel
theorem dL_law_229 : decode cL_law 229 = .ok (.iadd, 1) := by decide +kernel
