theorem dX0_init_0 : decode cX0_init 0 = .ok (.aload_n 0, 1) := by decide +kernel
theorem dX0_init_1 : decode cX0_init 1 = .ok (.invokespecial 3, 3) := by decide +kernel
theorem dX0_init_4 : decode cX0_init 4 = .ok (.aload_n 0, 1) := by decide +kernel
theorem dX0_init_5 : decode cX0_init 5 = .ok (.bipush 64, 2) := by decide +kernel
theorem dX0_init_7 : decode cX0_init 7 = .ok (.newarray .long, 2) := by decide +kernel
theorem dX0_init_9 : decode cX0_init 9 = .ok (.putfield 9, 3) := by decide +kernel
theorem dX0_init_12 : decode cX0_init 12 = .ok (.aload_n 0, 1) := by decide +kernel
theorem dX0_init_13 : decode cX0_init 13 = .ok (.bipush 64, 2) := by decide +kernel
theorem dX0_init_15 : decode cX0_init 15 = .ok (.newarray .long, 2) := by decide +kernel
theorem dX0_init_17 : decode cX0_init 17 = .ok (.putfield 15, 3) := by decide +kernel
theorem dX0_init_20 : decode cX0_init 20 = .ok (.aload_n 0, 1) := by decide +kernel
theorem dX0_init_21 : decode cX0_init 21 = .ok (.aload_n 1, 1) := by decide +kernel
theorem dX0_init_22 : decode cX0_init 22 = .ok (.putfield 18, 3) := by decide +kernel
theorem dX0_init_25 : decode cX0_init 25 = .ok (.aload_n 0, 1) := by decide +kernel
theorem dX0_init_26 : decode cX0_init 26 = .ok (.aload_n 2, 1) := by decide +kernel
theorem dX0_init_27 : decode cX0_init 27 = .ok (.putfield 22, 3) := by decide +kernel
theorem dX0_init_30 : decode cX0_init 30 = .ok (.return_, 1) := by decide +kernel
theorem dX0_applyToOne_0 : decode cX0_applyToOne 0 = .ok (.iload_n 1, 1) := by decide +kernel
theorem dX0_applyToOne_1 : decode cX0_applyToOne 1 = .ok (.tableswitch 62 4 7 #[31, 39, 47, 55], 31) := by decide +kernel
theorem dX0_applyToOne_32 : decode cX0_applyToOne 32 = .ok (.aload_n 0, 1) := by decide +kernel
theorem dX0_applyToOne_33 : decode cX0_applyToOne 33 = .ok (.aload_n 2, 1) := by decide +kernel
theorem dX0_applyToOne_34 : decode cX0_applyToOne 34 = .ok (.invokevirtual 25, 3) := by decide +kernel
theorem dX0_applyToOne_37 : decode cX0_applyToOne 37 = .ok (.goto 26, 3) := by decide +kernel
theorem dX0_applyToOne_40 : decode cX0_applyToOne 40 = .ok (.aload_n 0, 1) := by decide +kernel
theorem dX0_applyToOne_41 : decode cX0_applyToOne 41 = .ok (.aload_n 2, 1) := by decide +kernel
theorem dX0_applyToOne_42 : decode cX0_applyToOne 42 = .ok (.invokevirtual 29, 3) := by decide +kernel
theorem dX0_applyToOne_45 : decode cX0_applyToOne 45 = .ok (.goto 18, 3) := by decide +kernel
theorem dX0_applyToOne_48 : decode cX0_applyToOne 48 = .ok (.aload_n 0, 1) := by decide +kernel
theorem dX0_applyToOne_49 : decode cX0_applyToOne 49 = .ok (.aload_n 2, 1) := by decide +kernel
theorem dX0_applyToOne_50 : decode cX0_applyToOne 50 = .ok (.invokevirtual 32, 3) := by decide +kernel
theorem dX0_applyToOne_53 : decode cX0_applyToOne 53 = .ok (.goto 10, 3) := by decide +kernel
theorem dX0_applyToOne_56 : decode cX0_applyToOne 56 = .ok (.aload_n 2, 1) := by decide +kernel
theorem dX0_applyToOne_57 : decode cX0_applyToOne 57 = .ok (.invokestatic 35, 3) := by decide +kernel
theorem dX0_applyToOne_60 : decode cX0_applyToOne 60 = .ok (.goto 3, 3) := by decide +kernel
theorem dX0_applyToOne_63 : decode cX0_applyToOne 63 = .ok (.return_, 1) := by decide +kernel
theorem dX0_applyToTwo_0 : decode cX0_applyToTwo 0 = .ok (.iload_n 1, 1) := by decide +kernel
theorem dX0_applyToTwo_1 : decode cX0_applyToTwo 1 = .ok (.lookupswitch 215 #[(1, 117), (2, 163), (3, 189), (37, 145), (38, 91), (42, 107), (43, 83), (45, 99), (47, 127)], 83) := by decide +kernel
theorem dX0_applyToTwo_84 : decode cX0_applyToTwo 84 = .ok (.aload_n 2, 1) := by decide +kernel
theorem dX0_applyToTwo_85 : decode cX0_applyToTwo 85 = .ok (.aload_n 3, 1) := by decide +kernel
theorem dX0_applyToTwo_86 : decode cX0_applyToTwo 86 = .ok (.invokestatic 40, 3) := by decide +kernel
theorem dX0_applyToTwo_89 : decode cX0_applyToTwo 89 = .ok (.goto 127, 3) := by decide +kernel
theorem dX0_applyToTwo_92 : decode cX0_applyToTwo 92 = .ok (.aload_n 2, 1) := by decide +kernel
theorem dX0_applyToTwo_93 : decode cX0_applyToTwo 93 = .ok (.aload_n 3, 1) := by decide +kernel
theorem dX0_applyToTwo_94 : decode cX0_applyToTwo 94 = .ok (.invokestatic 44, 3) := by decide +kernel
theorem dX0_applyToTwo_97 : decode cX0_applyToTwo 97 = .ok (.goto 119, 3) := by decide +kernel
theorem dX0_applyToTwo_100 : decode cX0_applyToTwo 100 = .ok (.aload_n 2, 1) := by decide +kernel
theorem dX0_applyToTwo_101 : decode cX0_applyToTwo 101 = .ok (.aload_n 3, 1) := by decide +kernel
theorem dX0_applyToTwo_102 : decode cX0_applyToTwo 102 = .ok (.invokestatic 47, 3) := by decide +kernel
theorem dX0_applyToTwo_105 : decode cX0_applyToTwo 105 = .ok (.goto 111, 3) := by decide +kernel
theorem dX0_applyToTwo_108 : decode cX0_applyToTwo 108 = .ok (.aload_n 0, 1) := by decide +kernel
theorem dX0_applyToTwo_109 : decode cX0_applyToTwo 109 = .ok (.aload_n 2, 1) := by decide +kernel
theorem dX0_applyToTwo_110 : decode cX0_applyToTwo 110 = .ok (.aload_n 3, 1) := by decide +kernel
theorem dX0_applyToTwo_111 : decode cX0_applyToTwo 111 = .ok (.iconst 0, 1) := by decide +kernel
theorem dX0_applyToTwo_112 : decode cX0_applyToTwo 112 = .ok (.invokevirtual 50, 3) := by decide +kernel
theorem dX0_applyToTwo_115 : decode cX0_applyToTwo 115 = .ok (.goto 101, 3) := by decide +kernel
theorem dX0_applyToTwo_118 : decode cX0_applyToTwo 118 = .ok (.aload_n 0, 1) := by decide +kernel
theorem dX0_applyToTwo_119 : decode cX0_applyToTwo 119 = .ok (.aload_n 2, 1) := by decide +kernel
theorem dX0_applyToTwo_120 : decode cX0_applyToTwo 120 = .ok (.aload_n 3, 1) := by decide +kernel
theorem dX0_applyToTwo_121 : decode cX0_applyToTwo 121 = .ok (.iconst 1, 1) := by decide +kernel
theorem dX0_applyToTwo_122 : decode cX0_applyToTwo 122 = .ok (.invokevirtual 50, 3) := by decide +kernel
theorem dX0_applyToTwo_125 : decode cX0_applyToTwo 125 = .ok (.goto 91, 3) := by decide +kernel
theorem dX0_applyToTwo_128 : decode cX0_applyToTwo 128 = .ok (.aload_n 0, 1) := by decide +kernel
theorem dX0_applyToTwo_129 : decode cX0_applyToTwo 129 = .ok (.aload_n 2, 1) := by decide +kernel
theorem dX0_applyToTwo_130 : decode cX0_applyToTwo 130 = .ok (.aload_n 3, 1) := by decide +kernel
theorem dX0_applyToTwo_131 : decode cX0_applyToTwo 131 = .ok (.invokevirtual 54, 3) := by decide +kernel
theorem dX0_applyToTwo_134 : decode cX0_applyToTwo 134 = .ok (.pop, 1) := by decide +kernel
theorem dX0_applyToTwo_135 : decode cX0_applyToTwo 135 = .ok (.aload_n 0, 1) := by decide +kernel
theorem dX0_applyToTwo_136 : decode cX0_applyToTwo 136 = .ok (.getfield 9, 3) := by decide +kernel
theorem dX0_applyToTwo_139 : decode cX0_applyToTwo 139 = .ok (.aload_n 2, 1) := by decide +kernel
theorem dX0_applyToTwo_140 : decode cX0_applyToTwo 140 = .ok (.invokestatic 58, 3) := by decide +kernel
theorem dX0_applyToTwo_143 : decode cX0_applyToTwo 143 = .ok (.goto 73, 3) := by decide +kernel
theorem dX0_applyToTwo_146 : decode cX0_applyToTwo 146 = .ok (.aload_n 0, 1) := by decide +kernel
theorem dX0_applyToTwo_147 : decode cX0_applyToTwo 147 = .ok (.aload_n 2, 1) := by decide +kernel
theorem dX0_applyToTwo_148 : decode cX0_applyToTwo 148 = .ok (.aload_n 3, 1) := by decide +kernel
theorem dX0_applyToTwo_149 : decode cX0_applyToTwo 149 = .ok (.invokevirtual 54, 3) := by decide +kernel
theorem dX0_applyToTwo_152 : decode cX0_applyToTwo 152 = .ok (.istore 4, 2) := by decide +kernel
theorem dX0_applyToTwo_154 : decode cX0_applyToTwo 154 = .ok (.aload_n 0, 1) := by decide +kernel
theorem dX0_applyToTwo_155 : decode cX0_applyToTwo 155 = .ok (.aload_n 2, 1) := by decide +kernel
theorem dX0_applyToTwo_156 : decode cX0_applyToTwo 156 = .ok (.iload 4, 2) := by decide +kernel
theorem dX0_applyToTwo_158 : decode cX0_applyToTwo 158 = .ok (.invokevirtual 61, 3) := by decide +kernel
theorem dX0_applyToTwo_161 : decode cX0_applyToTwo 161 = .ok (.goto 55, 3) := by decide +kernel
theorem dX0_applyToTwo_164 : decode cX0_applyToTwo 164 = .ok (.aload_n 3, 1) := by decide +kernel
theorem dX0_applyToTwo_165 : decode cX0_applyToTwo 165 = .ok (.aload_n 0, 1) := by decide +kernel
theorem dX0_applyToTwo_166 : decode cX0_applyToTwo 166 = .ok (.getfield 9, 3) := by decide +kernel
theorem dX0_applyToTwo_169 : decode cX0_applyToTwo 169 = .ok (.invokestatic 58, 3) := by decide +kernel
theorem dX0_applyToTwo_172 : decode cX0_applyToTwo 172 = .ok (.aload_n 0, 1) := by decide +kernel
theorem dX0_applyToTwo_173 : decode cX0_applyToTwo 173 = .ok (.getfield 9, 3) := by decide +kernel
theorem dX0_applyToTwo_176 : decode cX0_applyToTwo 176 = .ok (.invokestatic 65, 3) := by decide +kernel
theorem dX0_applyToTwo_179 : decode cX0_applyToTwo 179 = .ok (.aload_n 2, 1) := by decide +kernel
theorem dX0_applyToTwo_180 : decode cX0_applyToTwo 180 = .ok (.aload_n 0, 1) := by decide +kernel
theorem dX0_applyToTwo_181 : decode cX0_applyToTwo 181 = .ok (.getfield 9, 3) := by decide +kernel
theorem dX0_applyToTwo_184 : decode cX0_applyToTwo 184 = .ok (.invokestatic 44, 3) := by decide +kernel
theorem dX0_applyToTwo_187 : decode cX0_applyToTwo 187 = .ok (.goto 29, 3) := by decide +kernel
theorem dX0_applyToTwo_190 : decode cX0_applyToTwo 190 = .ok (.aload_n 3, 1) := by decide +kernel
theorem dX0_applyToTwo_191 : decode cX0_applyToTwo 191 = .ok (.aload_n 0, 1) := by decide +kernel
theorem dX0_applyToTwo_192 : decode cX0_applyToTwo 192 = .ok (.getfield 9, 3) := by decide +kernel
theorem dX0_applyToTwo_195 : decode cX0_applyToTwo 195 = .ok (.invokestatic 58, 3) := by decide +kernel
theorem dX0_applyToTwo_198 : decode cX0_applyToTwo 198 = .ok (.aload_n 0, 1) := by decide +kernel
theorem dX0_applyToTwo_199 : decode cX0_applyToTwo 199 = .ok (.getfield 9, 3) := by decide +kernel
theorem dX0_applyToTwo_202 : decode cX0_applyToTwo 202 = .ok (.invokestatic 35, 3) := by decide +kernel
theorem dX0_applyToTwo_205 : decode cX0_applyToTwo 205 = .ok (.aload_n 2, 1) := by decide +kernel
theorem dX0_applyToTwo_206 : decode cX0_applyToTwo 206 = .ok (.aload_n 0, 1) := by decide +kernel
theorem dX0_applyToTwo_207 : decode cX0_applyToTwo 207 = .ok (.getfield 9, 3) := by decide +kernel
theorem dX0_applyToTwo_210 : decode cX0_applyToTwo 210 = .ok (.invokestatic 44, 3) := by decide +kernel
theorem dX0_applyToTwo_213 : decode cX0_applyToTwo 213 = .ok (.goto 3, 3) := by decide +kernel
theorem dX0_applyToTwo_216 : decode cX0_applyToTwo 216 = .ok (.return_, 1) := by decide +kernel
theorem dX0_addAll_0 : decode cX0_addAll 0 = .ok (.iconst 0, 1) := by decide +kernel
theorem dX0_addAll_1 : decode cX0_addAll 1 = .ok (.istore_n 2, 1) := by decide +kernel
theorem dX0_addAll_2 : decode cX0_addAll 2 = .ok (.iload_n 2, 1) := by decide +kernel
theorem dX0_addAll_3 : decode cX0_addAll 3 = .ok (.bipush 64, 2) := by decide +kernel
theorem dX0_addAll_5 : decode cX0_addAll 5 = .ok (.if_icmp .ge 18, 3) := by decide +kernel
theorem dX0_addAll_8 : decode cX0_addAll 8 = .ok (.aload_n 0, 1) := by decide +kernel
theorem dX0_addAll_9 : decode cX0_addAll 9 = .ok (.iload_n 2, 1) := by decide +kernel
theorem dX0_addAll_10 : decode cX0_addAll 10 = .ok (.dup2, 1) := by decide +kernel
theorem dX0_addAll_11 : decode cX0_addAll 11 = .ok (.laload, 1) := by decide +kernel
theorem dX0_addAll_12 : decode cX0_addAll 12 = .ok (.aload_n 1, 1) := by decide +kernel
theorem dX0_addAll_13 : decode cX0_addAll 13 = .ok (.iload_n 2, 1) := by decide +kernel
theorem dX0_addAll_14 : decode cX0_addAll 14 = .ok (.laload, 1) := by decide +kernel
theorem dX0_addAll_15 : decode cX0_addAll 15 = .ok (.lor, 1) := by decide +kernel
theorem dX0_addAll_16 : decode cX0_addAll 16 = .ok (.lastore, 1) := by decide +kernel
theorem dX0_addAll_17 : decode cX0_addAll 17 = .ok (.iinc 2 1, 3) := by decide +kernel
theorem dX0_addAll_20 : decode cX0_addAll 20 = .ok (.goto (-18), 3) := by decide +kernel
theorem dX0_addAll_23 : decode cX0_addAll 23 = .ok (.return_, 1) := by decide +kernel
theorem dX0_keepAll_0 : decode cX0_keepAll 0 = .ok (.iconst 0, 1) := by decide +kernel
theorem dX0_keepAll_1 : decode cX0_keepAll 1 = .ok (.istore_n 2, 1) := by decide +kernel
theorem dX0_keepAll_2 : decode cX0_keepAll 2 = .ok (.iload_n 2, 1) := by decide +kernel
theorem dX0_keepAll_3 : decode cX0_keepAll 3 = .ok (.bipush 64, 2) := by decide +kernel
theorem dX0_keepAll_5 : decode cX0_keepAll 5 = .ok (.if_icmp .ge 18, 3) := by decide +kernel
theorem dX0_keepAll_8 : decode cX0_keepAll 8 = .ok (.aload_n 0, 1) := by decide +kernel
theorem dX0_keepAll_9 : decode cX0_keepAll 9 = .ok (.iload_n 2, 1) := by decide +kernel
theorem dX0_keepAll_10 : decode cX0_keepAll 10 = .ok (.dup2, 1) := by decide +kernel
theorem dX0_keepAll_11 : decode cX0_keepAll 11 = .ok (.laload, 1) := by decide +kernel
theorem dX0_keepAll_12 : decode cX0_keepAll 12 = .ok (.aload_n 1, 1) := by decide +kernel
theorem dX0_keepAll_13 : decode cX0_keepAll 13 = .ok (.iload_n 2, 1) := by decide +kernel
theorem dX0_keepAll_14 : decode cX0_keepAll 14 = .ok (.laload, 1) := by decide +kernel
theorem dX0_keepAll_15 : decode cX0_keepAll 15 = .ok (.land, 1) := by decide +kernel
theorem dX0_keepAll_16 : decode cX0_keepAll 16 = .ok (.lastore, 1) := by decide +kernel
theorem dX0_keepAll_17 : decode cX0_keepAll 17 = .ok (.iinc 2 1, 3) := by decide +kernel
theorem dX0_keepAll_20 : decode cX0_keepAll 20 = .ok (.goto (-18), 3) := by decide +kernel
theorem dX0_keepAll_23 : decode cX0_keepAll 23 = .ok (.return_, 1) := by decide +kernel
theorem dX0_removeAll_0 : decode cX0_removeAll 0 = .ok (.iconst 0, 1) := by decide +kernel
theorem dX0_removeAll_1 : decode cX0_removeAll 1 = .ok (.istore_n 2, 1) := by decide +kernel
theorem dX0_removeAll_2 : decode cX0_removeAll 2 = .ok (.iload_n 2, 1) := by decide +kernel
theorem dX0_removeAll_3 : decode cX0_removeAll 3 = .ok (.bipush 64, 2) := by decide +kernel
theorem dX0_removeAll_5 : decode cX0_removeAll 5 = .ok (.if_icmp .ge 22, 3) := by decide +kernel
theorem dX0_removeAll_8 : decode cX0_removeAll 8 = .ok (.aload_n 0, 1) := by decide +kernel
theorem dX0_removeAll_9 : decode cX0_removeAll 9 = .ok (.iload_n 2, 1) := by decide +kernel
theorem dX0_removeAll_10 : decode cX0_removeAll 10 = .ok (.dup2, 1) := by decide +kernel
theorem dX0_removeAll_11 : decode cX0_removeAll 11 = .ok (.laload, 1) := by decide +kernel
theorem dX0_removeAll_12 : decode cX0_removeAll 12 = .ok (.aload_n 1, 1) := by decide +kernel
theorem dX0_removeAll_13 : decode cX0_removeAll 13 = .ok (.iload_n 2, 1) := by decide +kernel
theorem dX0_removeAll_14 : decode cX0_removeAll 14 = .ok (.laload, 1) := by decide +kernel
theorem dX0_removeAll_15 : decode cX0_removeAll 15 = .ok (.ldc2_w 68, 3) := by decide +kernel
theorem dX0_removeAll_18 : decode cX0_removeAll 18 = .ok (.lxor, 1) := by decide +kernel
theorem dX0_removeAll_19 : decode cX0_removeAll 19 = .ok (.land, 1) := by decide +kernel
theorem dX0_removeAll_20 : decode cX0_removeAll 20 = .ok (.lastore, 1) := by decide +kernel
theorem dX0_removeAll_21 : decode cX0_removeAll 21 = .ok (.iinc 2 1, 3) := by decide +kernel
theorem dX0_removeAll_24 : decode cX0_removeAll 24 = .ok (.goto (-22), 3) := by decide +kernel
theorem dX0_removeAll_27 : decode cX0_removeAll 27 = .ok (.return_, 1) := by decide +kernel
theorem dX0_keepMaximal_0 : decode cX0_keepMaximal 0 = .ok (.aload_n 1, 1) := by decide +kernel
theorem dX0_keepMaximal_1 : decode cX0_keepMaximal 1 = .ok (.aload_n 0, 1) := by decide +kernel
theorem dX0_keepMaximal_2 : decode cX0_keepMaximal 2 = .ok (.getfield 9, 3) := by decide +kernel
theorem dX0_keepMaximal_5 : decode cX0_keepMaximal 5 = .ok (.invokestatic 58, 3) := by decide +kernel
theorem dX0_keepMaximal_8 : decode cX0_keepMaximal 8 = .ok (.aload_n 0, 1) := by decide +kernel
theorem dX0_keepMaximal_9 : decode cX0_keepMaximal 9 = .ok (.getfield 9, 3) := by decide +kernel
theorem dX0_keepMaximal_12 : decode cX0_keepMaximal 12 = .ok (.invokestatic 35, 3) := by decide +kernel
theorem dX0_keepMaximal_15 : decode cX0_keepMaximal 15 = .ok (.aload_n 0, 1) := by decide +kernel
theorem dX0_keepMaximal_16 : decode cX0_keepMaximal 16 = .ok (.getfield 15, 3) := by decide +kernel
theorem dX0_keepMaximal_19 : decode cX0_keepMaximal 19 = .ok (.lconst 0, 1) := by decide +kernel
theorem dX0_keepMaximal_20 : decode cX0_keepMaximal 20 = .ok (.invokestatic 70, 3) := by decide +kernel
theorem dX0_keepMaximal_23 : decode cX0_keepMaximal 23 = .ok (.iconst 0, 1) := by decide +kernel
theorem dX0_keepMaximal_24 : decode cX0_keepMaximal 24 = .ok (.istore_n 2, 1) := by decide +kernel
theorem dX0_keepMaximal_25 : decode cX0_keepMaximal 25 = .ok (.iload_n 2, 1) := by decide +kernel
theorem dX0_keepMaximal_26 : decode cX0_keepMaximal 26 = .ok (.bipush 12, 2) := by decide +kernel
theorem dX0_keepMaximal_28 : decode cX0_keepMaximal 28 = .ok (.if_icmp .ge 21, 3) := by decide +kernel
theorem dX0_keepMaximal_31 : decode cX0_keepMaximal 31 = .ok (.aload_n 0, 1) := by decide +kernel
theorem dX0_keepMaximal_32 : decode cX0_keepMaximal 32 = .ok (.getfield 9, 3) := by decide +kernel
theorem dX0_keepMaximal_35 : decode cX0_keepMaximal 35 = .ok (.aload_n 0, 1) := by decide +kernel
theorem dX0_keepMaximal_36 : decode cX0_keepMaximal 36 = .ok (.getfield 15, 3) := by decide +kernel
theorem dX0_keepMaximal_39 : decode cX0_keepMaximal 39 = .ok (.iload_n 2, 1) := by decide +kernel
theorem dX0_keepMaximal_40 : decode cX0_keepMaximal 40 = .ok (.invokestatic 76, 3) := by decide +kernel
theorem dX0_keepMaximal_43 : decode cX0_keepMaximal 43 = .ok (.iinc 2 1, 3) := by decide +kernel
theorem dX0_keepMaximal_46 : decode cX0_keepMaximal 46 = .ok (.goto (-21), 3) := by decide +kernel
theorem dX0_keepMaximal_49 : decode cX0_keepMaximal 49 = .ok (.aload_n 1, 1) := by decide +kernel
theorem dX0_keepMaximal_50 : decode cX0_keepMaximal 50 = .ok (.aload_n 0, 1) := by decide +kernel
theorem dX0_keepMaximal_51 : decode cX0_keepMaximal 51 = .ok (.getfield 15, 3) := by decide +kernel
theorem dX0_keepMaximal_54 : decode cX0_keepMaximal 54 = .ok (.invokestatic 47, 3) := by decide +kernel
theorem dX0_keepMaximal_57 : decode cX0_keepMaximal 57 = .ok (.return_, 1) := by decide +kernel
theorem dX0_keepMinimal_0 : decode cX0_keepMinimal 0 = .ok (.aload_n 1, 1) := by decide +kernel
theorem dX0_keepMinimal_1 : decode cX0_keepMinimal 1 = .ok (.aload_n 0, 1) := by decide +kernel
theorem dX0_keepMinimal_2 : decode cX0_keepMinimal 2 = .ok (.getfield 9, 3) := by decide +kernel
theorem dX0_keepMinimal_5 : decode cX0_keepMinimal 5 = .ok (.invokestatic 58, 3) := by decide +kernel
theorem dX0_keepMinimal_8 : decode cX0_keepMinimal 8 = .ok (.aload_n 0, 1) := by decide +kernel
theorem dX0_keepMinimal_9 : decode cX0_keepMinimal 9 = .ok (.getfield 9, 3) := by decide +kernel
theorem dX0_keepMinimal_12 : decode cX0_keepMinimal 12 = .ok (.invokestatic 65, 3) := by decide +kernel
theorem dX0_keepMinimal_15 : decode cX0_keepMinimal 15 = .ok (.aload_n 0, 1) := by decide +kernel
theorem dX0_keepMinimal_16 : decode cX0_keepMinimal 16 = .ok (.getfield 15, 3) := by decide +kernel
theorem dX0_keepMinimal_19 : decode cX0_keepMinimal 19 = .ok (.lconst 0, 1) := by decide +kernel
theorem dX0_keepMinimal_20 : decode cX0_keepMinimal 20 = .ok (.invokestatic 70, 3) := by decide +kernel
theorem dX0_keepMinimal_23 : decode cX0_keepMinimal 23 = .ok (.iconst 0, 1) := by decide +kernel
theorem dX0_keepMinimal_24 : decode cX0_keepMinimal 24 = .ok (.istore_n 2, 1) := by decide +kernel
theorem dX0_keepMinimal_25 : decode cX0_keepMinimal 25 = .ok (.iload_n 2, 1) := by decide +kernel
theorem dX0_keepMinimal_26 : decode cX0_keepMinimal 26 = .ok (.bipush 12, 2) := by decide +kernel
theorem dX0_keepMinimal_28 : decode cX0_keepMinimal 28 = .ok (.if_icmp .ge 21, 3) := by decide +kernel
theorem dX0_keepMinimal_31 : decode cX0_keepMinimal 31 = .ok (.aload_n 0, 1) := by decide +kernel
theorem dX0_keepMinimal_32 : decode cX0_keepMinimal 32 = .ok (.getfield 9, 3) := by decide +kernel
theorem dX0_keepMinimal_35 : decode cX0_keepMinimal 35 = .ok (.aload_n 0, 1) := by decide +kernel
theorem dX0_keepMinimal_36 : decode cX0_keepMinimal 36 = .ok (.getfield 15, 3) := by decide +kernel
theorem dX0_keepMinimal_39 : decode cX0_keepMinimal 39 = .ok (.iload_n 2, 1) := by decide +kernel
theorem dX0_keepMinimal_40 : decode cX0_keepMinimal 40 = .ok (.invokestatic 80, 3) := by decide +kernel
theorem dX0_keepMinimal_43 : decode cX0_keepMinimal 43 = .ok (.iinc 2 1, 3) := by decide +kernel
theorem dX0_keepMinimal_46 : decode cX0_keepMinimal 46 = .ok (.goto (-21), 3) := by decide +kernel
theorem dX0_keepMinimal_49 : decode cX0_keepMinimal 49 = .ok (.aload_n 1, 1) := by decide +kernel
theorem dX0_keepMinimal_50 : decode cX0_keepMinimal 50 = .ok (.aload_n 0, 1) := by decide +kernel
theorem dX0_keepMinimal_51 : decode cX0_keepMinimal 51 = .ok (.getfield 15, 3) := by decide +kernel
theorem dX0_keepMinimal_54 : decode cX0_keepMinimal 54 = .ok (.invokestatic 47, 3) := by decide +kernel
theorem dX0_keepMinimal_57 : decode cX0_keepMinimal 57 = .ok (.return_, 1) := by decide +kernel
theorem dX0_hit_0 : decode cX0_hit 0 = .ok (.aload_n 1, 1) := by decide +kernel
theorem dX0_hit_1 : decode cX0_hit 1 = .ok (.invokestatic 65, 3) := by decide +kernel
theorem dX0_hit_4 : decode cX0_hit 4 = .ok (.iconst 0, 1) := by decide +kernel
theorem dX0_hit_5 : decode cX0_hit 5 = .ok (.istore_n 2, 1) := by decide +kernel
theorem dX0_hit_6 : decode cX0_hit 6 = .ok (.iload_n 2, 1) := by decide +kernel
theorem dX0_hit_7 : decode cX0_hit 7 = .ok (.bipush 12, 2) := by decide +kernel
theorem dX0_hit_9 : decode cX0_hit 9 = .ok (.if_icmp .ge 14, 3) := by decide +kernel
theorem dX0_hit_12 : decode cX0_hit 12 = .ok (.aload_n 1, 1) := by decide +kernel
theorem dX0_hit_13 : decode cX0_hit 13 = .ok (.iload_n 2, 1) := by decide +kernel
theorem dX0_hit_14 : decode cX0_hit 14 = .ok (.invokestatic 83, 3) := by decide +kernel
theorem dX0_hit_17 : decode cX0_hit 17 = .ok (.iinc 2 1, 3) := by decide +kernel
theorem dX0_hit_20 : decode cX0_hit 20 = .ok (.goto (-14), 3) := by decide +kernel
theorem dX0_hit_23 : decode cX0_hit 23 = .ok (.iconst 0, 1) := by decide +kernel
theorem dX0_hit_24 : decode cX0_hit 24 = .ok (.istore_n 2, 1) := by decide +kernel
theorem dX0_hit_25 : decode cX0_hit 25 = .ok (.iload_n 2, 1) := by decide +kernel
theorem dX0_hit_26 : decode cX0_hit 26 = .ok (.bipush 64, 2) := by decide +kernel
theorem dX0_hit_28 : decode cX0_hit 28 = .ok (.if_icmp .ge 19, 3) := by decide +kernel
theorem dX0_hit_31 : decode cX0_hit 31 = .ok (.aload_n 1, 1) := by decide +kernel
theorem dX0_hit_32 : decode cX0_hit 32 = .ok (.iload_n 2, 1) := by decide +kernel
theorem dX0_hit_33 : decode cX0_hit 33 = .ok (.aload_n 1, 1) := by decide +kernel
theorem dX0_hit_34 : decode cX0_hit 34 = .ok (.iload_n 2, 1) := by decide +kernel
theorem dX0_hit_35 : decode cX0_hit 35 = .ok (.laload, 1) := by decide +kernel
theorem dX0_hit_36 : decode cX0_hit 36 = .ok (.ldc2_w 68, 3) := by decide +kernel
theorem dX0_hit_39 : decode cX0_hit 39 = .ok (.lxor, 1) := by decide +kernel
theorem dX0_hit_40 : decode cX0_hit 40 = .ok (.lastore, 1) := by decide +kernel
theorem dX0_hit_41 : decode cX0_hit 41 = .ok (.iinc 2 1, 3) := by decide +kernel
theorem dX0_hit_44 : decode cX0_hit 44 = .ok (.goto (-19), 3) := by decide +kernel
theorem dX0_hit_47 : decode cX0_hit 47 = .ok (.aload_n 0, 1) := by decide +kernel
theorem dX0_hit_48 : decode cX0_hit 48 = .ok (.aload_n 1, 1) := by decide +kernel
theorem dX0_hit_49 : decode cX0_hit 49 = .ok (.invokevirtual 29, 3) := by decide +kernel
theorem dX0_hit_52 : decode cX0_hit 52 = .ok (.return_, 1) := by decide +kernel
theorem dX0_pair_0 : decode cX0_pair 0 = .ok (.aload_n 1, 1) := by decide +kernel
theorem dX0_pair_1 : decode cX0_pair 1 = .ok (.aload_n 0, 1) := by decide +kernel
theorem dX0_pair_2 : decode cX0_pair 2 = .ok (.getfield 18, 3) := by decide +kernel
theorem dX0_pair_5 : decode cX0_pair 5 = .ok (.invokestatic 86, 3) := by decide +kernel
theorem dX0_pair_8 : decode cX0_pair 8 = .ok (.istore 4, 2) := by decide +kernel
theorem dX0_pair_10 : decode cX0_pair 10 = .ok (.aload_n 2, 1) := by decide +kernel
theorem dX0_pair_11 : decode cX0_pair 11 = .ok (.aload_n 0, 1) := by decide +kernel
theorem dX0_pair_12 : decode cX0_pair 12 = .ok (.getfield 22, 3) := by decide +kernel
theorem dX0_pair_15 : decode cX0_pair 15 = .ok (.invokestatic 86, 3) := by decide +kernel
theorem dX0_pair_18 : decode cX0_pair 18 = .ok (.istore 5, 2) := by decide +kernel
theorem dX0_pair_20 : decode cX0_pair 20 = .ok (.iload 4, 2) := by decide +kernel
theorem dX0_pair_22 : decode cX0_pair 22 = .ok (.iload 5, 2) := by decide +kernel
theorem dX0_pair_24 : decode cX0_pair 24 = .ok (.imul, 1) := by decide +kernel
theorem dX0_pair_25 : decode cX0_pair 25 = .ok (.ldc 90, 2) := by decide +kernel
theorem dX0_pair_27 : decode cX0_pair 27 = .ok (.if_icmp .le 11, 3) := by decide +kernel
theorem dX0_pair_30 : decode cX0_pair 30 = .ok (.aload_n 0, 1) := by decide +kernel
theorem dX0_pair_31 : decode cX0_pair 31 = .ok (.aload_n 1, 1) := by decide +kernel
theorem dX0_pair_32 : decode cX0_pair 32 = .ok (.aload_n 2, 1) := by decide +kernel
theorem dX0_pair_33 : decode cX0_pair 33 = .ok (.iload_n 3, 1) := by decide +kernel
theorem dX0_pair_34 : decode cX0_pair 34 = .ok (.invokevirtual 91, 3) := by decide +kernel
theorem dX0_pair_37 : decode cX0_pair 37 = .ok (.return_, 1) := by decide +kernel
theorem dX0_pair_38 : decode cX0_pair 38 = .ok (.aload_n 1, 1) := by decide +kernel
theorem dX0_pair_39 : decode cX0_pair 39 = .ok (.lconst 0, 1) := by decide +kernel
theorem dX0_pair_40 : decode cX0_pair 40 = .ok (.invokestatic 70, 3) := by decide +kernel
theorem dX0_pair_43 : decode cX0_pair 43 = .ok (.iconst 0, 1) := by decide +kernel
theorem dX0_pair_44 : decode cX0_pair 44 = .ok (.istore 6, 2) := by decide +kernel
theorem dX0_pair_46 : decode cX0_pair 46 = .ok (.iload 6, 2) := by decide +kernel
theorem dX0_pair_48 : decode cX0_pair 48 = .ok (.iload 4, 2) := by decide +kernel
theorem dX0_pair_50 : decode cX0_pair 50 = .ok (.if_icmp .ge 82, 3) := by decide +kernel
theorem dX0_pair_53 : decode cX0_pair 53 = .ok (.iload 6, 2) := by decide +kernel
theorem dX0_pair_55 : decode cX0_pair 55 = .ok (.sipush 4096, 3) := by decide +kernel
theorem dX0_pair_58 : decode cX0_pair 58 = .ok (.if_icmp .ge 74, 3) := by decide +kernel
theorem dX0_pair_61 : decode cX0_pair 61 = .ok (.iconst 0, 1) := by decide +kernel
theorem dX0_pair_62 : decode cX0_pair 62 = .ok (.istore 7, 2) := by decide +kernel
theorem dX0_pair_64 : decode cX0_pair 64 = .ok (.iload 7, 2) := by decide +kernel
theorem dX0_pair_66 : decode cX0_pair 66 = .ok (.iload 5, 2) := by decide +kernel
theorem dX0_pair_68 : decode cX0_pair 68 = .ok (.if_icmp .ge 58, 3) := by decide +kernel
theorem dX0_pair_71 : decode cX0_pair 71 = .ok (.iload 7, 2) := by decide +kernel
theorem dX0_pair_73 : decode cX0_pair 73 = .ok (.sipush 4096, 3) := by decide +kernel
theorem dX0_pair_76 : decode cX0_pair 76 = .ok (.if_icmp .ge 50, 3) := by decide +kernel
theorem dX0_pair_79 : decode cX0_pair 79 = .ok (.aload_n 1, 1) := by decide +kernel
theorem dX0_pair_80 : decode cX0_pair 80 = .ok (.iload_n 3, 1) := by decide +kernel
theorem dX0_pair_81 : decode cX0_pair 81 = .ok (.ifCond .eq 21, 3) := by decide +kernel
theorem dX0_pair_84 : decode cX0_pair 84 = .ok (.aload_n 0, 1) := by decide +kernel
theorem dX0_pair_85 : decode cX0_pair 85 = .ok (.getfield 18, 3) := by decide +kernel
theorem dX0_pair_88 : decode cX0_pair 88 = .ok (.iload 6, 2) := by decide +kernel
theorem dX0_pair_90 : decode cX0_pair 90 = .ok (.iaload, 1) := by decide +kernel
theorem dX0_pair_91 : decode cX0_pair 91 = .ok (.aload_n 0, 1) := by decide +kernel
theorem dX0_pair_92 : decode cX0_pair 92 = .ok (.getfield 22, 3) := by decide +kernel
theorem dX0_pair_95 : decode cX0_pair 95 = .ok (.iload 7, 2) := by decide +kernel
theorem dX0_pair_97 : decode cX0_pair 97 = .ok (.iaload, 1) := by decide +kernel
theorem dX0_pair_98 : decode cX0_pair 98 = .ok (.iand, 1) := by decide +kernel
theorem dX0_pair_99 : decode cX0_pair 99 = .ok (.goto 18, 3) := by decide +kernel
theorem dX0_pair_102 : decode cX0_pair 102 = .ok (.aload_n 0, 1) := by decide +kernel
theorem dX0_pair_103 : decode cX0_pair 103 = .ok (.getfield 18, 3) := by decide +kernel
theorem dX0_pair_106 : decode cX0_pair 106 = .ok (.iload 6, 2) := by decide +kernel
theorem dX0_pair_108 : decode cX0_pair 108 = .ok (.iaload, 1) := by decide +kernel
theorem dX0_pair_109 : decode cX0_pair 109 = .ok (.aload_n 0, 1) := by decide +kernel
theorem dX0_pair_110 : decode cX0_pair 110 = .ok (.getfield 22, 3) := by decide +kernel
theorem dX0_pair_113 : decode cX0_pair 113 = .ok (.iload 7, 2) := by decide +kernel
theorem dX0_pair_115 : decode cX0_pair 115 = .ok (.iaload, 1) := by decide +kernel
theorem dX0_pair_116 : decode cX0_pair 116 = .ok (.ior, 1) := by decide +kernel
theorem dX0_pair_117 : decode cX0_pair 117 = .ok (.invokestatic 94, 3) := by decide +kernel
theorem dX0_pair_120 : decode cX0_pair 120 = .ok (.iinc 7 1, 3) := by decide +kernel
theorem dX0_pair_123 : decode cX0_pair 123 = .ok (.goto (-59), 3) := by decide +kernel
theorem dX0_pair_126 : decode cX0_pair 126 = .ok (.iinc 6 1, 3) := by decide +kernel
theorem dX0_pair_129 : decode cX0_pair 129 = .ok (.goto (-83), 3) := by decide +kernel
theorem dX0_pair_132 : decode cX0_pair 132 = .ok (.return_, 1) := by decide +kernel
theorem dX0_countPairs_0 : decode cX0_countPairs 0 = .ok (.aload_n 1, 1) := by decide +kernel
theorem dX0_countPairs_1 : decode cX0_countPairs 1 = .ok (.invokestatic 97, 3) := by decide +kernel
theorem dX0_countPairs_4 : decode cX0_countPairs 4 = .ok (.aload_n 2, 1) := by decide +kernel
theorem dX0_countPairs_5 : decode cX0_countPairs 5 = .ok (.invokestatic 97, 3) := by decide +kernel
theorem dX0_countPairs_8 : decode cX0_countPairs 8 = .ok (.invokestatic 101, 3) := by decide +kernel
theorem dX0_countPairs_11 : decode cX0_countPairs 11 = .ok (.istore 4, 2) := by decide +kernel
theorem dX0_countPairs_13 : decode cX0_countPairs 13 = .ok (.iload_n 3, 1) := by decide +kernel
theorem dX0_countPairs_14 : decode cX0_countPairs 14 = .ok (.ifCond .eq 10, 3) := by decide +kernel
theorem dX0_countPairs_17 : decode cX0_countPairs 17 = .ok (.iload 4, 2) := by decide +kernel
theorem dX0_countPairs_19 : decode cX0_countPairs 19 = .ok (.iconst 1, 1) := by decide +kernel
theorem dX0_countPairs_20 : decode cX0_countPairs 20 = .ok (.isub, 1) := by decide +kernel
theorem dX0_countPairs_21 : decode cX0_countPairs 21 = .ok (.goto 4, 3) := by decide +kernel
theorem dX0_countPairs_24 : decode cX0_countPairs 24 = .ok (.iconst 0, 1) := by decide +kernel
theorem dX0_countPairs_25 : decode cX0_countPairs 25 = .ok (.istore 5, 2) := by decide +kernel
theorem dX0_countPairs_27 : decode cX0_countPairs 27 = .ok (.aload_n 1, 1) := by decide +kernel
theorem dX0_countPairs_28 : decode cX0_countPairs 28 = .ok (.aload_n 0, 1) := by decide +kernel
theorem dX0_countPairs_29 : decode cX0_countPairs 29 = .ok (.getfield 18, 3) := by decide +kernel
theorem dX0_countPairs_32 : decode cX0_countPairs 32 = .ok (.iload 4, 2) := by decide +kernel
theorem dX0_countPairs_34 : decode cX0_countPairs 34 = .ok (.iload 5, 2) := by decide +kernel
theorem dX0_countPairs_36 : decode cX0_countPairs 36 = .ok (.invokestatic 107, 3) := by decide +kernel
theorem dX0_countPairs_39 : decode cX0_countPairs 39 = .ok (.aload_n 2, 1) := by decide +kernel
theorem dX0_countPairs_40 : decode cX0_countPairs 40 = .ok (.aload_n 0, 1) := by decide +kernel
theorem dX0_countPairs_41 : decode cX0_countPairs 41 = .ok (.getfield 22, 3) := by decide +kernel
theorem dX0_countPairs_44 : decode cX0_countPairs 44 = .ok (.iload 4, 2) := by decide +kernel
theorem dX0_countPairs_46 : decode cX0_countPairs 46 = .ok (.iload 5, 2) := by decide +kernel
theorem dX0_countPairs_48 : decode cX0_countPairs 48 = .ok (.invokestatic 107, 3) := by decide +kernel
theorem dX0_countPairs_51 : decode cX0_countPairs 51 = .ok (.aload_n 0, 1) := by decide +kernel
theorem dX0_countPairs_52 : decode cX0_countPairs 52 = .ok (.getfield 18, 3) := by decide +kernel
theorem dX0_countPairs_55 : decode cX0_countPairs 55 = .ok (.iload 4, 2) := by decide +kernel
theorem dX0_countPairs_57 : decode cX0_countPairs 57 = .ok (.iconst 1, 1) := by decide +kernel
theorem dX0_countPairs_58 : decode cX0_countPairs 58 = .ok (.invokestatic 111, 3) := by decide +kernel
theorem dX0_countPairs_61 : decode cX0_countPairs 61 = .ok (.aload_n 0, 1) := by decide +kernel
theorem dX0_countPairs_62 : decode cX0_countPairs 62 = .ok (.getfield 22, 3) := by decide +kernel
theorem dX0_countPairs_65 : decode cX0_countPairs 65 = .ok (.iload 4, 2) := by decide +kernel
theorem dX0_countPairs_67 : decode cX0_countPairs 67 = .ok (.iconst 1, 1) := by decide +kernel
theorem dX0_countPairs_68 : decode cX0_countPairs 68 = .ok (.invokestatic 111, 3) := by decide +kernel
theorem dX0_countPairs_71 : decode cX0_countPairs 71 = .ok (.iconst 0, 1) := by decide +kernel
theorem dX0_countPairs_72 : decode cX0_countPairs 72 = .ok (.istore 6, 2) := by decide +kernel
theorem dX0_countPairs_74 : decode cX0_countPairs 74 = .ok (.iload 6, 2) := by decide +kernel
theorem dX0_countPairs_76 : decode cX0_countPairs 76 = .ok (.iload 4, 2) := by decide +kernel
theorem dX0_countPairs_78 : decode cX0_countPairs 78 = .ok (.if_icmp .ge 34, 3) := by decide +kernel
theorem dX0_countPairs_81 : decode cX0_countPairs 81 = .ok (.iload 6, 2) := by decide +kernel
theorem dX0_countPairs_83 : decode cX0_countPairs 83 = .ok (.sipush 4096, 3) := by decide +kernel
theorem dX0_countPairs_86 : decode cX0_countPairs 86 = .ok (.if_icmp .ge 26, 3) := by decide +kernel
theorem dX0_countPairs_89 : decode cX0_countPairs 89 = .ok (.aload_n 0, 1) := by decide +kernel
theorem dX0_countPairs_90 : decode cX0_countPairs 90 = .ok (.getfield 18, 3) := by decide +kernel
theorem dX0_countPairs_93 : decode cX0_countPairs 93 = .ok (.iload 6, 2) := by decide +kernel
theorem dX0_countPairs_95 : decode cX0_countPairs 95 = .ok (.dup2, 1) := by decide +kernel
theorem dX0_countPairs_96 : decode cX0_countPairs 96 = .ok (.iaload, 1) := by decide +kernel
theorem dX0_countPairs_97 : decode cX0_countPairs 97 = .ok (.aload_n 0, 1) := by decide +kernel
theorem dX0_countPairs_98 : decode cX0_countPairs 98 = .ok (.getfield 22, 3) := by decide +kernel
theorem dX0_countPairs_101 : decode cX0_countPairs 101 = .ok (.iload 6, 2) := by decide +kernel
theorem dX0_countPairs_103 : decode cX0_countPairs 103 = .ok (.iaload, 1) := by decide +kernel
theorem dX0_countPairs_104 : decode cX0_countPairs 104 = .ok (.imul, 1) := by decide +kernel
theorem dX0_countPairs_105 : decode cX0_countPairs 105 = .ok (.iastore, 1) := by decide +kernel
theorem dX0_countPairs_106 : decode cX0_countPairs 106 = .ok (.iinc 6 1, 3) := by decide +kernel
theorem dX0_countPairs_109 : decode cX0_countPairs 109 = .ok (.goto (-35), 3) := by decide +kernel
theorem dX0_countPairs_112 : decode cX0_countPairs 112 = .ok (.aload_n 0, 1) := by decide +kernel
theorem dX0_countPairs_113 : decode cX0_countPairs 113 = .ok (.getfield 18, 3) := by decide +kernel
theorem dX0_countPairs_116 : decode cX0_countPairs 116 = .ok (.iload 4, 2) := by decide +kernel
theorem dX0_countPairs_118 : decode cX0_countPairs 118 = .ok (.iconst (-1), 1) := by decide +kernel
theorem dX0_countPairs_119 : decode cX0_countPairs 119 = .ok (.invokestatic 111, 3) := by decide +kernel
theorem dX0_countPairs_122 : decode cX0_countPairs 122 = .ok (.aload_n 1, 1) := by decide +kernel
theorem dX0_countPairs_123 : decode cX0_countPairs 123 = .ok (.lconst 0, 1) := by decide +kernel
theorem dX0_countPairs_124 : decode cX0_countPairs 124 = .ok (.invokestatic 70, 3) := by decide +kernel
theorem dX0_countPairs_127 : decode cX0_countPairs 127 = .ok (.iconst 0, 1) := by decide +kernel
theorem dX0_countPairs_128 : decode cX0_countPairs 128 = .ok (.istore 6, 2) := by decide +kernel
theorem dX0_countPairs_130 : decode cX0_countPairs 130 = .ok (.iload 6, 2) := by decide +kernel
theorem dX0_countPairs_132 : decode cX0_countPairs 132 = .ok (.iload 4, 2) := by decide +kernel
theorem dX0_countPairs_134 : decode cX0_countPairs 134 = .ok (.if_icmp .ge 36, 3) := by decide +kernel
theorem dX0_countPairs_137 : decode cX0_countPairs 137 = .ok (.iload 6, 2) := by decide +kernel
theorem dX0_countPairs_139 : decode cX0_countPairs 139 = .ok (.sipush 4096, 3) := by decide +kernel
theorem dX0_countPairs_142 : decode cX0_countPairs 142 = .ok (.if_icmp .ge 28, 3) := by decide +kernel
theorem dX0_countPairs_145 : decode cX0_countPairs 145 = .ok (.aload_n 0, 1) := by decide +kernel
theorem dX0_countPairs_146 : decode cX0_countPairs 146 = .ok (.getfield 18, 3) := by decide +kernel
theorem dX0_countPairs_149 : decode cX0_countPairs 149 = .ok (.iload 6, 2) := by decide +kernel
theorem dX0_countPairs_151 : decode cX0_countPairs 151 = .ok (.iaload, 1) := by decide +kernel
theorem dX0_countPairs_152 : decode cX0_countPairs 152 = .ok (.ifCond .eq 12, 3) := by decide +kernel
theorem dX0_countPairs_155 : decode cX0_countPairs 155 = .ok (.aload_n 1, 1) := by decide +kernel
theorem dX0_countPairs_156 : decode cX0_countPairs 156 = .ok (.iload 6, 2) := by decide +kernel
theorem dX0_countPairs_158 : decode cX0_countPairs 158 = .ok (.iload 5, 2) := by decide +kernel
theorem dX0_countPairs_160 : decode cX0_countPairs 160 = .ok (.ixor, 1) := by decide +kernel
theorem dX0_countPairs_161 : decode cX0_countPairs 161 = .ok (.invokestatic 94, 3) := by decide +kernel
theorem dX0_countPairs_164 : decode cX0_countPairs 164 = .ok (.iinc 6 1, 3) := by decide +kernel
theorem dX0_countPairs_167 : decode cX0_countPairs 167 = .ok (.goto (-37), 3) := by decide +kernel
theorem dX0_countPairs_170 : decode cX0_countPairs 170 = .ok (.return_, 1) := by decide +kernel
theorem dX0_spread_0 : decode cX0_spread 0 = .ok (.iconst 0, 1) := by decide +kernel
theorem dX0_spread_1 : decode cX0_spread 1 = .ok (.istore 4, 2) := by decide +kernel
theorem dX0_spread_3 : decode cX0_spread 3 = .ok (.iload 4, 2) := by decide +kernel
theorem dX0_spread_5 : decode cX0_spread 5 = .ok (.iload_n 2, 1) := by decide +kernel
theorem dX0_spread_6 : decode cX0_spread 6 = .ok (.if_icmp .ge 36, 3) := by decide +kernel
theorem dX0_spread_9 : decode cX0_spread 9 = .ok (.iload 4, 2) := by decide +kernel
theorem dX0_spread_11 : decode cX0_spread 11 = .ok (.aload_n 1, 1) := by decide +kernel
theorem dX0_spread_12 : decode cX0_spread 12 = .ok (.arraylength, 1) := by decide +kernel
theorem dX0_spread_13 : decode cX0_spread 13 = .ok (.if_icmp .ge 29, 3) := by decide +kernel
theorem dX0_spread_16 : decode cX0_spread 16 = .ok (.aload_n 1, 1) := by decide +kernel
theorem dX0_spread_17 : decode cX0_spread 17 = .ok (.iload 4, 2) := by decide +kernel
theorem dX0_spread_19 : decode cX0_spread 19 = .ok (.aload_n 0, 1) := by decide +kernel
theorem dX0_spread_20 : decode cX0_spread 20 = .ok (.iload 4, 2) := by decide +kernel
theorem dX0_spread_22 : decode cX0_spread 22 = .ok (.iload_n 3, 1) := by decide +kernel
theorem dX0_spread_23 : decode cX0_spread 23 = .ok (.ixor, 1) := by decide +kernel
theorem dX0_spread_24 : decode cX0_spread 24 = .ok (.invokestatic 115, 3) := by decide +kernel
theorem dX0_spread_27 : decode cX0_spread 27 = .ok (.ifCond .eq 7, 3) := by decide +kernel
theorem dX0_spread_30 : decode cX0_spread 30 = .ok (.iconst 1, 1) := by decide +kernel
theorem dX0_spread_31 : decode cX0_spread 31 = .ok (.goto 4, 3) := by decide +kernel
theorem dX0_spread_34 : decode cX0_spread 34 = .ok (.iconst 0, 1) := by decide +kernel
theorem dX0_spread_35 : decode cX0_spread 35 = .ok (.iastore, 1) := by decide +kernel
theorem dX0_spread_36 : decode cX0_spread 36 = .ok (.iinc 4 1, 3) := by decide +kernel
theorem dX0_spread_39 : decode cX0_spread 39 = .ok (.goto (-36), 3) := by decide +kernel
theorem dX0_spread_42 : decode cX0_spread 42 = .ok (.return_, 1) := by decide +kernel
theorem dX0_sumSubsets_0 : decode cX0_sumSubsets 0 = .ok (.iconst 1, 1) := by decide +kernel
theorem dX0_sumSubsets_1 : decode cX0_sumSubsets 1 = .ok (.istore_n 3, 1) := by decide +kernel
theorem dX0_sumSubsets_2 : decode cX0_sumSubsets 2 = .ok (.iload_n 3, 1) := by decide +kernel
theorem dX0_sumSubsets_3 : decode cX0_sumSubsets 3 = .ok (.iload_n 1, 1) := by decide +kernel
theorem dX0_sumSubsets_4 : decode cX0_sumSubsets 4 = .ok (.if_icmp .ge 54, 3) := by decide +kernel
theorem dX0_sumSubsets_7 : decode cX0_sumSubsets 7 = .ok (.iload_n 3, 1) := by decide +kernel
theorem dX0_sumSubsets_8 : decode cX0_sumSubsets 8 = .ok (.istore 4, 2) := by decide +kernel
theorem dX0_sumSubsets_10 : decode cX0_sumSubsets 10 = .ok (.iload 4, 2) := by decide +kernel
theorem dX0_sumSubsets_12 : decode cX0_sumSubsets 12 = .ok (.iload_n 1, 1) := by decide +kernel
theorem dX0_sumSubsets_13 : decode cX0_sumSubsets 13 = .ok (.if_icmp .ge 38, 3) := by decide +kernel
theorem dX0_sumSubsets_16 : decode cX0_sumSubsets 16 = .ok (.iload 4, 2) := by decide +kernel
theorem dX0_sumSubsets_18 : decode cX0_sumSubsets 18 = .ok (.aload_n 0, 1) := by decide +kernel
theorem dX0_sumSubsets_19 : decode cX0_sumSubsets 19 = .ok (.arraylength, 1) := by decide +kernel
theorem dX0_sumSubsets_20 : decode cX0_sumSubsets 20 = .ok (.if_icmp .ge 31, 3) := by decide +kernel
theorem dX0_sumSubsets_23 : decode cX0_sumSubsets 23 = .ok (.iload 4, 2) := by decide +kernel
theorem dX0_sumSubsets_25 : decode cX0_sumSubsets 25 = .ok (.iload_n 3, 1) := by decide +kernel
theorem dX0_sumSubsets_26 : decode cX0_sumSubsets 26 = .ok (.iand, 1) := by decide +kernel
theorem dX0_sumSubsets_27 : decode cX0_sumSubsets 27 = .ok (.ifCond .eq 18, 3) := by decide +kernel
theorem dX0_sumSubsets_30 : decode cX0_sumSubsets 30 = .ok (.aload_n 0, 1) := by decide +kernel
theorem dX0_sumSubsets_31 : decode cX0_sumSubsets 31 = .ok (.iload 4, 2) := by decide +kernel
theorem dX0_sumSubsets_33 : decode cX0_sumSubsets 33 = .ok (.dup2, 1) := by decide +kernel
theorem dX0_sumSubsets_34 : decode cX0_sumSubsets 34 = .ok (.iaload, 1) := by decide +kernel
theorem dX0_sumSubsets_35 : decode cX0_sumSubsets 35 = .ok (.iload_n 2, 1) := by decide +kernel
theorem dX0_sumSubsets_36 : decode cX0_sumSubsets 36 = .ok (.aload_n 0, 1) := by decide +kernel
theorem dX0_sumSubsets_37 : decode cX0_sumSubsets 37 = .ok (.iload 4, 2) := by decide +kernel
theorem dX0_sumSubsets_39 : decode cX0_sumSubsets 39 = .ok (.iload_n 3, 1) := by decide +kernel
theorem dX0_sumSubsets_40 : decode cX0_sumSubsets 40 = .ok (.isub, 1) := by decide +kernel
theorem dX0_sumSubsets_41 : decode cX0_sumSubsets 41 = .ok (.iaload, 1) := by decide +kernel
theorem dX0_sumSubsets_42 : decode cX0_sumSubsets 42 = .ok (.imul, 1) := by decide +kernel
theorem dX0_sumSubsets_43 : decode cX0_sumSubsets 43 = .ok (.iadd, 1) := by decide +kernel
theorem dX0_sumSubsets_44 : decode cX0_sumSubsets 44 = .ok (.iastore, 1) := by decide +kernel
theorem dX0_sumSubsets_45 : decode cX0_sumSubsets 45 = .ok (.iinc 4 1, 3) := by decide +kernel
theorem dX0_sumSubsets_48 : decode cX0_sumSubsets 48 = .ok (.goto (-38), 3) := by decide +kernel
theorem dX0_sumSubsets_51 : decode cX0_sumSubsets 51 = .ok (.iload_n 3, 1) := by decide +kernel
theorem dX0_sumSubsets_52 : decode cX0_sumSubsets 52 = .ok (.iconst 2, 1) := by decide +kernel
theorem dX0_sumSubsets_53 : decode cX0_sumSubsets 53 = .ok (.imul, 1) := by decide +kernel
theorem dX0_sumSubsets_54 : decode cX0_sumSubsets 54 = .ok (.istore_n 3, 1) := by decide +kernel
theorem dX0_sumSubsets_55 : decode cX0_sumSubsets 55 = .ok (.goto (-53), 3) := by decide +kernel
theorem dX0_sumSubsets_58 : decode cX0_sumSubsets 58 = .ok (.return_, 1) := by decide +kernel
theorem dX0_divide_0 : decode cX0_divide 0 = .ok (.aload_n 2, 1) := by decide +kernel
theorem dX0_divide_1 : decode cX0_divide 1 = .ok (.aload_n 0, 1) := by decide +kernel
theorem dX0_divide_2 : decode cX0_divide 2 = .ok (.getfield 18, 3) := by decide +kernel
theorem dX0_divide_5 : decode cX0_divide 5 = .ok (.invokestatic 86, 3) := by decide +kernel
theorem dX0_divide_8 : decode cX0_divide 8 = .ok (.istore_n 3, 1) := by decide +kernel
theorem dX0_divide_9 : decode cX0_divide 9 = .ok (.iconst 0, 1) := by decide +kernel
theorem dX0_divide_10 : decode cX0_divide 10 = .ok (.istore 4, 2) := by decide +kernel
theorem dX0_divide_12 : decode cX0_divide 12 = .ok (.iconst 0, 1) := by decide +kernel
theorem dX0_divide_13 : decode cX0_divide 13 = .ok (.istore 5, 2) := by decide +kernel
theorem dX0_divide_15 : decode cX0_divide 15 = .ok (.iload 5, 2) := by decide +kernel
theorem dX0_divide_17 : decode cX0_divide 17 = .ok (.iload_n 3, 1) := by decide +kernel
theorem dX0_divide_18 : decode cX0_divide 18 = .ok (.if_icmp .ge 29, 3) := by decide +kernel
theorem dX0_divide_21 : decode cX0_divide 21 = .ok (.iload 5, 2) := by decide +kernel
theorem dX0_divide_23 : decode cX0_divide 23 = .ok (.sipush 4096, 3) := by decide +kernel
theorem dX0_divide_26 : decode cX0_divide 26 = .ok (.if_icmp .ge 21, 3) := by decide +kernel
theorem dX0_divide_29 : decode cX0_divide 29 = .ok (.iload 4, 2) := by decide +kernel
theorem dX0_divide_31 : decode cX0_divide 31 = .ok (.aload_n 0, 1) := by decide +kernel
theorem dX0_divide_32 : decode cX0_divide 32 = .ok (.getfield 18, 3) := by decide +kernel
theorem dX0_divide_35 : decode cX0_divide 35 = .ok (.iload 5, 2) := by decide +kernel
theorem dX0_divide_37 : decode cX0_divide 37 = .ok (.iaload, 1) := by decide +kernel
theorem dX0_divide_38 : decode cX0_divide 38 = .ok (.ior, 1) := by decide +kernel
theorem dX0_divide_39 : decode cX0_divide 39 = .ok (.istore 4, 2) := by decide +kernel
theorem dX0_divide_41 : decode cX0_divide 41 = .ok (.iinc 5 1, 3) := by decide +kernel
theorem dX0_divide_44 : decode cX0_divide 44 = .ok (.goto (-29), 3) := by decide +kernel
theorem dX0_divide_47 : decode cX0_divide 47 = .ok (.aload_n 1, 1) := by decide +kernel
theorem dX0_divide_48 : decode cX0_divide 48 = .ok (.invokestatic 97, 3) := by decide +kernel
theorem dX0_divide_51 : decode cX0_divide 51 = .ok (.istore 5, 2) := by decide +kernel
theorem dX0_divide_53 : decode cX0_divide 53 = .ok (.aload_n 0, 1) := by decide +kernel
theorem dX0_divide_54 : decode cX0_divide 54 = .ok (.getfield 9, 3) := by decide +kernel
theorem dX0_divide_57 : decode cX0_divide 57 = .ok (.lconst 0, 1) := by decide +kernel
theorem dX0_divide_58 : decode cX0_divide 58 = .ok (.invokestatic 70, 3) := by decide +kernel
theorem dX0_divide_61 : decode cX0_divide 61 = .ok (.iconst 0, 1) := by decide +kernel
theorem dX0_divide_62 : decode cX0_divide 62 = .ok (.istore 6, 2) := by decide +kernel
theorem dX0_divide_64 : decode cX0_divide 64 = .ok (.iload 6, 2) := by decide +kernel
theorem dX0_divide_66 : decode cX0_divide 66 = .ok (.iload 5, 2) := by decide +kernel
theorem dX0_divide_68 : decode cX0_divide 68 = .ok (.if_icmp .ge 45, 3) := by decide +kernel
theorem dX0_divide_71 : decode cX0_divide 71 = .ok (.iload 6, 2) := by decide +kernel
theorem dX0_divide_73 : decode cX0_divide 73 = .ok (.sipush 4096, 3) := by decide +kernel
theorem dX0_divide_76 : decode cX0_divide 76 = .ok (.if_icmp .ge 37, 3) := by decide +kernel
theorem dX0_divide_79 : decode cX0_divide 79 = .ok (.iload 6, 2) := by decide +kernel
theorem dX0_divide_81 : decode cX0_divide 81 = .ok (.iload 4, 2) := by decide +kernel
theorem dX0_divide_83 : decode cX0_divide 83 = .ok (.iand, 1) := by decide +kernel
theorem dX0_divide_84 : decode cX0_divide 84 = .ok (.ifCond .ne 23, 3) := by decide +kernel
theorem dX0_divide_87 : decode cX0_divide 87 = .ok (.aload_n 0, 1) := by decide +kernel
theorem dX0_divide_88 : decode cX0_divide 88 = .ok (.aload_n 1, 1) := by decide +kernel
theorem dX0_divide_89 : decode cX0_divide 89 = .ok (.iload 6, 2) := by decide +kernel
theorem dX0_divide_91 : decode cX0_divide 91 = .ok (.iload_n 3, 1) := by decide +kernel
theorem dX0_divide_92 : decode cX0_divide 92 = .ok (.invokevirtual 119, 3) := by decide +kernel
theorem dX0_divide_95 : decode cX0_divide 95 = .ok (.ifCond .eq 12, 3) := by decide +kernel
theorem dX0_divide_98 : decode cX0_divide 98 = .ok (.aload_n 0, 1) := by decide +kernel
theorem dX0_divide_99 : decode cX0_divide 99 = .ok (.getfield 9, 3) := by decide +kernel
theorem dX0_divide_102 : decode cX0_divide 102 = .ok (.iload 6, 2) := by decide +kernel
theorem dX0_divide_104 : decode cX0_divide 104 = .ok (.invokestatic 94, 3) := by decide +kernel
theorem dX0_divide_107 : decode cX0_divide 107 = .ok (.iinc 6 1, 3) := by decide +kernel
theorem dX0_divide_110 : decode cX0_divide 110 = .ok (.goto (-46), 3) := by decide +kernel
theorem dX0_divide_113 : decode cX0_divide 113 = .ok (.iload_n 3, 1) := by decide +kernel
theorem dX0_divide_114 : decode cX0_divide 114 = .ok (.ireturn, 1) := by decide +kernel
theorem dX0_hasAllWith_0 : decode cX0_hasAllWith 0 = .ok (.iconst 0, 1) := by decide +kernel
theorem dX0_hasAllWith_1 : decode cX0_hasAllWith 1 = .ok (.istore 4, 2) := by decide +kernel
theorem dX0_hasAllWith_3 : decode cX0_hasAllWith 3 = .ok (.iload 4, 2) := by decide +kernel
theorem dX0_hasAllWith_5 : decode cX0_hasAllWith 5 = .ok (.iload_n 3, 1) := by decide +kernel
theorem dX0_hasAllWith_6 : decode cX0_hasAllWith 6 = .ok (.if_icmp .ge 35, 3) := by decide +kernel
theorem dX0_hasAllWith_9 : decode cX0_hasAllWith 9 = .ok (.iload 4, 2) := by decide +kernel
theorem dX0_hasAllWith_11 : decode cX0_hasAllWith 11 = .ok (.sipush 4096, 3) := by decide +kernel
theorem dX0_hasAllWith_14 : decode cX0_hasAllWith 14 = .ok (.if_icmp .ge 27, 3) := by decide +kernel
theorem dX0_hasAllWith_17 : decode cX0_hasAllWith 17 = .ok (.aload_n 1, 1) := by decide +kernel
theorem dX0_hasAllWith_18 : decode cX0_hasAllWith 18 = .ok (.iload_n 2, 1) := by decide +kernel
theorem dX0_hasAllWith_19 : decode cX0_hasAllWith 19 = .ok (.aload_n 0, 1) := by decide +kernel
theorem dX0_hasAllWith_20 : decode cX0_hasAllWith 20 = .ok (.getfield 18, 3) := by decide +kernel
theorem dX0_hasAllWith_23 : decode cX0_hasAllWith 23 = .ok (.iload 4, 2) := by decide +kernel
theorem dX0_hasAllWith_25 : decode cX0_hasAllWith 25 = .ok (.iaload, 1) := by decide +kernel
theorem dX0_hasAllWith_26 : decode cX0_hasAllWith 26 = .ok (.ior, 1) := by decide +kernel
theorem dX0_hasAllWith_27 : decode cX0_hasAllWith 27 = .ok (.invokestatic 115, 3) := by decide +kernel
theorem dX0_hasAllWith_30 : decode cX0_hasAllWith 30 = .ok (.ifCond .ne 5, 3) := by decide +kernel
theorem dX0_hasAllWith_33 : decode cX0_hasAllWith 33 = .ok (.iconst 0, 1) := by decide +kernel
theorem dX0_hasAllWith_34 : decode cX0_hasAllWith 34 = .ok (.ireturn, 1) := by decide +kernel
theorem dX0_hasAllWith_35 : decode cX0_hasAllWith 35 = .ok (.iinc 4 1, 3) := by decide +kernel
theorem dX0_hasAllWith_38 : decode cX0_hasAllWith 38 = .ok (.goto (-35), 3) := by decide +kernel
theorem dX0_hasAllWith_41 : decode cX0_hasAllWith 41 = .ok (.iconst 1, 1) := by decide +kernel
theorem dX0_hasAllWith_42 : decode cX0_hasAllWith 42 = .ok (.ireturn, 1) := by decide +kernel
theorem dX0_removeProducts_0 : decode cX0_removeProducts 0 = .ok (.aload_n 0, 1) := by decide +kernel
theorem dX0_removeProducts_1 : decode cX0_removeProducts 1 = .ok (.getfield 9, 3) := by decide +kernel
theorem dX0_removeProducts_4 : decode cX0_removeProducts 4 = .ok (.aload_n 0, 1) := by decide +kernel
theorem dX0_removeProducts_5 : decode cX0_removeProducts 5 = .ok (.getfield 22, 3) := by decide +kernel
theorem dX0_removeProducts_8 : decode cX0_removeProducts 8 = .ok (.invokestatic 86, 3) := by decide +kernel
theorem dX0_removeProducts_11 : decode cX0_removeProducts 11 = .ok (.istore_n 3, 1) := by decide +kernel
theorem dX0_removeProducts_12 : decode cX0_removeProducts 12 = .ok (.iconst 0, 1) := by decide +kernel
theorem dX0_removeProducts_13 : decode cX0_removeProducts 13 = .ok (.istore 4, 2) := by decide +kernel
theorem dX0_removeProducts_15 : decode cX0_removeProducts 15 = .ok (.iload 4, 2) := by decide +kernel
theorem dX0_removeProducts_17 : decode cX0_removeProducts 17 = .ok (.iload_n 3, 1) := by decide +kernel
theorem dX0_removeProducts_18 : decode cX0_removeProducts 18 = .ok (.if_icmp .ge 59, 3) := by decide +kernel
theorem dX0_removeProducts_21 : decode cX0_removeProducts 21 = .ok (.iload 4, 2) := by decide +kernel
theorem dX0_removeProducts_23 : decode cX0_removeProducts 23 = .ok (.sipush 4096, 3) := by decide +kernel
theorem dX0_removeProducts_26 : decode cX0_removeProducts 26 = .ok (.if_icmp .ge 51, 3) := by decide +kernel
theorem dX0_removeProducts_29 : decode cX0_removeProducts 29 = .ok (.iconst 0, 1) := by decide +kernel
theorem dX0_removeProducts_30 : decode cX0_removeProducts 30 = .ok (.istore 5, 2) := by decide +kernel
theorem dX0_removeProducts_32 : decode cX0_removeProducts 32 = .ok (.iload 5, 2) := by decide +kernel
theorem dX0_removeProducts_34 : decode cX0_removeProducts 34 = .ok (.iload_n 2, 1) := by decide +kernel
theorem dX0_removeProducts_35 : decode cX0_removeProducts 35 = .ok (.if_icmp .ge 36, 3) := by decide +kernel
theorem dX0_removeProducts_38 : decode cX0_removeProducts 38 = .ok (.iload 5, 2) := by decide +kernel
theorem dX0_removeProducts_40 : decode cX0_removeProducts 40 = .ok (.sipush 4096, 3) := by decide +kernel
theorem dX0_removeProducts_43 : decode cX0_removeProducts 43 = .ok (.if_icmp .ge 28, 3) := by decide +kernel
theorem dX0_removeProducts_46 : decode cX0_removeProducts 46 = .ok (.aload_n 1, 1) := by decide +kernel
theorem dX0_removeProducts_47 : decode cX0_removeProducts 47 = .ok (.aload_n 0, 1) := by decide +kernel
theorem dX0_removeProducts_48 : decode cX0_removeProducts 48 = .ok (.getfield 22, 3) := by decide +kernel
theorem dX0_removeProducts_51 : decode cX0_removeProducts 51 = .ok (.iload 4, 2) := by decide +kernel
theorem dX0_removeProducts_53 : decode cX0_removeProducts 53 = .ok (.iaload, 1) := by decide +kernel
theorem dX0_removeProducts_54 : decode cX0_removeProducts 54 = .ok (.aload_n 0, 1) := by decide +kernel
theorem dX0_removeProducts_55 : decode cX0_removeProducts 55 = .ok (.getfield 18, 3) := by decide +kernel
theorem dX0_removeProducts_58 : decode cX0_removeProducts 58 = .ok (.iload 5, 2) := by decide +kernel
theorem dX0_removeProducts_60 : decode cX0_removeProducts 60 = .ok (.iaload, 1) := by decide +kernel
theorem dX0_removeProducts_61 : decode cX0_removeProducts 61 = .ok (.ior, 1) := by decide +kernel
theorem dX0_removeProducts_62 : decode cX0_removeProducts 62 = .ok (.invokestatic 123, 3) := by decide +kernel
theorem dX0_removeProducts_65 : decode cX0_removeProducts 65 = .ok (.iinc 5 1, 3) := by decide +kernel
theorem dX0_removeProducts_68 : decode cX0_removeProducts 68 = .ok (.goto (-36), 3) := by decide +kernel
theorem dX0_removeProducts_71 : decode cX0_removeProducts 71 = .ok (.iinc 4 1, 3) := by decide +kernel
theorem dX0_removeProducts_74 : decode cX0_removeProducts 74 = .ok (.goto (-59), 3) := by decide +kernel
theorem dX0_removeProducts_77 : decode cX0_removeProducts 77 = .ok (.return_, 1) := by decide +kernel
theorem dX1_init_0 : decode cX1_init 0 = .ok (.aload_n 0, 1) := by decide +kernel
theorem dX1_init_1 : decode cX1_init 1 = .ok (.invokespecial 3, 3) := by decide +kernel
theorem dX1_init_4 : decode cX1_init 4 = .ok (.aload_n 0, 1) := by decide +kernel
theorem dX1_init_5 : decode cX1_init 5 = .ok (.bipush 43, 2) := by decide +kernel
theorem dX1_init_7 : decode cX1_init 7 = .ok (.anewarray 11, 3) := by decide +kernel
theorem dX1_init_10 : decode cX1_init 10 = .ok (.putfield 13, 3) := by decide +kernel
theorem dX1_init_13 : decode cX1_init 13 = .ok (.aload_n 0, 1) := by decide +kernel
theorem dX1_init_14 : decode cX1_init 14 = .ok (.iconst 0, 1) := by decide +kernel
theorem dX1_init_15 : decode cX1_init 15 = .ok (.putfield 17, 3) := by decide +kernel
theorem dX1_init_18 : decode cX1_init 18 = .ok (.return_, 1) := by decide +kernel
theorem dX2_init_0 : decode cX2_init 0 = .ok (.aload_n 0, 1) := by decide +kernel
theorem dX2_init_1 : decode cX2_init 1 = .ok (.invokespecial 3, 3) := by decide +kernel
theorem dX2_init_4 : decode cX2_init 4 = .ok (.aload_n 0, 1) := by decide +kernel
theorem dX2_init_5 : decode cX2_init 5 = .ok (.bipush 12, 2) := by decide +kernel
theorem dX2_init_7 : decode cX2_init 7 = .ok (.newarray .int, 2) := by decide +kernel
theorem dX2_init_9 : decode cX2_init 9 = .ok (.putfield 9, 3) := by decide +kernel
theorem dX2_init_12 : decode cX2_init 12 = .ok (.aload_n 0, 1) := by decide +kernel
theorem dX2_init_13 : decode cX2_init 13 = .ok (.bipush 64, 2) := by decide +kernel
theorem dX2_init_15 : decode cX2_init 15 = .ok (.newarray .int, 2) := by decide +kernel
theorem dX2_init_17 : decode cX2_init 17 = .ok (.putfield 15, 3) := by decide +kernel
theorem dX2_init_20 : decode cX2_init 20 = .ok (.aload_n 0, 1) := by decide +kernel
theorem dX2_init_21 : decode cX2_init 21 = .ok (.bipush 64, 2) := by decide +kernel
theorem dX2_init_23 : decode cX2_init 23 = .ok (.newarray .int, 2) := by decide +kernel
theorem dX2_init_25 : decode cX2_init 25 = .ok (.putfield 18, 3) := by decide +kernel
theorem dX2_init_28 : decode cX2_init 28 = .ok (.return_, 1) := by decide +kernel
theorem dX3_init_0 : decode cX3_init 0 = .ok (.aload_n 0, 1) := by decide +kernel
theorem dX3_init_1 : decode cX3_init 1 = .ok (.invokespecial 3, 3) := by decide +kernel
theorem dX3_init_4 : decode cX3_init 4 = .ok (.aload_n 0, 1) := by decide +kernel
theorem dX3_init_5 : decode cX3_init 5 = .ok (.bipush 64, 2) := by decide +kernel
theorem dX3_init_7 : decode cX3_init 7 = .ok (.newarray .long, 2) := by decide +kernel
theorem dX3_init_9 : decode cX3_init 9 = .ok (.putfield 11, 3) := by decide +kernel
theorem dX3_init_12 : decode cX3_init 12 = .ok (.aload_n 0, 1) := by decide +kernel
theorem dX3_init_13 : decode cX3_init 13 = .ok (.bipush 64, 2) := by decide +kernel
theorem dX3_init_15 : decode cX3_init 15 = .ok (.newarray .int, 2) := by decide +kernel
theorem dX3_init_17 : decode cX3_init 17 = .ok (.putfield 15, 3) := by decide +kernel
theorem dX3_init_20 : decode cX3_init 20 = .ok (.aload_n 0, 1) := by decide +kernel
theorem dX3_init_21 : decode cX3_init 21 = .ok (.bipush 64, 2) := by decide +kernel
theorem dX3_init_23 : decode cX3_init 23 = .ok (.newarray .int, 2) := by decide +kernel
theorem dX3_init_25 : decode cX3_init 25 = .ok (.putfield 19, 3) := by decide +kernel
theorem dX3_init_28 : decode cX3_init 28 = .ok (.aload_n 0, 1) := by decide +kernel
theorem dX3_init_29 : decode cX3_init 29 = .ok (.sipush 128, 3) := by decide +kernel
theorem dX3_init_32 : decode cX3_init 32 = .ok (.newarray .int, 2) := by decide +kernel
theorem dX3_init_34 : decode cX3_init 34 = .ok (.putfield 22, 3) := by decide +kernel
theorem dX3_init_37 : decode cX3_init 37 = .ok (.aload_n 0, 1) := by decide +kernel
theorem dX3_init_38 : decode cX3_init 38 = .ok (.iconst 2, 1) := by decide +kernel
theorem dX3_init_39 : decode cX3_init 39 = .ok (.putfield 25, 3) := by decide +kernel
theorem dX3_init_42 : decode cX3_init 42 = .ok (.aload_n 0, 1) := by decide +kernel
theorem dX3_init_43 : decode cX3_init 43 = .ok (.iconst 0, 1) := by decide +kernel
theorem dX3_init_44 : decode cX3_init 44 = .ok (.putfield 29, 3) := by decide +kernel
theorem dX3_init_47 : decode cX3_init 47 = .ok (.aload_n 0, 1) := by decide +kernel
theorem dX3_init_48 : decode cX3_init 48 = .ok (.iconst 0, 1) := by decide +kernel
theorem dX3_init_49 : decode cX3_init 49 = .ok (.putfield 32, 3) := by decide +kernel
theorem dX3_init_52 : decode cX3_init 52 = .ok (.aload_n 0, 1) := by decide +kernel
theorem dX3_init_53 : decode cX3_init 53 = .ok (.aload_n 1, 1) := by decide +kernel
theorem dX3_init_54 : decode cX3_init 54 = .ok (.putfield 35, 3) := by decide +kernel
theorem dX3_init_57 : decode cX3_init 57 = .ok (.return_, 1) := by decide +kernel
theorem dX3_visit_0 : decode cX3_visit 0 = .ok (.aload_n 1, 1) := by decide +kernel
theorem dX3_visit_1 : decode cX3_visit 1 = .ok (.invokestatic 38, 3) := by decide +kernel
theorem dX3_visit_4 : decode cX3_visit 4 = .ok (.istore_n 3, 1) := by decide +kernel
theorem dX3_visit_5 : decode cX3_visit 5 = .ok (.iconst 0, 1) := by decide +kernel
theorem dX3_visit_6 : decode cX3_visit 6 = .ok (.istore 4, 2) := by decide +kernel
theorem dX3_visit_8 : decode cX3_visit 8 = .ok (.iload 4, 2) := by decide +kernel
theorem dX3_visit_10 : decode cX3_visit 10 = .ok (.iload_n 3, 1) := by decide +kernel
theorem dX3_visit_11 : decode cX3_visit 11 = .ok (.if_icmp .ge 40, 3) := by decide +kernel
theorem dX3_visit_14 : decode cX3_visit 14 = .ok (.iload 4, 2) := by decide +kernel
theorem dX3_visit_16 : decode cX3_visit 16 = .ok (.aload_n 0, 1) := by decide +kernel
theorem dX3_visit_17 : decode cX3_visit 17 = .ok (.getfield 35, 3) := by decide +kernel
theorem dX3_visit_20 : decode cX3_visit 20 = .ok (.arraylength, 1) := by decide +kernel
theorem dX3_visit_21 : decode cX3_visit 21 = .ok (.if_icmp .ge 30, 3) := by decide +kernel
theorem dX3_visit_24 : decode cX3_visit 24 = .ok (.aload_n 0, 1) := by decide +kernel
theorem dX3_visit_25 : decode cX3_visit 25 = .ok (.getfield 35, 3) := by decide +kernel
theorem dX3_visit_28 : decode cX3_visit 28 = .ok (.iload 4, 2) := by decide +kernel
theorem dX3_visit_30 : decode cX3_visit 30 = .ok (.aload_n 1, 1) := by decide +kernel
theorem dX3_visit_31 : decode cX3_visit 31 = .ok (.iload 4, 2) := by decide +kernel
theorem dX3_visit_33 : decode cX3_visit 33 = .ok (.invokestatic 44, 3) := by decide +kernel
theorem dX3_visit_36 : decode cX3_visit 36 = .ok (.ifCond .eq 7, 3) := by decide +kernel
theorem dX3_visit_39 : decode cX3_visit 39 = .ok (.iconst 1, 1) := by decide +kernel
theorem dX3_visit_40 : decode cX3_visit 40 = .ok (.goto 4, 3) := by decide +kernel
theorem dX3_visit_43 : decode cX3_visit 43 = .ok (.iconst 0, 1) := by decide +kernel
theorem dX3_visit_44 : decode cX3_visit 44 = .ok (.iastore, 1) := by decide +kernel
theorem dX3_visit_45 : decode cX3_visit 45 = .ok (.iinc 4 1, 3) := by decide +kernel
theorem dX3_visit_48 : decode cX3_visit 48 = .ok (.goto (-40), 3) := by decide +kernel
theorem dX3_visit_51 : decode cX3_visit 51 = .ok (.aload_n 0, 1) := by decide +kernel
theorem dX3_visit_52 : decode cX3_visit 52 = .ok (.dup, 1) := by decide +kernel
theorem dX3_visit_53 : decode cX3_visit 53 = .ok (.getfield 29, 3) := by decide +kernel
theorem dX3_visit_56 : decode cX3_visit 56 = .ok (.iconst 1, 1) := by decide +kernel
theorem dX3_visit_57 : decode cX3_visit 57 = .ok (.iadd, 1) := by decide +kernel
theorem dX3_visit_58 : decode cX3_visit 58 = .ok (.putfield 29, 3) := by decide +kernel
theorem dX3_visit_61 : decode cX3_visit 61 = .ok (.iconst 0, 1) := by decide +kernel
theorem dX3_visit_62 : decode cX3_visit 62 = .ok (.istore 4, 2) := by decide +kernel
theorem dX3_visit_64 : decode cX3_visit 64 = .ok (.bipush 11, 2) := by decide +kernel
theorem dX3_visit_66 : decode cX3_visit 66 = .ok (.istore 5, 2) := by decide +kernel
theorem dX3_visit_68 : decode cX3_visit 68 = .ok (.iload 5, 2) := by decide +kernel
theorem dX3_visit_70 : decode cX3_visit 70 = .ok (.ifCond .lt 99, 3) := by decide +kernel
theorem dX3_visit_73 : decode cX3_visit 73 = .ok (.iconst 1, 1) := by decide +kernel
theorem dX3_visit_74 : decode cX3_visit 74 = .ok (.iload 5, 2) := by decide +kernel
theorem dX3_visit_76 : decode cX3_visit 76 = .ok (.ishl, 1) := by decide +kernel
theorem dX3_visit_77 : decode cX3_visit 77 = .ok (.istore 6, 2) := by decide +kernel
theorem dX3_visit_79 : decode cX3_visit 79 = .ok (.iconst 0, 1) := by decide +kernel
theorem dX3_visit_80 : decode cX3_visit 80 = .ok (.istore 7, 2) := by decide +kernel
theorem dX3_visit_82 : decode cX3_visit 82 = .ok (.iload 7, 2) := by decide +kernel
theorem dX3_visit_84 : decode cX3_visit 84 = .ok (.iload 6, 2) := by decide +kernel
theorem dX3_visit_86 : decode cX3_visit 86 = .ok (.iadd, 1) := by decide +kernel
theorem dX3_visit_87 : decode cX3_visit 87 = .ok (.iload_n 3, 1) := by decide +kernel
theorem dX3_visit_88 : decode cX3_visit 88 = .ok (.if_icmp .ge 75, 3) := by decide +kernel
theorem dX3_visit_91 : decode cX3_visit 91 = .ok (.iload 7, 2) := by decide +kernel
theorem dX3_visit_93 : decode cX3_visit 93 = .ok (.iload 6, 2) := by decide +kernel
theorem dX3_visit_95 : decode cX3_visit 95 = .ok (.if_icmp .ge 68, 3) := by decide +kernel
theorem dX3_visit_98 : decode cX3_visit 98 = .ok (.aload_n 0, 1) := by decide +kernel
theorem dX3_visit_99 : decode cX3_visit 99 = .ok (.getfield 35, 3) := by decide +kernel
theorem dX3_visit_102 : decode cX3_visit 102 = .ok (.iload 7, 2) := by decide +kernel
theorem dX3_visit_104 : decode cX3_visit 104 = .ok (.iload 6, 2) := by decide +kernel
theorem dX3_visit_106 : decode cX3_visit 106 = .ok (.iadd, 1) := by decide +kernel
theorem dX3_visit_107 : decode cX3_visit 107 = .ok (.iaload, 1) := by decide +kernel
theorem dX3_visit_108 : decode cX3_visit 108 = .ok (.ifCond .eq 49, 3) := by decide +kernel
theorem dX3_visit_111 : decode cX3_visit 111 = .ok (.aload_n 0, 1) := by decide +kernel
theorem dX3_visit_112 : decode cX3_visit 112 = .ok (.iload 5, 2) := by decide +kernel
theorem dX3_visit_114 : decode cX3_visit 114 = .ok (.aload_n 0, 1) := by decide +kernel
theorem dX3_visit_115 : decode cX3_visit 115 = .ok (.getfield 35, 3) := by decide +kernel
theorem dX3_visit_118 : decode cX3_visit 118 = .ok (.iload 7, 2) := by decide +kernel
theorem dX3_visit_120 : decode cX3_visit 120 = .ok (.iaload, 1) := by decide +kernel
theorem dX3_visit_121 : decode cX3_visit 121 = .ok (.aload_n 0, 1) := by decide +kernel
theorem dX3_visit_122 : decode cX3_visit 122 = .ok (.getfield 35, 3) := by decide +kernel
theorem dX3_visit_125 : decode cX3_visit 125 = .ok (.iload 7, 2) := by decide +kernel
theorem dX3_visit_127 : decode cX3_visit 127 = .ok (.iload 6, 2) := by decide +kernel
theorem dX3_visit_129 : decode cX3_visit 129 = .ok (.iadd, 1) := by decide +kernel
theorem dX3_visit_130 : decode cX3_visit 130 = .ok (.iaload, 1) := by decide +kernel
theorem dX3_visit_131 : decode cX3_visit 131 = .ok (.invokevirtual 48, 3) := by decide +kernel
theorem dX3_visit_134 : decode cX3_visit 134 = .ok (.istore 8, 2) := by decide +kernel
theorem dX3_visit_136 : decode cX3_visit 136 = .ok (.aload_n 0, 1) := by decide +kernel
theorem dX3_visit_137 : decode cX3_visit 137 = .ok (.getfield 35, 3) := by decide +kernel
theorem dX3_visit_140 : decode cX3_visit 140 = .ok (.iload 7, 2) := by decide +kernel
theorem dX3_visit_142 : decode cX3_visit 142 = .ok (.iload 8, 2) := by decide +kernel
theorem dX3_visit_144 : decode cX3_visit 144 = .ok (.iastore, 1) := by decide +kernel
theorem dX3_visit_145 : decode cX3_visit 145 = .ok (.iload 4, 2) := by decide +kernel
theorem dX3_visit_147 : decode cX3_visit 147 = .ok (.aload_n 0, 1) := by decide +kernel
theorem dX3_visit_148 : decode cX3_visit 148 = .ok (.iload 8, 2) := by decide +kernel
theorem dX3_visit_150 : decode cX3_visit 150 = .ok (.iload_n 2, 1) := by decide +kernel
theorem dX3_visit_151 : decode cX3_visit 151 = .ok (.invokevirtual 52, 3) := by decide +kernel
theorem dX3_visit_154 : decode cX3_visit 154 = .ok (.iadd, 1) := by decide +kernel
theorem dX3_visit_155 : decode cX3_visit 155 = .ok (.istore 4, 2) := by decide +kernel
theorem dX3_visit_157 : decode cX3_visit 157 = .ok (.iinc 7 1, 3) := by decide +kernel
theorem dX3_visit_160 : decode cX3_visit 160 = .ok (.goto (-78), 3) := by decide +kernel
theorem dX3_visit_163 : decode cX3_visit 163 = .ok (.iinc 5 (-1), 3) := by decide +kernel
theorem dX3_visit_166 : decode cX3_visit 166 = .ok (.goto (-98), 3) := by decide +kernel
theorem dX3_visit_169 : decode cX3_visit 169 = .ok (.iload 4, 2) := by decide +kernel
theorem dX3_visit_171 : decode cX3_visit 171 = .ok (.ireturn, 1) := by decide +kernel
theorem dX3_mark_0 : decode cX3_mark 0 = .ok (.iload_n 1, 1) := by decide +kernel
theorem dX3_mark_1 : decode cX3_mark 1 = .ok (.ifCond .lt 34, 3) := by decide +kernel
theorem dX3_mark_4 : decode cX3_mark 4 = .ok (.iload_n 1, 1) := by decide +kernel
theorem dX3_mark_5 : decode cX3_mark 5 = .ok (.aload_n 0, 1) := by decide +kernel
theorem dX3_mark_6 : decode cX3_mark 6 = .ok (.getfield 19, 3) := by decide +kernel
theorem dX3_mark_9 : decode cX3_mark 9 = .ok (.arraylength, 1) := by decide +kernel
theorem dX3_mark_10 : decode cX3_mark 10 = .ok (.if_icmp .ge 25, 3) := by decide +kernel
theorem dX3_mark_13 : decode cX3_mark 13 = .ok (.iload_n 1, 1) := by decide +kernel
theorem dX3_mark_14 : decode cX3_mark 14 = .ok (.aload_n 0, 1) := by decide +kernel
theorem dX3_mark_15 : decode cX3_mark 15 = .ok (.getfield 15, 3) := by decide +kernel
theorem dX3_mark_18 : decode cX3_mark 18 = .ok (.arraylength, 1) := by decide +kernel
theorem dX3_mark_19 : decode cX3_mark 19 = .ok (.if_icmp .ge 16, 3) := by decide +kernel
theorem dX3_mark_22 : decode cX3_mark 22 = .ok (.aload_n 0, 1) := by decide +kernel
theorem dX3_mark_23 : decode cX3_mark 23 = .ok (.getfield 19, 3) := by decide +kernel
theorem dX3_mark_26 : decode cX3_mark 26 = .ok (.iload_n 1, 1) := by decide +kernel
theorem dX3_mark_27 : decode cX3_mark 27 = .ok (.iaload, 1) := by decide +kernel
theorem dX3_mark_28 : decode cX3_mark 28 = .ok (.aload_n 0, 1) := by decide +kernel
theorem dX3_mark_29 : decode cX3_mark 29 = .ok (.getfield 29, 3) := by decide +kernel
theorem dX3_mark_32 : decode cX3_mark 32 = .ok (.if_icmp .ne 5, 3) := by decide +kernel
theorem dX3_mark_35 : decode cX3_mark 35 = .ok (.iconst 0, 1) := by decide +kernel
theorem dX3_mark_36 : decode cX3_mark 36 = .ok (.ireturn, 1) := by decide +kernel
theorem dX3_mark_37 : decode cX3_mark 37 = .ok (.aload_n 0, 1) := by decide +kernel
theorem dX3_mark_38 : decode cX3_mark 38 = .ok (.getfield 19, 3) := by decide +kernel
theorem dX3_mark_41 : decode cX3_mark 41 = .ok (.iload_n 1, 1) := by decide +kernel
theorem dX3_mark_42 : decode cX3_mark 42 = .ok (.aload_n 0, 1) := by decide +kernel
theorem dX3_mark_43 : decode cX3_mark 43 = .ok (.getfield 29, 3) := by decide +kernel
theorem dX3_mark_46 : decode cX3_mark 46 = .ok (.iastore, 1) := by decide +kernel
theorem dX3_mark_47 : decode cX3_mark 47 = .ok (.aload_n 0, 1) := by decide +kernel
theorem dX3_mark_48 : decode cX3_mark 48 = .ok (.getfield 15, 3) := by decide +kernel
theorem dX3_mark_51 : decode cX3_mark 51 = .ok (.iload_n 1, 1) := by decide +kernel
theorem dX3_mark_52 : decode cX3_mark 52 = .ok (.iaload, 1) := by decide +kernel
theorem dX3_mark_53 : decode cX3_mark 53 = .ok (.ifCond .le 7, 3) := by decide +kernel
theorem dX3_mark_56 : decode cX3_mark 56 = .ok (.iconst 1, 1) := by decide +kernel
theorem dX3_mark_57 : decode cX3_mark 57 = .ok (.goto 4, 3) := by decide +kernel
theorem dX3_mark_60 : decode cX3_mark 60 = .ok (.iconst 0, 1) := by decide +kernel
theorem dX3_mark_61 : decode cX3_mark 61 = .ok (.istore_n 3, 1) := by decide +kernel
theorem dX3_mark_62 : decode cX3_mark 62 = .ok (.aload_n 0, 1) := by decide +kernel
theorem dX3_mark_63 : decode cX3_mark 63 = .ok (.getfield 15, 3) := by decide +kernel
theorem dX3_mark_66 : decode cX3_mark 66 = .ok (.iload_n 1, 1) := by decide +kernel
theorem dX3_mark_67 : decode cX3_mark 67 = .ok (.dup2, 1) := by decide +kernel
theorem dX3_mark_68 : decode cX3_mark 68 = .ok (.iaload, 1) := by decide +kernel
theorem dX3_mark_69 : decode cX3_mark 69 = .ok (.iload_n 2, 1) := by decide +kernel
theorem dX3_mark_70 : decode cX3_mark 70 = .ok (.iadd, 1) := by decide +kernel
theorem dX3_mark_71 : decode cX3_mark 71 = .ok (.iastore, 1) := by decide +kernel
theorem dX3_mark_72 : decode cX3_mark 72 = .ok (.aload_n 0, 1) := by decide +kernel
theorem dX3_mark_73 : decode cX3_mark 73 = .ok (.getfield 15, 3) := by decide +kernel
theorem dX3_mark_76 : decode cX3_mark 76 = .ok (.iload_n 1, 1) := by decide +kernel
theorem dX3_mark_77 : decode cX3_mark 77 = .ok (.iaload, 1) := by decide +kernel
theorem dX3_mark_78 : decode cX3_mark 78 = .ok (.ifCond .le 7, 3) := by decide +kernel
theorem dX3_mark_81 : decode cX3_mark 81 = .ok (.iconst 1, 1) := by decide +kernel
theorem dX3_mark_82 : decode cX3_mark 82 = .ok (.goto 4, 3) := by decide +kernel
theorem dX3_mark_85 : decode cX3_mark 85 = .ok (.iconst 0, 1) := by decide +kernel
theorem dX3_mark_86 : decode cX3_mark 86 = .ok (.istore 4, 2) := by decide +kernel
theorem dX3_mark_88 : decode cX3_mark 88 = .ok (.iload 4, 2) := by decide +kernel
theorem dX3_mark_90 : decode cX3_mark 90 = .ok (.iload_n 3, 1) := by decide +kernel
theorem dX3_mark_91 : decode cX3_mark 91 = .ok (.if_icmp .eq 13, 3) := by decide +kernel
theorem dX3_mark_94 : decode cX3_mark 94 = .ok (.aload_n 0, 1) := by decide +kernel
theorem dX3_mark_95 : decode cX3_mark 95 = .ok (.dup, 1) := by decide +kernel
theorem dX3_mark_96 : decode cX3_mark 96 = .ok (.getfield 32, 3) := by decide +kernel
theorem dX3_mark_99 : decode cX3_mark 99 = .ok (.iload_n 2, 1) := by decide +kernel
theorem dX3_mark_100 : decode cX3_mark 100 = .ok (.iadd, 1) := by decide +kernel
theorem dX3_mark_101 : decode cX3_mark 101 = .ok (.putfield 32, 3) := by decide +kernel
theorem dX3_mark_104 : decode cX3_mark 104 = .ok (.iconst 1, 1) := by decide +kernel
theorem dX3_mark_105 : decode cX3_mark 105 = .ok (.ireturn, 1) := by decide +kernel
theorem dX3_numberOf_0 : decode cX3_numberOf 0 = .ok (.aload_n 0, 1) := by decide +kernel
theorem dX3_numberOf_1 : decode cX3_numberOf 1 = .ok (.getfield 25, 3) := by decide +kernel
theorem dX3_numberOf_4 : decode cX3_numberOf 4 = .ok (.aload_n 0, 1) := by decide +kernel
theorem dX3_numberOf_5 : decode cX3_numberOf 5 = .ok (.getfield 11, 3) := by decide +kernel
theorem dX3_numberOf_8 : decode cX3_numberOf 8 = .ok (.arraylength, 1) := by decide +kernel
theorem dX3_numberOf_9 : decode cX3_numberOf 9 = .ok (.if_icmp .lt 7, 3) := by decide +kernel
theorem dX3_numberOf_12 : decode cX3_numberOf 12 = .ok (.aload_n 0, 1) := by decide +kernel
theorem dX3_numberOf_13 : decode cX3_numberOf 13 = .ok (.invokevirtual 56, 3) := by decide +kernel
theorem dX3_numberOf_16 : decode cX3_numberOf 16 = .ok (.iload_n 1, 1) := by decide +kernel
theorem dX3_numberOf_17 : decode cX3_numberOf 17 = .ok (.i2l, 1) := by decide +kernel
theorem dX3_numberOf_18 : decode cX3_numberOf 18 = .ok (.bipush 20, 2) := by decide +kernel
theorem dX3_numberOf_20 : decode cX3_numberOf 20 = .ok (.lshl, 1) := by decide +kernel
theorem dX3_numberOf_21 : decode cX3_numberOf 21 = .ok (.iload_n 2, 1) := by decide +kernel
theorem dX3_numberOf_22 : decode cX3_numberOf 22 = .ok (.i2l, 1) := by decide +kernel
theorem dX3_numberOf_23 : decode cX3_numberOf 23 = .ok (.lor, 1) := by decide +kernel
theorem dX3_numberOf_24 : decode cX3_numberOf 24 = .ok (.bipush 20, 2) := by decide +kernel
theorem dX3_numberOf_26 : decode cX3_numberOf 26 = .ok (.lshl, 1) := by decide +kernel
theorem dX3_numberOf_27 : decode cX3_numberOf 27 = .ok (.iload_n 3, 1) := by decide +kernel
theorem dX3_numberOf_28 : decode cX3_numberOf 28 = .ok (.i2l, 1) := by decide +kernel
theorem dX3_numberOf_29 : decode cX3_numberOf 29 = .ok (.lor, 1) := by decide +kernel
theorem dX3_numberOf_30 : decode cX3_numberOf 30 = .ok (.lstore 4, 2) := by decide +kernel
theorem dX3_numberOf_32 : decode cX3_numberOf 32 = .ok (.aload_n 0, 1) := by decide +kernel
theorem dX3_numberOf_33 : decode cX3_numberOf 33 = .ok (.lload 4, 2) := by decide +kernel
theorem dX3_numberOf_35 : decode cX3_numberOf 35 = .ok (.invokevirtual 59, 3) := by decide +kernel
theorem dX3_numberOf_38 : decode cX3_numberOf 38 = .ok (.istore 6, 2) := by decide +kernel
theorem dX3_numberOf_40 : decode cX3_numberOf 40 = .ok (.aload_n 0, 1) := by decide +kernel
theorem dX3_numberOf_41 : decode cX3_numberOf 41 = .ok (.getfield 22, 3) := by decide +kernel
theorem dX3_numberOf_44 : decode cX3_numberOf 44 = .ok (.iload 6, 2) := by decide +kernel
theorem dX3_numberOf_46 : decode cX3_numberOf 46 = .ok (.iaload, 1) := by decide +kernel
theorem dX3_numberOf_47 : decode cX3_numberOf 47 = .ok (.ifCond .ne 35, 3) := by decide +kernel
theorem dX3_numberOf_50 : decode cX3_numberOf 50 = .ok (.aload_n 0, 1) := by decide +kernel
theorem dX3_numberOf_51 : decode cX3_numberOf 51 = .ok (.getfield 11, 3) := by decide +kernel
theorem dX3_numberOf_54 : decode cX3_numberOf 54 = .ok (.aload_n 0, 1) := by decide +kernel
theorem dX3_numberOf_55 : decode cX3_numberOf 55 = .ok (.getfield 25, 3) := by decide +kernel
theorem dX3_numberOf_58 : decode cX3_numberOf 58 = .ok (.lload 4, 2) := by decide +kernel
theorem dX3_numberOf_60 : decode cX3_numberOf 60 = .ok (.lastore, 1) := by decide +kernel
theorem dX3_numberOf_61 : decode cX3_numberOf 61 = .ok (.aload_n 0, 1) := by decide +kernel
theorem dX3_numberOf_62 : decode cX3_numberOf 62 = .ok (.getfield 22, 3) := by decide +kernel
theorem dX3_numberOf_65 : decode cX3_numberOf 65 = .ok (.iload 6, 2) := by decide +kernel
theorem dX3_numberOf_67 : decode cX3_numberOf 67 = .ok (.aload_n 0, 1) := by decide +kernel
theorem dX3_numberOf_68 : decode cX3_numberOf 68 = .ok (.getfield 25, 3) := by decide +kernel
theorem dX3_numberOf_71 : decode cX3_numberOf 71 = .ok (.iastore, 1) := by decide +kernel
theorem dX3_numberOf_72 : decode cX3_numberOf 72 = .ok (.aload_n 0, 1) := by decide +kernel
theorem dX3_numberOf_73 : decode cX3_numberOf 73 = .ok (.dup, 1) := by decide +kernel
theorem dX3_numberOf_74 : decode cX3_numberOf 74 = .ok (.getfield 25, 3) := by decide +kernel
theorem dX3_numberOf_77 : decode cX3_numberOf 77 = .ok (.iconst 1, 1) := by decide +kernel
theorem dX3_numberOf_78 : decode cX3_numberOf 78 = .ok (.iadd, 1) := by decide +kernel
theorem dX3_numberOf_79 : decode cX3_numberOf 79 = .ok (.putfield 25, 3) := by decide +kernel
theorem dX3_numberOf_82 : decode cX3_numberOf 82 = .ok (.aload_n 0, 1) := by decide +kernel
theorem dX3_numberOf_83 : decode cX3_numberOf 83 = .ok (.getfield 22, 3) := by decide +kernel
theorem dX3_numberOf_86 : decode cX3_numberOf 86 = .ok (.iload 6, 2) := by decide +kernel
theorem dX3_numberOf_88 : decode cX3_numberOf 88 = .ok (.iaload, 1) := by decide +kernel
theorem dX3_numberOf_89 : decode cX3_numberOf 89 = .ok (.ireturn, 1) := by decide +kernel
theorem dX3_placeOf_0 : decode cX3_placeOf 0 = .ok (.aload_n 0, 1) := by decide +kernel
theorem dX3_placeOf_1 : decode cX3_placeOf 1 = .ok (.getfield 22, 3) := by decide +kernel
theorem dX3_placeOf_4 : decode cX3_placeOf 4 = .ok (.arraylength, 1) := by decide +kernel
theorem dX3_placeOf_5 : decode cX3_placeOf 5 = .ok (.iconst 1, 1) := by decide +kernel
theorem dX3_placeOf_6 : decode cX3_placeOf 6 = .ok (.isub, 1) := by decide +kernel
theorem dX3_placeOf_7 : decode cX3_placeOf 7 = .ok (.istore_n 3, 1) := by decide +kernel
theorem dX3_placeOf_8 : decode cX3_placeOf 8 = .ok (.lload_n 1, 1) := by decide +kernel
theorem dX3_placeOf_9 : decode cX3_placeOf 9 = .ok (.ldc2_w 63, 3) := by decide +kernel
theorem dX3_placeOf_12 : decode cX3_placeOf 12 = .ok (.lmul, 1) := by decide +kernel
theorem dX3_placeOf_13 : decode cX3_placeOf 13 = .ok (.bipush 40, 2) := by decide +kernel
theorem dX3_placeOf_15 : decode cX3_placeOf 15 = .ok (.lushr, 1) := by decide +kernel
theorem dX3_placeOf_16 : decode cX3_placeOf 16 = .ok (.l2i, 1) := by decide +kernel
theorem dX3_placeOf_17 : decode cX3_placeOf 17 = .ok (.iload_n 3, 1) := by decide +kernel
theorem dX3_placeOf_18 : decode cX3_placeOf 18 = .ok (.iand, 1) := by decide +kernel
theorem dX3_placeOf_19 : decode cX3_placeOf 19 = .ok (.istore 4, 2) := by decide +kernel
theorem dX3_placeOf_21 : decode cX3_placeOf 21 = .ok (.iconst 0, 1) := by decide +kernel
theorem dX3_placeOf_22 : decode cX3_placeOf 22 = .ok (.istore 5, 2) := by decide +kernel
theorem dX3_placeOf_24 : decode cX3_placeOf 24 = .ok (.iload 5, 2) := by decide +kernel
theorem dX3_placeOf_26 : decode cX3_placeOf 26 = .ok (.iload_n 3, 1) := by decide +kernel
theorem dX3_placeOf_27 : decode cX3_placeOf 27 = .ok (.if_icmp .gt 46, 3) := by decide +kernel
theorem dX3_placeOf_30 : decode cX3_placeOf 30 = .ok (.aload_n 0, 1) := by decide +kernel
theorem dX3_placeOf_31 : decode cX3_placeOf 31 = .ok (.getfield 22, 3) := by decide +kernel
theorem dX3_placeOf_34 : decode cX3_placeOf 34 = .ok (.iload 4, 2) := by decide +kernel
theorem dX3_placeOf_36 : decode cX3_placeOf 36 = .ok (.iaload, 1) := by decide +kernel
theorem dX3_placeOf_37 : decode cX3_placeOf 37 = .ok (.istore 6, 2) := by decide +kernel
theorem dX3_placeOf_39 : decode cX3_placeOf 39 = .ok (.iload 6, 2) := by decide +kernel
theorem dX3_placeOf_41 : decode cX3_placeOf 41 = .ok (.ifCond .eq 15, 3) := by decide +kernel
theorem dX3_placeOf_44 : decode cX3_placeOf 44 = .ok (.aload_n 0, 1) := by decide +kernel
theorem dX3_placeOf_45 : decode cX3_placeOf 45 = .ok (.getfield 11, 3) := by decide +kernel
theorem dX3_placeOf_48 : decode cX3_placeOf 48 = .ok (.iload 6, 2) := by decide +kernel
theorem dX3_placeOf_50 : decode cX3_placeOf 50 = .ok (.laload, 1) := by decide +kernel
theorem dX3_placeOf_51 : decode cX3_placeOf 51 = .ok (.lload_n 1, 1) := by decide +kernel
theorem dX3_placeOf_52 : decode cX3_placeOf 52 = .ok (.lcmp, 1) := by decide +kernel
theorem dX3_placeOf_53 : decode cX3_placeOf 53 = .ok (.ifCond .ne 6, 3) := by decide +kernel
theorem dX3_placeOf_56 : decode cX3_placeOf 56 = .ok (.iload 4, 2) := by decide +kernel
theorem dX3_placeOf_58 : decode cX3_placeOf 58 = .ok (.ireturn, 1) := by decide +kernel
theorem dX3_placeOf_59 : decode cX3_placeOf 59 = .ok (.iload 4, 2) := by decide +kernel
theorem dX3_placeOf_61 : decode cX3_placeOf 61 = .ok (.iconst 1, 1) := by decide +kernel
theorem dX3_placeOf_62 : decode cX3_placeOf 62 = .ok (.iadd, 1) := by decide +kernel
theorem dX3_placeOf_63 : decode cX3_placeOf 63 = .ok (.iload_n 3, 1) := by decide +kernel
theorem dX3_placeOf_64 : decode cX3_placeOf 64 = .ok (.iand, 1) := by decide +kernel
theorem dX3_placeOf_65 : decode cX3_placeOf 65 = .ok (.istore 4, 2) := by decide +kernel
theorem dX3_placeOf_67 : decode cX3_placeOf 67 = .ok (.iinc 5 1, 3) := by decide +kernel
theorem dX3_placeOf_70 : decode cX3_placeOf 70 = .ok (.goto (-46), 3) := by decide +kernel
theorem dX3_placeOf_73 : decode cX3_placeOf 73 = .ok (.iload 4, 2) := by decide +kernel
theorem dX3_placeOf_75 : decode cX3_placeOf 75 = .ok (.ireturn, 1) := by decide +kernel
theorem dX3_enlarge_0 : decode cX3_enlarge 0 = .ok (.iconst 2, 1) := by decide +kernel
theorem dX3_enlarge_1 : decode cX3_enlarge 1 = .ok (.aload_n 0, 1) := by decide +kernel
theorem dX3_enlarge_2 : decode cX3_enlarge 2 = .ok (.getfield 11, 3) := by decide +kernel
theorem dX3_enlarge_5 : decode cX3_enlarge 5 = .ok (.arraylength, 1) := by decide +kernel
theorem dX3_enlarge_6 : decode cX3_enlarge 6 = .ok (.imul, 1) := by decide +kernel
theorem dX3_enlarge_7 : decode cX3_enlarge 7 = .ok (.istore_n 1, 1) := by decide +kernel
theorem dX3_enlarge_8 : decode cX3_enlarge 8 = .ok (.aload_n 0, 1) := by decide +kernel
theorem dX3_enlarge_9 : decode cX3_enlarge 9 = .ok (.aload_n 0, 1) := by decide +kernel
theorem dX3_enlarge_10 : decode cX3_enlarge 10 = .ok (.getfield 11, 3) := by decide +kernel
theorem dX3_enlarge_13 : decode cX3_enlarge 13 = .ok (.iload_n 1, 1) := by decide +kernel
theorem dX3_enlarge_14 : decode cX3_enlarge 14 = .ok (.invokestatic 65, 3) := by decide +kernel
theorem dX3_enlarge_17 : decode cX3_enlarge 17 = .ok (.putfield 11, 3) := by decide +kernel
theorem dX3_enlarge_20 : decode cX3_enlarge 20 = .ok (.aload_n 0, 1) := by decide +kernel
theorem dX3_enlarge_21 : decode cX3_enlarge 21 = .ok (.aload_n 0, 1) := by decide +kernel
theorem dX3_enlarge_22 : decode cX3_enlarge 22 = .ok (.getfield 15, 3) := by decide +kernel
theorem dX3_enlarge_25 : decode cX3_enlarge 25 = .ok (.iload_n 1, 1) := by decide +kernel
theorem dX3_enlarge_26 : decode cX3_enlarge 26 = .ok (.invokestatic 71, 3) := by decide +kernel
theorem dX3_enlarge_29 : decode cX3_enlarge 29 = .ok (.putfield 15, 3) := by decide +kernel
theorem dX3_enlarge_32 : decode cX3_enlarge 32 = .ok (.aload_n 0, 1) := by decide +kernel
theorem dX3_enlarge_33 : decode cX3_enlarge 33 = .ok (.aload_n 0, 1) := by decide +kernel
theorem dX3_enlarge_34 : decode cX3_enlarge 34 = .ok (.getfield 19, 3) := by decide +kernel
theorem dX3_enlarge_37 : decode cX3_enlarge 37 = .ok (.iload_n 1, 1) := by decide +kernel
theorem dX3_enlarge_38 : decode cX3_enlarge 38 = .ok (.invokestatic 71, 3) := by decide +kernel
theorem dX3_enlarge_41 : decode cX3_enlarge 41 = .ok (.putfield 19, 3) := by decide +kernel
theorem dX3_enlarge_44 : decode cX3_enlarge 44 = .ok (.aload_n 0, 1) := by decide +kernel
theorem dX3_enlarge_45 : decode cX3_enlarge 45 = .ok (.iconst 2, 1) := by decide +kernel
theorem dX3_enlarge_46 : decode cX3_enlarge 46 = .ok (.iload_n 1, 1) := by decide +kernel
theorem dX3_enlarge_47 : decode cX3_enlarge 47 = .ok (.imul, 1) := by decide +kernel
theorem dX3_enlarge_48 : decode cX3_enlarge 48 = .ok (.newarray .int, 2) := by decide +kernel
theorem dX3_enlarge_50 : decode cX3_enlarge 50 = .ok (.putfield 22, 3) := by decide +kernel
theorem dX3_enlarge_53 : decode cX3_enlarge 53 = .ok (.iconst 2, 1) := by decide +kernel
theorem dX3_enlarge_54 : decode cX3_enlarge 54 = .ok (.istore_n 2, 1) := by decide +kernel
theorem dX3_enlarge_55 : decode cX3_enlarge 55 = .ok (.iload_n 2, 1) := by decide +kernel
theorem dX3_enlarge_56 : decode cX3_enlarge 56 = .ok (.aload_n 0, 1) := by decide +kernel
theorem dX3_enlarge_57 : decode cX3_enlarge 57 = .ok (.getfield 25, 3) := by decide +kernel
theorem dX3_enlarge_60 : decode cX3_enlarge 60 = .ok (.if_icmp .ge 25, 3) := by decide +kernel
theorem dX3_enlarge_63 : decode cX3_enlarge 63 = .ok (.aload_n 0, 1) := by decide +kernel
theorem dX3_enlarge_64 : decode cX3_enlarge 64 = .ok (.getfield 22, 3) := by decide +kernel
theorem dX3_enlarge_67 : decode cX3_enlarge 67 = .ok (.aload_n 0, 1) := by decide +kernel
theorem dX3_enlarge_68 : decode cX3_enlarge 68 = .ok (.aload_n 0, 1) := by decide +kernel
theorem dX3_enlarge_69 : decode cX3_enlarge 69 = .ok (.getfield 11, 3) := by decide +kernel
theorem dX3_enlarge_72 : decode cX3_enlarge 72 = .ok (.iload_n 2, 1) := by decide +kernel
theorem dX3_enlarge_73 : decode cX3_enlarge 73 = .ok (.laload, 1) := by decide +kernel
theorem dX3_enlarge_74 : decode cX3_enlarge 74 = .ok (.invokevirtual 59, 3) := by decide +kernel
theorem dX3_enlarge_77 : decode cX3_enlarge 77 = .ok (.iload_n 2, 1) := by decide +kernel
theorem dX3_enlarge_78 : decode cX3_enlarge 78 = .ok (.iastore, 1) := by decide +kernel
theorem dX3_enlarge_79 : decode cX3_enlarge 79 = .ok (.iinc 2 1, 3) := by decide +kernel
theorem dX3_enlarge_82 : decode cX3_enlarge 82 = .ok (.goto (-27), 3) := by decide +kernel
theorem dX3_enlarge_85 : decode cX3_enlarge 85 = .ok (.return_, 1) := by decide +kernel
theorem dX4_init_0 : decode cX4_init 0 = .ok (.aload_n 0, 1) := by decide +kernel
theorem dX4_init_1 : decode cX4_init 1 = .ok (.invokespecial 1, 3) := by decide +kernel
theorem dX4_init_4 : decode cX4_init 4 = .ok (.aload_n 0, 1) := by decide +kernel
theorem dX4_init_5 : decode cX4_init 5 = .ok (.aload_n 1, 1) := by decide +kernel
theorem dX4_init_6 : decode cX4_init 6 = .ok (.putfield 7, 3) := by decide +kernel
theorem dX4_init_9 : decode cX4_init 9 = .ok (.aload_n 0, 1) := by decide +kernel
theorem dX4_init_10 : decode cX4_init 10 = .ok (.iload_n 2, 1) := by decide +kernel
theorem dX4_init_11 : decode cX4_init 11 = .ok (.putfield 13, 3) := by decide +kernel
theorem dX4_init_14 : decode cX4_init 14 = .ok (.aload_n 0, 1) := by decide +kernel
theorem dX4_init_15 : decode cX4_init 15 = .ok (.iload_n 3, 1) := by decide +kernel
theorem dX4_init_16 : decode cX4_init 16 = .ok (.putfield 17, 3) := by decide +kernel
theorem dX4_init_19 : decode cX4_init 19 = .ok (.return_, 1) := by decide +kernel
theorem dX6_init_0 : decode cX6_init 0 = .ok (.aload_n 0, 1) := by decide +kernel
theorem dX6_init_1 : decode cX6_init 1 = .ok (.invokespecial 3, 3) := by decide +kernel
theorem dX6_init_4 : decode cX6_init 4 = .ok (.aload_n 0, 1) := by decide +kernel
theorem dX6_init_5 : decode cX6_init 5 = .ok (.sipush 200, 3) := by decide +kernel
theorem dX6_init_8 : decode cX6_init 8 = .ok (.newarray .int, 2) := by decide +kernel
theorem dX6_init_10 : decode cX6_init 10 = .ok (.putfield 9, 3) := by decide +kernel
theorem dX6_init_13 : decode cX6_init 13 = .ok (.aload_n 0, 1) := by decide +kernel
theorem dX6_init_14 : decode cX6_init 14 = .ok (.sipush 200, 3) := by decide +kernel
theorem dX6_init_17 : decode cX6_init 17 = .ok (.newarray .int, 2) := by decide +kernel
theorem dX6_init_19 : decode cX6_init 19 = .ok (.putfield 15, 3) := by decide +kernel
theorem dX6_init_22 : decode cX6_init 22 = .ok (.aload_n 0, 1) := by decide +kernel
theorem dX6_init_23 : decode cX6_init 23 = .ok (.iconst 0, 1) := by decide +kernel
theorem dX6_init_24 : decode cX6_init 24 = .ok (.putfield 18, 3) := by decide +kernel
theorem dX6_init_27 : decode cX6_init 27 = .ok (.aload_n 0, 1) := by decide +kernel
theorem dX6_init_28 : decode cX6_init 28 = .ok (.iconst 0, 1) := by decide +kernel
theorem dX6_init_29 : decode cX6_init 29 = .ok (.newarray .byte, 2) := by decide +kernel
theorem dX6_init_31 : decode cX6_init 31 = .ok (.putfield 22, 3) := by decide +kernel
theorem dX6_init_34 : decode cX6_init 34 = .ok (.aload_n 0, 1) := by decide +kernel
theorem dX6_init_35 : decode cX6_init 35 = .ok (.iconst 0, 1) := by decide +kernel
theorem dX6_init_36 : decode cX6_init 36 = .ok (.putfield 26, 3) := by decide +kernel
theorem dX6_init_39 : decode cX6_init 39 = .ok (.aload_n 0, 1) := by decide +kernel
theorem dX6_init_40 : decode cX6_init 40 = .ok (.iconst 0, 1) := by decide +kernel
theorem dX6_init_41 : decode cX6_init 41 = .ok (.anewarray 29, 3) := by decide +kernel
theorem dX6_init_44 : decode cX6_init 44 = .ok (.putfield 31, 3) := by decide +kernel
theorem dX6_init_47 : decode cX6_init 47 = .ok (.aload_n 0, 1) := by decide +kernel
theorem dX6_init_48 : decode cX6_init 48 = .ok (.bipush 11, 2) := by decide +kernel
theorem dX6_init_50 : decode cX6_init 50 = .ok (.putfield 35, 3) := by decide +kernel
theorem dX6_init_53 : decode cX6_init 53 = .ok (.aload_n 0, 1) := by decide +kernel
theorem dX6_init_54 : decode cX6_init 54 = .ok (.iconst 0, 1) := by decide +kernel
theorem dX6_init_55 : decode cX6_init 55 = .ok (.putfield 38, 3) := by decide +kernel
theorem dX6_init_58 : decode cX6_init 58 = .ok (.aload_n 0, 1) := by decide +kernel
theorem dX6_init_59 : decode cX6_init 59 = .ok (.iconst 0, 1) := by decide +kernel
theorem dX6_init_60 : decode cX6_init 60 = .ok (.putfield 41, 3) := by decide +kernel
theorem dX6_init_63 : decode cX6_init 63 = .ok (.aload_n 0, 1) := by decide +kernel
theorem dX6_init_64 : decode cX6_init 64 = .ok (.iconst (-1), 1) := by decide +kernel
theorem dX6_init_65 : decode cX6_init 65 = .ok (.putfield 44, 3) := by decide +kernel
theorem dX6_init_68 : decode cX6_init 68 = .ok (.return_, 1) := by decide +kernel
theorem dX7_has_0 : decode cX7_has 0 = .ok (.iload_n 1, 1) := by decide +kernel
theorem dX7_has_1 : decode cX7_has 1 = .ok (.ifCond .lt 32, 3) := by decide +kernel
theorem dX7_has_4 : decode cX7_has 4 = .ok (.iload_n 1, 1) := by decide +kernel
theorem dX7_has_5 : decode cX7_has 5 = .ok (.sipush 4096, 3) := by decide +kernel
theorem dX7_has_8 : decode cX7_has 8 = .ok (.if_icmp .ge 25, 3) := by decide +kernel
theorem dX7_has_11 : decode cX7_has 11 = .ok (.aload_n 0, 1) := by decide +kernel
theorem dX7_has_12 : decode cX7_has 12 = .ok (.iload_n 1, 1) := by decide +kernel
theorem dX7_has_13 : decode cX7_has 13 = .ok (.bipush 64, 2) := by decide +kernel
theorem dX7_has_15 : decode cX7_has 15 = .ok (.idiv, 1) := by decide +kernel
theorem dX7_has_16 : decode cX7_has 16 = .ok (.laload, 1) := by decide +kernel
theorem dX7_has_17 : decode cX7_has 17 = .ok (.iload_n 1, 1) := by decide +kernel
theorem dX7_has_18 : decode cX7_has 18 = .ok (.bipush 64, 2) := by decide +kernel
theorem dX7_has_20 : decode cX7_has 20 = .ok (.irem, 1) := by decide +kernel
theorem dX7_has_21 : decode cX7_has 21 = .ok (.lushr, 1) := by decide +kernel
theorem dX7_has_22 : decode cX7_has 22 = .ok (.lconst 1, 1) := by decide +kernel
theorem dX7_has_23 : decode cX7_has 23 = .ok (.land, 1) := by decide +kernel
theorem dX7_has_24 : decode cX7_has 24 = .ok (.lconst 0, 1) := by decide +kernel
theorem dX7_has_25 : decode cX7_has 25 = .ok (.lcmp, 1) := by decide +kernel
theorem dX7_has_26 : decode cX7_has 26 = .ok (.ifCond .eq 7, 3) := by decide +kernel
theorem dX7_has_29 : decode cX7_has 29 = .ok (.iconst 1, 1) := by decide +kernel
theorem dX7_has_30 : decode cX7_has 30 = .ok (.goto 4, 3) := by decide +kernel
theorem dX7_has_33 : decode cX7_has 33 = .ok (.iconst 0, 1) := by decide +kernel
theorem dX7_has_34 : decode cX7_has 34 = .ok (.ireturn, 1) := by decide +kernel
theorem dX7_put_0 : decode cX7_put 0 = .ok (.iload_n 1, 1) := by decide +kernel
theorem dX7_put_1 : decode cX7_put 1 = .ok (.ifCond .lt 25, 3) := by decide +kernel
theorem dX7_put_4 : decode cX7_put 4 = .ok (.iload_n 1, 1) := by decide +kernel
theorem dX7_put_5 : decode cX7_put 5 = .ok (.sipush 4096, 3) := by decide +kernel
theorem dX7_put_8 : decode cX7_put 8 = .ok (.if_icmp .ge 18, 3) := by decide +kernel
theorem dX7_put_11 : decode cX7_put 11 = .ok (.aload_n 0, 1) := by decide +kernel
theorem dX7_put_12 : decode cX7_put 12 = .ok (.iload_n 1, 1) := by decide +kernel
theorem dX7_put_13 : decode cX7_put 13 = .ok (.bipush 64, 2) := by decide +kernel
theorem dX7_put_15 : decode cX7_put 15 = .ok (.idiv, 1) := by decide +kernel
theorem dX7_put_16 : decode cX7_put 16 = .ok (.dup2, 1) := by decide +kernel
theorem dX7_put_17 : decode cX7_put 17 = .ok (.laload, 1) := by decide +kernel
theorem dX7_put_18 : decode cX7_put 18 = .ok (.lconst 1, 1) := by decide +kernel
theorem dX7_put_19 : decode cX7_put 19 = .ok (.iload_n 1, 1) := by decide +kernel
theorem dX7_put_20 : decode cX7_put 20 = .ok (.bipush 64, 2) := by decide +kernel
theorem dX7_put_22 : decode cX7_put 22 = .ok (.irem, 1) := by decide +kernel
theorem dX7_put_23 : decode cX7_put 23 = .ok (.lshl, 1) := by decide +kernel
theorem dX7_put_24 : decode cX7_put 24 = .ok (.lor, 1) := by decide +kernel
theorem dX7_put_25 : decode cX7_put 25 = .ok (.lastore, 1) := by decide +kernel
theorem dX7_put_26 : decode cX7_put 26 = .ok (.return_, 1) := by decide +kernel
theorem dX7_remove_0 : decode cX7_remove 0 = .ok (.iload_n 1, 1) := by decide +kernel
theorem dX7_remove_1 : decode cX7_remove 1 = .ok (.ifCond .lt 29, 3) := by decide +kernel
theorem dX7_remove_4 : decode cX7_remove 4 = .ok (.iload_n 1, 1) := by decide +kernel
theorem dX7_remove_5 : decode cX7_remove 5 = .ok (.sipush 4096, 3) := by decide +kernel
theorem dX7_remove_8 : decode cX7_remove 8 = .ok (.if_icmp .ge 22, 3) := by decide +kernel
theorem dX7_remove_11 : decode cX7_remove 11 = .ok (.aload_n 0, 1) := by decide +kernel
theorem dX7_remove_12 : decode cX7_remove 12 = .ok (.iload_n 1, 1) := by decide +kernel
theorem dX7_remove_13 : decode cX7_remove 13 = .ok (.bipush 64, 2) := by decide +kernel
theorem dX7_remove_15 : decode cX7_remove 15 = .ok (.idiv, 1) := by decide +kernel
theorem dX7_remove_16 : decode cX7_remove 16 = .ok (.dup2, 1) := by decide +kernel
theorem dX7_remove_17 : decode cX7_remove 17 = .ok (.laload, 1) := by decide +kernel
theorem dX7_remove_18 : decode cX7_remove 18 = .ok (.lconst 1, 1) := by decide +kernel
theorem dX7_remove_19 : decode cX7_remove 19 = .ok (.iload_n 1, 1) := by decide +kernel
theorem dX7_remove_20 : decode cX7_remove 20 = .ok (.bipush 64, 2) := by decide +kernel
theorem dX7_remove_22 : decode cX7_remove 22 = .ok (.irem, 1) := by decide +kernel
theorem dX7_remove_23 : decode cX7_remove 23 = .ok (.lshl, 1) := by decide +kernel
theorem dX7_remove_24 : decode cX7_remove 24 = .ok (.ldc2_w 9, 3) := by decide +kernel
theorem dX7_remove_27 : decode cX7_remove 27 = .ok (.lxor, 1) := by decide +kernel
theorem dX7_remove_28 : decode cX7_remove 28 = .ok (.land, 1) := by decide +kernel
theorem dX7_remove_29 : decode cX7_remove 29 = .ok (.lastore, 1) := by decide +kernel
theorem dX7_remove_30 : decode cX7_remove 30 = .ok (.return_, 1) := by decide +kernel
theorem dX7_copy_0 : decode cX7_copy 0 = .ok (.aload_n 0, 1) := by decide +kernel
theorem dX7_copy_1 : decode cX7_copy 1 = .ok (.iconst 0, 1) := by decide +kernel
theorem dX7_copy_2 : decode cX7_copy 2 = .ok (.aload_n 1, 1) := by decide +kernel
theorem dX7_copy_3 : decode cX7_copy 3 = .ok (.iconst 0, 1) := by decide +kernel
theorem dX7_copy_4 : decode cX7_copy 4 = .ok (.bipush 64, 2) := by decide +kernel
theorem dX7_copy_6 : decode cX7_copy 6 = .ok (.invokestatic 11, 3) := by decide +kernel
theorem dX7_copy_9 : decode cX7_copy 9 = .ok (.return_, 1) := by decide +kernel
theorem dX7_size_0 : decode cX7_size 0 = .ok (.iconst 0, 1) := by decide +kernel
theorem dX7_size_1 : decode cX7_size 1 = .ok (.istore_n 1, 1) := by decide +kernel
theorem dX7_size_2 : decode cX7_size 2 = .ok (.iconst 0, 1) := by decide +kernel
theorem dX7_size_3 : decode cX7_size 3 = .ok (.istore_n 2, 1) := by decide +kernel
theorem dX7_size_4 : decode cX7_size 4 = .ok (.iload_n 2, 1) := by decide +kernel
theorem dX7_size_5 : decode cX7_size 5 = .ok (.bipush 64, 2) := by decide +kernel
theorem dX7_size_7 : decode cX7_size 7 = .ok (.if_icmp .ge 18, 3) := by decide +kernel
theorem dX7_size_10 : decode cX7_size 10 = .ok (.iload_n 1, 1) := by decide +kernel
theorem dX7_size_11 : decode cX7_size 11 = .ok (.aload_n 0, 1) := by decide +kernel
theorem dX7_size_12 : decode cX7_size 12 = .ok (.iload_n 2, 1) := by decide +kernel
theorem dX7_size_13 : decode cX7_size 13 = .ok (.laload, 1) := by decide +kernel
theorem dX7_size_14 : decode cX7_size 14 = .ok (.invokestatic 17, 3) := by decide +kernel
theorem dX7_size_17 : decode cX7_size 17 = .ok (.iadd, 1) := by decide +kernel
theorem dX7_size_18 : decode cX7_size 18 = .ok (.istore_n 1, 1) := by decide +kernel
theorem dX7_size_19 : decode cX7_size 19 = .ok (.iinc 2 1, 3) := by decide +kernel
theorem dX7_size_22 : decode cX7_size 22 = .ok (.goto (-18), 3) := by decide +kernel
theorem dX7_size_25 : decode cX7_size 25 = .ok (.iload_n 1, 1) := by decide +kernel
theorem dX7_size_26 : decode cX7_size 26 = .ok (.ireturn, 1) := by decide +kernel
theorem dX7_isInside_0 : decode cX7_isInside 0 = .ok (.iconst 0, 1) := by decide +kernel
theorem dX7_isInside_1 : decode cX7_isInside 1 = .ok (.istore_n 2, 1) := by decide +kernel
theorem dX7_isInside_2 : decode cX7_isInside 2 = .ok (.iload_n 2, 1) := by decide +kernel
theorem dX7_isInside_3 : decode cX7_isInside 3 = .ok (.bipush 64, 2) := by decide +kernel
theorem dX7_isInside_5 : decode cX7_isInside 5 = .ok (.if_icmp .ge 27, 3) := by decide +kernel
theorem dX7_isInside_8 : decode cX7_isInside 8 = .ok (.aload_n 0, 1) := by decide +kernel
theorem dX7_isInside_9 : decode cX7_isInside 9 = .ok (.iload_n 2, 1) := by decide +kernel
theorem dX7_isInside_10 : decode cX7_isInside 10 = .ok (.laload, 1) := by decide +kernel
theorem dX7_isInside_11 : decode cX7_isInside 11 = .ok (.aload_n 1, 1) := by decide +kernel
theorem dX7_isInside_12 : decode cX7_isInside 12 = .ok (.iload_n 2, 1) := by decide +kernel
theorem dX7_isInside_13 : decode cX7_isInside 13 = .ok (.laload, 1) := by decide +kernel
theorem dX7_isInside_14 : decode cX7_isInside 14 = .ok (.ldc2_w 9, 3) := by decide +kernel
theorem dX7_isInside_17 : decode cX7_isInside 17 = .ok (.lxor, 1) := by decide +kernel
theorem dX7_isInside_18 : decode cX7_isInside 18 = .ok (.land, 1) := by decide +kernel
theorem dX7_isInside_19 : decode cX7_isInside 19 = .ok (.lconst 0, 1) := by decide +kernel
theorem dX7_isInside_20 : decode cX7_isInside 20 = .ok (.lcmp, 1) := by decide +kernel
theorem dX7_isInside_21 : decode cX7_isInside 21 = .ok (.ifCond .eq 5, 3) := by decide +kernel
theorem dX7_isInside_24 : decode cX7_isInside 24 = .ok (.iconst 0, 1) := by decide +kernel
theorem dX7_isInside_25 : decode cX7_isInside 25 = .ok (.ireturn, 1) := by decide +kernel
theorem dX7_isInside_26 : decode cX7_isInside 26 = .ok (.iinc 2 1, 3) := by decide +kernel
theorem dX7_isInside_29 : decode cX7_isInside 29 = .ok (.goto (-27), 3) := by decide +kernel
theorem dX7_isInside_32 : decode cX7_isInside 32 = .ok (.iconst 1, 1) := by decide +kernel
theorem dX7_isInside_33 : decode cX7_isInside 33 = .ok (.ireturn, 1) := by decide +kernel
theorem dX7_span_0 : decode cX7_span 0 = .ok (.iconst 0, 1) := by decide +kernel
theorem dX7_span_1 : decode cX7_span 1 = .ok (.istore_n 1, 1) := by decide +kernel
theorem dX7_span_2 : decode cX7_span 2 = .ok (.bipush 63, 2) := by decide +kernel
theorem dX7_span_4 : decode cX7_span 4 = .ok (.istore_n 2, 1) := by decide +kernel
theorem dX7_span_5 : decode cX7_span 5 = .ok (.iload_n 2, 1) := by decide +kernel
theorem dX7_span_6 : decode cX7_span 6 = .ok (.ifCond .lt 38, 3) := by decide +kernel
theorem dX7_span_9 : decode cX7_span 9 = .ok (.iload_n 1, 1) := by decide +kernel
theorem dX7_span_10 : decode cX7_span 10 = .ok (.ifCond .ne 34, 3) := by decide +kernel
theorem dX7_span_13 : decode cX7_span 13 = .ok (.aload_n 0, 1) := by decide +kernel
theorem dX7_span_14 : decode cX7_span 14 = .ok (.iload_n 2, 1) := by decide +kernel
theorem dX7_span_15 : decode cX7_span 15 = .ok (.laload, 1) := by decide +kernel
theorem dX7_span_16 : decode cX7_span 16 = .ok (.lconst 0, 1) := by decide +kernel
theorem dX7_span_17 : decode cX7_span 17 = .ok (.lcmp, 1) := by decide +kernel
theorem dX7_span_18 : decode cX7_span 18 = .ok (.ifCond .eq 20, 3) := by decide +kernel
theorem dX7_span_21 : decode cX7_span 21 = .ok (.iload_n 2, 1) := by decide +kernel
theorem dX7_span_22 : decode cX7_span 22 = .ok (.bipush 64, 2) := by decide +kernel
theorem dX7_span_24 : decode cX7_span 24 = .ok (.imul, 1) := by decide +kernel
theorem dX7_span_25 : decode cX7_span 25 = .ok (.bipush 64, 2) := by decide +kernel
theorem dX7_span_27 : decode cX7_span 27 = .ok (.iadd, 1) := by decide +kernel
theorem dX7_span_28 : decode cX7_span 28 = .ok (.iconst 1, 1) := by decide +kernel
theorem dX7_span_29 : decode cX7_span 29 = .ok (.isub, 1) := by decide +kernel
theorem dX7_span_30 : decode cX7_span 30 = .ok (.aload_n 0, 1) := by decide +kernel
theorem dX7_span_31 : decode cX7_span 31 = .ok (.iload_n 2, 1) := by decide +kernel
theorem dX7_span_32 : decode cX7_span 32 = .ok (.laload, 1) := by decide +kernel
theorem dX7_span_33 : decode cX7_span 33 = .ok (.invokestatic 23, 3) := by decide +kernel
theorem dX7_span_36 : decode cX7_span 36 = .ok (.isub, 1) := by decide +kernel
theorem dX7_span_37 : decode cX7_span 37 = .ok (.istore_n 1, 1) := by decide +kernel
theorem dX7_span_38 : decode cX7_span 38 = .ok (.iinc 2 (-1), 3) := by decide +kernel
theorem dX7_span_41 : decode cX7_span 41 = .ok (.goto (-36), 3) := by decide +kernel
theorem dX7_span_44 : decode cX7_span 44 = .ok (.iconst 1, 1) := by decide +kernel
theorem dX7_span_45 : decode cX7_span 45 = .ok (.istore_n 2, 1) := by decide +kernel
theorem dX7_span_46 : decode cX7_span 46 = .ok (.iload_n 2, 1) := by decide +kernel
theorem dX7_span_47 : decode cX7_span 47 = .ok (.iload_n 1, 1) := by decide +kernel
theorem dX7_span_48 : decode cX7_span 48 = .ok (.if_icmp .gt 17, 3) := by decide +kernel
theorem dX7_span_51 : decode cX7_span 51 = .ok (.iload_n 2, 1) := by decide +kernel
theorem dX7_span_52 : decode cX7_span 52 = .ok (.sipush 4096, 3) := by decide +kernel
theorem dX7_span_55 : decode cX7_span 55 = .ok (.if_icmp .ge 10, 3) := by decide +kernel
theorem dX7_span_58 : decode cX7_span 58 = .ok (.iload_n 2, 1) := by decide +kernel
theorem dX7_span_59 : decode cX7_span 59 = .ok (.iconst 2, 1) := by decide +kernel
theorem dX7_span_60 : decode cX7_span 60 = .ok (.imul, 1) := by decide +kernel
theorem dX7_span_61 : decode cX7_span 61 = .ok (.istore_n 2, 1) := by decide +kernel
theorem dX7_span_62 : decode cX7_span 62 = .ok (.goto (-16), 3) := by decide +kernel
theorem dX7_span_65 : decode cX7_span 65 = .ok (.iload_n 2, 1) := by decide +kernel
theorem dX7_span_66 : decode cX7_span 66 = .ok (.ireturn, 1) := by decide +kernel
theorem dX7_list_0 : decode cX7_list 0 = .ok (.iconst 0, 1) := by decide +kernel
theorem dX7_list_1 : decode cX7_list 1 = .ok (.istore_n 2, 1) := by decide +kernel
theorem dX7_list_2 : decode cX7_list 2 = .ok (.iconst 0, 1) := by decide +kernel
theorem dX7_list_3 : decode cX7_list 3 = .ok (.istore_n 3, 1) := by decide +kernel
theorem dX7_list_4 : decode cX7_list 4 = .ok (.iload_n 3, 1) := by decide +kernel
theorem dX7_list_5 : decode cX7_list 5 = .ok (.bipush 64, 2) := by decide +kernel
theorem dX7_list_7 : decode cX7_list 7 = .ok (.if_icmp .ge 68, 3) := by decide +kernel
theorem dX7_list_10 : decode cX7_list 10 = .ok (.aload_n 0, 1) := by decide +kernel
theorem dX7_list_11 : decode cX7_list 11 = .ok (.iload_n 3, 1) := by decide +kernel
theorem dX7_list_12 : decode cX7_list 12 = .ok (.laload, 1) := by decide +kernel
theorem dX7_list_13 : decode cX7_list 13 = .ok (.lstore 4, 2) := by decide +kernel
theorem dX7_list_15 : decode cX7_list 15 = .ok (.iconst 0, 1) := by decide +kernel
theorem dX7_list_16 : decode cX7_list 16 = .ok (.istore 6, 2) := by decide +kernel
theorem dX7_list_18 : decode cX7_list 18 = .ok (.iload 6, 2) := by decide +kernel
theorem dX7_list_20 : decode cX7_list 20 = .ok (.bipush 64, 2) := by decide +kernel
theorem dX7_list_22 : decode cX7_list 22 = .ok (.if_icmp .ge 47, 3) := by decide +kernel
theorem dX7_list_25 : decode cX7_list 25 = .ok (.lload 4, 2) := by decide +kernel
theorem dX7_list_27 : decode cX7_list 27 = .ok (.lconst 0, 1) := by decide +kernel
theorem dX7_list_28 : decode cX7_list 28 = .ok (.lcmp, 1) := by decide +kernel
theorem dX7_list_29 : decode cX7_list 29 = .ok (.ifCond .eq 40, 3) := by decide +kernel
theorem dX7_list_32 : decode cX7_list 32 = .ok (.iload_n 2, 1) := by decide +kernel
theorem dX7_list_33 : decode cX7_list 33 = .ok (.aload_n 1, 1) := by decide +kernel
theorem dX7_list_34 : decode cX7_list 34 = .ok (.arraylength, 1) := by decide +kernel
theorem dX7_list_35 : decode cX7_list 35 = .ok (.if_icmp .ge 19, 3) := by decide +kernel
theorem dX7_list_38 : decode cX7_list 38 = .ok (.aload_n 1, 1) := by decide +kernel
theorem dX7_list_39 : decode cX7_list 39 = .ok (.iload_n 2, 1) := by decide +kernel
theorem dX7_list_40 : decode cX7_list 40 = .ok (.iload_n 3, 1) := by decide +kernel
theorem dX7_list_41 : decode cX7_list 41 = .ok (.bipush 64, 2) := by decide +kernel
theorem dX7_list_43 : decode cX7_list 43 = .ok (.imul, 1) := by decide +kernel
theorem dX7_list_44 : decode cX7_list 44 = .ok (.lload 4, 2) := by decide +kernel
theorem dX7_list_46 : decode cX7_list 46 = .ok (.invokestatic 26, 3) := by decide +kernel
theorem dX7_list_49 : decode cX7_list 49 = .ok (.iadd, 1) := by decide +kernel
theorem dX7_list_50 : decode cX7_list 50 = .ok (.iastore, 1) := by decide +kernel
theorem dX7_list_51 : decode cX7_list 51 = .ok (.iinc 2 1, 3) := by decide +kernel
theorem dX7_list_54 : decode cX7_list 54 = .ok (.lload 4, 2) := by decide +kernel
theorem dX7_list_56 : decode cX7_list 56 = .ok (.lload 4, 2) := by decide +kernel
theorem dX7_list_58 : decode cX7_list 58 = .ok (.lconst 1, 1) := by decide +kernel
theorem dX7_list_59 : decode cX7_list 59 = .ok (.lsub, 1) := by decide +kernel
theorem dX7_list_60 : decode cX7_list 60 = .ok (.land, 1) := by decide +kernel
theorem dX7_list_61 : decode cX7_list 61 = .ok (.lstore 4, 2) := by decide +kernel
theorem dX7_list_63 : decode cX7_list 63 = .ok (.iinc 6 1, 3) := by decide +kernel
theorem dX7_list_66 : decode cX7_list 66 = .ok (.goto (-48), 3) := by decide +kernel
theorem dX7_list_69 : decode cX7_list 69 = .ok (.iinc 3 1, 3) := by decide +kernel
theorem dX7_list_72 : decode cX7_list 72 = .ok (.goto (-68), 3) := by decide +kernel
theorem dX7_list_75 : decode cX7_list 75 = .ok (.iload_n 2, 1) := by decide +kernel
theorem dX7_list_76 : decode cX7_list 76 = .ok (.ireturn, 1) := by decide +kernel
theorem dX7_takeOut_0 : decode cX7_takeOut 0 = .ok (.iload_n 2, 1) := by decide +kernel
theorem dX7_takeOut_1 : decode cX7_takeOut 1 = .ok (.bipush 6, 2) := by decide +kernel
theorem dX7_takeOut_3 : decode cX7_takeOut 3 = .ok (.if_icmp .ge 41, 3) := by decide +kernel
theorem dX7_takeOut_6 : decode cX7_takeOut 6 = .ok (.iload_n 2, 1) := by decide +kernel
theorem dX7_takeOut_7 : decode cX7_takeOut 7 = .ok (.ifCond .lt 37, 3) := by decide +kernel
theorem dX7_takeOut_10 : decode cX7_takeOut 10 = .ok (.iconst 0, 1) := by decide +kernel
theorem dX7_takeOut_11 : decode cX7_takeOut 11 = .ok (.istore_n 3, 1) := by decide +kernel
theorem dX7_takeOut_12 : decode cX7_takeOut 12 = .ok (.iload_n 3, 1) := by decide +kernel
theorem dX7_takeOut_13 : decode cX7_takeOut 13 = .ok (.bipush 64, 2) := by decide +kernel
theorem dX7_takeOut_15 : decode cX7_takeOut 15 = .ok (.if_icmp .ge 28, 3) := by decide +kernel
theorem dX7_takeOut_18 : decode cX7_takeOut 18 = .ok (.aload_n 1, 1) := by decide +kernel
theorem dX7_takeOut_19 : decode cX7_takeOut 19 = .ok (.iload_n 3, 1) := by decide +kernel
theorem dX7_takeOut_20 : decode cX7_takeOut 20 = .ok (.dup2, 1) := by decide +kernel
theorem dX7_takeOut_21 : decode cX7_takeOut 21 = .ok (.laload, 1) := by decide +kernel
theorem dX7_takeOut_22 : decode cX7_takeOut 22 = .ok (.aload_n 0, 1) := by decide +kernel
theorem dX7_takeOut_23 : decode cX7_takeOut 23 = .ok (.iload_n 3, 1) := by decide +kernel
theorem dX7_takeOut_24 : decode cX7_takeOut 24 = .ok (.laload, 1) := by decide +kernel
theorem dX7_takeOut_25 : decode cX7_takeOut 25 = .ok (.getstatic 29, 3) := by decide +kernel
theorem dX7_takeOut_28 : decode cX7_takeOut 28 = .ok (.iload_n 2, 1) := by decide +kernel
theorem dX7_takeOut_29 : decode cX7_takeOut 29 = .ok (.laload, 1) := by decide +kernel
theorem dX7_takeOut_30 : decode cX7_takeOut 30 = .ok (.land, 1) := by decide +kernel
theorem dX7_takeOut_31 : decode cX7_takeOut 31 = .ok (.iconst 1, 1) := by decide +kernel
theorem dX7_takeOut_32 : decode cX7_takeOut 32 = .ok (.iload_n 2, 1) := by decide +kernel
theorem dX7_takeOut_33 : decode cX7_takeOut 33 = .ok (.ishl, 1) := by decide +kernel
theorem dX7_takeOut_34 : decode cX7_takeOut 34 = .ok (.lushr, 1) := by decide +kernel
theorem dX7_takeOut_35 : decode cX7_takeOut 35 = .ok (.lor, 1) := by decide +kernel
theorem dX7_takeOut_36 : decode cX7_takeOut 36 = .ok (.lastore, 1) := by decide +kernel
theorem dX7_takeOut_37 : decode cX7_takeOut 37 = .ok (.iinc 3 1, 3) := by decide +kernel
theorem dX7_takeOut_40 : decode cX7_takeOut 40 = .ok (.goto (-28), 3) := by decide +kernel
theorem dX7_takeOut_43 : decode cX7_takeOut 43 = .ok (.return_, 1) := by decide +kernel
theorem dX7_takeOut_44 : decode cX7_takeOut 44 = .ok (.iconst 1, 1) := by decide +kernel
theorem dX7_takeOut_45 : decode cX7_takeOut 45 = .ok (.iload_n 2, 1) := by decide +kernel
theorem dX7_takeOut_46 : decode cX7_takeOut 46 = .ok (.bipush 6, 2) := by decide +kernel
theorem dX7_takeOut_48 : decode cX7_takeOut 48 = .ok (.isub, 1) := by decide +kernel
theorem dX7_takeOut_49 : decode cX7_takeOut 49 = .ok (.ishl, 1) := by decide +kernel
theorem dX7_takeOut_50 : decode cX7_takeOut 50 = .ok (.istore_n 3, 1) := by decide +kernel
theorem dX7_takeOut_51 : decode cX7_takeOut 51 = .ok (.iconst 0, 1) := by decide +kernel
theorem dX7_takeOut_52 : decode cX7_takeOut 52 = .ok (.istore 4, 2) := by decide +kernel
theorem dX7_takeOut_54 : decode cX7_takeOut 54 = .ok (.iload 4, 2) := by decide +kernel
theorem dX7_takeOut_56 : decode cX7_takeOut 56 = .ok (.iload_n 3, 1) := by decide +kernel
theorem dX7_takeOut_57 : decode cX7_takeOut 57 = .ok (.iadd, 1) := by decide +kernel
theorem dX7_takeOut_58 : decode cX7_takeOut 58 = .ok (.bipush 64, 2) := by decide +kernel
theorem dX7_takeOut_60 : decode cX7_takeOut 60 = .ok (.if_icmp .ge 29, 3) := by decide +kernel
theorem dX7_takeOut_63 : decode cX7_takeOut 63 = .ok (.iload 4, 2) := by decide +kernel
theorem dX7_takeOut_65 : decode cX7_takeOut 65 = .ok (.iload_n 3, 1) := by decide +kernel
theorem dX7_takeOut_66 : decode cX7_takeOut 66 = .ok (.iand, 1) := by decide +kernel
theorem dX7_takeOut_67 : decode cX7_takeOut 67 = .ok (.ifCond .ne 16, 3) := by decide +kernel
theorem dX7_takeOut_70 : decode cX7_takeOut 70 = .ok (.aload_n 1, 1) := by decide +kernel
theorem dX7_takeOut_71 : decode cX7_takeOut 71 = .ok (.iload 4, 2) := by decide +kernel
theorem dX7_takeOut_73 : decode cX7_takeOut 73 = .ok (.dup2, 1) := by decide +kernel
theorem dX7_takeOut_74 : decode cX7_takeOut 74 = .ok (.laload, 1) := by decide +kernel
theorem dX7_takeOut_75 : decode cX7_takeOut 75 = .ok (.aload_n 0, 1) := by decide +kernel
theorem dX7_takeOut_76 : decode cX7_takeOut 76 = .ok (.iload 4, 2) := by decide +kernel
theorem dX7_takeOut_78 : decode cX7_takeOut 78 = .ok (.iload_n 3, 1) := by decide +kernel
theorem dX7_takeOut_79 : decode cX7_takeOut 79 = .ok (.iadd, 1) := by decide +kernel
theorem dX7_takeOut_80 : decode cX7_takeOut 80 = .ok (.laload, 1) := by decide +kernel
theorem dX7_takeOut_81 : decode cX7_takeOut 81 = .ok (.lor, 1) := by decide +kernel
theorem dX7_takeOut_82 : decode cX7_takeOut 82 = .ok (.lastore, 1) := by decide +kernel
theorem dX7_takeOut_83 : decode cX7_takeOut 83 = .ok (.iinc 4 1, 3) := by decide +kernel
theorem dX7_takeOut_86 : decode cX7_takeOut 86 = .ok (.goto (-32), 3) := by decide +kernel
theorem dX7_takeOut_89 : decode cX7_takeOut 89 = .ok (.return_, 1) := by decide +kernel
theorem dX7_putIn_0 : decode cX7_putIn 0 = .ok (.iload_n 2, 1) := by decide +kernel
theorem dX7_putIn_1 : decode cX7_putIn 1 = .ok (.bipush 6, 2) := by decide +kernel
theorem dX7_putIn_3 : decode cX7_putIn 3 = .ok (.if_icmp .ge 45, 3) := by decide +kernel
theorem dX7_putIn_6 : decode cX7_putIn 6 = .ok (.iload_n 2, 1) := by decide +kernel
theorem dX7_putIn_7 : decode cX7_putIn 7 = .ok (.ifCond .lt 41, 3) := by decide +kernel
theorem dX7_putIn_10 : decode cX7_putIn 10 = .ok (.iconst 0, 1) := by decide +kernel
theorem dX7_putIn_11 : decode cX7_putIn 11 = .ok (.istore_n 3, 1) := by decide +kernel
theorem dX7_putIn_12 : decode cX7_putIn 12 = .ok (.iload_n 3, 1) := by decide +kernel
theorem dX7_putIn_13 : decode cX7_putIn 13 = .ok (.bipush 64, 2) := by decide +kernel
theorem dX7_putIn_15 : decode cX7_putIn 15 = .ok (.if_icmp .ge 32, 3) := by decide +kernel
theorem dX7_putIn_18 : decode cX7_putIn 18 = .ok (.aload_n 1, 1) := by decide +kernel
theorem dX7_putIn_19 : decode cX7_putIn 19 = .ok (.iload_n 3, 1) := by decide +kernel
theorem dX7_putIn_20 : decode cX7_putIn 20 = .ok (.dup2, 1) := by decide +kernel
theorem dX7_putIn_21 : decode cX7_putIn 21 = .ok (.laload, 1) := by decide +kernel
theorem dX7_putIn_22 : decode cX7_putIn 22 = .ok (.aload_n 0, 1) := by decide +kernel
theorem dX7_putIn_23 : decode cX7_putIn 23 = .ok (.iload_n 3, 1) := by decide +kernel
theorem dX7_putIn_24 : decode cX7_putIn 24 = .ok (.laload, 1) := by decide +kernel
theorem dX7_putIn_25 : decode cX7_putIn 25 = .ok (.getstatic 29, 3) := by decide +kernel
theorem dX7_putIn_28 : decode cX7_putIn 28 = .ok (.iload_n 2, 1) := by decide +kernel
theorem dX7_putIn_29 : decode cX7_putIn 29 = .ok (.laload, 1) := by decide +kernel
theorem dX7_putIn_30 : decode cX7_putIn 30 = .ok (.ldc2_w 9, 3) := by decide +kernel
theorem dX7_putIn_33 : decode cX7_putIn 33 = .ok (.lxor, 1) := by decide +kernel
theorem dX7_putIn_34 : decode cX7_putIn 34 = .ok (.land, 1) := by decide +kernel
theorem dX7_putIn_35 : decode cX7_putIn 35 = .ok (.iconst 1, 1) := by decide +kernel
theorem dX7_putIn_36 : decode cX7_putIn 36 = .ok (.iload_n 2, 1) := by decide +kernel
theorem dX7_putIn_37 : decode cX7_putIn 37 = .ok (.ishl, 1) := by decide +kernel
theorem dX7_putIn_38 : decode cX7_putIn 38 = .ok (.lshl, 1) := by decide +kernel
theorem dX7_putIn_39 : decode cX7_putIn 39 = .ok (.lor, 1) := by decide +kernel
theorem dX7_putIn_40 : decode cX7_putIn 40 = .ok (.lastore, 1) := by decide +kernel
theorem dX7_putIn_41 : decode cX7_putIn 41 = .ok (.iinc 3 1, 3) := by decide +kernel
theorem dX7_putIn_44 : decode cX7_putIn 44 = .ok (.goto (-32), 3) := by decide +kernel
theorem dX7_putIn_47 : decode cX7_putIn 47 = .ok (.return_, 1) := by decide +kernel
theorem dX7_putIn_48 : decode cX7_putIn 48 = .ok (.iconst 1, 1) := by decide +kernel
theorem dX7_putIn_49 : decode cX7_putIn 49 = .ok (.iload_n 2, 1) := by decide +kernel
theorem dX7_putIn_50 : decode cX7_putIn 50 = .ok (.bipush 6, 2) := by decide +kernel
theorem dX7_putIn_52 : decode cX7_putIn 52 = .ok (.isub, 1) := by decide +kernel
theorem dX7_putIn_53 : decode cX7_putIn 53 = .ok (.ishl, 1) := by decide +kernel
theorem dX7_putIn_54 : decode cX7_putIn 54 = .ok (.istore_n 3, 1) := by decide +kernel
theorem dX7_putIn_55 : decode cX7_putIn 55 = .ok (.iconst 0, 1) := by decide +kernel
theorem dX7_putIn_56 : decode cX7_putIn 56 = .ok (.istore 4, 2) := by decide +kernel
theorem dX7_putIn_58 : decode cX7_putIn 58 = .ok (.iload 4, 2) := by decide +kernel
theorem dX7_putIn_60 : decode cX7_putIn 60 = .ok (.iload_n 3, 1) := by decide +kernel
theorem dX7_putIn_61 : decode cX7_putIn 61 = .ok (.iadd, 1) := by decide +kernel
theorem dX7_putIn_62 : decode cX7_putIn 62 = .ok (.bipush 64, 2) := by decide +kernel
theorem dX7_putIn_64 : decode cX7_putIn 64 = .ok (.if_icmp .ge 29, 3) := by decide +kernel
theorem dX7_putIn_67 : decode cX7_putIn 67 = .ok (.iload 4, 2) := by decide +kernel
theorem dX7_putIn_69 : decode cX7_putIn 69 = .ok (.iload_n 3, 1) := by decide +kernel
theorem dX7_putIn_70 : decode cX7_putIn 70 = .ok (.iand, 1) := by decide +kernel
theorem dX7_putIn_71 : decode cX7_putIn 71 = .ok (.ifCond .ne 16, 3) := by decide +kernel
theorem dX7_putIn_74 : decode cX7_putIn 74 = .ok (.aload_n 1, 1) := by decide +kernel
theorem dX7_putIn_75 : decode cX7_putIn 75 = .ok (.iload 4, 2) := by decide +kernel
theorem dX7_putIn_77 : decode cX7_putIn 77 = .ok (.iload_n 3, 1) := by decide +kernel
theorem dX7_putIn_78 : decode cX7_putIn 78 = .ok (.iadd, 1) := by decide +kernel
theorem dX7_putIn_79 : decode cX7_putIn 79 = .ok (.dup2, 1) := by decide +kernel
theorem dX7_putIn_80 : decode cX7_putIn 80 = .ok (.laload, 1) := by decide +kernel
theorem dX7_putIn_81 : decode cX7_putIn 81 = .ok (.aload_n 0, 1) := by decide +kernel
theorem dX7_putIn_82 : decode cX7_putIn 82 = .ok (.iload 4, 2) := by decide +kernel
theorem dX7_putIn_84 : decode cX7_putIn 84 = .ok (.laload, 1) := by decide +kernel
theorem dX7_putIn_85 : decode cX7_putIn 85 = .ok (.lor, 1) := by decide +kernel
theorem dX7_putIn_86 : decode cX7_putIn 86 = .ok (.lastore, 1) := by decide +kernel
theorem dX7_putIn_87 : decode cX7_putIn 87 = .ok (.iinc 4 1, 3) := by decide +kernel
theorem dX7_putIn_90 : decode cX7_putIn 90 = .ok (.goto (-32), 3) := by decide +kernel
theorem dX7_putIn_93 : decode cX7_putIn 93 = .ok (.return_, 1) := by decide +kernel
theorem dX7_swap_0 : decode cX7_swap 0 = .ok (.iload_n 1, 1) := by decide +kernel
theorem dX7_swap_1 : decode cX7_swap 1 = .ok (.bipush 6, 2) := by decide +kernel
theorem dX7_swap_3 : decode cX7_swap 3 = .ok (.if_icmp .ge 53, 3) := by decide +kernel
theorem dX7_swap_6 : decode cX7_swap 6 = .ok (.iload_n 1, 1) := by decide +kernel
theorem dX7_swap_7 : decode cX7_swap 7 = .ok (.ifCond .lt 49, 3) := by decide +kernel
theorem dX7_swap_10 : decode cX7_swap 10 = .ok (.iconst 1, 1) := by decide +kernel
theorem dX7_swap_11 : decode cX7_swap 11 = .ok (.iload_n 1, 1) := by decide +kernel
theorem dX7_swap_12 : decode cX7_swap 12 = .ok (.ishl, 1) := by decide +kernel
theorem dX7_swap_13 : decode cX7_swap 13 = .ok (.istore_n 2, 1) := by decide +kernel
theorem dX7_swap_14 : decode cX7_swap 14 = .ok (.iconst 0, 1) := by decide +kernel
theorem dX7_swap_15 : decode cX7_swap 15 = .ok (.istore_n 3, 1) := by decide +kernel
theorem dX7_swap_16 : decode cX7_swap 16 = .ok (.iload_n 3, 1) := by decide +kernel
theorem dX7_swap_17 : decode cX7_swap 17 = .ok (.bipush 64, 2) := by decide +kernel
theorem dX7_swap_19 : decode cX7_swap 19 = .ok (.if_icmp .ge 36, 3) := by decide +kernel
theorem dX7_swap_22 : decode cX7_swap 22 = .ok (.aload_n 0, 1) := by decide +kernel
theorem dX7_swap_23 : decode cX7_swap 23 = .ok (.iload_n 3, 1) := by decide +kernel
theorem dX7_swap_24 : decode cX7_swap 24 = .ok (.laload, 1) := by decide +kernel
theorem dX7_swap_25 : decode cX7_swap 25 = .ok (.getstatic 29, 3) := by decide +kernel
theorem dX7_swap_28 : decode cX7_swap 28 = .ok (.iload_n 1, 1) := by decide +kernel
theorem dX7_swap_29 : decode cX7_swap 29 = .ok (.laload, 1) := by decide +kernel
theorem dX7_swap_30 : decode cX7_swap 30 = .ok (.land, 1) := by decide +kernel
theorem dX7_swap_31 : decode cX7_swap 31 = .ok (.lstore 4, 2) := by decide +kernel
theorem dX7_swap_33 : decode cX7_swap 33 = .ok (.aload_n 0, 1) := by decide +kernel
theorem dX7_swap_34 : decode cX7_swap 34 = .ok (.iload_n 3, 1) := by decide +kernel
theorem dX7_swap_35 : decode cX7_swap 35 = .ok (.lload 4, 2) := by decide +kernel
theorem dX7_swap_37 : decode cX7_swap 37 = .ok (.iload_n 2, 1) := by decide +kernel
theorem dX7_swap_38 : decode cX7_swap 38 = .ok (.lushr, 1) := by decide +kernel
theorem dX7_swap_39 : decode cX7_swap 39 = .ok (.aload_n 0, 1) := by decide +kernel
theorem dX7_swap_40 : decode cX7_swap 40 = .ok (.iload_n 3, 1) := by decide +kernel
theorem dX7_swap_41 : decode cX7_swap 41 = .ok (.laload, 1) := by decide +kernel
theorem dX7_swap_42 : decode cX7_swap 42 = .ok (.lload 4, 2) := by decide +kernel
theorem dX7_swap_44 : decode cX7_swap 44 = .ok (.lxor, 1) := by decide +kernel
theorem dX7_swap_45 : decode cX7_swap 45 = .ok (.iload_n 2, 1) := by decide +kernel
theorem dX7_swap_46 : decode cX7_swap 46 = .ok (.lshl, 1) := by decide +kernel
theorem dX7_swap_47 : decode cX7_swap 47 = .ok (.lor, 1) := by decide +kernel
theorem dX7_swap_48 : decode cX7_swap 48 = .ok (.lastore, 1) := by decide +kernel
theorem dX7_swap_49 : decode cX7_swap 49 = .ok (.iinc 3 1, 3) := by decide +kernel
theorem dX7_swap_52 : decode cX7_swap 52 = .ok (.goto (-36), 3) := by decide +kernel
theorem dX7_swap_55 : decode cX7_swap 55 = .ok (.return_, 1) := by decide +kernel
theorem dX7_swap_56 : decode cX7_swap 56 = .ok (.iconst 1, 1) := by decide +kernel
theorem dX7_swap_57 : decode cX7_swap 57 = .ok (.iload_n 1, 1) := by decide +kernel
theorem dX7_swap_58 : decode cX7_swap 58 = .ok (.bipush 6, 2) := by decide +kernel
theorem dX7_swap_60 : decode cX7_swap 60 = .ok (.isub, 1) := by decide +kernel
theorem dX7_swap_61 : decode cX7_swap 61 = .ok (.ishl, 1) := by decide +kernel
theorem dX7_swap_62 : decode cX7_swap 62 = .ok (.istore_n 2, 1) := by decide +kernel
theorem dX7_swap_63 : decode cX7_swap 63 = .ok (.iconst 0, 1) := by decide +kernel
theorem dX7_swap_64 : decode cX7_swap 64 = .ok (.istore_n 3, 1) := by decide +kernel
theorem dX7_swap_65 : decode cX7_swap 65 = .ok (.iload_n 3, 1) := by decide +kernel
theorem dX7_swap_66 : decode cX7_swap 66 = .ok (.iload_n 2, 1) := by decide +kernel
theorem dX7_swap_67 : decode cX7_swap 67 = .ok (.iadd, 1) := by decide +kernel
theorem dX7_swap_68 : decode cX7_swap 68 = .ok (.bipush 64, 2) := by decide +kernel
theorem dX7_swap_70 : decode cX7_swap 70 = .ok (.if_icmp .ge 35, 3) := by decide +kernel
theorem dX7_swap_73 : decode cX7_swap 73 = .ok (.iload_n 3, 1) := by decide +kernel
theorem dX7_swap_74 : decode cX7_swap 74 = .ok (.iload_n 2, 1) := by decide +kernel
theorem dX7_swap_75 : decode cX7_swap 75 = .ok (.iand, 1) := by decide +kernel
theorem dX7_swap_76 : decode cX7_swap 76 = .ok (.ifCond .ne 23, 3) := by decide +kernel
theorem dX7_swap_79 : decode cX7_swap 79 = .ok (.aload_n 0, 1) := by decide +kernel
theorem dX7_swap_80 : decode cX7_swap 80 = .ok (.iload_n 3, 1) := by decide +kernel
theorem dX7_swap_81 : decode cX7_swap 81 = .ok (.iload_n 2, 1) := by decide +kernel
theorem dX7_swap_82 : decode cX7_swap 82 = .ok (.iadd, 1) := by decide +kernel
theorem dX7_swap_83 : decode cX7_swap 83 = .ok (.laload, 1) := by decide +kernel
theorem dX7_swap_84 : decode cX7_swap 84 = .ok (.lstore 4, 2) := by decide +kernel
theorem dX7_swap_86 : decode cX7_swap 86 = .ok (.aload_n 0, 1) := by decide +kernel
theorem dX7_swap_87 : decode cX7_swap 87 = .ok (.iload_n 3, 1) := by decide +kernel
theorem dX7_swap_88 : decode cX7_swap 88 = .ok (.iload_n 2, 1) := by decide +kernel
theorem dX7_swap_89 : decode cX7_swap 89 = .ok (.iadd, 1) := by decide +kernel
theorem dX7_swap_90 : decode cX7_swap 90 = .ok (.aload_n 0, 1) := by decide +kernel
theorem dX7_swap_91 : decode cX7_swap 91 = .ok (.iload_n 3, 1) := by decide +kernel
theorem dX7_swap_92 : decode cX7_swap 92 = .ok (.laload, 1) := by decide +kernel
theorem dX7_swap_93 : decode cX7_swap 93 = .ok (.lastore, 1) := by decide +kernel
theorem dX7_swap_94 : decode cX7_swap 94 = .ok (.aload_n 0, 1) := by decide +kernel
theorem dX7_swap_95 : decode cX7_swap 95 = .ok (.iload_n 3, 1) := by decide +kernel
theorem dX7_swap_96 : decode cX7_swap 96 = .ok (.lload 4, 2) := by decide +kernel
theorem dX7_swap_98 : decode cX7_swap 98 = .ok (.lastore, 1) := by decide +kernel
theorem dX7_swap_99 : decode cX7_swap 99 = .ok (.iinc 3 1, 3) := by decide +kernel
theorem dX7_swap_102 : decode cX7_swap 102 = .ok (.goto (-37), 3) := by decide +kernel
theorem dX7_swap_105 : decode cX7_swap 105 = .ok (.return_, 1) := by decide +kernel
theorem dX7_lower_0 : decode cX7_lower 0 = .ok (.iconst 0, 1) := by decide +kernel
theorem dX7_lower_1 : decode cX7_lower 1 = .ok (.istore_n 1, 1) := by decide +kernel
theorem dX7_lower_2 : decode cX7_lower 2 = .ok (.iload_n 1, 1) := by decide +kernel
theorem dX7_lower_3 : decode cX7_lower 3 = .ok (.bipush 12, 2) := by decide +kernel
theorem dX7_lower_5 : decode cX7_lower 5 = .ok (.if_icmp .ge 15, 3) := by decide +kernel
theorem dX7_lower_8 : decode cX7_lower 8 = .ok (.aload_n 0, 1) := by decide +kernel
theorem dX7_lower_9 : decode cX7_lower 9 = .ok (.aload_n 0, 1) := by decide +kernel
theorem dX7_lower_10 : decode cX7_lower 10 = .ok (.iload_n 1, 1) := by decide +kernel
theorem dX7_lower_11 : decode cX7_lower 11 = .ok (.invokestatic 35, 3) := by decide +kernel
theorem dX7_lower_14 : decode cX7_lower 14 = .ok (.iinc 1 1, 3) := by decide +kernel
theorem dX7_lower_17 : decode cX7_lower 17 = .ok (.goto (-15), 3) := by decide +kernel
theorem dX7_lower_20 : decode cX7_lower 20 = .ok (.return_, 1) := by decide +kernel
theorem dX7_raise_0 : decode cX7_raise 0 = .ok (.iconst 0, 1) := by decide +kernel
theorem dX7_raise_1 : decode cX7_raise 1 = .ok (.istore_n 1, 1) := by decide +kernel
theorem dX7_raise_2 : decode cX7_raise 2 = .ok (.iload_n 1, 1) := by decide +kernel
theorem dX7_raise_3 : decode cX7_raise 3 = .ok (.bipush 12, 2) := by decide +kernel
theorem dX7_raise_5 : decode cX7_raise 5 = .ok (.if_icmp .ge 15, 3) := by decide +kernel
theorem dX7_raise_8 : decode cX7_raise 8 = .ok (.aload_n 0, 1) := by decide +kernel
theorem dX7_raise_9 : decode cX7_raise 9 = .ok (.aload_n 0, 1) := by decide +kernel
theorem dX7_raise_10 : decode cX7_raise 10 = .ok (.iload_n 1, 1) := by decide +kernel
theorem dX7_raise_11 : decode cX7_raise 11 = .ok (.invokestatic 39, 3) := by decide +kernel
theorem dX7_raise_14 : decode cX7_raise 14 = .ok (.iinc 1 1, 3) := by decide +kernel
theorem dX7_raise_17 : decode cX7_raise 17 = .ok (.goto (-15), 3) := by decide +kernel
theorem dX7_raise_20 : decode cX7_raise 20 = .ok (.return_, 1) := by decide +kernel
theorem dX8_init_0 : decode cX8_init 0 = .ok (.aload_n 0, 1) := by decide +kernel
theorem dX8_init_1 : decode cX8_init 1 = .ok (.invokespecial 1, 3) := by decide +kernel
theorem dX8_init_4 : decode cX8_init 4 = .ok (.aload_n 0, 1) := by decide +kernel
theorem dX8_init_5 : decode cX8_init 5 = .ok (.sipush 200, 3) := by decide +kernel
theorem dX8_init_8 : decode cX8_init 8 = .ok (.newarray .byte, 2) := by decide +kernel
theorem dX8_init_10 : decode cX8_init 10 = .ok (.putfield 9, 3) := by decide +kernel
theorem dX8_init_13 : decode cX8_init 13 = .ok (.aload_n 0, 1) := by decide +kernel
theorem dX8_init_14 : decode cX8_init 14 = .ok (.iconst 0, 1) := by decide +kernel
theorem dX8_init_15 : decode cX8_init 15 = .ok (.putfield 13, 3) := by decide +kernel
theorem dX8_init_18 : decode cX8_init 18 = .ok (.aload_n 0, 1) := by decide +kernel
theorem dX8_init_19 : decode cX8_init 19 = .ok (.iconst (-1), 1) := by decide +kernel
theorem dX8_init_20 : decode cX8_init 20 = .ok (.putfield 17, 3) := by decide +kernel
theorem dX8_init_23 : decode cX8_init 23 = .ok (.aload_n 0, 1) := by decide +kernel
theorem dX8_init_24 : decode cX8_init 24 = .ok (.sipush 1000, 3) := by decide +kernel
theorem dX8_init_27 : decode cX8_init 27 = .ok (.newarray .byte, 2) := by decide +kernel
theorem dX8_init_29 : decode cX8_init 29 = .ok (.putfield 20, 3) := by decide +kernel
theorem dX8_init_32 : decode cX8_init 32 = .ok (.aload_n 0, 1) := by decide +kernel
theorem dX8_init_33 : decode cX8_init 33 = .ok (.iconst 0, 1) := by decide +kernel
theorem dX8_init_34 : decode cX8_init 34 = .ok (.putfield 23, 3) := by decide +kernel
theorem dX8_init_37 : decode cX8_init 37 = .ok (.aload_n 0, 1) := by decide +kernel
theorem dX8_init_38 : decode cX8_init 38 = .ok (.sipush 200, 3) := by decide +kernel
theorem dX8_init_41 : decode cX8_init 41 = .ok (.anewarray 26, 3) := by decide +kernel
theorem dX8_init_44 : decode cX8_init 44 = .ok (.putfield 28, 3) := by decide +kernel
theorem dX8_init_47 : decode cX8_init 47 = .ok (.aload_n 0, 1) := by decide +kernel
theorem dX8_init_48 : decode cX8_init 48 = .ok (.iconst 0, 1) := by decide +kernel
theorem dX8_init_49 : decode cX8_init 49 = .ok (.putfield 32, 3) := by decide +kernel
theorem dX8_init_52 : decode cX8_init 52 = .ok (.aload_n 0, 1) := by decide +kernel
theorem dX8_init_53 : decode cX8_init 53 = .ok (.iconst 0, 1) := by decide +kernel
theorem dX8_init_54 : decode cX8_init 54 = .ok (.putfield 35, 3) := by decide +kernel
theorem dX8_init_57 : decode cX8_init 57 = .ok (.aload_n 0, 1) := by decide +kernel
theorem dX8_init_58 : decode cX8_init 58 = .ok (.sipush 4096, 3) := by decide +kernel
theorem dX8_init_61 : decode cX8_init 61 = .ok (.newarray .int, 2) := by decide +kernel
theorem dX8_init_63 : decode cX8_init 63 = .ok (.putfield 38, 3) := by decide +kernel
theorem dX8_init_66 : decode cX8_init 66 = .ok (.aload_n 0, 1) := by decide +kernel
theorem dX8_init_67 : decode cX8_init 67 = .ok (.sipush 4096, 3) := by decide +kernel
theorem dX8_init_70 : decode cX8_init 70 = .ok (.newarray .int, 2) := by decide +kernel
theorem dX8_init_72 : decode cX8_init 72 = .ok (.putfield 42, 3) := by decide +kernel
theorem dX8_init_75 : decode cX8_init 75 = .ok (.aload_n 0, 1) := by decide +kernel
theorem dX8_init_76 : decode cX8_init 76 = .ok (.new 45, 3) := by decide +kernel
theorem dX8_init_79 : decode cX8_init 79 = .ok (.dup, 1) := by decide +kernel
theorem dX8_init_80 : decode cX8_init 80 = .ok (.aload_n 0, 1) := by decide +kernel
theorem dX8_init_81 : decode cX8_init 81 = .ok (.getfield 38, 3) := by decide +kernel
theorem dX8_init_84 : decode cX8_init 84 = .ok (.aload_n 0, 1) := by decide +kernel
theorem dX8_init_85 : decode cX8_init 85 = .ok (.getfield 42, 3) := by decide +kernel
theorem dX8_init_88 : decode cX8_init 88 = .ok (.invokespecial 47, 3) := by decide +kernel
theorem dX8_init_91 : decode cX8_init 91 = .ok (.putfield 50, 3) := by decide +kernel
theorem dX8_init_94 : decode cX8_init 94 = .ok (.aload_n 0, 1) := by decide +kernel
theorem dX8_init_95 : decode cX8_init 95 = .ok (.new 54, 3) := by decide +kernel
theorem dX8_init_98 : decode cX8_init 98 = .ok (.dup, 1) := by decide +kernel
theorem dX8_init_99 : decode cX8_init 99 = .ok (.aload_n 0, 1) := by decide +kernel
theorem dX8_init_100 : decode cX8_init 100 = .ok (.getfield 38, 3) := by decide +kernel
theorem dX8_init_103 : decode cX8_init 103 = .ok (.invokespecial 56, 3) := by decide +kernel
theorem dX8_init_106 : decode cX8_init 106 = .ok (.putfield 59, 3) := by decide +kernel
theorem dX8_init_109 : decode cX8_init 109 = .ok (.aload_n 0, 1) := by decide +kernel
theorem dX8_init_110 : decode cX8_init 110 = .ok (.new 63, 3) := by decide +kernel
theorem dX8_init_113 : decode cX8_init 113 = .ok (.dup, 1) := by decide +kernel
theorem dX8_init_114 : decode cX8_init 114 = .ok (.invokespecial 65, 3) := by decide +kernel
theorem dX8_init_117 : decode cX8_init 117 = .ok (.putfield 66, 3) := by decide +kernel
theorem dX8_init_120 : decode cX8_init 120 = .ok (.aload_n 0, 1) := by decide +kernel
theorem dX8_init_121 : decode cX8_init 121 = .ok (.new 70, 3) := by decide +kernel
theorem dX8_init_124 : decode cX8_init 124 = .ok (.dup, 1) := by decide +kernel
theorem dX8_init_125 : decode cX8_init 125 = .ok (.invokespecial 72, 3) := by decide +kernel
theorem dX8_init_128 : decode cX8_init 128 = .ok (.putfield 73, 3) := by decide +kernel
theorem dX8_init_131 : decode cX8_init 131 = .ok (.aload_n 0, 1) := by decide +kernel
theorem dX8_init_132 : decode cX8_init 132 = .ok (.new 77, 3) := by decide +kernel
theorem dX8_init_135 : decode cX8_init 135 = .ok (.dup, 1) := by decide +kernel
theorem dX8_init_136 : decode cX8_init 136 = .ok (.invokespecial 79, 3) := by decide +kernel
theorem dX8_init_139 : decode cX8_init 139 = .ok (.putfield 80, 3) := by decide +kernel
theorem dX8_init_142 : decode cX8_init 142 = .ok (.aload_n 0, 1) := by decide +kernel
theorem dX8_init_143 : decode cX8_init 143 = .ok (.sipush 300, 3) := by decide +kernel
theorem dX8_init_146 : decode cX8_init 146 = .ok (.newarray .int, 2) := by decide +kernel
theorem dX8_init_148 : decode cX8_init 148 = .ok (.putfield 84, 3) := by decide +kernel
theorem dX8_init_151 : decode cX8_init 151 = .ok (.aload_n 0, 1) := by decide +kernel
theorem dX8_init_152 : decode cX8_init 152 = .ok (.iconst 0, 1) := by decide +kernel
theorem dX8_init_153 : decode cX8_init 153 = .ok (.putfield 87, 3) := by decide +kernel
theorem dX8_init_156 : decode cX8_init 156 = .ok (.return_, 1) := by decide +kernel
theorem dX8_single_0 : decode cX8_single 0 = .ok (.aload_n 0, 1) := by decide +kernel
theorem dX8_single_1 : decode cX8_single 1 = .ok (.iload_n 1, 1) := by decide +kernel
theorem dX8_single_2 : decode cX8_single 2 = .ok (.invokevirtual 162, 3) := by decide +kernel
theorem dX8_single_5 : decode cX8_single 5 = .ok (.aload_n 0, 1) := by decide +kernel
theorem dX8_single_6 : decode cX8_single 6 = .ok (.invokevirtual 104, 3) := by decide +kernel
theorem dX8_single_9 : decode cX8_single 9 = .ok (.bipush 64, 2) := by decide +kernel
theorem dX8_single_11 : decode cX8_single 11 = .ok (.newarray .long, 2) := by decide +kernel
theorem dX8_single_13 : decode cX8_single 13 = .ok (.astore_n 2, 1) := by decide +kernel
theorem dX8_single_14 : decode cX8_single 14 = .ok (.aload_n 2, 1) := by decide +kernel
theorem dX8_single_15 : decode cX8_single 15 = .ok (.iload_n 1, 1) := by decide +kernel
theorem dX8_single_16 : decode cX8_single 16 = .ok (.invokestatic 165, 3) := by decide +kernel
theorem dX8_single_19 : decode cX8_single 19 = .ok (.aload_n 0, 1) := by decide +kernel
theorem dX8_single_20 : decode cX8_single 20 = .ok (.aload_n 2, 1) := by decide +kernel
theorem dX8_single_21 : decode cX8_single 21 = .ok (.invokevirtual 120, 3) := by decide +kernel
theorem dX8_single_24 : decode cX8_single 24 = .ok (.ireturn, 1) := by decide +kernel
theorem dX8_subsetsOf_0 : decode cX8_subsetsOf 0 = .ok (.aload_n 0, 1) := by decide +kernel
theorem dX8_subsetsOf_1 : decode cX8_subsetsOf 1 = .ok (.iload_n 1, 1) := by decide +kernel
theorem dX8_subsetsOf_2 : decode cX8_subsetsOf 2 = .ok (.invokevirtual 162, 3) := by decide +kernel
theorem dX8_subsetsOf_5 : decode cX8_subsetsOf 5 = .ok (.iload_n 2, 1) := by decide +kernel
theorem dX8_subsetsOf_6 : decode cX8_subsetsOf 6 = .ok (.iconst (-1), 1) := by decide +kernel
theorem dX8_subsetsOf_7 : decode cX8_subsetsOf 7 = .ok (.if_icmp .lt 9, 3) := by decide +kernel
theorem dX8_subsetsOf_10 : decode cX8_subsetsOf 10 = .ok (.iload_n 2, 1) := by decide +kernel
theorem dX8_subsetsOf_11 : decode cX8_subsetsOf 11 = .ok (.bipush 12, 2) := by decide +kernel
theorem dX8_subsetsOf_13 : decode cX8_subsetsOf 13 = .ok (.if_icmp .le 11, 3) := by decide +kernel
theorem dX8_subsetsOf_16 : decode cX8_subsetsOf 16 = .ok (.new 97, 3) := by decide +kernel
theorem dX8_subsetsOf_19 : decode cX8_subsetsOf 19 = .ok (.dup, 1) := by decide +kernel
theorem dX8_subsetsOf_20 : decode cX8_subsetsOf 20 = .ok (.invokespecial 99, 3) := by decide +kernel
theorem dX8_subsetsOf_23 : decode cX8_subsetsOf 23 = .ok (.athrow, 1) := by decide +kernel
theorem dX8_subsetsOf_24 : decode cX8_subsetsOf 24 = .ok (.aload_n 0, 1) := by decide +kernel
theorem dX8_subsetsOf_25 : decode cX8_subsetsOf 25 = .ok (.invokevirtual 104, 3) := by decide +kernel
theorem dX8_subsetsOf_28 : decode cX8_subsetsOf 28 = .ok (.bipush 64, 2) := by decide +kernel
theorem dX8_subsetsOf_30 : decode cX8_subsetsOf 30 = .ok (.newarray .long, 2) := by decide +kernel
theorem dX8_subsetsOf_32 : decode cX8_subsetsOf 32 = .ok (.astore_n 3, 1) := by decide +kernel
theorem dX8_subsetsOf_33 : decode cX8_subsetsOf 33 = .ok (.iconst 0, 1) := by decide +kernel
theorem dX8_subsetsOf_34 : decode cX8_subsetsOf 34 = .ok (.istore 4, 2) := by decide +kernel
theorem dX8_subsetsOf_36 : decode cX8_subsetsOf 36 = .ok (.iload 4, 2) := by decide +kernel
theorem dX8_subsetsOf_38 : decode cX8_subsetsOf 38 = .ok (.iload_n 1, 1) := by decide +kernel
theorem dX8_subsetsOf_39 : decode cX8_subsetsOf 39 = .ok (.if_icmp .gt 46, 3) := by decide +kernel
theorem dX8_subsetsOf_42 : decode cX8_subsetsOf 42 = .ok (.iload 4, 2) := by decide +kernel
theorem dX8_subsetsOf_44 : decode cX8_subsetsOf 44 = .ok (.sipush 4096, 3) := by decide +kernel
theorem dX8_subsetsOf_47 : decode cX8_subsetsOf 47 = .ok (.if_icmp .ge 38, 3) := by decide +kernel
theorem dX8_subsetsOf_50 : decode cX8_subsetsOf 50 = .ok (.iload 4, 2) := by decide +kernel
theorem dX8_subsetsOf_52 : decode cX8_subsetsOf 52 = .ok (.iload_n 1, 1) := by decide +kernel
theorem dX8_subsetsOf_53 : decode cX8_subsetsOf 53 = .ok (.iconst (-1), 1) := by decide +kernel
theorem dX8_subsetsOf_54 : decode cX8_subsetsOf 54 = .ok (.ixor, 1) := by decide +kernel
theorem dX8_subsetsOf_55 : decode cX8_subsetsOf 55 = .ok (.iand, 1) := by decide +kernel
theorem dX8_subsetsOf_56 : decode cX8_subsetsOf 56 = .ok (.ifCond .ne 23, 3) := by decide +kernel
theorem dX8_subsetsOf_59 : decode cX8_subsetsOf 59 = .ok (.iload_n 2, 1) := by decide +kernel
theorem dX8_subsetsOf_60 : decode cX8_subsetsOf 60 = .ok (.iconst (-1), 1) := by decide +kernel
theorem dX8_subsetsOf_61 : decode cX8_subsetsOf 61 = .ok (.if_icmp .eq 12, 3) := by decide +kernel
theorem dX8_subsetsOf_64 : decode cX8_subsetsOf 64 = .ok (.iload 4, 2) := by decide +kernel
theorem dX8_subsetsOf_66 : decode cX8_subsetsOf 66 = .ok (.invokestatic 148, 3) := by decide +kernel
theorem dX8_subsetsOf_69 : decode cX8_subsetsOf 69 = .ok (.iload_n 2, 1) := by decide +kernel
theorem dX8_subsetsOf_70 : decode cX8_subsetsOf 70 = .ok (.if_icmp .ne 9, 3) := by decide +kernel
theorem dX8_subsetsOf_73 : decode cX8_subsetsOf 73 = .ok (.aload_n 3, 1) := by decide +kernel
theorem dX8_subsetsOf_74 : decode cX8_subsetsOf 74 = .ok (.iload 4, 2) := by decide +kernel
theorem dX8_subsetsOf_76 : decode cX8_subsetsOf 76 = .ok (.invokestatic 165, 3) := by decide +kernel
theorem dX8_subsetsOf_79 : decode cX8_subsetsOf 79 = .ok (.iinc 4 1, 3) := by decide +kernel
theorem dX8_subsetsOf_82 : decode cX8_subsetsOf 82 = .ok (.goto (-46), 3) := by decide +kernel
theorem dX8_subsetsOf_85 : decode cX8_subsetsOf 85 = .ok (.aload_n 0, 1) := by decide +kernel
theorem dX8_subsetsOf_86 : decode cX8_subsetsOf 86 = .ok (.aload_n 3, 1) := by decide +kernel
theorem dX8_subsetsOf_87 : decode cX8_subsetsOf 87 = .ok (.invokevirtual 120, 3) := by decide +kernel
theorem dX8_subsetsOf_90 : decode cX8_subsetsOf 90 = .ok (.ireturn, 1) := by decide +kernel
theorem dX8_release_0 : decode cX8_release 0 = .ok (.aload_n 0, 1) := by decide +kernel
theorem dX8_release_1 : decode cX8_release 1 = .ok (.iload_n 1, 1) := by decide +kernel
theorem dX8_release_2 : decode cX8_release 2 = .ok (.invokevirtual 124, 3) := by decide +kernel
theorem dX8_release_5 : decode cX8_release 5 = .ok (.astore_n 2, 1) := by decide +kernel
theorem dX8_release_6 : decode cX8_release 6 = .ok (.aload_n 0, 1) := by decide +kernel
theorem dX8_release_7 : decode cX8_release 7 = .ok (.getfield 59, 3) := by decide +kernel
theorem dX8_release_10 : decode cX8_release 10 = .ok (.aload_n 2, 1) := by decide +kernel
theorem dX8_release_11 : decode cX8_release 11 = .ok (.getfield 128, 3) := by decide +kernel
theorem dX8_release_14 : decode cX8_release 14 = .ok (.iconst (-1), 1) := by decide +kernel
theorem dX8_release_15 : decode cX8_release 15 = .ok (.invokevirtual 169, 3) := by decide +kernel
theorem dX8_release_18 : decode cX8_release 18 = .ok (.pop, 1) := by decide +kernel
theorem dX8_release_19 : decode cX8_release 19 = .ok (.aload_n 0, 1) := by decide +kernel
theorem dX8_release_20 : decode cX8_release 20 = .ok (.getfield 28, 3) := by decide +kernel
theorem dX8_release_23 : decode cX8_release 23 = .ok (.iload_n 1, 1) := by decide +kernel
theorem dX8_release_24 : decode cX8_release 24 = .ok (.aconst_null, 1) := by decide +kernel
theorem dX8_release_25 : decode cX8_release 25 = .ok (.aastore, 1) := by decide +kernel
theorem dX8_release_26 : decode cX8_release 26 = .ok (.aload_n 0, 1) := by decide +kernel
theorem dX8_release_27 : decode cX8_release 27 = .ok (.dup, 1) := by decide +kernel
theorem dX8_release_28 : decode cX8_release 28 = .ok (.getfield 35, 3) := by decide +kernel
theorem dX8_release_31 : decode cX8_release 31 = .ok (.iconst 1, 1) := by decide +kernel
theorem dX8_release_32 : decode cX8_release 32 = .ok (.isub, 1) := by decide +kernel
theorem dX8_release_33 : decode cX8_release 33 = .ok (.putfield 35, 3) := by decide +kernel
theorem dX8_release_36 : decode cX8_release 36 = .ok (.aload_n 0, 1) := by decide +kernel
theorem dX8_release_37 : decode cX8_release 37 = .ok (.getfield 35, 3) := by decide +kernel
theorem dX8_release_40 : decode cX8_release 40 = .ok (.ireturn, 1) := by decide +kernel
theorem dX8_checkMask_0 : decode cX8_checkMask 0 = .ok (.iload_n 1, 1) := by decide +kernel
theorem dX8_checkMask_1 : decode cX8_checkMask 1 = .ok (.ifCond .lt 10, 3) := by decide +kernel
theorem dX8_checkMask_4 : decode cX8_checkMask 4 = .ok (.iload_n 1, 1) := by decide +kernel
theorem dX8_checkMask_5 : decode cX8_checkMask 5 = .ok (.sipush 4096, 3) := by decide +kernel
theorem dX8_checkMask_8 : decode cX8_checkMask 8 = .ok (.if_icmp .lt 11, 3) := by decide +kernel
theorem dX8_checkMask_11 : decode cX8_checkMask 11 = .ok (.new 97, 3) := by decide +kernel
theorem dX8_checkMask_14 : decode cX8_checkMask 14 = .ok (.dup, 1) := by decide +kernel
theorem dX8_checkMask_15 : decode cX8_checkMask 15 = .ok (.invokespecial 99, 3) := by decide +kernel
theorem dX8_checkMask_18 : decode cX8_checkMask 18 = .ok (.athrow, 1) := by decide +kernel
theorem dX8_checkMask_19 : decode cX8_checkMask 19 = .ok (.return_, 1) := by decide +kernel
theorem dX8_checkCreated_0 : decode cX8_checkCreated 0 = .ok (.iload_n 1, 1) := by decide +kernel
theorem dX8_checkCreated_1 : decode cX8_checkCreated 1 = .ok (.ifCond .lt 18, 3) := by decide +kernel
theorem dX8_checkCreated_4 : decode cX8_checkCreated 4 = .ok (.iload_n 1, 1) := by decide +kernel
theorem dX8_checkCreated_5 : decode cX8_checkCreated 5 = .ok (.aload_n 0, 1) := by decide +kernel
theorem dX8_checkCreated_6 : decode cX8_checkCreated 6 = .ok (.getfield 32, 3) := by decide +kernel
theorem dX8_checkCreated_9 : decode cX8_checkCreated 9 = .ok (.if_icmp .ge 10, 3) := by decide +kernel
theorem dX8_checkCreated_12 : decode cX8_checkCreated 12 = .ok (.iload_n 1, 1) := by decide +kernel
theorem dX8_checkCreated_13 : decode cX8_checkCreated 13 = .ok (.sipush 200, 3) := by decide +kernel
theorem dX8_checkCreated_16 : decode cX8_checkCreated 16 = .ok (.if_icmp .lt 11, 3) := by decide +kernel
theorem dX8_checkCreated_19 : decode cX8_checkCreated 19 = .ok (.new 159, 3) := by decide +kernel
theorem dX8_checkCreated_22 : decode cX8_checkCreated 22 = .ok (.dup, 1) := by decide +kernel
theorem dX8_checkCreated_23 : decode cX8_checkCreated 23 = .ok (.invokespecial 161, 3) := by decide +kernel
theorem dX8_checkCreated_26 : decode cX8_checkCreated 26 = .ok (.athrow, 1) := by decide +kernel
theorem dX8_checkCreated_27 : decode cX8_checkCreated 27 = .ok (.return_, 1) := by decide +kernel
theorem dX8_checkRoom_0 : decode cX8_checkRoom 0 = .ok (.aload_n 0, 1) := by decide +kernel
theorem dX8_checkRoom_1 : decode cX8_checkRoom 1 = .ok (.getfield 32, 3) := by decide +kernel
theorem dX8_checkRoom_4 : decode cX8_checkRoom 4 = .ok (.sipush 200, 3) := by decide +kernel
theorem dX8_checkRoom_7 : decode cX8_checkRoom 7 = .ok (.if_icmp .lt 11, 3) := by decide +kernel
theorem dX8_checkRoom_10 : decode cX8_checkRoom 10 = .ok (.new 90, 3) := by decide +kernel
theorem dX8_checkRoom_13 : decode cX8_checkRoom 13 = .ok (.dup, 1) := by decide +kernel
theorem dX8_checkRoom_14 : decode cX8_checkRoom 14 = .ok (.invokespecial 92, 3) := by decide +kernel
theorem dX8_checkRoom_17 : decode cX8_checkRoom 17 = .ok (.athrow, 1) := by decide +kernel
theorem dX8_checkRoom_18 : decode cX8_checkRoom 18 = .ok (.return_, 1) := by decide +kernel
theorem dX8_familyOf_0 : decode cX8_familyOf 0 = .ok (.aload_n 0, 1) := by decide +kernel
theorem dX8_familyOf_1 : decode cX8_familyOf 1 = .ok (.iload_n 1, 1) := by decide +kernel
theorem dX8_familyOf_2 : decode cX8_familyOf 2 = .ok (.invokevirtual 179, 3) := by decide +kernel
theorem dX8_familyOf_5 : decode cX8_familyOf 5 = .ok (.aload_n 0, 1) := by decide +kernel
theorem dX8_familyOf_6 : decode cX8_familyOf 6 = .ok (.getfield 28, 3) := by decide +kernel
theorem dX8_familyOf_9 : decode cX8_familyOf 9 = .ok (.iload_n 1, 1) := by decide +kernel
theorem dX8_familyOf_10 : decode cX8_familyOf 10 = .ok (.aaload, 1) := by decide +kernel
theorem dX8_familyOf_11 : decode cX8_familyOf 11 = .ok (.astore_n 2, 1) := by decide +kernel
theorem dX8_familyOf_12 : decode cX8_familyOf 12 = .ok (.aload_n 2, 1) := by decide +kernel
theorem dX8_familyOf_13 : decode cX8_familyOf 13 = .ok (.ifnonnull 11, 3) := by decide +kernel
theorem dX8_familyOf_16 : decode cX8_familyOf 16 = .ok (.new 182, 3) := by decide +kernel
theorem dX8_familyOf_19 : decode cX8_familyOf 19 = .ok (.dup, 1) := by decide +kernel
theorem dX8_familyOf_20 : decode cX8_familyOf 20 = .ok (.invokespecial 184, 3) := by decide +kernel
theorem dX8_familyOf_23 : decode cX8_familyOf 23 = .ok (.athrow, 1) := by decide +kernel
theorem dX8_familyOf_24 : decode cX8_familyOf 24 = .ok (.aload_n 2, 1) := by decide +kernel
theorem dX8_familyOf_25 : decode cX8_familyOf 25 = .ok (.areturn, 1) := by decide +kernel
theorem dX8_addFamily_0 : decode cX8_addFamily 0 = .ok (.aload_n 0, 1) := by decide +kernel
theorem dX8_addFamily_1 : decode cX8_addFamily 1 = .ok (.invokevirtual 104, 3) := by decide +kernel
theorem dX8_addFamily_4 : decode cX8_addFamily 4 = .ok (.aload_n 0, 1) := by decide +kernel
theorem dX8_addFamily_5 : decode cX8_addFamily 5 = .ok (.getfield 28, 3) := by decide +kernel
theorem dX8_addFamily_8 : decode cX8_addFamily 8 = .ok (.aload_n 0, 1) := by decide +kernel
theorem dX8_addFamily_9 : decode cX8_addFamily 9 = .ok (.getfield 32, 3) := by decide +kernel
theorem dX8_addFamily_12 : decode cX8_addFamily 12 = .ok (.new 26, 3) := by decide +kernel
theorem dX8_addFamily_15 : decode cX8_addFamily 15 = .ok (.dup, 1) := by decide +kernel
theorem dX8_addFamily_16 : decode cX8_addFamily 16 = .ok (.aload_n 1, 1) := by decide +kernel
theorem dX8_addFamily_17 : decode cX8_addFamily 17 = .ok (.aload_n 1, 1) := by decide +kernel
theorem dX8_addFamily_18 : decode cX8_addFamily 18 = .ok (.invokestatic 188, 3) := by decide +kernel
theorem dX8_addFamily_21 : decode cX8_addFamily 21 = .ok (.aload_n 0, 1) := by decide +kernel
theorem dX8_addFamily_22 : decode cX8_addFamily 22 = .ok (.getfield 59, 3) := by decide +kernel
theorem dX8_addFamily_25 : decode cX8_addFamily 25 = .ok (.aload_n 1, 1) := by decide +kernel
theorem dX8_addFamily_26 : decode cX8_addFamily 26 = .ok (.iconst 1, 1) := by decide +kernel
theorem dX8_addFamily_27 : decode cX8_addFamily 27 = .ok (.invokevirtual 169, 3) := by decide +kernel
theorem dX8_addFamily_30 : decode cX8_addFamily 30 = .ok (.invokespecial 191, 3) := by decide +kernel
theorem dX8_addFamily_33 : decode cX8_addFamily 33 = .ok (.aastore, 1) := by decide +kernel
theorem dX8_addFamily_34 : decode cX8_addFamily 34 = .ok (.aload_n 0, 1) := by decide +kernel
theorem dX8_addFamily_35 : decode cX8_addFamily 35 = .ok (.dup, 1) := by decide +kernel
theorem dX8_addFamily_36 : decode cX8_addFamily 36 = .ok (.getfield 32, 3) := by decide +kernel
theorem dX8_addFamily_39 : decode cX8_addFamily 39 = .ok (.iconst 1, 1) := by decide +kernel
theorem dX8_addFamily_40 : decode cX8_addFamily 40 = .ok (.iadd, 1) := by decide +kernel
theorem dX8_addFamily_41 : decode cX8_addFamily 41 = .ok (.putfield 32, 3) := by decide +kernel
theorem dX8_addFamily_44 : decode cX8_addFamily 44 = .ok (.aload_n 0, 1) := by decide +kernel
theorem dX8_addFamily_45 : decode cX8_addFamily 45 = .ok (.dup, 1) := by decide +kernel
theorem dX8_addFamily_46 : decode cX8_addFamily 46 = .ok (.getfield 35, 3) := by decide +kernel
theorem dX8_addFamily_49 : decode cX8_addFamily 49 = .ok (.iconst 1, 1) := by decide +kernel
theorem dX8_addFamily_50 : decode cX8_addFamily 50 = .ok (.iadd, 1) := by decide +kernel
theorem dX8_addFamily_51 : decode cX8_addFamily 51 = .ok (.putfield 35, 3) := by decide +kernel
theorem dX8_addFamily_54 : decode cX8_addFamily 54 = .ok (.aload_n 0, 1) := by decide +kernel
theorem dX8_addFamily_55 : decode cX8_addFamily 55 = .ok (.getfield 32, 3) := by decide +kernel
theorem dX8_addFamily_58 : decode cX8_addFamily 58 = .ok (.iconst 1, 1) := by decide +kernel
theorem dX8_addFamily_59 : decode cX8_addFamily 59 = .ok (.isub, 1) := by decide +kernel
theorem dX8_addFamily_60 : decode cX8_addFamily 60 = .ok (.ireturn, 1) := by decide +kernel
theorem dX8_union_0 : decode cX8_union 0 = .ok (.aload_n 0, 1) := by decide +kernel
theorem dX8_union_1 : decode cX8_union 1 = .ok (.iload_n 1, 1) := by decide +kernel
theorem dX8_union_2 : decode cX8_union 2 = .ok (.iload_n 2, 1) := by decide +kernel
theorem dX8_union_3 : decode cX8_union 3 = .ok (.bipush 43, 2) := by decide +kernel
theorem dX8_union_5 : decode cX8_union 5 = .ok (.invokevirtual 194, 3) := by decide +kernel
theorem dX8_union_8 : decode cX8_union 8 = .ok (.ireturn, 1) := by decide +kernel
theorem dX8_intersection_0 : decode cX8_intersection 0 = .ok (.aload_n 0, 1) := by decide +kernel
theorem dX8_intersection_1 : decode cX8_intersection 1 = .ok (.iload_n 1, 1) := by decide +kernel
theorem dX8_intersection_2 : decode cX8_intersection 2 = .ok (.iload_n 2, 1) := by decide +kernel
theorem dX8_intersection_3 : decode cX8_intersection 3 = .ok (.bipush 38, 2) := by decide +kernel
theorem dX8_intersection_5 : decode cX8_intersection 5 = .ok (.invokevirtual 194, 3) := by decide +kernel
theorem dX8_intersection_8 : decode cX8_intersection 8 = .ok (.ireturn, 1) := by decide +kernel
theorem dX8_difference_0 : decode cX8_difference 0 = .ok (.aload_n 0, 1) := by decide +kernel
theorem dX8_difference_1 : decode cX8_difference 1 = .ok (.iload_n 1, 1) := by decide +kernel
theorem dX8_difference_2 : decode cX8_difference 2 = .ok (.iload_n 2, 1) := by decide +kernel
theorem dX8_difference_3 : decode cX8_difference 3 = .ok (.bipush 45, 2) := by decide +kernel
theorem dX8_difference_5 : decode cX8_difference 5 = .ok (.invokevirtual 194, 3) := by decide +kernel
theorem dX8_difference_8 : decode cX8_difference 8 = .ok (.ireturn, 1) := by decide +kernel
theorem dX8_join_0 : decode cX8_join 0 = .ok (.aload_n 0, 1) := by decide +kernel
theorem dX8_join_1 : decode cX8_join 1 = .ok (.iload_n 1, 1) := by decide +kernel
theorem dX8_join_2 : decode cX8_join 2 = .ok (.iload_n 2, 1) := by decide +kernel
theorem dX8_join_3 : decode cX8_join 3 = .ok (.bipush 42, 2) := by decide +kernel
theorem dX8_join_5 : decode cX8_join 5 = .ok (.invokevirtual 194, 3) := by decide +kernel
theorem dX8_join_8 : decode cX8_join 8 = .ok (.ireturn, 1) := by decide +kernel
theorem dX8_quotient_0 : decode cX8_quotient 0 = .ok (.aload_n 0, 1) := by decide +kernel
theorem dX8_quotient_1 : decode cX8_quotient 1 = .ok (.iload_n 1, 1) := by decide +kernel
theorem dX8_quotient_2 : decode cX8_quotient 2 = .ok (.iload_n 2, 1) := by decide +kernel
theorem dX8_quotient_3 : decode cX8_quotient 3 = .ok (.bipush 47, 2) := by decide +kernel
theorem dX8_quotient_5 : decode cX8_quotient 5 = .ok (.invokevirtual 194, 3) := by decide +kernel
theorem dX8_quotient_8 : decode cX8_quotient 8 = .ok (.ireturn, 1) := by decide +kernel
theorem dX8_remainder_0 : decode cX8_remainder 0 = .ok (.aload_n 0, 1) := by decide +kernel
theorem dX8_remainder_1 : decode cX8_remainder 1 = .ok (.iload_n 1, 1) := by decide +kernel
theorem dX8_remainder_2 : decode cX8_remainder 2 = .ok (.iload_n 2, 1) := by decide +kernel
theorem dX8_remainder_3 : decode cX8_remainder 3 = .ok (.bipush 37, 2) := by decide +kernel
theorem dX8_remainder_5 : decode cX8_remainder 5 = .ok (.invokevirtual 194, 3) := by decide +kernel
theorem dX8_remainder_8 : decode cX8_remainder 8 = .ok (.ireturn, 1) := by decide +kernel
theorem dX8_maximal_0 : decode cX8_maximal 0 = .ok (.aload_n 0, 1) := by decide +kernel
theorem dX8_maximal_1 : decode cX8_maximal 1 = .ok (.iload_n 1, 1) := by decide +kernel
theorem dX8_maximal_2 : decode cX8_maximal 2 = .ok (.iconst 4, 1) := by decide +kernel
theorem dX8_maximal_3 : decode cX8_maximal 3 = .ok (.invokevirtual 198, 3) := by decide +kernel
theorem dX8_maximal_6 : decode cX8_maximal 6 = .ok (.ireturn, 1) := by decide +kernel
theorem dX8_minimal_0 : decode cX8_minimal 0 = .ok (.aload_n 0, 1) := by decide +kernel
theorem dX8_minimal_1 : decode cX8_minimal 1 = .ok (.iload_n 1, 1) := by decide +kernel
theorem dX8_minimal_2 : decode cX8_minimal 2 = .ok (.iconst 5, 1) := by decide +kernel
theorem dX8_minimal_3 : decode cX8_minimal 3 = .ok (.invokevirtual 198, 3) := by decide +kernel
theorem dX8_minimal_6 : decode cX8_minimal 6 = .ok (.ireturn, 1) := by decide +kernel
theorem dX8_hitting_0 : decode cX8_hitting 0 = .ok (.aload_n 0, 1) := by decide +kernel
theorem dX8_hitting_1 : decode cX8_hitting 1 = .ok (.iload_n 1, 1) := by decide +kernel
theorem dX8_hitting_2 : decode cX8_hitting 2 = .ok (.bipush 6, 2) := by decide +kernel
theorem dX8_hitting_4 : decode cX8_hitting 4 = .ok (.invokevirtual 198, 3) := by decide +kernel
theorem dX8_hitting_7 : decode cX8_hitting 7 = .ok (.ireturn, 1) := by decide +kernel
theorem dX8_addOfOne_0 : decode cX8_addOfOne 0 = .ok (.aload_n 0, 1) := by decide +kernel
theorem dX8_addOfOne_1 : decode cX8_addOfOne 1 = .ok (.iload_n 1, 1) := by decide +kernel
theorem dX8_addOfOne_2 : decode cX8_addOfOne 2 = .ok (.invokevirtual 124, 3) := by decide +kernel
theorem dX8_addOfOne_5 : decode cX8_addOfOne 5 = .ok (.astore_n 3, 1) := by decide +kernel
theorem dX8_addOfOne_6 : decode cX8_addOfOne 6 = .ok (.aload_n 0, 1) := by decide +kernel
theorem dX8_addOfOne_7 : decode cX8_addOfOne 7 = .ok (.invokevirtual 104, 3) := by decide +kernel
theorem dX8_addOfOne_10 : decode cX8_addOfOne 10 = .ok (.aload_n 3, 1) := by decide +kernel
theorem dX8_addOfOne_11 : decode cX8_addOfOne 11 = .ok (.getfield 128, 3) := by decide +kernel
theorem dX8_addOfOne_14 : decode cX8_addOfOne 14 = .ok (.bipush 64, 2) := by decide +kernel
theorem dX8_addOfOne_16 : decode cX8_addOfOne 16 = .ok (.invokestatic 114, 3) := by decide +kernel
theorem dX8_addOfOne_19 : decode cX8_addOfOne 19 = .ok (.astore 4, 2) := by decide +kernel
theorem dX8_addOfOne_21 : decode cX8_addOfOne 21 = .ok (.aload_n 0, 1) := by decide +kernel
theorem dX8_addOfOne_22 : decode cX8_addOfOne 22 = .ok (.getfield 50, 3) := by decide +kernel
theorem dX8_addOfOne_25 : decode cX8_addOfOne 25 = .ok (.iload_n 2, 1) := by decide +kernel
theorem dX8_addOfOne_26 : decode cX8_addOfOne 26 = .ok (.aload 4, 2) := by decide +kernel
theorem dX8_addOfOne_28 : decode cX8_addOfOne 28 = .ok (.invokevirtual 201, 3) := by decide +kernel
theorem dX8_addOfOne_31 : decode cX8_addOfOne 31 = .ok (.aload_n 0, 1) := by decide +kernel
theorem dX8_addOfOne_32 : decode cX8_addOfOne 32 = .ok (.aload 4, 2) := by decide +kernel
theorem dX8_addOfOne_34 : decode cX8_addOfOne 34 = .ok (.invokevirtual 120, 3) := by decide +kernel
theorem dX8_addOfOne_37 : decode cX8_addOfOne 37 = .ok (.ireturn, 1) := by decide +kernel
theorem dX8_addOfTwo_0 : decode cX8_addOfTwo 0 = .ok (.aload_n 0, 1) := by decide +kernel
theorem dX8_addOfTwo_1 : decode cX8_addOfTwo 1 = .ok (.iload_n 1, 1) := by decide +kernel
theorem dX8_addOfTwo_2 : decode cX8_addOfTwo 2 = .ok (.invokevirtual 179, 3) := by decide +kernel
theorem dX8_addOfTwo_5 : decode cX8_addOfTwo 5 = .ok (.aload_n 0, 1) := by decide +kernel
theorem dX8_addOfTwo_6 : decode cX8_addOfTwo 6 = .ok (.iload_n 2, 1) := by decide +kernel
theorem dX8_addOfTwo_7 : decode cX8_addOfTwo 7 = .ok (.invokevirtual 179, 3) := by decide +kernel
theorem dX8_addOfTwo_10 : decode cX8_addOfTwo 10 = .ok (.aload_n 0, 1) := by decide +kernel
theorem dX8_addOfTwo_11 : decode cX8_addOfTwo 11 = .ok (.iload_n 1, 1) := by decide +kernel
theorem dX8_addOfTwo_12 : decode cX8_addOfTwo 12 = .ok (.invokevirtual 124, 3) := by decide +kernel
theorem dX8_addOfTwo_15 : decode cX8_addOfTwo 15 = .ok (.astore 4, 2) := by decide +kernel
theorem dX8_addOfTwo_17 : decode cX8_addOfTwo 17 = .ok (.aload_n 0, 1) := by decide +kernel
theorem dX8_addOfTwo_18 : decode cX8_addOfTwo 18 = .ok (.iload_n 2, 1) := by decide +kernel
theorem dX8_addOfTwo_19 : decode cX8_addOfTwo 19 = .ok (.invokevirtual 124, 3) := by decide +kernel
theorem dX8_addOfTwo_22 : decode cX8_addOfTwo 22 = .ok (.astore 5, 2) := by decide +kernel
theorem dX8_addOfTwo_24 : decode cX8_addOfTwo 24 = .ok (.aload_n 0, 1) := by decide +kernel
theorem dX8_addOfTwo_25 : decode cX8_addOfTwo 25 = .ok (.invokevirtual 104, 3) := by decide +kernel
theorem dX8_addOfTwo_28 : decode cX8_addOfTwo 28 = .ok (.aload 5, 2) := by decide +kernel
theorem dX8_addOfTwo_30 : decode cX8_addOfTwo 30 = .ok (.getfield 185, 3) := by decide +kernel
theorem dX8_addOfTwo_33 : decode cX8_addOfTwo 33 = .ok (.ifCond .ne 23, 3) := by decide +kernel
theorem dX8_addOfTwo_36 : decode cX8_addOfTwo 36 = .ok (.iload_n 3, 1) := by decide +kernel
theorem dX8_addOfTwo_37 : decode cX8_addOfTwo 37 = .ok (.bipush 47, 2) := by decide +kernel
theorem dX8_addOfTwo_39 : decode cX8_addOfTwo 39 = .ok (.if_icmp .eq 9, 3) := by decide +kernel
theorem dX8_addOfTwo_42 : decode cX8_addOfTwo 42 = .ok (.iload_n 3, 1) := by decide +kernel
theorem dX8_addOfTwo_43 : decode cX8_addOfTwo 43 = .ok (.bipush 37, 2) := by decide +kernel
theorem dX8_addOfTwo_45 : decode cX8_addOfTwo 45 = .ok (.if_icmp .ne 11, 3) := by decide +kernel
theorem dX8_addOfTwo_48 : decode cX8_addOfTwo 48 = .ok (.new 111, 3) := by decide +kernel
theorem dX8_addOfTwo_51 : decode cX8_addOfTwo 51 = .ok (.dup, 1) := by decide +kernel
theorem dX8_addOfTwo_52 : decode cX8_addOfTwo 52 = .ok (.invokespecial 113, 3) := by decide +kernel
theorem dX8_addOfTwo_55 : decode cX8_addOfTwo 55 = .ok (.athrow, 1) := by decide +kernel
theorem dX8_addOfTwo_56 : decode cX8_addOfTwo 56 = .ok (.aload 4, 2) := by decide +kernel
theorem dX8_addOfTwo_58 : decode cX8_addOfTwo 58 = .ok (.getfield 128, 3) := by decide +kernel
theorem dX8_addOfTwo_61 : decode cX8_addOfTwo 61 = .ok (.bipush 64, 2) := by decide +kernel
theorem dX8_addOfTwo_63 : decode cX8_addOfTwo 63 = .ok (.invokestatic 114, 3) := by decide +kernel
theorem dX8_addOfTwo_66 : decode cX8_addOfTwo 66 = .ok (.astore 6, 2) := by decide +kernel
theorem dX8_addOfTwo_68 : decode cX8_addOfTwo 68 = .ok (.aload_n 0, 1) := by decide +kernel
theorem dX8_addOfTwo_69 : decode cX8_addOfTwo 69 = .ok (.getfield 50, 3) := by decide +kernel
theorem dX8_addOfTwo_72 : decode cX8_addOfTwo 72 = .ok (.iload_n 3, 1) := by decide +kernel
theorem dX8_addOfTwo_73 : decode cX8_addOfTwo 73 = .ok (.aload 6, 2) := by decide +kernel
theorem dX8_addOfTwo_75 : decode cX8_addOfTwo 75 = .ok (.aload 5, 2) := by decide +kernel
theorem dX8_addOfTwo_77 : decode cX8_addOfTwo 77 = .ok (.getfield 128, 3) := by decide +kernel
theorem dX8_addOfTwo_80 : decode cX8_addOfTwo 80 = .ok (.invokevirtual 205, 3) := by decide +kernel
theorem dX8_addOfTwo_83 : decode cX8_addOfTwo 83 = .ok (.aload_n 0, 1) := by decide +kernel
theorem dX8_addOfTwo_84 : decode cX8_addOfTwo 84 = .ok (.aload 6, 2) := by decide +kernel
theorem dX8_addOfTwo_86 : decode cX8_addOfTwo 86 = .ok (.invokevirtual 120, 3) := by decide +kernel
theorem dX8_addOfTwo_89 : decode cX8_addOfTwo 89 = .ok (.ireturn, 1) := by decide +kernel
theorem dX8_count_0 : decode cX8_count 0 = .ok (.aload_n 0, 1) := by decide +kernel
theorem dX8_count_1 : decode cX8_count 1 = .ok (.iload_n 1, 1) := by decide +kernel
theorem dX8_count_2 : decode cX8_count 2 = .ok (.invokevirtual 124, 3) := by decide +kernel
theorem dX8_count_5 : decode cX8_count 5 = .ok (.getfield 185, 3) := by decide +kernel
theorem dX8_count_8 : decode cX8_count 8 = .ok (.ireturn, 1) := by decide +kernel
theorem dX8_contains_0 : decode cX8_contains 0 = .ok (.aload_n 0, 1) := by decide +kernel
theorem dX8_contains_1 : decode cX8_contains 1 = .ok (.iload_n 1, 1) := by decide +kernel
theorem dX8_contains_2 : decode cX8_contains 2 = .ok (.invokevirtual 124, 3) := by decide +kernel
theorem dX8_contains_5 : decode cX8_contains 5 = .ok (.getfield 128, 3) := by decide +kernel
theorem dX8_contains_8 : decode cX8_contains 8 = .ok (.iload_n 2, 1) := by decide +kernel
theorem dX8_contains_9 : decode cX8_contains 9 = .ok (.invokestatic 218, 3) := by decide +kernel
theorem dX8_contains_12 : decode cX8_contains 12 = .ok (.ireturn, 1) := by decide +kernel
theorem dX8_areEqual_0 : decode cX8_areEqual 0 = .ok (.aload_n 0, 1) := by decide +kernel
theorem dX8_areEqual_1 : decode cX8_areEqual 1 = .ok (.iload_n 1, 1) := by decide +kernel
theorem dX8_areEqual_2 : decode cX8_areEqual 2 = .ok (.invokevirtual 179, 3) := by decide +kernel
theorem dX8_areEqual_5 : decode cX8_areEqual 5 = .ok (.aload_n 0, 1) := by decide +kernel
theorem dX8_areEqual_6 : decode cX8_areEqual 6 = .ok (.iload_n 2, 1) := by decide +kernel
theorem dX8_areEqual_7 : decode cX8_areEqual 7 = .ok (.invokevirtual 179, 3) := by decide +kernel
theorem dX8_areEqual_10 : decode cX8_areEqual 10 = .ok (.aload_n 0, 1) := by decide +kernel
theorem dX8_areEqual_11 : decode cX8_areEqual 11 = .ok (.iload_n 1, 1) := by decide +kernel
theorem dX8_areEqual_12 : decode cX8_areEqual 12 = .ok (.invokevirtual 124, 3) := by decide +kernel
theorem dX8_areEqual_15 : decode cX8_areEqual 15 = .ok (.astore_n 3, 1) := by decide +kernel
theorem dX8_areEqual_16 : decode cX8_areEqual 16 = .ok (.aload_n 0, 1) := by decide +kernel
theorem dX8_areEqual_17 : decode cX8_areEqual 17 = .ok (.iload_n 2, 1) := by decide +kernel
theorem dX8_areEqual_18 : decode cX8_areEqual 18 = .ok (.invokevirtual 124, 3) := by decide +kernel
theorem dX8_areEqual_21 : decode cX8_areEqual 21 = .ok (.astore 4, 2) := by decide +kernel
theorem dX8_areEqual_23 : decode cX8_areEqual 23 = .ok (.aload_n 3, 1) := by decide +kernel
theorem dX8_areEqual_24 : decode cX8_areEqual 24 = .ok (.getfield 185, 3) := by decide +kernel
theorem dX8_areEqual_27 : decode cX8_areEqual 27 = .ok (.aload 4, 2) := by decide +kernel
theorem dX8_areEqual_29 : decode cX8_areEqual 29 = .ok (.getfield 185, 3) := by decide +kernel
theorem dX8_areEqual_32 : decode cX8_areEqual 32 = .ok (.if_icmp .ne 22, 3) := by decide +kernel
theorem dX8_areEqual_35 : decode cX8_areEqual 35 = .ok (.aload_n 3, 1) := by decide +kernel
theorem dX8_areEqual_36 : decode cX8_areEqual 36 = .ok (.getfield 128, 3) := by decide +kernel
theorem dX8_areEqual_39 : decode cX8_areEqual 39 = .ok (.aload 4, 2) := by decide +kernel
theorem dX8_areEqual_41 : decode cX8_areEqual 41 = .ok (.getfield 128, 3) := by decide +kernel
theorem dX8_areEqual_44 : decode cX8_areEqual 44 = .ok (.invokestatic 222, 3) := by decide +kernel
theorem dX8_areEqual_47 : decode cX8_areEqual 47 = .ok (.ifCond .eq 7, 3) := by decide +kernel
theorem dX8_areEqual_50 : decode cX8_areEqual 50 = .ok (.iconst 1, 1) := by decide +kernel
theorem dX8_areEqual_51 : decode cX8_areEqual 51 = .ok (.goto 4, 3) := by decide +kernel
theorem dX8_areEqual_54 : decode cX8_areEqual 54 = .ok (.iconst 0, 1) := by decide +kernel
theorem dX8_areEqual_55 : decode cX8_areEqual 55 = .ok (.ireturn, 1) := by decide +kernel
theorem dJ6_numberOfLeadingZeros_0f7a4_0 : decode cJ6_numberOfLeadingZeros_0f7a4 0 = .ok (.iload_n 0, 1) := by decide +kernel
theorem dJ6_numberOfLeadingZeros_0f7a4_1 : decode cJ6_numberOfLeadingZeros_0f7a4 1 = .ok (.ifCond .gt 14, 3) := by decide +kernel
theorem dJ6_numberOfLeadingZeros_0f7a4_4 : decode cJ6_numberOfLeadingZeros_0f7a4 4 = .ok (.iload_n 0, 1) := by decide +kernel
theorem dJ6_numberOfLeadingZeros_0f7a4_5 : decode cJ6_numberOfLeadingZeros_0f7a4 5 = .ok (.ifCond .ne 8, 3) := by decide +kernel
theorem dJ6_numberOfLeadingZeros_0f7a4_8 : decode cJ6_numberOfLeadingZeros_0f7a4 8 = .ok (.bipush 32, 2) := by decide +kernel
theorem dJ6_numberOfLeadingZeros_0f7a4_10 : decode cJ6_numberOfLeadingZeros_0f7a4 10 = .ok (.goto 4, 3) := by decide +kernel
theorem dJ6_numberOfLeadingZeros_0f7a4_13 : decode cJ6_numberOfLeadingZeros_0f7a4 13 = .ok (.iconst 0, 1) := by decide +kernel
theorem dJ6_numberOfLeadingZeros_0f7a4_14 : decode cJ6_numberOfLeadingZeros_0f7a4 14 = .ok (.ireturn, 1) := by decide +kernel
theorem dJ6_numberOfLeadingZeros_0f7a4_15 : decode cJ6_numberOfLeadingZeros_0f7a4 15 = .ok (.bipush 31, 2) := by decide +kernel
theorem dJ6_numberOfLeadingZeros_0f7a4_17 : decode cJ6_numberOfLeadingZeros_0f7a4 17 = .ok (.istore_n 1, 1) := by decide +kernel
theorem dJ6_numberOfLeadingZeros_0f7a4_18 : decode cJ6_numberOfLeadingZeros_0f7a4 18 = .ok (.iload_n 0, 1) := by decide +kernel
theorem dJ6_numberOfLeadingZeros_0f7a4_19 : decode cJ6_numberOfLeadingZeros_0f7a4 19 = .ok (.ldc_w 264, 3) := by decide +kernel
theorem dJ6_numberOfLeadingZeros_0f7a4_22 : decode cJ6_numberOfLeadingZeros_0f7a4 22 = .ok (.if_icmp .lt 11, 3) := by decide +kernel
theorem dJ6_numberOfLeadingZeros_0f7a4_25 : decode cJ6_numberOfLeadingZeros_0f7a4 25 = .ok (.iinc 1 (-16), 3) := by decide +kernel
theorem dJ6_numberOfLeadingZeros_0f7a4_28 : decode cJ6_numberOfLeadingZeros_0f7a4 28 = .ok (.iload_n 0, 1) := by decide +kernel
theorem dJ6_numberOfLeadingZeros_0f7a4_29 : decode cJ6_numberOfLeadingZeros_0f7a4 29 = .ok (.bipush 16, 2) := by decide +kernel
theorem dJ6_numberOfLeadingZeros_0f7a4_31 : decode cJ6_numberOfLeadingZeros_0f7a4 31 = .ok (.iushr, 1) := by decide +kernel
theorem dJ6_numberOfLeadingZeros_0f7a4_32 : decode cJ6_numberOfLeadingZeros_0f7a4 32 = .ok (.istore_n 0, 1) := by decide +kernel
theorem dJ6_numberOfLeadingZeros_0f7a4_33 : decode cJ6_numberOfLeadingZeros_0f7a4 33 = .ok (.iload_n 0, 1) := by decide +kernel
theorem dJ6_numberOfLeadingZeros_0f7a4_34 : decode cJ6_numberOfLeadingZeros_0f7a4 34 = .ok (.sipush 256, 3) := by decide +kernel
theorem dJ6_numberOfLeadingZeros_0f7a4_37 : decode cJ6_numberOfLeadingZeros_0f7a4 37 = .ok (.if_icmp .lt 11, 3) := by decide +kernel
theorem dJ6_numberOfLeadingZeros_0f7a4_40 : decode cJ6_numberOfLeadingZeros_0f7a4 40 = .ok (.iinc 1 (-8), 3) := by decide +kernel
theorem dJ6_numberOfLeadingZeros_0f7a4_43 : decode cJ6_numberOfLeadingZeros_0f7a4 43 = .ok (.iload_n 0, 1) := by decide +kernel
theorem dJ6_numberOfLeadingZeros_0f7a4_44 : decode cJ6_numberOfLeadingZeros_0f7a4 44 = .ok (.bipush 8, 2) := by decide +kernel
theorem dJ6_numberOfLeadingZeros_0f7a4_46 : decode cJ6_numberOfLeadingZeros_0f7a4 46 = .ok (.iushr, 1) := by decide +kernel
theorem dJ6_numberOfLeadingZeros_0f7a4_47 : decode cJ6_numberOfLeadingZeros_0f7a4 47 = .ok (.istore_n 0, 1) := by decide +kernel
theorem dJ6_numberOfLeadingZeros_0f7a4_48 : decode cJ6_numberOfLeadingZeros_0f7a4 48 = .ok (.iload_n 0, 1) := by decide +kernel
theorem dJ6_numberOfLeadingZeros_0f7a4_49 : decode cJ6_numberOfLeadingZeros_0f7a4 49 = .ok (.bipush 16, 2) := by decide +kernel
theorem dJ6_numberOfLeadingZeros_0f7a4_51 : decode cJ6_numberOfLeadingZeros_0f7a4 51 = .ok (.if_icmp .lt 10, 3) := by decide +kernel
theorem dJ6_numberOfLeadingZeros_0f7a4_54 : decode cJ6_numberOfLeadingZeros_0f7a4 54 = .ok (.iinc 1 (-4), 3) := by decide +kernel
theorem dJ6_numberOfLeadingZeros_0f7a4_57 : decode cJ6_numberOfLeadingZeros_0f7a4 57 = .ok (.iload_n 0, 1) := by decide +kernel
theorem dJ6_numberOfLeadingZeros_0f7a4_58 : decode cJ6_numberOfLeadingZeros_0f7a4 58 = .ok (.iconst 4, 1) := by decide +kernel
theorem dJ6_numberOfLeadingZeros_0f7a4_59 : decode cJ6_numberOfLeadingZeros_0f7a4 59 = .ok (.iushr, 1) := by decide +kernel
theorem dJ6_numberOfLeadingZeros_0f7a4_60 : decode cJ6_numberOfLeadingZeros_0f7a4 60 = .ok (.istore_n 0, 1) := by decide +kernel
theorem dJ6_numberOfLeadingZeros_0f7a4_61 : decode cJ6_numberOfLeadingZeros_0f7a4 61 = .ok (.iload_n 0, 1) := by decide +kernel
theorem dJ6_numberOfLeadingZeros_0f7a4_62 : decode cJ6_numberOfLeadingZeros_0f7a4 62 = .ok (.iconst 4, 1) := by decide +kernel
theorem dJ6_numberOfLeadingZeros_0f7a4_63 : decode cJ6_numberOfLeadingZeros_0f7a4 63 = .ok (.if_icmp .lt 10, 3) := by decide +kernel
theorem dJ6_numberOfLeadingZeros_0f7a4_66 : decode cJ6_numberOfLeadingZeros_0f7a4 66 = .ok (.iinc 1 (-2), 3) := by decide +kernel
theorem dJ6_numberOfLeadingZeros_0f7a4_69 : decode cJ6_numberOfLeadingZeros_0f7a4 69 = .ok (.iload_n 0, 1) := by decide +kernel
theorem dJ6_numberOfLeadingZeros_0f7a4_70 : decode cJ6_numberOfLeadingZeros_0f7a4 70 = .ok (.iconst 2, 1) := by decide +kernel
theorem dJ6_numberOfLeadingZeros_0f7a4_71 : decode cJ6_numberOfLeadingZeros_0f7a4 71 = .ok (.iushr, 1) := by decide +kernel
theorem dJ6_numberOfLeadingZeros_0f7a4_72 : decode cJ6_numberOfLeadingZeros_0f7a4 72 = .ok (.istore_n 0, 1) := by decide +kernel
theorem dJ6_numberOfLeadingZeros_0f7a4_73 : decode cJ6_numberOfLeadingZeros_0f7a4 73 = .ok (.iload_n 1, 1) := by decide +kernel
theorem dJ6_numberOfLeadingZeros_0f7a4_74 : decode cJ6_numberOfLeadingZeros_0f7a4 74 = .ok (.iload_n 0, 1) := by decide +kernel
theorem dJ6_numberOfLeadingZeros_0f7a4_75 : decode cJ6_numberOfLeadingZeros_0f7a4 75 = .ok (.iconst 1, 1) := by decide +kernel
theorem dJ6_numberOfLeadingZeros_0f7a4_76 : decode cJ6_numberOfLeadingZeros_0f7a4 76 = .ok (.iushr, 1) := by decide +kernel
theorem dJ6_numberOfLeadingZeros_0f7a4_77 : decode cJ6_numberOfLeadingZeros_0f7a4 77 = .ok (.isub, 1) := by decide +kernel
theorem dJ6_numberOfLeadingZeros_0f7a4_78 : decode cJ6_numberOfLeadingZeros_0f7a4 78 = .ok (.ireturn, 1) := by decide +kernel
theorem dJ6_numberOfTrailingZeros_0f7a4_0 : decode cJ6_numberOfTrailingZeros_0f7a4 0 = .ok (.iload_n 0, 1) := by decide +kernel
theorem dJ6_numberOfTrailingZeros_0f7a4_1 : decode cJ6_numberOfTrailingZeros_0f7a4 1 = .ok (.iconst (-1), 1) := by decide +kernel
theorem dJ6_numberOfTrailingZeros_0f7a4_2 : decode cJ6_numberOfTrailingZeros_0f7a4 2 = .ok (.ixor, 1) := by decide +kernel
theorem dJ6_numberOfTrailingZeros_0f7a4_3 : decode cJ6_numberOfTrailingZeros_0f7a4 3 = .ok (.iload_n 0, 1) := by decide +kernel
theorem dJ6_numberOfTrailingZeros_0f7a4_4 : decode cJ6_numberOfTrailingZeros_0f7a4 4 = .ok (.iconst 1, 1) := by decide +kernel
theorem dJ6_numberOfTrailingZeros_0f7a4_5 : decode cJ6_numberOfTrailingZeros_0f7a4 5 = .ok (.isub, 1) := by decide +kernel
theorem dJ6_numberOfTrailingZeros_0f7a4_6 : decode cJ6_numberOfTrailingZeros_0f7a4 6 = .ok (.iand, 1) := by decide +kernel
theorem dJ6_numberOfTrailingZeros_0f7a4_7 : decode cJ6_numberOfTrailingZeros_0f7a4 7 = .ok (.istore_n 0, 1) := by decide +kernel
theorem dJ6_numberOfTrailingZeros_0f7a4_8 : decode cJ6_numberOfTrailingZeros_0f7a4 8 = .ok (.iload_n 0, 1) := by decide +kernel
theorem dJ6_numberOfTrailingZeros_0f7a4_9 : decode cJ6_numberOfTrailingZeros_0f7a4 9 = .ok (.ifCond .gt 8, 3) := by decide +kernel
theorem dJ6_numberOfTrailingZeros_0f7a4_12 : decode cJ6_numberOfTrailingZeros_0f7a4 12 = .ok (.iload_n 0, 1) := by decide +kernel
theorem dJ6_numberOfTrailingZeros_0f7a4_13 : decode cJ6_numberOfTrailingZeros_0f7a4 13 = .ok (.bipush 32, 2) := by decide +kernel
theorem dJ6_numberOfTrailingZeros_0f7a4_15 : decode cJ6_numberOfTrailingZeros_0f7a4 15 = .ok (.iand, 1) := by decide +kernel
theorem dJ6_numberOfTrailingZeros_0f7a4_16 : decode cJ6_numberOfTrailingZeros_0f7a4 16 = .ok (.ireturn, 1) := by decide +kernel
theorem dJ6_numberOfTrailingZeros_0f7a4_17 : decode cJ6_numberOfTrailingZeros_0f7a4 17 = .ok (.iconst 1, 1) := by decide +kernel
theorem dJ6_numberOfTrailingZeros_0f7a4_18 : decode cJ6_numberOfTrailingZeros_0f7a4 18 = .ok (.istore_n 1, 1) := by decide +kernel
theorem dJ6_numberOfTrailingZeros_0f7a4_19 : decode cJ6_numberOfTrailingZeros_0f7a4 19 = .ok (.iload_n 0, 1) := by decide +kernel
theorem dJ6_numberOfTrailingZeros_0f7a4_20 : decode cJ6_numberOfTrailingZeros_0f7a4 20 = .ok (.ldc_w 264, 3) := by decide +kernel
theorem dJ6_numberOfTrailingZeros_0f7a4_23 : decode cJ6_numberOfTrailingZeros_0f7a4 23 = .ok (.if_icmp .le 11, 3) := by decide +kernel
theorem dJ6_numberOfTrailingZeros_0f7a4_26 : decode cJ6_numberOfTrailingZeros_0f7a4 26 = .ok (.iinc 1 16, 3) := by decide +kernel
theorem dJ6_numberOfTrailingZeros_0f7a4_29 : decode cJ6_numberOfTrailingZeros_0f7a4 29 = .ok (.iload_n 0, 1) := by decide +kernel
theorem dJ6_numberOfTrailingZeros_0f7a4_30 : decode cJ6_numberOfTrailingZeros_0f7a4 30 = .ok (.bipush 16, 2) := by decide +kernel
theorem dJ6_numberOfTrailingZeros_0f7a4_32 : decode cJ6_numberOfTrailingZeros_0f7a4 32 = .ok (.iushr, 1) := by decide +kernel
theorem dJ6_numberOfTrailingZeros_0f7a4_33 : decode cJ6_numberOfTrailingZeros_0f7a4 33 = .ok (.istore_n 0, 1) := by decide +kernel
theorem dJ6_numberOfTrailingZeros_0f7a4_34 : decode cJ6_numberOfTrailingZeros_0f7a4 34 = .ok (.iload_n 0, 1) := by decide +kernel
theorem dJ6_numberOfTrailingZeros_0f7a4_35 : decode cJ6_numberOfTrailingZeros_0f7a4 35 = .ok (.sipush 256, 3) := by decide +kernel
theorem dJ6_numberOfTrailingZeros_0f7a4_38 : decode cJ6_numberOfTrailingZeros_0f7a4 38 = .ok (.if_icmp .le 11, 3) := by decide +kernel
theorem dJ6_numberOfTrailingZeros_0f7a4_41 : decode cJ6_numberOfTrailingZeros_0f7a4 41 = .ok (.iinc 1 8, 3) := by decide +kernel
theorem dJ6_numberOfTrailingZeros_0f7a4_44 : decode cJ6_numberOfTrailingZeros_0f7a4 44 = .ok (.iload_n 0, 1) := by decide +kernel
theorem dJ6_numberOfTrailingZeros_0f7a4_45 : decode cJ6_numberOfTrailingZeros_0f7a4 45 = .ok (.bipush 8, 2) := by decide +kernel
theorem dJ6_numberOfTrailingZeros_0f7a4_47 : decode cJ6_numberOfTrailingZeros_0f7a4 47 = .ok (.iushr, 1) := by decide +kernel
theorem dJ6_numberOfTrailingZeros_0f7a4_48 : decode cJ6_numberOfTrailingZeros_0f7a4 48 = .ok (.istore_n 0, 1) := by decide +kernel
theorem dJ6_numberOfTrailingZeros_0f7a4_49 : decode cJ6_numberOfTrailingZeros_0f7a4 49 = .ok (.iload_n 0, 1) := by decide +kernel
theorem dJ6_numberOfTrailingZeros_0f7a4_50 : decode cJ6_numberOfTrailingZeros_0f7a4 50 = .ok (.bipush 16, 2) := by decide +kernel
theorem dJ6_numberOfTrailingZeros_0f7a4_52 : decode cJ6_numberOfTrailingZeros_0f7a4 52 = .ok (.if_icmp .le 10, 3) := by decide +kernel
theorem dJ6_numberOfTrailingZeros_0f7a4_55 : decode cJ6_numberOfTrailingZeros_0f7a4 55 = .ok (.iinc 1 4, 3) := by decide +kernel
theorem dJ6_numberOfTrailingZeros_0f7a4_58 : decode cJ6_numberOfTrailingZeros_0f7a4 58 = .ok (.iload_n 0, 1) := by decide +kernel
theorem dJ6_numberOfTrailingZeros_0f7a4_59 : decode cJ6_numberOfTrailingZeros_0f7a4 59 = .ok (.iconst 4, 1) := by decide +kernel
theorem dJ6_numberOfTrailingZeros_0f7a4_60 : decode cJ6_numberOfTrailingZeros_0f7a4 60 = .ok (.iushr, 1) := by decide +kernel
theorem dJ6_numberOfTrailingZeros_0f7a4_61 : decode cJ6_numberOfTrailingZeros_0f7a4 61 = .ok (.istore_n 0, 1) := by decide +kernel
theorem dJ6_numberOfTrailingZeros_0f7a4_62 : decode cJ6_numberOfTrailingZeros_0f7a4 62 = .ok (.iload_n 0, 1) := by decide +kernel
theorem dJ6_numberOfTrailingZeros_0f7a4_63 : decode cJ6_numberOfTrailingZeros_0f7a4 63 = .ok (.iconst 4, 1) := by decide +kernel
theorem dJ6_numberOfTrailingZeros_0f7a4_64 : decode cJ6_numberOfTrailingZeros_0f7a4 64 = .ok (.if_icmp .le 10, 3) := by decide +kernel
theorem dJ6_numberOfTrailingZeros_0f7a4_67 : decode cJ6_numberOfTrailingZeros_0f7a4 67 = .ok (.iinc 1 2, 3) := by decide +kernel
theorem dJ6_numberOfTrailingZeros_0f7a4_70 : decode cJ6_numberOfTrailingZeros_0f7a4 70 = .ok (.iload_n 0, 1) := by decide +kernel
theorem dJ6_numberOfTrailingZeros_0f7a4_71 : decode cJ6_numberOfTrailingZeros_0f7a4 71 = .ok (.iconst 2, 1) := by decide +kernel
theorem dJ6_numberOfTrailingZeros_0f7a4_72 : decode cJ6_numberOfTrailingZeros_0f7a4 72 = .ok (.iushr, 1) := by decide +kernel
theorem dJ6_numberOfTrailingZeros_0f7a4_73 : decode cJ6_numberOfTrailingZeros_0f7a4 73 = .ok (.istore_n 0, 1) := by decide +kernel
theorem dJ6_numberOfTrailingZeros_0f7a4_74 : decode cJ6_numberOfTrailingZeros_0f7a4 74 = .ok (.iload_n 1, 1) := by decide +kernel
theorem dJ6_numberOfTrailingZeros_0f7a4_75 : decode cJ6_numberOfTrailingZeros_0f7a4 75 = .ok (.iload_n 0, 1) := by decide +kernel
theorem dJ6_numberOfTrailingZeros_0f7a4_76 : decode cJ6_numberOfTrailingZeros_0f7a4 76 = .ok (.iconst 1, 1) := by decide +kernel
theorem dJ6_numberOfTrailingZeros_0f7a4_77 : decode cJ6_numberOfTrailingZeros_0f7a4 77 = .ok (.iushr, 1) := by decide +kernel
theorem dJ6_numberOfTrailingZeros_0f7a4_78 : decode cJ6_numberOfTrailingZeros_0f7a4 78 = .ok (.iadd, 1) := by decide +kernel
theorem dJ6_numberOfTrailingZeros_0f7a4_79 : decode cJ6_numberOfTrailingZeros_0f7a4 79 = .ok (.ireturn, 1) := by decide +kernel
theorem dJ6_bitCount_0f7a4_0 : decode cJ6_bitCount_0f7a4 0 = .ok (.iload_n 0, 1) := by decide +kernel
theorem dJ6_bitCount_0f7a4_1 : decode cJ6_bitCount_0f7a4 1 = .ok (.iload_n 0, 1) := by decide +kernel
theorem dJ6_bitCount_0f7a4_2 : decode cJ6_bitCount_0f7a4 2 = .ok (.iconst 1, 1) := by decide +kernel
theorem dJ6_bitCount_0f7a4_3 : decode cJ6_bitCount_0f7a4 3 = .ok (.iushr, 1) := by decide +kernel
theorem dJ6_bitCount_0f7a4_4 : decode cJ6_bitCount_0f7a4 4 = .ok (.ldc_w 265, 3) := by decide +kernel
theorem dJ6_bitCount_0f7a4_7 : decode cJ6_bitCount_0f7a4 7 = .ok (.iand, 1) := by decide +kernel
theorem dJ6_bitCount_0f7a4_8 : decode cJ6_bitCount_0f7a4 8 = .ok (.isub, 1) := by decide +kernel
theorem dJ6_bitCount_0f7a4_9 : decode cJ6_bitCount_0f7a4 9 = .ok (.istore_n 0, 1) := by decide +kernel
theorem dJ6_bitCount_0f7a4_10 : decode cJ6_bitCount_0f7a4 10 = .ok (.iload_n 0, 1) := by decide +kernel
theorem dJ6_bitCount_0f7a4_11 : decode cJ6_bitCount_0f7a4 11 = .ok (.ldc_w 266, 3) := by decide +kernel
theorem dJ6_bitCount_0f7a4_14 : decode cJ6_bitCount_0f7a4 14 = .ok (.iand, 1) := by decide +kernel
theorem dJ6_bitCount_0f7a4_15 : decode cJ6_bitCount_0f7a4 15 = .ok (.iload_n 0, 1) := by decide +kernel
theorem dJ6_bitCount_0f7a4_16 : decode cJ6_bitCount_0f7a4 16 = .ok (.iconst 2, 1) := by decide +kernel
theorem dJ6_bitCount_0f7a4_17 : decode cJ6_bitCount_0f7a4 17 = .ok (.iushr, 1) := by decide +kernel
theorem dJ6_bitCount_0f7a4_18 : decode cJ6_bitCount_0f7a4 18 = .ok (.ldc_w 266, 3) := by decide +kernel
theorem dJ6_bitCount_0f7a4_21 : decode cJ6_bitCount_0f7a4 21 = .ok (.iand, 1) := by decide +kernel
theorem dJ6_bitCount_0f7a4_22 : decode cJ6_bitCount_0f7a4 22 = .ok (.iadd, 1) := by decide +kernel
theorem dJ6_bitCount_0f7a4_23 : decode cJ6_bitCount_0f7a4 23 = .ok (.istore_n 0, 1) := by decide +kernel
theorem dJ6_bitCount_0f7a4_24 : decode cJ6_bitCount_0f7a4 24 = .ok (.iload_n 0, 1) := by decide +kernel
theorem dJ6_bitCount_0f7a4_25 : decode cJ6_bitCount_0f7a4 25 = .ok (.iload_n 0, 1) := by decide +kernel
theorem dJ6_bitCount_0f7a4_26 : decode cJ6_bitCount_0f7a4 26 = .ok (.iconst 4, 1) := by decide +kernel
theorem dJ6_bitCount_0f7a4_27 : decode cJ6_bitCount_0f7a4 27 = .ok (.iushr, 1) := by decide +kernel
theorem dJ6_bitCount_0f7a4_28 : decode cJ6_bitCount_0f7a4 28 = .ok (.iadd, 1) := by decide +kernel
theorem dJ6_bitCount_0f7a4_29 : decode cJ6_bitCount_0f7a4 29 = .ok (.ldc_w 267, 3) := by decide +kernel
theorem dJ6_bitCount_0f7a4_32 : decode cJ6_bitCount_0f7a4 32 = .ok (.iand, 1) := by decide +kernel
theorem dJ6_bitCount_0f7a4_33 : decode cJ6_bitCount_0f7a4 33 = .ok (.istore_n 0, 1) := by decide +kernel
theorem dJ6_bitCount_0f7a4_34 : decode cJ6_bitCount_0f7a4 34 = .ok (.iload_n 0, 1) := by decide +kernel
theorem dJ6_bitCount_0f7a4_35 : decode cJ6_bitCount_0f7a4 35 = .ok (.iload_n 0, 1) := by decide +kernel
theorem dJ6_bitCount_0f7a4_36 : decode cJ6_bitCount_0f7a4 36 = .ok (.bipush 8, 2) := by decide +kernel
theorem dJ6_bitCount_0f7a4_38 : decode cJ6_bitCount_0f7a4 38 = .ok (.iushr, 1) := by decide +kernel
theorem dJ6_bitCount_0f7a4_39 : decode cJ6_bitCount_0f7a4 39 = .ok (.iadd, 1) := by decide +kernel
theorem dJ6_bitCount_0f7a4_40 : decode cJ6_bitCount_0f7a4 40 = .ok (.istore_n 0, 1) := by decide +kernel
theorem dJ6_bitCount_0f7a4_41 : decode cJ6_bitCount_0f7a4 41 = .ok (.iload_n 0, 1) := by decide +kernel
theorem dJ6_bitCount_0f7a4_42 : decode cJ6_bitCount_0f7a4 42 = .ok (.iload_n 0, 1) := by decide +kernel
theorem dJ6_bitCount_0f7a4_43 : decode cJ6_bitCount_0f7a4 43 = .ok (.bipush 16, 2) := by decide +kernel
theorem dJ6_bitCount_0f7a4_45 : decode cJ6_bitCount_0f7a4 45 = .ok (.iushr, 1) := by decide +kernel
theorem dJ6_bitCount_0f7a4_46 : decode cJ6_bitCount_0f7a4 46 = .ok (.iadd, 1) := by decide +kernel
theorem dJ6_bitCount_0f7a4_47 : decode cJ6_bitCount_0f7a4 47 = .ok (.istore_n 0, 1) := by decide +kernel
theorem dJ6_bitCount_0f7a4_48 : decode cJ6_bitCount_0f7a4 48 = .ok (.iload_n 0, 1) := by decide +kernel
theorem dJ6_bitCount_0f7a4_49 : decode cJ6_bitCount_0f7a4 49 = .ok (.bipush 63, 2) := by decide +kernel
theorem dJ6_bitCount_0f7a4_51 : decode cJ6_bitCount_0f7a4 51 = .ok (.iand, 1) := by decide +kernel
theorem dJ6_bitCount_0f7a4_52 : decode cJ6_bitCount_0f7a4 52 = .ok (.ireturn, 1) := by decide +kernel
theorem dJ13_numberOfLeadingZeros_95d88_0 : decode cJ13_numberOfLeadingZeros_95d88 0 = .ok (.lload_n 0, 1) := by decide +kernel
theorem dJ13_numberOfLeadingZeros_95d88_1 : decode cJ13_numberOfLeadingZeros_95d88 1 = .ok (.bipush 32, 2) := by decide +kernel
theorem dJ13_numberOfLeadingZeros_95d88_3 : decode cJ13_numberOfLeadingZeros_95d88 3 = .ok (.lushr, 1) := by decide +kernel
theorem dJ13_numberOfLeadingZeros_95d88_4 : decode cJ13_numberOfLeadingZeros_95d88 4 = .ok (.l2i, 1) := by decide +kernel
theorem dJ13_numberOfLeadingZeros_95d88_5 : decode cJ13_numberOfLeadingZeros_95d88 5 = .ok (.istore_n 2, 1) := by decide +kernel
theorem dJ13_numberOfLeadingZeros_95d88_6 : decode cJ13_numberOfLeadingZeros_95d88 6 = .ok (.iload_n 2, 1) := by decide +kernel
theorem dJ13_numberOfLeadingZeros_95d88_7 : decode cJ13_numberOfLeadingZeros_95d88 7 = .ok (.ifCond .ne 14, 3) := by decide +kernel
theorem dJ13_numberOfLeadingZeros_95d88_10 : decode cJ13_numberOfLeadingZeros_95d88 10 = .ok (.bipush 32, 2) := by decide +kernel
theorem dJ13_numberOfLeadingZeros_95d88_12 : decode cJ13_numberOfLeadingZeros_95d88 12 = .ok (.lload_n 0, 1) := by decide +kernel
theorem dJ13_numberOfLeadingZeros_95d88_13 : decode cJ13_numberOfLeadingZeros_95d88 13 = .ok (.l2i, 1) := by decide +kernel
theorem dJ13_numberOfLeadingZeros_95d88_14 : decode cJ13_numberOfLeadingZeros_95d88 14 = .ok (.invokestatic 308, 3) := by decide +kernel
theorem dJ13_numberOfLeadingZeros_95d88_17 : decode cJ13_numberOfLeadingZeros_95d88 17 = .ok (.iadd, 1) := by decide +kernel
theorem dJ13_numberOfLeadingZeros_95d88_18 : decode cJ13_numberOfLeadingZeros_95d88 18 = .ok (.goto 7, 3) := by decide +kernel
theorem dJ13_numberOfLeadingZeros_95d88_21 : decode cJ13_numberOfLeadingZeros_95d88 21 = .ok (.iload_n 2, 1) := by decide +kernel
theorem dJ13_numberOfLeadingZeros_95d88_22 : decode cJ13_numberOfLeadingZeros_95d88 22 = .ok (.invokestatic 308, 3) := by decide +kernel
theorem dJ13_numberOfLeadingZeros_95d88_25 : decode cJ13_numberOfLeadingZeros_95d88 25 = .ok (.ireturn, 1) := by decide +kernel
theorem dJ13_numberOfTrailingZeros_95d88_0 : decode cJ13_numberOfTrailingZeros_95d88 0 = .ok (.lload_n 0, 1) := by decide +kernel
theorem dJ13_numberOfTrailingZeros_95d88_1 : decode cJ13_numberOfTrailingZeros_95d88 1 = .ok (.l2i, 1) := by decide +kernel
theorem dJ13_numberOfTrailingZeros_95d88_2 : decode cJ13_numberOfTrailingZeros_95d88 2 = .ok (.istore_n 2, 1) := by decide +kernel
theorem dJ13_numberOfTrailingZeros_95d88_3 : decode cJ13_numberOfTrailingZeros_95d88 3 = .ok (.iload_n 2, 1) := by decide +kernel
theorem dJ13_numberOfTrailingZeros_95d88_4 : decode cJ13_numberOfTrailingZeros_95d88 4 = .ok (.ifCond .ne 17, 3) := by decide +kernel
theorem dJ13_numberOfTrailingZeros_95d88_7 : decode cJ13_numberOfTrailingZeros_95d88 7 = .ok (.bipush 32, 2) := by decide +kernel
theorem dJ13_numberOfTrailingZeros_95d88_9 : decode cJ13_numberOfTrailingZeros_95d88 9 = .ok (.lload_n 0, 1) := by decide +kernel
theorem dJ13_numberOfTrailingZeros_95d88_10 : decode cJ13_numberOfTrailingZeros_95d88 10 = .ok (.bipush 32, 2) := by decide +kernel
theorem dJ13_numberOfTrailingZeros_95d88_12 : decode cJ13_numberOfTrailingZeros_95d88 12 = .ok (.lushr, 1) := by decide +kernel
theorem dJ13_numberOfTrailingZeros_95d88_13 : decode cJ13_numberOfTrailingZeros_95d88 13 = .ok (.l2i, 1) := by decide +kernel
theorem dJ13_numberOfTrailingZeros_95d88_14 : decode cJ13_numberOfTrailingZeros_95d88 14 = .ok (.invokestatic 311, 3) := by decide +kernel
theorem dJ13_numberOfTrailingZeros_95d88_17 : decode cJ13_numberOfTrailingZeros_95d88 17 = .ok (.iadd, 1) := by decide +kernel
theorem dJ13_numberOfTrailingZeros_95d88_18 : decode cJ13_numberOfTrailingZeros_95d88 18 = .ok (.goto 7, 3) := by decide +kernel
theorem dJ13_numberOfTrailingZeros_95d88_21 : decode cJ13_numberOfTrailingZeros_95d88 21 = .ok (.iload_n 2, 1) := by decide +kernel
theorem dJ13_numberOfTrailingZeros_95d88_22 : decode cJ13_numberOfTrailingZeros_95d88 22 = .ok (.invokestatic 311, 3) := by decide +kernel
theorem dJ13_numberOfTrailingZeros_95d88_25 : decode cJ13_numberOfTrailingZeros_95d88 25 = .ok (.ireturn, 1) := by decide +kernel
theorem dJ13_bitCount_95d88_0 : decode cJ13_bitCount_95d88 0 = .ok (.lload_n 0, 1) := by decide +kernel
theorem dJ13_bitCount_95d88_1 : decode cJ13_bitCount_95d88 1 = .ok (.lload_n 0, 1) := by decide +kernel
theorem dJ13_bitCount_95d88_2 : decode cJ13_bitCount_95d88 2 = .ok (.iconst 1, 1) := by decide +kernel
theorem dJ13_bitCount_95d88_3 : decode cJ13_bitCount_95d88 3 = .ok (.lushr, 1) := by decide +kernel
theorem dJ13_bitCount_95d88_4 : decode cJ13_bitCount_95d88 4 = .ok (.ldc2_w 314, 3) := by decide +kernel
theorem dJ13_bitCount_95d88_7 : decode cJ13_bitCount_95d88 7 = .ok (.land, 1) := by decide +kernel
theorem dJ13_bitCount_95d88_8 : decode cJ13_bitCount_95d88 8 = .ok (.lsub, 1) := by decide +kernel
theorem dJ13_bitCount_95d88_9 : decode cJ13_bitCount_95d88 9 = .ok (.lstore_n 0, 1) := by decide +kernel
theorem dJ13_bitCount_95d88_10 : decode cJ13_bitCount_95d88 10 = .ok (.lload_n 0, 1) := by decide +kernel
theorem dJ13_bitCount_95d88_11 : decode cJ13_bitCount_95d88 11 = .ok (.ldc2_w 316, 3) := by decide +kernel
theorem dJ13_bitCount_95d88_14 : decode cJ13_bitCount_95d88 14 = .ok (.land, 1) := by decide +kernel
theorem dJ13_bitCount_95d88_15 : decode cJ13_bitCount_95d88 15 = .ok (.lload_n 0, 1) := by decide +kernel
theorem dJ13_bitCount_95d88_16 : decode cJ13_bitCount_95d88 16 = .ok (.iconst 2, 1) := by decide +kernel
theorem dJ13_bitCount_95d88_17 : decode cJ13_bitCount_95d88 17 = .ok (.lushr, 1) := by decide +kernel
theorem dJ13_bitCount_95d88_18 : decode cJ13_bitCount_95d88 18 = .ok (.ldc2_w 316, 3) := by decide +kernel
theorem dJ13_bitCount_95d88_21 : decode cJ13_bitCount_95d88 21 = .ok (.land, 1) := by decide +kernel
theorem dJ13_bitCount_95d88_22 : decode cJ13_bitCount_95d88 22 = .ok (.ladd, 1) := by decide +kernel
theorem dJ13_bitCount_95d88_23 : decode cJ13_bitCount_95d88 23 = .ok (.lstore_n 0, 1) := by decide +kernel
theorem dJ13_bitCount_95d88_24 : decode cJ13_bitCount_95d88 24 = .ok (.lload_n 0, 1) := by decide +kernel
theorem dJ13_bitCount_95d88_25 : decode cJ13_bitCount_95d88 25 = .ok (.lload_n 0, 1) := by decide +kernel
theorem dJ13_bitCount_95d88_26 : decode cJ13_bitCount_95d88 26 = .ok (.iconst 4, 1) := by decide +kernel
theorem dJ13_bitCount_95d88_27 : decode cJ13_bitCount_95d88 27 = .ok (.lushr, 1) := by decide +kernel
theorem dJ13_bitCount_95d88_28 : decode cJ13_bitCount_95d88 28 = .ok (.ladd, 1) := by decide +kernel
theorem dJ13_bitCount_95d88_29 : decode cJ13_bitCount_95d88 29 = .ok (.ldc2_w 318, 3) := by decide +kernel
theorem dJ13_bitCount_95d88_32 : decode cJ13_bitCount_95d88 32 = .ok (.land, 1) := by decide +kernel
theorem dJ13_bitCount_95d88_33 : decode cJ13_bitCount_95d88 33 = .ok (.lstore_n 0, 1) := by decide +kernel
theorem dJ13_bitCount_95d88_34 : decode cJ13_bitCount_95d88 34 = .ok (.lload_n 0, 1) := by decide +kernel
theorem dJ13_bitCount_95d88_35 : decode cJ13_bitCount_95d88 35 = .ok (.lload_n 0, 1) := by decide +kernel
theorem dJ13_bitCount_95d88_36 : decode cJ13_bitCount_95d88 36 = .ok (.bipush 8, 2) := by decide +kernel
theorem dJ13_bitCount_95d88_38 : decode cJ13_bitCount_95d88 38 = .ok (.lushr, 1) := by decide +kernel
theorem dJ13_bitCount_95d88_39 : decode cJ13_bitCount_95d88 39 = .ok (.ladd, 1) := by decide +kernel
theorem dJ13_bitCount_95d88_40 : decode cJ13_bitCount_95d88 40 = .ok (.lstore_n 0, 1) := by decide +kernel
theorem dJ13_bitCount_95d88_41 : decode cJ13_bitCount_95d88 41 = .ok (.lload_n 0, 1) := by decide +kernel
theorem dJ13_bitCount_95d88_42 : decode cJ13_bitCount_95d88 42 = .ok (.lload_n 0, 1) := by decide +kernel
theorem dJ13_bitCount_95d88_43 : decode cJ13_bitCount_95d88 43 = .ok (.bipush 16, 2) := by decide +kernel
theorem dJ13_bitCount_95d88_45 : decode cJ13_bitCount_95d88 45 = .ok (.lushr, 1) := by decide +kernel
theorem dJ13_bitCount_95d88_46 : decode cJ13_bitCount_95d88 46 = .ok (.ladd, 1) := by decide +kernel
theorem dJ13_bitCount_95d88_47 : decode cJ13_bitCount_95d88 47 = .ok (.lstore_n 0, 1) := by decide +kernel
theorem dJ13_bitCount_95d88_48 : decode cJ13_bitCount_95d88 48 = .ok (.lload_n 0, 1) := by decide +kernel
theorem dJ13_bitCount_95d88_49 : decode cJ13_bitCount_95d88 49 = .ok (.lload_n 0, 1) := by decide +kernel
theorem dJ13_bitCount_95d88_50 : decode cJ13_bitCount_95d88 50 = .ok (.bipush 32, 2) := by decide +kernel
theorem dJ13_bitCount_95d88_52 : decode cJ13_bitCount_95d88 52 = .ok (.lushr, 1) := by decide +kernel
theorem dJ13_bitCount_95d88_53 : decode cJ13_bitCount_95d88 53 = .ok (.ladd, 1) := by decide +kernel
theorem dJ13_bitCount_95d88_54 : decode cJ13_bitCount_95d88 54 = .ok (.lstore_n 0, 1) := by decide +kernel
theorem dJ13_bitCount_95d88_55 : decode cJ13_bitCount_95d88 55 = .ok (.lload_n 0, 1) := by decide +kernel
theorem dJ13_bitCount_95d88_56 : decode cJ13_bitCount_95d88 56 = .ok (.l2i, 1) := by decide +kernel
theorem dJ13_bitCount_95d88_57 : decode cJ13_bitCount_95d88 57 = .ok (.bipush 127, 2) := by decide +kernel
theorem dJ13_bitCount_95d88_59 : decode cJ13_bitCount_95d88 59 = .ok (.iand, 1) := by decide +kernel
theorem dJ13_bitCount_95d88_60 : decode cJ13_bitCount_95d88 60 = .ok (.ireturn, 1) := by decide +kernel
theorem dJ9_max_7cf53_0 : decode cJ9_max_7cf53 0 = .ok (.iload_n 0, 1) := by decide +kernel
theorem dJ9_max_7cf53_1 : decode cJ9_max_7cf53 1 = .ok (.iload_n 1, 1) := by decide +kernel
theorem dJ9_max_7cf53_2 : decode cJ9_max_7cf53 2 = .ok (.if_icmp .lt 7, 3) := by decide +kernel
theorem dJ9_max_7cf53_5 : decode cJ9_max_7cf53 5 = .ok (.iload_n 0, 1) := by decide +kernel
theorem dJ9_max_7cf53_6 : decode cJ9_max_7cf53 6 = .ok (.goto 4, 3) := by decide +kernel
theorem dJ9_max_7cf53_9 : decode cJ9_max_7cf53 9 = .ok (.iload_n 1, 1) := by decide +kernel
theorem dJ9_max_7cf53_10 : decode cJ9_max_7cf53 10 = .ok (.ireturn, 1) := by decide +kernel
theorem dJ9_min_7cf53_0 : decode cJ9_min_7cf53 0 = .ok (.iload_n 0, 1) := by decide +kernel
theorem dJ9_min_7cf53_1 : decode cJ9_min_7cf53 1 = .ok (.iload_n 1, 1) := by decide +kernel
theorem dJ9_min_7cf53_2 : decode cJ9_min_7cf53 2 = .ok (.if_icmp .gt 7, 3) := by decide +kernel
theorem dJ9_min_7cf53_5 : decode cJ9_min_7cf53 5 = .ok (.iload_n 0, 1) := by decide +kernel
theorem dJ9_min_7cf53_6 : decode cJ9_min_7cf53 6 = .ok (.goto 4, 3) := by decide +kernel
theorem dJ9_min_7cf53_9 : decode cJ9_min_7cf53 9 = .ok (.iload_n 1, 1) := by decide +kernel
theorem dJ9_min_7cf53_10 : decode cJ9_min_7cf53 10 = .ok (.ireturn, 1) := by decide +kernel
theorem dJ7_fill_d0a16_0 : decode cJ7_fill_d0a16 0 = .ok (.iconst 0, 1) := by decide +kernel
theorem dJ7_fill_d0a16_1 : decode cJ7_fill_d0a16 1 = .ok (.istore_n 3, 1) := by decide +kernel
theorem dJ7_fill_d0a16_2 : decode cJ7_fill_d0a16 2 = .ok (.aload_n 0, 1) := by decide +kernel
theorem dJ7_fill_d0a16_3 : decode cJ7_fill_d0a16 3 = .ok (.arraylength, 1) := by decide +kernel
theorem dJ7_fill_d0a16_4 : decode cJ7_fill_d0a16 4 = .ok (.istore 4, 2) := by decide +kernel
theorem dJ7_fill_d0a16_6 : decode cJ7_fill_d0a16 6 = .ok (.iload_n 3, 1) := by decide +kernel
theorem dJ7_fill_d0a16_7 : decode cJ7_fill_d0a16 7 = .ok (.iload 4, 2) := by decide +kernel
theorem dJ7_fill_d0a16_9 : decode cJ7_fill_d0a16 9 = .ok (.if_icmp .ge 13, 3) := by decide +kernel
theorem dJ7_fill_d0a16_12 : decode cJ7_fill_d0a16 12 = .ok (.aload_n 0, 1) := by decide +kernel
theorem dJ7_fill_d0a16_13 : decode cJ7_fill_d0a16 13 = .ok (.iload_n 3, 1) := by decide +kernel
theorem dJ7_fill_d0a16_14 : decode cJ7_fill_d0a16 14 = .ok (.lload_n 1, 1) := by decide +kernel
theorem dJ7_fill_d0a16_15 : decode cJ7_fill_d0a16 15 = .ok (.lastore, 1) := by decide +kernel
theorem dJ7_fill_d0a16_16 : decode cJ7_fill_d0a16 16 = .ok (.iinc 3 1, 3) := by decide +kernel
theorem dJ7_fill_d0a16_19 : decode cJ7_fill_d0a16 19 = .ok (.goto (-13), 3) := by decide +kernel
theorem dJ7_fill_d0a16_22 : decode cJ7_fill_d0a16 22 = .ok (.return_, 1) := by decide +kernel
theorem dJ7_copyOf_59c91_0 : decode cJ7_copyOf_59c91 0 = .ok (.iload_n 1, 1) := by decide +kernel
theorem dJ7_copyOf_59c91_1 : decode cJ7_copyOf_59c91 1 = .ok (.aload_n 0, 1) := by decide +kernel
theorem dJ7_copyOf_59c91_2 : decode cJ7_copyOf_59c91 2 = .ok (.arraylength, 1) := by decide +kernel
theorem dJ7_copyOf_59c91_3 : decode cJ7_copyOf_59c91 3 = .ok (.if_icmp .ne 11, 3) := by decide +kernel
theorem dJ7_copyOf_59c91_6 : decode cJ7_copyOf_59c91 6 = .ok (.aload_n 0, 1) := by decide +kernel
theorem dJ7_copyOf_59c91_7 : decode cJ7_copyOf_59c91 7 = .ok (.invokevirtual 316, 3) := by decide +kernel
theorem dJ7_copyOf_59c91_10 : decode cJ7_copyOf_59c91 10 = .ok (.checkcast 317, 3) := by decide +kernel
theorem dJ7_copyOf_59c91_13 : decode cJ7_copyOf_59c91 13 = .ok (.areturn, 1) := by decide +kernel
theorem dJ7_copyOf_59c91_14 : decode cJ7_copyOf_59c91 14 = .ok (.iload_n 1, 1) := by decide +kernel
theorem dJ7_copyOf_59c91_15 : decode cJ7_copyOf_59c91 15 = .ok (.newarray .int, 2) := by decide +kernel
theorem dJ7_copyOf_59c91_17 : decode cJ7_copyOf_59c91 17 = .ok (.astore_n 2, 1) := by decide +kernel
theorem dJ7_copyOf_59c91_18 : decode cJ7_copyOf_59c91 18 = .ok (.aload_n 0, 1) := by decide +kernel
theorem dJ7_copyOf_59c91_19 : decode cJ7_copyOf_59c91 19 = .ok (.iconst 0, 1) := by decide +kernel
theorem dJ7_copyOf_59c91_20 : decode cJ7_copyOf_59c91 20 = .ok (.aload_n 2, 1) := by decide +kernel
theorem dJ7_copyOf_59c91_21 : decode cJ7_copyOf_59c91 21 = .ok (.iconst 0, 1) := by decide +kernel
theorem dJ7_copyOf_59c91_22 : decode cJ7_copyOf_59c91 22 = .ok (.aload_n 0, 1) := by decide +kernel
theorem dJ7_copyOf_59c91_23 : decode cJ7_copyOf_59c91 23 = .ok (.arraylength, 1) := by decide +kernel
theorem dJ7_copyOf_59c91_24 : decode cJ7_copyOf_59c91 24 = .ok (.iload_n 1, 1) := by decide +kernel
theorem dJ7_copyOf_59c91_25 : decode cJ7_copyOf_59c91 25 = .ok (.invokestatic 304, 3) := by decide +kernel
theorem dJ7_copyOf_59c91_28 : decode cJ7_copyOf_59c91 28 = .ok (.invokestatic 150, 3) := by decide +kernel
theorem dJ7_copyOf_59c91_31 : decode cJ7_copyOf_59c91 31 = .ok (.aload_n 2, 1) := by decide +kernel
theorem dJ7_copyOf_59c91_32 : decode cJ7_copyOf_59c91 32 = .ok (.areturn, 1) := by decide +kernel
theorem dJ7_copyOf_c38d5_0 : decode cJ7_copyOf_c38d5 0 = .ok (.iload_n 1, 1) := by decide +kernel
theorem dJ7_copyOf_c38d5_1 : decode cJ7_copyOf_c38d5 1 = .ok (.aload_n 0, 1) := by decide +kernel
theorem dJ7_copyOf_c38d5_2 : decode cJ7_copyOf_c38d5 2 = .ok (.arraylength, 1) := by decide +kernel
theorem dJ7_copyOf_c38d5_3 : decode cJ7_copyOf_c38d5 3 = .ok (.if_icmp .ne 11, 3) := by decide +kernel
theorem dJ7_copyOf_c38d5_6 : decode cJ7_copyOf_c38d5 6 = .ok (.aload_n 0, 1) := by decide +kernel
theorem dJ7_copyOf_c38d5_7 : decode cJ7_copyOf_c38d5 7 = .ok (.invokevirtual 319, 3) := by decide +kernel
theorem dJ7_copyOf_c38d5_10 : decode cJ7_copyOf_c38d5 10 = .ok (.checkcast 320, 3) := by decide +kernel
theorem dJ7_copyOf_c38d5_13 : decode cJ7_copyOf_c38d5 13 = .ok (.areturn, 1) := by decide +kernel
theorem dJ7_copyOf_c38d5_14 : decode cJ7_copyOf_c38d5 14 = .ok (.iload_n 1, 1) := by decide +kernel
theorem dJ7_copyOf_c38d5_15 : decode cJ7_copyOf_c38d5 15 = .ok (.newarray .long, 2) := by decide +kernel
theorem dJ7_copyOf_c38d5_17 : decode cJ7_copyOf_c38d5 17 = .ok (.astore_n 2, 1) := by decide +kernel
theorem dJ7_copyOf_c38d5_18 : decode cJ7_copyOf_c38d5 18 = .ok (.aload_n 0, 1) := by decide +kernel
theorem dJ7_copyOf_c38d5_19 : decode cJ7_copyOf_c38d5 19 = .ok (.iconst 0, 1) := by decide +kernel
theorem dJ7_copyOf_c38d5_20 : decode cJ7_copyOf_c38d5 20 = .ok (.aload_n 2, 1) := by decide +kernel
theorem dJ7_copyOf_c38d5_21 : decode cJ7_copyOf_c38d5 21 = .ok (.iconst 0, 1) := by decide +kernel
theorem dJ7_copyOf_c38d5_22 : decode cJ7_copyOf_c38d5 22 = .ok (.aload_n 0, 1) := by decide +kernel
theorem dJ7_copyOf_c38d5_23 : decode cJ7_copyOf_c38d5 23 = .ok (.arraylength, 1) := by decide +kernel
theorem dJ7_copyOf_c38d5_24 : decode cJ7_copyOf_c38d5 24 = .ok (.iload_n 1, 1) := by decide +kernel
theorem dJ7_copyOf_c38d5_25 : decode cJ7_copyOf_c38d5 25 = .ok (.invokestatic 304, 3) := by decide +kernel
theorem dJ7_copyOf_c38d5_28 : decode cJ7_copyOf_c38d5 28 = .ok (.invokestatic 150, 3) := by decide +kernel
theorem dJ7_copyOf_c38d5_31 : decode cJ7_copyOf_c38d5 31 = .ok (.aload_n 2, 1) := by decide +kernel
theorem dJ7_copyOf_c38d5_32 : decode cJ7_copyOf_c38d5 32 = .ok (.areturn, 1) := by decide +kernel
theorem dL_below_0 : decode cL_below 0 = .ok (.iload_n 0, 1) := by decide +kernel
theorem dL_below_1 : decode cL_below 1 = .ok (.ldc 7, 2) := by decide +kernel
theorem dL_below_3 : decode cL_below 3 = .ok (.iand, 1) := by decide +kernel
theorem dL_below_4 : decode cL_below 4 = .ok (.iload_n 1, 1) := by decide +kernel
theorem dL_below_5 : decode cL_below 5 = .ok (.irem, 1) := by decide +kernel
theorem dL_below_6 : decode cL_below 6 = .ok (.ireturn, 1) := by decide +kernel
theorem dL_cell_0 : decode cL_cell 0 = .ok (.iload_n 1, 1) := by decide +kernel
theorem dL_cell_1 : decode cL_cell 1 = .ok (.aload_n 0, 1) := by decide +kernel
theorem dL_cell_2 : decode cL_cell 2 = .ok (.arraylength, 1) := by decide +kernel
theorem dL_cell_3 : decode cL_cell 3 = .ok (.if_icmp .ge 9, 3) := by decide +kernel
theorem dL_cell_6 : decode cL_cell 6 = .ok (.aload_n 0, 1) := by decide +kernel
theorem dL_cell_7 : decode cL_cell 7 = .ok (.iload_n 1, 1) := by decide +kernel
theorem dL_cell_8 : decode cL_cell 8 = .ok (.iaload, 1) := by decide +kernel
theorem dL_cell_9 : decode cL_cell 9 = .ok (.goto 9, 3) := by decide +kernel
theorem dL_cell_12 : decode cL_cell 12 = .ok (.ldc 8, 2) := by decide +kernel
theorem dL_cell_14 : decode cL_cell 14 = .ok (.iload_n 1, 1) := by decide +kernel
theorem dL_cell_15 : decode cL_cell 15 = .ok (.iconst 3, 1) := by decide +kernel
theorem dL_cell_16 : decode cL_cell 16 = .ok (.iadd, 1) := by decide +kernel
theorem dL_cell_17 : decode cL_cell 17 = .ok (.imul, 1) := by decide +kernel
theorem dL_cell_18 : decode cL_cell 18 = .ok (.ireturn, 1) := by decide +kernel
theorem dL_has_0 : decode cL_has 0 = .ok (.lload_n 0, 1) := by decide +kernel
theorem dL_has_1 : decode cL_has 1 = .ok (.iload_n 2, 1) := by decide +kernel
theorem dL_has_2 : decode cL_has 2 = .ok (.lshr, 1) := by decide +kernel
theorem dL_has_3 : decode cL_has 3 = .ok (.lconst 1, 1) := by decide +kernel
theorem dL_has_4 : decode cL_has 4 = .ok (.land, 1) := by decide +kernel
theorem dL_has_5 : decode cL_has 5 = .ok (.lconst 1, 1) := by decide +kernel
theorem dL_has_6 : decode cL_has 6 = .ok (.lcmp, 1) := by decide +kernel
theorem dL_has_7 : decode cL_has 7 = .ok (.ifCond .ne 7, 3) := by decide +kernel
theorem dL_has_10 : decode cL_has 10 = .ok (.iconst 1, 1) := by decide +kernel
theorem dL_has_11 : decode cL_has 11 = .ok (.goto 4, 3) := by decide +kernel
theorem dL_has_14 : decode cL_has 14 = .ok (.iconst 0, 1) := by decide +kernel
theorem dL_has_15 : decode cL_has 15 = .ok (.ireturn, 1) := by decide +kernel
theorem dL_choose_0 : decode cL_choose 0 = .ok (.lconst 0, 1) := by decide +kernel
theorem dL_choose_1 : decode cL_choose 1 = .ok (.lstore_n 1, 1) := by decide +kernel
theorem dL_choose_2 : decode cL_choose 2 = .ok (.iload_n 0, 1) := by decide +kernel
theorem dL_choose_3 : decode cL_choose 3 = .ok (.bipush 7, 2) := by decide +kernel
theorem dL_choose_5 : decode cL_choose 5 = .ok (.invokestatic 9, 3) := by decide +kernel
theorem dL_choose_8 : decode cL_choose 8 = .ok (.istore_n 3, 1) := by decide +kernel
theorem dL_choose_9 : decode cL_choose 9 = .ok (.iload_n 0, 1) := by decide +kernel
theorem dL_choose_10 : decode cL_choose 10 = .ok (.istore 4, 2) := by decide +kernel
theorem dL_choose_12 : decode cL_choose 12 = .ok (.iconst 0, 1) := by decide +kernel
theorem dL_choose_13 : decode cL_choose 13 = .ok (.istore 5, 2) := by decide +kernel
theorem dL_choose_15 : decode cL_choose 15 = .ok (.iload 5, 2) := by decide +kernel
theorem dL_choose_17 : decode cL_choose 17 = .ok (.iload_n 3, 1) := by decide +kernel
theorem dL_choose_18 : decode cL_choose 18 = .ok (.if_icmp .ge 33, 3) := by decide +kernel
theorem dL_choose_21 : decode cL_choose 21 = .ok (.iload 4, 2) := by decide +kernel
theorem dL_choose_23 : decode cL_choose 23 = .ok (.ldc 15, 2) := by decide +kernel
theorem dL_choose_25 : decode cL_choose 25 = .ok (.imul, 1) := by decide +kernel
theorem dL_choose_26 : decode cL_choose 26 = .ok (.sipush 12345, 3) := by decide +kernel
theorem dL_choose_29 : decode cL_choose 29 = .ok (.iadd, 1) := by decide +kernel
theorem dL_choose_30 : decode cL_choose 30 = .ok (.istore 4, 2) := by decide +kernel
theorem dL_choose_32 : decode cL_choose 32 = .ok (.lload_n 1, 1) := by decide +kernel
theorem dL_choose_33 : decode cL_choose 33 = .ok (.lconst 1, 1) := by decide +kernel
theorem dL_choose_34 : decode cL_choose 34 = .ok (.iload 4, 2) := by decide +kernel
theorem dL_choose_36 : decode cL_choose 36 = .ok (.bipush 16, 2) := by decide +kernel
theorem dL_choose_38 : decode cL_choose 38 = .ok (.ishr, 1) := by decide +kernel
theorem dL_choose_39 : decode cL_choose 39 = .ok (.bipush 63, 2) := by decide +kernel
theorem dL_choose_41 : decode cL_choose 41 = .ok (.iand, 1) := by decide +kernel
theorem dL_choose_42 : decode cL_choose 42 = .ok (.lshl, 1) := by decide +kernel
theorem dL_choose_43 : decode cL_choose 43 = .ok (.lor, 1) := by decide +kernel
theorem dL_choose_44 : decode cL_choose 44 = .ok (.lstore_n 1, 1) := by decide +kernel
theorem dL_choose_45 : decode cL_choose 45 = .ok (.iinc 5 1, 3) := by decide +kernel
theorem dL_choose_48 : decode cL_choose 48 = .ok (.goto (-33), 3) := by decide +kernel
theorem dL_choose_51 : decode cL_choose 51 = .ok (.lload_n 1, 1) := by decide +kernel
theorem dL_choose_52 : decode cL_choose 52 = .ok (.lreturn, 1) := by decide +kernel
theorem dL_make_0 : decode cL_make 0 = .ok (.aload_n 0, 1) := by decide +kernel
theorem dL_make_1 : decode cL_make 1 = .ok (.iconst 0, 1) := by decide +kernel
theorem dL_make_2 : decode cL_make 2 = .ok (.bipush 12, 2) := by decide +kernel
theorem dL_make_4 : decode cL_make 4 = .ok (.invokevirtual 16, 3) := by decide +kernel
theorem dL_make_7 : decode cL_make 7 = .ok (.istore_n 3, 1) := by decide +kernel
theorem dL_make_8 : decode cL_make 8 = .ok (.iconst 0, 1) := by decide +kernel
theorem dL_make_9 : decode cL_make 9 = .ok (.istore 4, 2) := by decide +kernel
theorem dL_make_11 : decode cL_make 11 = .ok (.iload 4, 2) := by decide +kernel
theorem dL_make_13 : decode cL_make 13 = .ok (.bipush 64, 2) := by decide +kernel
theorem dL_make_15 : decode cL_make 15 = .ok (.if_icmp .ge 30, 3) := by decide +kernel
theorem dL_make_18 : decode cL_make 18 = .ok (.lload_n 1, 1) := by decide +kernel
theorem dL_make_19 : decode cL_make 19 = .ok (.iload 4, 2) := by decide +kernel
theorem dL_make_21 : decode cL_make 21 = .ok (.invokestatic 21, 3) := by decide +kernel
theorem dL_make_24 : decode cL_make 24 = .ok (.ifCond .eq 15, 3) := by decide +kernel
theorem dL_make_27 : decode cL_make 27 = .ok (.aload_n 0, 1) := by decide +kernel
theorem dL_make_28 : decode cL_make 28 = .ok (.iload_n 3, 1) := by decide +kernel
theorem dL_make_29 : decode cL_make 29 = .ok (.aload_n 0, 1) := by decide +kernel
theorem dL_make_30 : decode cL_make 30 = .ok (.iload 4, 2) := by decide +kernel
theorem dL_make_32 : decode cL_make 32 = .ok (.invokevirtual 25, 3) := by decide +kernel
theorem dL_make_35 : decode cL_make 35 = .ok (.invokevirtual 29, 3) := by decide +kernel
theorem dL_make_38 : decode cL_make 38 = .ok (.istore_n 3, 1) := by decide +kernel
theorem dL_make_39 : decode cL_make 39 = .ok (.iinc 4 1, 3) := by decide +kernel
theorem dL_make_42 : decode cL_make 42 = .ok (.goto (-31), 3) := by decide +kernel
theorem dL_make_45 : decode cL_make 45 = .ok (.iload_n 3, 1) := by decide +kernel
theorem dL_make_46 : decode cL_make 46 = .ok (.ireturn, 1) := by decide +kernel
theorem dL_is_0 : decode cL_is 0 = .ok (.aload_n 0, 1) := by decide +kernel
theorem dL_is_1 : decode cL_is 1 = .ok (.iload_n 1, 1) := by decide +kernel
theorem dL_is_2 : decode cL_is 2 = .ok (.invokevirtual 32, 3) := by decide +kernel
theorem dL_is_5 : decode cL_is 5 = .ok (.lload_n 2, 1) := by decide +kernel
theorem dL_is_6 : decode cL_is 6 = .ok (.invokestatic 35, 3) := by decide +kernel
theorem dL_is_9 : decode cL_is 9 = .ok (.if_icmp .ne 22, 3) := by decide +kernel
theorem dL_is_12 : decode cL_is 12 = .ok (.aload_n 0, 1) := by decide +kernel
theorem dL_is_13 : decode cL_is 13 = .ok (.iload_n 1, 1) := by decide +kernel
theorem dL_is_14 : decode cL_is 14 = .ok (.bipush 64, 2) := by decide +kernel
theorem dL_is_16 : decode cL_is 16 = .ok (.invokevirtual 41, 3) := by decide +kernel
theorem dL_is_19 : decode cL_is 19 = .ok (.ifCond .ne 12, 3) := by decide +kernel
theorem dL_is_22 : decode cL_is 22 = .ok (.aload_n 0, 1) := by decide +kernel
theorem dL_is_23 : decode cL_is 23 = .ok (.iload_n 1, 1) := by decide +kernel
theorem dL_is_24 : decode cL_is 24 = .ok (.iconst (-1), 1) := by decide +kernel
theorem dL_is_25 : decode cL_is 25 = .ok (.invokevirtual 41, 3) := by decide +kernel
theorem dL_is_28 : decode cL_is 28 = .ok (.ifCond .eq 5, 3) := by decide +kernel
theorem dL_is_31 : decode cL_is 31 = .ok (.iconst 0, 1) := by decide +kernel
theorem dL_is_32 : decode cL_is 32 = .ok (.ireturn, 1) := by decide +kernel
theorem dL_is_33 : decode cL_is 33 = .ok (.iconst 0, 1) := by decide +kernel
theorem dL_is_34 : decode cL_is 34 = .ok (.istore 4, 2) := by decide +kernel
theorem dL_is_36 : decode cL_is 36 = .ok (.iload 4, 2) := by decide +kernel
theorem dL_is_38 : decode cL_is 38 = .ok (.bipush 64, 2) := by decide +kernel
theorem dL_is_40 : decode cL_is 40 = .ok (.if_icmp .ge 27, 3) := by decide +kernel
theorem dL_is_43 : decode cL_is 43 = .ok (.aload_n 0, 1) := by decide +kernel
theorem dL_is_44 : decode cL_is 44 = .ok (.iload_n 1, 1) := by decide +kernel
theorem dL_is_45 : decode cL_is 45 = .ok (.iload 4, 2) := by decide +kernel
theorem dL_is_47 : decode cL_is 47 = .ok (.invokevirtual 41, 3) := by decide +kernel
theorem dL_is_50 : decode cL_is 50 = .ok (.lload_n 2, 1) := by decide +kernel
theorem dL_is_51 : decode cL_is 51 = .ok (.iload 4, 2) := by decide +kernel
theorem dL_is_53 : decode cL_is 53 = .ok (.invokestatic 21, 3) := by decide +kernel
theorem dL_is_56 : decode cL_is 56 = .ok (.if_icmp .eq 5, 3) := by decide +kernel
theorem dL_is_59 : decode cL_is 59 = .ok (.iconst 0, 1) := by decide +kernel
theorem dL_is_60 : decode cL_is 60 = .ok (.ireturn, 1) := by decide +kernel
theorem dL_is_61 : decode cL_is 61 = .ok (.iinc 4 1, 3) := by decide +kernel
theorem dL_is_64 : decode cL_is 64 = .ok (.goto (-28), 3) := by decide +kernel
theorem dL_is_67 : decode cL_is 67 = .ok (.iconst 1, 1) := by decide +kernel
theorem dL_is_68 : decode cL_is 68 = .ok (.ireturn, 1) := by decide +kernel
theorem dL_join_0 : decode cL_join 0 = .ok (.lconst 0, 1) := by decide +kernel
theorem dL_join_1 : decode cL_join 1 = .ok (.lstore 4, 2) := by decide +kernel
theorem dL_join_3 : decode cL_join 3 = .ok (.iconst 0, 1) := by decide +kernel
theorem dL_join_4 : decode cL_join 4 = .ok (.istore 6, 2) := by decide +kernel
theorem dL_join_6 : decode cL_join 6 = .ok (.iload 6, 2) := by decide +kernel
theorem dL_join_8 : decode cL_join 8 = .ok (.bipush 64, 2) := by decide +kernel
theorem dL_join_10 : decode cL_join 10 = .ok (.if_icmp .ge 55, 3) := by decide +kernel
theorem dL_join_13 : decode cL_join 13 = .ok (.iconst 0, 1) := by decide +kernel
theorem dL_join_14 : decode cL_join 14 = .ok (.istore 7, 2) := by decide +kernel
theorem dL_join_16 : decode cL_join 16 = .ok (.iload 7, 2) := by decide +kernel
theorem dL_join_18 : decode cL_join 18 = .ok (.bipush 64, 2) := by decide +kernel
theorem dL_join_20 : decode cL_join 20 = .ok (.if_icmp .ge 39, 3) := by decide +kernel
theorem dL_join_23 : decode cL_join 23 = .ok (.lload_n 0, 1) := by decide +kernel
theorem dL_join_24 : decode cL_join 24 = .ok (.iload 6, 2) := by decide +kernel
theorem dL_join_26 : decode cL_join 26 = .ok (.invokestatic 21, 3) := by decide +kernel
theorem dL_join_29 : decode cL_join 29 = .ok (.ifCond .eq 24, 3) := by decide +kernel
theorem dL_join_32 : decode cL_join 32 = .ok (.lload_n 2, 1) := by decide +kernel
theorem dL_join_33 : decode cL_join 33 = .ok (.iload 7, 2) := by decide +kernel
theorem dL_join_35 : decode cL_join 35 = .ok (.invokestatic 21, 3) := by decide +kernel
theorem dL_join_38 : decode cL_join 38 = .ok (.ifCond .eq 15, 3) := by decide +kernel
theorem dL_join_41 : decode cL_join 41 = .ok (.lload 4, 2) := by decide +kernel
theorem dL_join_43 : decode cL_join 43 = .ok (.lconst 1, 1) := by decide +kernel
theorem dL_join_44 : decode cL_join 44 = .ok (.iload 6, 2) := by decide +kernel
theorem dL_join_46 : decode cL_join 46 = .ok (.iload 7, 2) := by decide +kernel
theorem dL_join_48 : decode cL_join 48 = .ok (.ior, 1) := by decide +kernel
theorem dL_join_49 : decode cL_join 49 = .ok (.lshl, 1) := by decide +kernel
theorem dL_join_50 : decode cL_join 50 = .ok (.lor, 1) := by decide +kernel
theorem dL_join_51 : decode cL_join 51 = .ok (.lstore 4, 2) := by decide +kernel
theorem dL_join_53 : decode cL_join 53 = .ok (.iinc 7 1, 3) := by decide +kernel
theorem dL_join_56 : decode cL_join 56 = .ok (.goto (-40), 3) := by decide +kernel
theorem dL_join_59 : decode cL_join 59 = .ok (.iinc 6 1, 3) := by decide +kernel
theorem dL_join_62 : decode cL_join 62 = .ok (.goto (-56), 3) := by decide +kernel
theorem dL_join_65 : decode cL_join 65 = .ok (.lload 4, 2) := by decide +kernel
theorem dL_join_67 : decode cL_join 67 = .ok (.lreturn, 1) := by decide +kernel
theorem dL_quotient_0 : decode cL_quotient 0 = .ok (.lconst 0, 1) := by decide +kernel
theorem dL_quotient_1 : decode cL_quotient 1 = .ok (.lstore 4, 2) := by decide +kernel
theorem dL_quotient_3 : decode cL_quotient 3 = .ok (.iconst 0, 1) := by decide +kernel
theorem dL_quotient_4 : decode cL_quotient 4 = .ok (.istore 6, 2) := by decide +kernel
theorem dL_quotient_6 : decode cL_quotient 6 = .ok (.iload 6, 2) := by decide +kernel
theorem dL_quotient_8 : decode cL_quotient 8 = .ok (.bipush 64, 2) := by decide +kernel
theorem dL_quotient_10 : decode cL_quotient 10 = .ok (.if_icmp .ge 83, 3) := by decide +kernel
theorem dL_quotient_13 : decode cL_quotient 13 = .ok (.iconst 1, 1) := by decide +kernel
theorem dL_quotient_14 : decode cL_quotient 14 = .ok (.istore 7, 2) := by decide +kernel
theorem dL_quotient_16 : decode cL_quotient 16 = .ok (.iconst 0, 1) := by decide +kernel
theorem dL_quotient_17 : decode cL_quotient 17 = .ok (.istore 8, 2) := by decide +kernel
theorem dL_quotient_19 : decode cL_quotient 19 = .ok (.iload 8, 2) := by decide +kernel
theorem dL_quotient_21 : decode cL_quotient 21 = .ok (.bipush 64, 2) := by decide +kernel
theorem dL_quotient_23 : decode cL_quotient 23 = .ok (.if_icmp .ge 50, 3) := by decide +kernel
theorem dL_quotient_26 : decode cL_quotient 26 = .ok (.iload 7, 2) := by decide +kernel
theorem dL_quotient_28 : decode cL_quotient 28 = .ok (.ifCond .eq 36, 3) := by decide +kernel
theorem dL_quotient_31 : decode cL_quotient 31 = .ok (.lload_n 2, 1) := by decide +kernel
theorem dL_quotient_32 : decode cL_quotient 32 = .ok (.iload 8, 2) := by decide +kernel
theorem dL_quotient_34 : decode cL_quotient 34 = .ok (.invokestatic 21, 3) := by decide +kernel
theorem dL_quotient_37 : decode cL_quotient 37 = .ok (.ifCond .eq 23, 3) := by decide +kernel
theorem dL_quotient_40 : decode cL_quotient 40 = .ok (.iload 8, 2) := by decide +kernel
theorem dL_quotient_42 : decode cL_quotient 42 = .ok (.iload 6, 2) := by decide +kernel
theorem dL_quotient_44 : decode cL_quotient 44 = .ok (.iand, 1) := by decide +kernel
theorem dL_quotient_45 : decode cL_quotient 45 = .ok (.ifCond .ne 19, 3) := by decide +kernel
theorem dL_quotient_48 : decode cL_quotient 48 = .ok (.lload_n 0, 1) := by decide +kernel
theorem dL_quotient_49 : decode cL_quotient 49 = .ok (.iload 8, 2) := by decide +kernel
theorem dL_quotient_51 : decode cL_quotient 51 = .ok (.iload 6, 2) := by decide +kernel
theorem dL_quotient_53 : decode cL_quotient 53 = .ok (.ior, 1) := by decide +kernel
theorem dL_quotient_54 : decode cL_quotient 54 = .ok (.invokestatic 21, 3) := by decide +kernel
theorem dL_quotient_57 : decode cL_quotient 57 = .ok (.ifCond .eq 7, 3) := by decide +kernel
theorem dL_quotient_60 : decode cL_quotient 60 = .ok (.iconst 1, 1) := by decide +kernel
theorem dL_quotient_61 : decode cL_quotient 61 = .ok (.goto 4, 3) := by decide +kernel
theorem dL_quotient_64 : decode cL_quotient 64 = .ok (.iconst 0, 1) := by decide +kernel
theorem dL_quotient_65 : decode cL_quotient 65 = .ok (.istore 7, 2) := by decide +kernel
theorem dL_quotient_67 : decode cL_quotient 67 = .ok (.iinc 8 1, 3) := by decide +kernel
theorem dL_quotient_70 : decode cL_quotient 70 = .ok (.goto (-51), 3) := by decide +kernel
theorem dL_quotient_73 : decode cL_quotient 73 = .ok (.iload 7, 2) := by decide +kernel
theorem dL_quotient_75 : decode cL_quotient 75 = .ok (.ifCond .eq 12, 3) := by decide +kernel
theorem dL_quotient_78 : decode cL_quotient 78 = .ok (.lload 4, 2) := by decide +kernel
theorem dL_quotient_80 : decode cL_quotient 80 = .ok (.lconst 1, 1) := by decide +kernel
theorem dL_quotient_81 : decode cL_quotient 81 = .ok (.iload 6, 2) := by decide +kernel
theorem dL_quotient_83 : decode cL_quotient 83 = .ok (.lshl, 1) := by decide +kernel
theorem dL_quotient_84 : decode cL_quotient 84 = .ok (.lor, 1) := by decide +kernel
theorem dL_quotient_85 : decode cL_quotient 85 = .ok (.lstore 4, 2) := by decide +kernel
theorem dL_quotient_87 : decode cL_quotient 87 = .ok (.iinc 6 1, 3) := by decide +kernel
theorem dL_quotient_90 : decode cL_quotient 90 = .ok (.goto (-84), 3) := by decide +kernel
theorem dL_quotient_93 : decode cL_quotient 93 = .ok (.lload 4, 2) := by decide +kernel
theorem dL_quotient_95 : decode cL_quotient 95 = .ok (.lreturn, 1) := by decide +kernel
theorem dL_extreme_0 : decode cL_extreme 0 = .ok (.lconst 0, 1) := by decide +kernel
theorem dL_extreme_1 : decode cL_extreme 1 = .ok (.lstore_n 3, 1) := by decide +kernel
theorem dL_extreme_2 : decode cL_extreme 2 = .ok (.iconst 0, 1) := by decide +kernel
theorem dL_extreme_3 : decode cL_extreme 3 = .ok (.istore 5, 2) := by decide +kernel
theorem dL_extreme_5 : decode cL_extreme 5 = .ok (.iload 5, 2) := by decide +kernel
theorem dL_extreme_7 : decode cL_extreme 7 = .ok (.bipush 64, 2) := by decide +kernel
theorem dL_extreme_9 : decode cL_extreme 9 = .ok (.if_icmp .ge 100, 3) := by decide +kernel
theorem dL_extreme_12 : decode cL_extreme 12 = .ok (.lload_n 0, 1) := by decide +kernel
theorem dL_extreme_13 : decode cL_extreme 13 = .ok (.iload 5, 2) := by decide +kernel
theorem dL_extreme_15 : decode cL_extreme 15 = .ok (.invokestatic 21, 3) := by decide +kernel
theorem dL_extreme_18 : decode cL_extreme 18 = .ok (.istore 6, 2) := by decide +kernel
theorem dL_extreme_20 : decode cL_extreme 20 = .ok (.iconst 0, 1) := by decide +kernel
theorem dL_extreme_21 : decode cL_extreme 21 = .ok (.istore 7, 2) := by decide +kernel
theorem dL_extreme_23 : decode cL_extreme 23 = .ok (.iload 7, 2) := by decide +kernel
theorem dL_extreme_25 : decode cL_extreme 25 = .ok (.bipush 64, 2) := by decide +kernel
theorem dL_extreme_27 : decode cL_extreme 27 = .ok (.if_icmp .ge 64, 3) := by decide +kernel
theorem dL_extreme_30 : decode cL_extreme 30 = .ok (.iload 6, 2) := by decide +kernel
theorem dL_extreme_32 : decode cL_extreme 32 = .ok (.ifCond .eq 50, 3) := by decide +kernel
theorem dL_extreme_35 : decode cL_extreme 35 = .ok (.iload 5, 2) := by decide +kernel
theorem dL_extreme_37 : decode cL_extreme 37 = .ok (.iload 7, 2) := by decide +kernel
theorem dL_extreme_39 : decode cL_extreme 39 = .ok (.if_icmp .eq 39, 3) := by decide +kernel
theorem dL_extreme_42 : decode cL_extreme 42 = .ok (.lload_n 0, 1) := by decide +kernel
theorem dL_extreme_43 : decode cL_extreme 43 = .ok (.iload 7, 2) := by decide +kernel
theorem dL_extreme_45 : decode cL_extreme 45 = .ok (.invokestatic 21, 3) := by decide +kernel
theorem dL_extreme_48 : decode cL_extreme 48 = .ok (.ifCond .eq 30, 3) := by decide +kernel
theorem dL_extreme_51 : decode cL_extreme 51 = .ok (.iload_n 2, 1) := by decide +kernel
theorem dL_extreme_52 : decode cL_extreme 52 = .ok (.ifCond .eq 16, 3) := by decide +kernel
theorem dL_extreme_55 : decode cL_extreme 55 = .ok (.iload 7, 2) := by decide +kernel
theorem dL_extreme_57 : decode cL_extreme 57 = .ok (.iload 5, 2) := by decide +kernel
theorem dL_extreme_59 : decode cL_extreme 59 = .ok (.iconst (-1), 1) := by decide +kernel
theorem dL_extreme_60 : decode cL_extreme 60 = .ok (.ixor, 1) := by decide +kernel
theorem dL_extreme_61 : decode cL_extreme 61 = .ok (.iand, 1) := by decide +kernel
theorem dL_extreme_62 : decode cL_extreme 62 = .ok (.ifCond .eq 20, 3) := by decide +kernel
theorem dL_extreme_65 : decode cL_extreme 65 = .ok (.goto 13, 3) := by decide +kernel
theorem dL_extreme_68 : decode cL_extreme 68 = .ok (.iload 5, 2) := by decide +kernel
theorem dL_extreme_70 : decode cL_extreme 70 = .ok (.iload 7, 2) := by decide +kernel
theorem dL_extreme_72 : decode cL_extreme 72 = .ok (.iconst (-1), 1) := by decide +kernel
theorem dL_extreme_73 : decode cL_extreme 73 = .ok (.ixor, 1) := by decide +kernel
theorem dL_extreme_74 : decode cL_extreme 74 = .ok (.iand, 1) := by decide +kernel
theorem dL_extreme_75 : decode cL_extreme 75 = .ok (.ifCond .eq 7, 3) := by decide +kernel
theorem dL_extreme_78 : decode cL_extreme 78 = .ok (.iconst 1, 1) := by decide +kernel
theorem dL_extreme_79 : decode cL_extreme 79 = .ok (.goto 4, 3) := by decide +kernel
theorem dL_extreme_82 : decode cL_extreme 82 = .ok (.iconst 0, 1) := by decide +kernel
theorem dL_extreme_83 : decode cL_extreme 83 = .ok (.istore 6, 2) := by decide +kernel
theorem dL_extreme_85 : decode cL_extreme 85 = .ok (.iinc 7 1, 3) := by decide +kernel
theorem dL_extreme_88 : decode cL_extreme 88 = .ok (.goto (-65), 3) := by decide +kernel
theorem dL_extreme_91 : decode cL_extreme 91 = .ok (.iload 6, 2) := by decide +kernel
theorem dL_extreme_93 : decode cL_extreme 93 = .ok (.ifCond .eq 10, 3) := by decide +kernel
theorem dL_extreme_96 : decode cL_extreme 96 = .ok (.lload_n 3, 1) := by decide +kernel
theorem dL_extreme_97 : decode cL_extreme 97 = .ok (.lconst 1, 1) := by decide +kernel
theorem dL_extreme_98 : decode cL_extreme 98 = .ok (.iload 5, 2) := by decide +kernel
theorem dL_extreme_100 : decode cL_extreme 100 = .ok (.lshl, 1) := by decide +kernel
theorem dL_extreme_101 : decode cL_extreme 101 = .ok (.lor, 1) := by decide +kernel
theorem dL_extreme_102 : decode cL_extreme 102 = .ok (.lstore_n 3, 1) := by decide +kernel
theorem dL_extreme_103 : decode cL_extreme 103 = .ok (.iinc 5 1, 3) := by decide +kernel
theorem dL_extreme_106 : decode cL_extreme 106 = .ok (.goto (-101), 3) := by decide +kernel
theorem dL_extreme_109 : decode cL_extreme 109 = .ok (.lload_n 3, 1) := by decide +kernel
theorem dL_extreme_110 : decode cL_extreme 110 = .ok (.lreturn, 1) := by decide +kernel
theorem dL_hitting_0 : decode cL_hitting 0 = .ok (.lconst 0, 1) := by decide +kernel
theorem dL_hitting_1 : decode cL_hitting 1 = .ok (.lstore_n 2, 1) := by decide +kernel
theorem dL_hitting_2 : decode cL_hitting 2 = .ok (.iconst 0, 1) := by decide +kernel
theorem dL_hitting_3 : decode cL_hitting 3 = .ok (.istore 4, 2) := by decide +kernel
theorem dL_hitting_5 : decode cL_hitting 5 = .ok (.iload 4, 2) := by decide +kernel
theorem dL_hitting_7 : decode cL_hitting 7 = .ok (.bipush 64, 2) := by decide +kernel
theorem dL_hitting_9 : decode cL_hitting 9 = .ok (.if_icmp .ge 69, 3) := by decide +kernel
theorem dL_hitting_12 : decode cL_hitting 12 = .ok (.iconst 1, 1) := by decide +kernel
theorem dL_hitting_13 : decode cL_hitting 13 = .ok (.istore 5, 2) := by decide +kernel
theorem dL_hitting_15 : decode cL_hitting 15 = .ok (.iconst 0, 1) := by decide +kernel
theorem dL_hitting_16 : decode cL_hitting 16 = .ok (.istore 6, 2) := by decide +kernel
theorem dL_hitting_18 : decode cL_hitting 18 = .ok (.iload 6, 2) := by decide +kernel
theorem dL_hitting_20 : decode cL_hitting 20 = .ok (.bipush 64, 2) := by decide +kernel
theorem dL_hitting_22 : decode cL_hitting 22 = .ok (.if_icmp .ge 38, 3) := by decide +kernel
theorem dL_hitting_25 : decode cL_hitting 25 = .ok (.iload 5, 2) := by decide +kernel
theorem dL_hitting_27 : decode cL_hitting 27 = .ok (.ifCond .eq 24, 3) := by decide +kernel
theorem dL_hitting_30 : decode cL_hitting 30 = .ok (.lload_n 0, 1) := by decide +kernel
theorem dL_hitting_31 : decode cL_hitting 31 = .ok (.iload 6, 2) := by decide +kernel
theorem dL_hitting_33 : decode cL_hitting 33 = .ok (.invokestatic 21, 3) := by decide +kernel
theorem dL_hitting_36 : decode cL_hitting 36 = .ok (.ifCond .eq 11, 3) := by decide +kernel
theorem dL_hitting_39 : decode cL_hitting 39 = .ok (.iload 6, 2) := by decide +kernel
theorem dL_hitting_41 : decode cL_hitting 41 = .ok (.iload 4, 2) := by decide +kernel
theorem dL_hitting_43 : decode cL_hitting 43 = .ok (.iand, 1) := by decide +kernel
theorem dL_hitting_44 : decode cL_hitting 44 = .ok (.ifCond .eq 7, 3) := by decide +kernel
theorem dL_hitting_47 : decode cL_hitting 47 = .ok (.iconst 1, 1) := by decide +kernel
theorem dL_hitting_48 : decode cL_hitting 48 = .ok (.goto 4, 3) := by decide +kernel
theorem dL_hitting_51 : decode cL_hitting 51 = .ok (.iconst 0, 1) := by decide +kernel
theorem dL_hitting_52 : decode cL_hitting 52 = .ok (.istore 5, 2) := by decide +kernel
theorem dL_hitting_54 : decode cL_hitting 54 = .ok (.iinc 6 1, 3) := by decide +kernel
theorem dL_hitting_57 : decode cL_hitting 57 = .ok (.goto (-39), 3) := by decide +kernel
theorem dL_hitting_60 : decode cL_hitting 60 = .ok (.iload 5, 2) := by decide +kernel
theorem dL_hitting_62 : decode cL_hitting 62 = .ok (.ifCond .eq 10, 3) := by decide +kernel
theorem dL_hitting_65 : decode cL_hitting 65 = .ok (.lload_n 2, 1) := by decide +kernel
theorem dL_hitting_66 : decode cL_hitting 66 = .ok (.lconst 1, 1) := by decide +kernel
theorem dL_hitting_67 : decode cL_hitting 67 = .ok (.iload 4, 2) := by decide +kernel
theorem dL_hitting_69 : decode cL_hitting 69 = .ok (.lshl, 1) := by decide +kernel
theorem dL_hitting_70 : decode cL_hitting 70 = .ok (.lor, 1) := by decide +kernel
theorem dL_hitting_71 : decode cL_hitting 71 = .ok (.lstore_n 2, 1) := by decide +kernel
theorem dL_hitting_72 : decode cL_hitting 72 = .ok (.iinc 4 1, 3) := by decide +kernel
theorem dL_hitting_75 : decode cL_hitting 75 = .ok (.goto (-70), 3) := by decide +kernel
theorem dL_hitting_78 : decode cL_hitting 78 = .ok (.lload_n 2, 1) := by decide +kernel
theorem dL_hitting_79 : decode cL_hitting 79 = .ok (.iconst 1, 1) := by decide +kernel
theorem dL_hitting_80 : decode cL_hitting 80 = .ok (.invokestatic 45, 3) := by decide +kernel
theorem dL_hitting_83 : decode cL_hitting 83 = .ok (.lreturn, 1) := by decide +kernel
theorem dL_law_0 : decode cL_law 0 = .ok (.new 17, 3) := by decide +kernel
theorem dL_law_3 : decode cL_law 3 = .ok (.dup, 1) := by decide +kernel
theorem dL_law_4 : decode cL_law 4 = .ok (.invokespecial 49, 3) := by decide +kernel
theorem dL_law_7 : decode cL_law 7 = .ok (.astore_n 1, 1) := by decide +kernel
theorem dL_law_8 : decode cL_law 8 = .ok (.bipush 16, 2) := by decide +kernel
theorem dL_law_10 : decode cL_law 10 = .ok (.newarray .int, 2) := by decide +kernel
theorem dL_law_12 : decode cL_law 12 = .ok (.astore_n 2, 1) := by decide +kernel
theorem dL_law_13 : decode cL_law 13 = .ok (.bipush 16, 2) := by decide +kernel
theorem dL_law_15 : decode cL_law 15 = .ok (.newarray .long, 2) := by decide +kernel
theorem dL_law_17 : decode cL_law 17 = .ok (.astore_n 3, 1) := by decide +kernel
theorem dL_law_18 : decode cL_law 18 = .ok (.iconst 3, 1) := by decide +kernel
theorem dL_law_19 : decode cL_law 19 = .ok (.istore 4, 2) := by decide +kernel
theorem dL_law_21 : decode cL_law 21 = .ok (.iconst 0, 1) := by decide +kernel
theorem dL_law_22 : decode cL_law 22 = .ok (.istore 5, 2) := by decide +kernel
theorem dL_law_24 : decode cL_law 24 = .ok (.iload 5, 2) := by decide +kernel
theorem dL_law_26 : decode cL_law 26 = .ok (.iconst 3, 1) := by decide +kernel
theorem dL_law_27 : decode cL_law 27 = .ok (.if_icmp .ge 34, 3) := by decide +kernel
theorem dL_law_30 : decode cL_law 30 = .ok (.aload_n 3, 1) := by decide +kernel
theorem dL_law_31 : decode cL_law 31 = .ok (.iload 5, 2) := by decide +kernel
theorem dL_law_33 : decode cL_law 33 = .ok (.aload_n 0, 1) := by decide +kernel
theorem dL_law_34 : decode cL_law 34 = .ok (.iload 5, 2) := by decide +kernel
theorem dL_law_36 : decode cL_law 36 = .ok (.invokestatic 50, 3) := by decide +kernel
theorem dL_law_39 : decode cL_law 39 = .ok (.invokestatic 54, 3) := by decide +kernel
theorem dL_law_42 : decode cL_law 42 = .ok (.lastore, 1) := by decide +kernel
theorem dL_law_43 : decode cL_law 43 = .ok (.aload_n 2, 1) := by decide +kernel
theorem dL_law_44 : decode cL_law 44 = .ok (.iload 5, 2) := by decide +kernel
theorem dL_law_46 : decode cL_law 46 = .ok (.aload_n 1, 1) := by decide +kernel
theorem dL_law_47 : decode cL_law 47 = .ok (.aload_n 3, 1) := by decide +kernel
theorem dL_law_48 : decode cL_law 48 = .ok (.iload 5, 2) := by decide +kernel
theorem dL_law_50 : decode cL_law 50 = .ok (.laload, 1) := by decide +kernel
theorem dL_law_51 : decode cL_law 51 = .ok (.invokestatic 58, 3) := by decide +kernel
theorem dL_law_54 : decode cL_law 54 = .ok (.iastore, 1) := by decide +kernel
theorem dL_law_55 : decode cL_law 55 = .ok (.iinc 5 1, 3) := by decide +kernel
theorem dL_law_58 : decode cL_law 58 = .ok (.goto (-34), 3) := by decide +kernel
theorem dL_law_61 : decode cL_law 61 = .ok (.iconst 0, 1) := by decide +kernel
theorem dL_law_62 : decode cL_law 62 = .ok (.istore 5, 2) := by decide +kernel
theorem dL_law_64 : decode cL_law 64 = .ok (.iload 5, 2) := by decide +kernel
theorem dL_law_66 : decode cL_law 66 = .ok (.bipush 10, 2) := by decide +kernel
theorem dL_law_68 : decode cL_law 68 = .ok (.if_icmp .ge 589, 3) := by decide +kernel
theorem dL_law_71 : decode cL_law 71 = .ok (.aload_n 0, 1) := by decide +kernel
theorem dL_law_72 : decode cL_law 72 = .ok (.iconst 3, 1) := by decide +kernel
theorem dL_law_73 : decode cL_law 73 = .ok (.iload 5, 2) := by decide +kernel
theorem dL_law_75 : decode cL_law 75 = .ok (.iadd, 1) := by decide +kernel
theorem dL_law_76 : decode cL_law 76 = .ok (.invokestatic 50, 3) := by decide +kernel
theorem dL_law_79 : decode cL_law 79 = .ok (.istore 6, 2) := by decide +kernel
theorem dL_law_81 : decode cL_law 81 = .ok (.iload 6, 2) := by decide +kernel
theorem dL_law_83 : decode cL_law 83 = .ok (.iconst 4, 1) := by decide +kernel
theorem dL_law_84 : decode cL_law 84 = .ok (.ishr, 1) := by decide +kernel
theorem dL_law_85 : decode cL_law 85 = .ok (.iload 4, 2) := by decide +kernel
theorem dL_law_87 : decode cL_law 87 = .ok (.invokestatic 9, 3) := by decide +kernel
theorem dL_law_90 : decode cL_law 90 = .ok (.istore 7, 2) := by decide +kernel
theorem dL_law_92 : decode cL_law 92 = .ok (.iload 6, 2) := by decide +kernel
theorem dL_law_94 : decode cL_law 94 = .ok (.bipush 10, 2) := by decide +kernel
theorem dL_law_96 : decode cL_law 96 = .ok (.ishr, 1) := by decide +kernel
theorem dL_law_97 : decode cL_law 97 = .ok (.iload 4, 2) := by decide +kernel
theorem dL_law_99 : decode cL_law 99 = .ok (.invokestatic 9, 3) := by decide +kernel
theorem dL_law_102 : decode cL_law 102 = .ok (.istore 8, 2) := by decide +kernel
theorem dL_law_104 : decode cL_law 104 = .ok (.aload_n 2, 1) := by decide +kernel
theorem dL_law_105 : decode cL_law 105 = .ok (.iload 7, 2) := by decide +kernel
theorem dL_law_107 : decode cL_law 107 = .ok (.iaload, 1) := by decide +kernel
theorem dL_law_108 : decode cL_law 108 = .ok (.istore 9, 2) := by decide +kernel
theorem dL_law_110 : decode cL_law 110 = .ok (.aload_n 2, 1) := by decide +kernel
theorem dL_law_111 : decode cL_law 111 = .ok (.iload 8, 2) := by decide +kernel
theorem dL_law_113 : decode cL_law 113 = .ok (.iaload, 1) := by decide +kernel
theorem dL_law_114 : decode cL_law 114 = .ok (.istore 10, 2) := by decide +kernel
theorem dL_law_116 : decode cL_law 116 = .ok (.aload_n 3, 1) := by decide +kernel
theorem dL_law_117 : decode cL_law 117 = .ok (.iload 7, 2) := by decide +kernel
theorem dL_law_119 : decode cL_law 119 = .ok (.laload, 1) := by decide +kernel
theorem dL_law_120 : decode cL_law 120 = .ok (.lstore 11, 2) := by decide +kernel
theorem dL_law_122 : decode cL_law 122 = .ok (.aload_n 3, 1) := by decide +kernel
theorem dL_law_123 : decode cL_law 123 = .ok (.iload 8, 2) := by decide +kernel
theorem dL_law_125 : decode cL_law 125 = .ok (.laload, 1) := by decide +kernel
theorem dL_law_126 : decode cL_law 126 = .ok (.lstore 13, 2) := by decide +kernel
theorem dL_law_128 : decode cL_law 128 = .ok (.iload 6, 2) := by decide +kernel
theorem dL_law_130 : decode cL_law 130 = .ok (.bipush 10, 2) := by decide +kernel
theorem dL_law_132 : decode cL_law 132 = .ok (.invokestatic 9, 3) := by decide +kernel
theorem dL_law_135 : decode cL_law 135 = .ok (.istore 15, 2) := by decide +kernel
theorem dL_law_137 : decode cL_law 137 = .ok (.iload 15, 2) := by decide +kernel
theorem dL_law_139 : decode cL_law 139 = .ok (.iconst 4, 1) := by decide +kernel
theorem dL_law_140 : decode cL_law 140 = .ok (.if_icmp .ne 13, 3) := by decide +kernel
theorem dL_law_143 : decode cL_law 143 = .ok (.lload 13, 2) := by decide +kernel
theorem dL_law_145 : decode cL_law 145 = .ok (.lconst 0, 1) := by decide +kernel
theorem dL_law_146 : decode cL_law 146 = .ok (.lcmp, 1) := by decide +kernel
theorem dL_law_147 : decode cL_law 147 = .ok (.ifCond .ne 6, 3) := by decide +kernel
theorem dL_law_150 : decode cL_law 150 = .ok (.iconst 0, 1) := by decide +kernel
theorem dL_law_151 : decode cL_law 151 = .ok (.istore 15, 2) := by decide +kernel
theorem dL_law_153 : decode cL_law 153 = .ok (.iload 15, 2) := by decide +kernel
theorem dL_law_155 : decode cL_law 155 = .ok (.ifCond .ne 11, 3) := by decide +kernel
theorem dL_law_158 : decode cL_law 158 = .ok (.lload 11, 2) := by decide +kernel
theorem dL_law_160 : decode cL_law 160 = .ok (.lload 13, 2) := by decide +kernel
theorem dL_law_162 : decode cL_law 162 = .ok (.lor, 1) := by decide +kernel
theorem dL_law_163 : decode cL_law 163 = .ok (.goto 68, 3) := by decide +kernel
theorem dL_law_166 : decode cL_law 166 = .ok (.iload 15, 2) := by decide +kernel
theorem dL_law_168 : decode cL_law 168 = .ok (.iconst 1, 1) := by decide +kernel
theorem dL_law_169 : decode cL_law 169 = .ok (.if_icmp .ne 15, 3) := by decide +kernel
theorem dL_law_172 : decode cL_law 172 = .ok (.lload 11, 2) := by decide +kernel
theorem dL_law_174 : decode cL_law 174 = .ok (.lload 13, 2) := by decide +kernel
theorem dL_law_176 : decode cL_law 176 = .ok (.ldc2_w 62, 3) := by decide +kernel
theorem dL_law_179 : decode cL_law 179 = .ok (.lxor, 1) := by decide +kernel
theorem dL_law_180 : decode cL_law 180 = .ok (.land, 1) := by decide +kernel
theorem dL_law_181 : decode cL_law 181 = .ok (.goto 50, 3) := by decide +kernel
theorem dL_law_184 : decode cL_law 184 = .ok (.iload 15, 2) := by decide +kernel
theorem dL_law_186 : decode cL_law 186 = .ok (.iconst 2, 1) := by decide +kernel
theorem dL_law_187 : decode cL_law 187 = .ok (.if_icmp .ne 11, 3) := by decide +kernel
theorem dL_law_190 : decode cL_law 190 = .ok (.lload 11, 2) := by decide +kernel
theorem dL_law_192 : decode cL_law 192 = .ok (.lload 13, 2) := by decide +kernel
theorem dL_law_194 : decode cL_law 194 = .ok (.land, 1) := by decide +kernel
theorem dL_law_195 : decode cL_law 195 = .ok (.goto 36, 3) := by decide +kernel
theorem dL_law_198 : decode cL_law 198 = .ok (.iload 15, 2) := by decide +kernel
theorem dL_law_200 : decode cL_law 200 = .ok (.iconst 3, 1) := by decide +kernel
theorem dL_law_201 : decode cL_law 201 = .ok (.if_icmp .ne 13, 3) := by decide +kernel
theorem dL_law_204 : decode cL_law 204 = .ok (.lload 11, 2) := by decide +kernel
theorem dL_law_206 : decode cL_law 206 = .ok (.lload 13, 2) := by decide +kernel
theorem dL_law_208 : decode cL_law 208 = .ok (.invokestatic 64, 3) := by decide +kernel
theorem dL_law_211 : decode cL_law 211 = .ok (.goto 20, 3) := by decide +kernel
theorem dL_law_214 : decode cL_law 214 = .ok (.iload 15, 2) := by decide +kernel
theorem dL_law_216 : decode cL_law 216 = .ok (.iconst 4, 1) := by decide +kernel
theorem dL_law_217 : decode cL_law 217 = .ok (.if_icmp .ne 13, 3) := by decide +kernel
theorem dL_law_220 : decode cL_law 220 = .ok (.lload 11, 2) := by decide +kernel
theorem dL_law_222 : decode cL_law 222 = .ok (.lload 13, 2) := by decide +kernel
theorem dL_law_224 : decode cL_law 224 = .ok (.invokestatic 68, 3) := by decide +kernel
theorem dL_law_227 : decode cL_law 227 = .ok (.goto 4, 3) := by decide +kernel
theorem dL_law_230 : decode cL_law 230 = .ok (.lconst 0, 1) := by decide +kernel
theorem dL_law_231 : decode cL_law 231 = .ok (.lstore 16, 2) := by decide +kernel
theorem dL_law_233 : decode cL_law 233 = .ok (.iload 15, 2) := by decide +kernel
theorem dL_law_235 : decode cL_law 235 = .ok (.iconst 5, 1) := by decide +kernel
theorem dL_law_236 : decode cL_law 236 = .ok (.if_icmp .ne 28, 3) := by decide +kernel
theorem dL_law_239 : decode cL_law 239 = .ok (.lload 11, 2) := by decide +kernel
theorem dL_law_241 : decode cL_law 241 = .ok (.lload 13, 2) := by decide +kernel
theorem dL_law_243 : decode cL_law 243 = .ok (.lconst 1, 1) := by decide +kernel
theorem dL_law_244 : decode cL_law 244 = .ok (.lor, 1) := by decide +kernel
theorem dL_law_245 : decode cL_law 245 = .ok (.lload 11, 2) := by decide +kernel
theorem dL_law_247 : decode cL_law 247 = .ok (.lload 13, 2) := by decide +kernel
theorem dL_law_249 : decode cL_law 249 = .ok (.lconst 1, 1) := by decide +kernel
theorem dL_law_250 : decode cL_law 250 = .ok (.lor, 1) := by decide +kernel
theorem dL_law_251 : decode cL_law 251 = .ok (.invokestatic 68, 3) := by decide +kernel
theorem dL_law_254 : decode cL_law 254 = .ok (.invokestatic 64, 3) := by decide +kernel
theorem dL_law_257 : decode cL_law 257 = .ok (.ldc2_w 62, 3) := by decide +kernel
theorem dL_law_260 : decode cL_law 260 = .ok (.lxor, 1) := by decide +kernel
theorem dL_law_261 : decode cL_law 261 = .ok (.land, 1) := by decide +kernel
theorem dL_law_262 : decode cL_law 262 = .ok (.lstore 16, 2) := by decide +kernel
theorem dL_law_264 : decode cL_law 264 = .ok (.iload 15, 2) := by decide +kernel
theorem dL_law_266 : decode cL_law 266 = .ok (.bipush 6, 2) := by decide +kernel
theorem dL_law_268 : decode cL_law 268 = .ok (.if_icmp .eq 10, 3) := by decide +kernel
theorem dL_law_271 : decode cL_law 271 = .ok (.iload 15, 2) := by decide +kernel
theorem dL_law_273 : decode cL_law 273 = .ok (.bipush 7, 2) := by decide +kernel
theorem dL_law_275 : decode cL_law 275 = .ok (.if_icmp .ne 22, 3) := by decide +kernel
theorem dL_law_278 : decode cL_law 278 = .ok (.lload 11, 2) := by decide +kernel
theorem dL_law_280 : decode cL_law 280 = .ok (.iload 15, 2) := by decide +kernel
theorem dL_law_282 : decode cL_law 282 = .ok (.bipush 6, 2) := by decide +kernel
theorem dL_law_284 : decode cL_law 284 = .ok (.if_icmp .ne 7, 3) := by decide +kernel
theorem dL_law_287 : decode cL_law 287 = .ok (.iconst 1, 1) := by decide +kernel
theorem dL_law_288 : decode cL_law 288 = .ok (.goto 4, 3) := by decide +kernel
theorem dL_law_291 : decode cL_law 291 = .ok (.iconst 0, 1) := by decide +kernel
theorem dL_law_292 : decode cL_law 292 = .ok (.invokestatic 45, 3) := by decide +kernel
theorem dL_law_295 : decode cL_law 295 = .ok (.lstore 16, 2) := by decide +kernel
theorem dL_law_297 : decode cL_law 297 = .ok (.iload 15, 2) := by decide +kernel
theorem dL_law_299 : decode cL_law 299 = .ok (.bipush 7, 2) := by decide +kernel
theorem dL_law_301 : decode cL_law 301 = .ok (.if_icmp .le 26, 3) := by decide +kernel
theorem dL_law_304 : decode cL_law 304 = .ok (.iload 15, 2) := by decide +kernel
theorem dL_law_306 : decode cL_law 306 = .ok (.bipush 8, 2) := by decide +kernel
theorem dL_law_308 : decode cL_law 308 = .ok (.if_icmp .ne 8, 3) := by decide +kernel
theorem dL_law_311 : decode cL_law 311 = .ok (.lload 11, 2) := by decide +kernel
theorem dL_law_313 : decode cL_law 313 = .ok (.goto 9, 3) := by decide +kernel
theorem dL_law_316 : decode cL_law 316 = .ok (.lload 11, 2) := by decide +kernel
theorem dL_law_318 : decode cL_law 318 = .ok (.ldc2_w 71, 3) := by decide +kernel
theorem dL_law_321 : decode cL_law 321 = .ok (.land, 1) := by decide +kernel
theorem dL_law_322 : decode cL_law 322 = .ok (.invokestatic 73, 3) := by decide +kernel
theorem dL_law_325 : decode cL_law 325 = .ok (.lstore 16, 2) := by decide +kernel
