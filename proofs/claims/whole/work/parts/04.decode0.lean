theorem dX0_init_0 : decode cX0_init 0 = .ok (.aload_n 0, 1) := by decide +kernel
theorem dX0_init_1 : decode cX0_init 1 = .ok (.invokespecial 3, 3) := by decide +kernel
theorem dX0_init_4 : decode cX0_init 4 = .ok (.aload_n 0, 1) := by decide +kernel
theorem dX0_init_5 : decode cX0_init 5 = .ok (.bipush 64, 2) := by decide +kernel
theorem dX0_init_7 : decode cX0_init 7 = .ok (.newarray .long, 2) := by decide +kernel
theorem dX0_init_9 : decode cX0_init 9 = .ok (.putfield 9, 3) := by decide +kernel
theorem dX0_init_12 : decode cX0_init 12 = .ok (.aload_n 0, 1) := by decide +kernel
theorem dX0_init_13 : decode cX0_init 13 = .ok (.bipush 64, 2) := by decide +kernel
theorem dX0_init_15 : decode cX0_init 15 = .ok (.newarray .long, 2) := by decide +kernel
theorem dX0_init_17 : decode cX0_init 17 = .ok (.putfield 15, 3) := by decide +kernel
theorem dX0_init_20 : decode cX0_init 20 = .ok (.aload_n 0, 1) := by decide +kernel
theorem dX0_init_21 : decode cX0_init 21 = .ok (.aload_n 1, 1) := by decide +kernel
theorem dX0_init_22 : decode cX0_init 22 = .ok (.putfield 18, 3) := by decide +kernel
theorem dX0_init_25 : decode cX0_init 25 = .ok (.aload_n 0, 1) := by decide +kernel
theorem dX0_init_26 : decode cX0_init 26 = .ok (.aload_n 2, 1) := by decide +kernel
theorem dX0_init_27 : decode cX0_init 27 = .ok (.putfield 22, 3) := by decide +kernel
theorem dX0_init_30 : decode cX0_init 30 = .ok (.return_, 1) := by decide +kernel
theorem dX0_applyToOne_0 : decode cX0_applyToOne 0 = .ok (.iload_n 1, 1) := by decide +kernel
theorem dX0_applyToOne_1 : decode cX0_applyToOne 1 = .ok (.tableswitch 62 4 7 #[31, 39, 47, 55], 31) := by decide +kernel
theorem dX0_applyToOne_32 : decode cX0_applyToOne 32 = .ok (.aload_n 0, 1) := by decide +kernel
theorem dX0_applyToOne_33 : decode cX0_applyToOne 33 = .ok (.aload_n 2, 1) := by decide +kernel
theorem dX0_applyToOne_34 : decode cX0_applyToOne 34 = .ok (.invokevirtual 25, 3) := by decide +kernel
theorem dX0_applyToOne_37 : decode cX0_applyToOne 37 = .ok (.goto 26, 3) := by decide +kernel
theorem dX0_applyToOne_40 : decode cX0_applyToOne 40 = .ok (.aload_n 0, 1) := by decide +kernel
theorem dX0_applyToOne_41 : decode cX0_applyToOne 41 = .ok (.aload_n 2, 1) := by decide +kernel
theorem dX0_applyToOne_42 : decode cX0_applyToOne 42 = .ok (.invokevirtual 29, 3) := by decide +kernel
theorem dX0_applyToOne_45 : decode cX0_applyToOne 45 = .ok (.goto 18, 3) := by decide +kernel
theorem dX0_applyToOne_48 : decode cX0_applyToOne 48 = .ok (.aload_n 0, 1) := by decide +kernel
theorem dX0_applyToOne_49 : decode cX0_applyToOne 49 = .ok (.aload_n 2, 1) := by decide +kernel
theorem dX0_applyToOne_50 : decode cX0_applyToOne 50 = .ok (.invokevirtual 32, 3) := by decide +kernel
theorem dX0_applyToOne_53 : decode cX0_applyToOne 53 = .ok (.goto 10, 3) := by decide +kernel
theorem dX0_applyToOne_56 : decode cX0_applyToOne 56 = .ok (.aload_n 2, 1) := by decide +kernel
theorem dX0_applyToOne_57 : decode cX0_applyToOne 57 = .ok (.invokestatic 35, 3) := by decide +kernel
theorem dX0_applyToOne_60 : decode cX0_applyToOne 60 = .ok (.goto 3, 3) := by decide +kernel
theorem dX0_applyToOne_63 : decode cX0_applyToOne 63 = .ok (.return_, 1) := by decide +kernel
theorem dX0_applyToTwo_0 : decode cX0_applyToTwo 0 = .ok (.iload_n 1, 1) := by decide +kernel
theorem dX0_applyToTwo_1 : decode cX0_applyToTwo 1 = .ok (.lookupswitch 215 #[(1, 117), (2, 163), (3, 189), (37, 145), (38, 91), (42, 107), (43, 83), (45, 99), (47, 127)], 83) := by decide +kernel
theorem dX0_applyToTwo_84 : decode cX0_applyToTwo 84 = .ok (.aload_n 2, 1) := by decide +kernel
theorem dX0_applyToTwo_85 : decode cX0_applyToTwo 85 = .ok (.aload_n 3, 1) := by decide +kernel
theorem dX0_applyToTwo_86 : decode cX0_applyToTwo 86 = .ok (.invokestatic 40, 3) := by decide +kernel
theorem dX0_applyToTwo_89 : decode cX0_applyToTwo 89 = .ok (.goto 127, 3) := by decide +kernel
theorem dX0_applyToTwo_92 : decode cX0_applyToTwo 92 = .ok (.aload_n 2, 1) := by decide +kernel
theorem dX0_applyToTwo_93 : decode cX0_applyToTwo 93 = .ok (.aload_n 3, 1) := by decide +kernel
theorem dX0_applyToTwo_94 : decode cX0_applyToTwo 94 = .ok (.invokestatic 44, 3) := by decide +kernel
theorem dX0_applyToTwo_97 : decode cX0_applyToTwo 97 = .ok (.goto 119, 3) := by decide +kernel
theorem dX0_applyToTwo_100 : decode cX0_applyToTwo 100 = .ok (.aload_n 2, 1) := by decide +kernel
theorem dX0_applyToTwo_101 : decode cX0_applyToTwo 101 = .ok (.aload_n 3, 1) := by decide +kernel
theorem dX0_applyToTwo_102 : decode cX0_applyToTwo 102 = .ok (.invokestatic 47, 3) := by decide +kernel
theorem dX0_applyToTwo_105 : decode cX0_applyToTwo 105 = .ok (.goto 111, 3) := by decide +kernel
theorem dX0_applyToTwo_108 : decode cX0_applyToTwo 108 = .ok (.aload_n 0, 1) := by decide +kernel
theorem dX0_applyToTwo_109 : decode cX0_applyToTwo 109 = .ok (.aload_n 2, 1) := by decide +kernel
theorem dX0_applyToTwo_110 : decode cX0_applyToTwo 110 = .ok (.aload_n 3, 1) := by decide +kernel
theorem dX0_applyToTwo_111 : decode cX0_applyToTwo 111 = .ok (.iconst 0, 1) := by decide +kernel
theorem dX0_applyToTwo_112 : decode cX0_applyToTwo 112 = .ok (.invokevirtual 50, 3) := by decide +kernel
theorem dX0_applyToTwo_115 : decode cX0_applyToTwo 115 = .ok (.goto 101, 3) := by decide +kernel
theorem dX0_applyToTwo_118 : decode cX0_applyToTwo 118 = .ok (.aload_n 0, 1) := by decide +kernel
theorem dX0_applyToTwo_119 : decode cX0_applyToTwo 119 = .ok (.aload_n 2, 1) := by decide +kernel
theorem dX0_applyToTwo_120 : decode cX0_applyToTwo 120 = .ok (.aload_n 3, 1) := by decide +kernel
theorem dX0_applyToTwo_121 : decode cX0_applyToTwo 121 = .ok (.iconst 1, 1) := by decide +kernel
theorem dX0_applyToTwo_122 : decode cX0_applyToTwo 122 = .ok (.invokevirtual 50, 3) := by decide +kernel
theorem dX0_applyToTwo_125 : decode cX0_applyToTwo 125 = .ok (.goto 91, 3) := by decide +kernel
theorem dX0_applyToTwo_128 : decode cX0_applyToTwo 128 = .ok (.aload_n 0, 1) := by decide +kernel
theorem dX0_applyToTwo_129 : decode cX0_applyToTwo 129 = .ok (.aload_n 2, 1) := by decide +kernel
theorem dX0_applyToTwo_130 : decode cX0_applyToTwo 130 = .ok (.aload_n 3, 1) := by decide +kernel
theorem dX0_applyToTwo_131 : decode cX0_applyToTwo 131 = .ok (.invokevirtual 54, 3) := by decide +kernel
theorem dX0_applyToTwo_134 : decode cX0_applyToTwo 134 = .ok (.pop, 1) := by decide +kernel
theorem dX0_applyToTwo_135 : decode cX0_applyToTwo 135 = .ok (.aload_n 0, 1) := by decide +kernel
theorem dX0_applyToTwo_136 : decode cX0_applyToTwo 136 = .ok (.getfield 9, 3) := by decide +kernel
theorem dX0_applyToTwo_139 : decode cX0_applyToTwo 139 = .ok (.aload_n 2, 1) := by decide +kernel
theorem dX0_applyToTwo_140 : decode cX0_applyToTwo 140 = .ok (.invokestatic 58, 3) := by decide +kernel
theorem dX0_applyToTwo_143 : decode cX0_applyToTwo 143 = .ok (.goto 73, 3) := by decide +kernel
theorem dX0_applyToTwo_146 : decode cX0_applyToTwo 146 = .ok (.aload_n 0, 1) := by decide +kernel
theorem dX0_applyToTwo_147 : decode cX0_applyToTwo 147 = .ok (.aload_n 2, 1) := by decide +kernel
theorem dX0_applyToTwo_148 : decode cX0_applyToTwo 148 = .ok (.aload_n 3, 1) := by decide +kernel
theorem dX0_applyToTwo_149 : decode cX0_applyToTwo 149 = .ok (.invokevirtual 54, 3) := by decide +kernel
theorem dX0_applyToTwo_152 : decode cX0_applyToTwo 152 = .ok (.istore 4, 2) := by decide +kernel
theorem dX0_applyToTwo_154 : decode cX0_applyToTwo 154 = .ok (.aload_n 0, 1) := by decide +kernel
theorem dX0_applyToTwo_155 : decode cX0_applyToTwo 155 = .ok (.aload_n 2, 1) := by decide +kernel
theorem dX0_applyToTwo_156 : decode cX0_applyToTwo 156 = .ok (.iload 4, 2) := by decide +kernel
theorem dX0_applyToTwo_158 : decode cX0_applyToTwo 158 = .ok (.invokevirtual 61, 3) := by decide +kernel
theorem dX0_applyToTwo_161 : decode cX0_applyToTwo 161 = .ok (.goto 55, 3) := by decide +kernel
theorem dX0_applyToTwo_164 : decode cX0_applyToTwo 164 = .ok (.aload_n 3, 1) := by decide +kernel
theorem dX0_applyToTwo_165 : decode cX0_applyToTwo 165 = .ok (.aload_n 0, 1) := by decide +kernel
theorem dX0_applyToTwo_166 : decode cX0_applyToTwo 166 = .ok (.getfield 9, 3) := by decide +kernel
theorem dX0_applyToTwo_169 : decode cX0_applyToTwo 169 = .ok (.invokestatic 58, 3) := by decide +kernel
theorem dX0_applyToTwo_172 : decode cX0_applyToTwo 172 = .ok (.aload_n 0, 1) := by decide +kernel
theorem dX0_applyToTwo_173 : decode cX0_applyToTwo 173 = .ok (.getfield 9, 3) := by decide +kernel
theorem dX0_applyToTwo_176 : decode cX0_applyToTwo 176 = .ok (.invokestatic 65, 3) := by decide +kernel
theorem dX0_applyToTwo_179 : decode cX0_applyToTwo 179 = .ok (.aload_n 2, 1) := by decide +kernel
theorem dX0_applyToTwo_180 : decode cX0_applyToTwo 180 = .ok (.aload_n 0, 1) := by decide +kernel
theorem dX0_applyToTwo_181 : decode cX0_applyToTwo 181 = .ok (.getfield 9, 3) := by decide +kernel
theorem dX0_applyToTwo_184 : decode cX0_applyToTwo 184 = .ok (.invokestatic 44, 3) := by decide +kernel
theorem dX0_applyToTwo_187 : decode cX0_applyToTwo 187 = .ok (.goto 29, 3) := by decide +kernel
theorem dX0_applyToTwo_190 : decode cX0_applyToTwo 190 = .ok (.aload_n 3, 1) := by decide +kernel
theorem dX0_applyToTwo_191 : decode cX0_applyToTwo 191 = .ok (.aload_n 0, 1) := by decide +kernel
theorem dX0_applyToTwo_192 : decode cX0_applyToTwo 192 = .ok (.getfield 9, 3) := by decide +kernel
theorem dX0_applyToTwo_195 : decode cX0_applyToTwo 195 = .ok (.invokestatic 58, 3) := by decide +kernel
theorem dX0_applyToTwo_198 : decode cX0_applyToTwo 198 = .ok (.aload_n 0, 1) := by decide +kernel
theorem dX0_applyToTwo_199 : decode cX0_applyToTwo 199 = .ok (.getfield 9, 3) := by decide +kernel
theorem dX0_applyToTwo_202 : decode cX0_applyToTwo 202 = .ok (.invokestatic 35, 3) := by decide +kernel
theorem dX0_applyToTwo_205 : decode cX0_applyToTwo 205 = .ok (.aload_n 2, 1) := by decide +kernel
theorem dX0_applyToTwo_206 : decode cX0_applyToTwo 206 = .ok (.aload_n 0, 1) := by decide +kernel
theorem dX0_applyToTwo_207 : decode cX0_applyToTwo 207 = .ok (.getfield 9, 3) := by decide +kernel
theorem dX0_applyToTwo_210 : decode cX0_applyToTwo 210 = .ok (.invokestatic 44, 3) := by decide +kernel
theorem dX0_applyToTwo_213 : decode cX0_applyToTwo 213 = .ok (.goto 3, 3) := by decide +kernel
theorem dX0_applyToTwo_216 : decode cX0_applyToTwo 216 = .ok (.return_, 1) := by decide +kernel
theorem dX0_addAll_0 : decode cX0_addAll 0 = .ok (.iconst 0, 1) := by decide +kernel
theorem dX0_addAll_1 : decode cX0_addAll 1 = .ok (.istore_n 2, 1) := by decide +kernel
theorem dX0_addAll_2 : decode cX0_addAll 2 = .ok (.iload_n 2, 1) := by decide +kernel
theorem dX0_addAll_3 : decode cX0_addAll 3 = .ok (.bipush 64, 2) := by decide +kernel
theorem dX0_addAll_5 : decode cX0_addAll 5 = .ok (.if_icmp .ge 18, 3) := by decide +kernel
theorem dX0_addAll_8 : decode cX0_addAll 8 = .ok (.aload_n 0, 1) := by decide +kernel
theorem dX0_addAll_9 : decode cX0_addAll 9 = .ok (.iload_n 2, 1) := by decide +kernel
theorem dX0_addAll_10 : decode cX0_addAll 10 = .ok (.dup2, 1) := by decide +kernel
theorem dX0_addAll_11 : decode cX0_addAll 11 = .ok (.laload, 1) := by decide +kernel
theorem dX0_addAll_12 : decode cX0_addAll 12 = .ok (.aload_n 1, 1) := by decide +kernel
theorem dX0_addAll_13 : decode cX0_addAll 13 = .ok (.iload_n 2, 1) := by decide +kernel
theorem dX0_addAll_14 : decode cX0_addAll 14 = .ok (.laload, 1) := by decide +kernel
theorem dX0_addAll_15 : decode cX0_addAll 15 = .ok (.lor, 1) := by decide +kernel
theorem dX0_addAll_16 : decode cX0_addAll 16 = .ok (.lastore, 1) := by decide +kernel
theorem dX0_addAll_17 : decode cX0_addAll 17 = .ok (.iinc 2 1, 3) := by decide +kernel
theorem dX0_addAll_20 : decode cX0_addAll 20 = .ok (.goto (-18), 3) := by decide +kernel
theorem dX0_addAll_23 : decode cX0_addAll 23 = .ok (.return_, 1) := by decide +kernel
theorem dX0_keepAll_0 : decode cX0_keepAll 0 = .ok (.iconst 0, 1) := by decide +kernel
theorem dX0_keepAll_1 : decode cX0_keepAll 1 = .ok (.istore_n 2, 1) := by decide +kernel
theorem dX0_keepAll_2 : decode cX0_keepAll 2 = .ok (.iload_n 2, 1) := by decide +kernel
theorem dX0_keepAll_3 : decode cX0_keepAll 3 = .ok (.bipush 64, 2) := by decide +kernel
theorem dX0_keepAll_5 : decode cX0_keepAll 5 = .ok (.if_icmp .ge 18, 3) := by decide +kernel
theorem dX0_keepAll_8 : decode cX0_keepAll 8 = .ok (.aload_n 0, 1) := by decide +kernel
theorem dX0_keepAll_9 : decode cX0_keepAll 9 = .ok (.iload_n 2, 1) := by decide +kernel
theorem dX0_keepAll_10 : decode cX0_keepAll 10 = .ok (.dup2, 1) := by decide +kernel
theorem dX0_keepAll_11 : decode cX0_keepAll 11 = .ok (.laload, 1) := by decide +kernel
theorem dX0_keepAll_12 : decode cX0_keepAll 12 = .ok (.aload_n 1, 1) := by decide +kernel
theorem dX0_keepAll_13 : decode cX0_keepAll 13 = .ok (.iload_n 2, 1) := by decide +kernel
theorem dX0_keepAll_14 : decode cX0_keepAll 14 = .ok (.laload, 1) := by decide +kernel
theorem dX0_keepAll_15 : decode cX0_keepAll 15 = .ok (.land, 1) := by decide +kernel
theorem dX0_keepAll_16 : decode cX0_keepAll 16 = .ok (.lastore, 1) := by decide +kernel
theorem dX0_keepAll_17 : decode cX0_keepAll 17 = .ok (.iinc 2 1, 3) := by decide +kernel
theorem dX0_keepAll_20 : decode cX0_keepAll 20 = .ok (.goto (-18), 3) := by decide +kernel
theorem dX0_keepAll_23 : decode cX0_keepAll 23 = .ok (.return_, 1) := by decide +kernel
theorem dX0_removeAll_0 : decode cX0_removeAll 0 = .ok (.iconst 0, 1) := by decide +kernel
theorem dX0_removeAll_1 : decode cX0_removeAll 1 = .ok (.istore_n 2, 1) := by decide +kernel
theorem dX0_removeAll_2 : decode cX0_removeAll 2 = .ok (.iload_n 2, 1) := by decide +kernel
theorem dX0_removeAll_3 : decode cX0_removeAll 3 = .ok (.bipush 64, 2) := by decide +kernel
theorem dX0_removeAll_5 : decode cX0_removeAll 5 = .ok (.if_icmp .ge 22, 3) := by decide +kernel
theorem dX0_removeAll_8 : decode cX0_removeAll 8 = .ok (.aload_n 0, 1) := by decide +kernel
theorem dX0_removeAll_9 : decode cX0_removeAll 9 = .ok (.iload_n 2, 1) := by decide +kernel
theorem dX0_removeAll_10 : decode cX0_removeAll 10 = .ok (.dup2, 1) := by decide +kernel
theorem dX0_removeAll_11 : decode cX0_removeAll 11 = .ok (.laload, 1) := by decide +kernel
theorem dX0_removeAll_12 : decode cX0_removeAll 12 = .ok (.aload_n 1, 1) := by decide +kernel
theorem dX0_removeAll_13 : decode cX0_removeAll 13 = .ok (.iload_n 2, 1) := by decide +kernel
theorem dX0_removeAll_14 : decode cX0_removeAll 14 = .ok (.laload, 1) := by decide +kernel
theorem dX0_removeAll_15 : decode cX0_removeAll 15 = .ok (.ldc2_w 68, 3) := by decide +kernel
theorem dX0_removeAll_18 : decode cX0_removeAll 18 = .ok (.lxor, 1) := by decide +kernel
theorem dX0_removeAll_19 : decode cX0_removeAll 19 = .ok (.land, 1) := by decide +kernel
theorem dX0_removeAll_20 : decode cX0_removeAll 20 = .ok (.lastore, 1) := by decide +kernel
theorem dX0_removeAll_21 : decode cX0_removeAll 21 = .ok (.iinc 2 1, 3) := by decide +kernel
theorem dX0_removeAll_24 : decode cX0_removeAll 24 = .ok (.goto (-22), 3) := by decide +kernel
theorem dX0_removeAll_27 : decode cX0_removeAll 27 = .ok (.return_, 1) := by decide +kernel
theorem dX0_keepMaximal_0 : decode cX0_keepMaximal 0 = .ok (.aload_n 1, 1) := by decide +kernel
theorem dX0_keepMaximal_1 : decode cX0_keepMaximal 1 = .ok (.aload_n 0, 1) := by decide +kernel
theorem dX0_keepMaximal_2 : decode cX0_keepMaximal 2 = .ok (.getfield 9, 3) := by decide +kernel
theorem dX0_keepMaximal_5 : decode cX0_keepMaximal 5 = .ok (.invokestatic 58, 3) := by decide +kernel
theorem dX0_keepMaximal_8 : decode cX0_keepMaximal 8 = .ok (.aload_n 0, 1) := by decide +kernel
theorem dX0_keepMaximal_9 : decode cX0_keepMaximal 9 = .ok (.getfield 9, 3) := by decide +kernel
theorem dX0_keepMaximal_12 : decode cX0_keepMaximal 12 = .ok (.invokestatic 35, 3) := by decide +kernel
theorem dX0_keepMaximal_15 : decode cX0_keepMaximal 15 = .ok (.aload_n 0, 1) := by decide +kernel
theorem dX0_keepMaximal_16 : decode cX0_keepMaximal 16 = .ok (.getfield 15, 3) := by decide +kernel
theorem dX0_keepMaximal_19 : decode cX0_keepMaximal 19 = .ok (.lconst 0, 1) := by decide +kernel
theorem dX0_keepMaximal_20 : decode cX0_keepMaximal 20 = .ok (.invokestatic 70, 3) := by decide +kernel
theorem dX0_keepMaximal_23 : decode cX0_keepMaximal 23 = .ok (.iconst 0, 1) := by decide +kernel
theorem dX0_keepMaximal_24 : decode cX0_keepMaximal 24 = .ok (.istore_n 2, 1) := by decide +kernel
theorem dX0_keepMaximal_25 : decode cX0_keepMaximal 25 = .ok (.iload_n 2, 1) := by decide +kernel
theorem dX0_keepMaximal_26 : decode cX0_keepMaximal 26 = .ok (.bipush 12, 2) := by decide +kernel
theorem dX0_keepMaximal_28 : decode cX0_keepMaximal 28 = .ok (.if_icmp .ge 21, 3) := by decide +kernel
theorem dX0_keepMaximal_31 : decode cX0_keepMaximal 31 = .ok (.aload_n 0, 1) := by decide +kernel
theorem dX0_keepMaximal_32 : decode cX0_keepMaximal 32 = .ok (.getfield 9, 3) := by decide +kernel
theorem dX0_keepMaximal_35 : decode cX0_keepMaximal 35 = .ok (.aload_n 0, 1) := by decide +kernel
theorem dX0_keepMaximal_36 : decode cX0_keepMaximal 36 = .ok (.getfield 15, 3) := by decide +kernel
theorem dX0_keepMaximal_39 : decode cX0_keepMaximal 39 = .ok (.iload_n 2, 1) := by decide +kernel
theorem dX0_keepMaximal_40 : decode cX0_keepMaximal 40 = .ok (.invokestatic 76, 3) := by decide +kernel
theorem dX0_keepMaximal_43 : decode cX0_keepMaximal 43 = .ok (.iinc 2 1, 3) := by decide +kernel
theorem dX0_keepMaximal_46 : decode cX0_keepMaximal 46 = .ok (.goto (-21), 3) := by decide +kernel
theorem dX0_keepMaximal_49 : decode cX0_keepMaximal 49 = .ok (.aload_n 1, 1) := by decide +kernel
theorem dX0_keepMaximal_50 : decode cX0_keepMaximal 50 = .ok (.aload_n 0, 1) := by decide +kernel
theorem dX0_keepMaximal_51 : decode cX0_keepMaximal 51 = .ok (.getfield 15, 3) := by decide +kernel
theorem dX0_keepMaximal_54 : decode cX0_keepMaximal 54 = .ok (.invokestatic 47, 3) := by decide +kernel
theorem dX0_keepMaximal_57 : decode cX0_keepMaximal 57 = .ok (.return_, 1) := by decide +kernel
theorem dX0_keepMinimal_0 : decode cX0_keepMinimal 0 = .ok (.aload_n 1, 1) := by decide +kernel
theorem dX0_keepMinimal_1 : decode cX0_keepMinimal 1 = .ok (.aload_n 0, 1) := by decide +kernel
theorem dX0_keepMinimal_2 : decode cX0_keepMinimal 2 = .ok (.getfield 9, 3) := by decide +kernel
theorem dX0_keepMinimal_5 : decode cX0_keepMinimal 5 = .ok (.invokestatic 58, 3) := by decide +kernel
theorem dX0_keepMinimal_8 : decode cX0_keepMinimal 8 = .ok (.aload_n 0, 1) := by decide +kernel
theorem dX0_keepMinimal_9 : decode cX0_keepMinimal 9 = .ok (.getfield 9, 3) := by decide +kernel
theorem dX0_keepMinimal_12 : decode cX0_keepMinimal 12 = .ok (.invokestatic 65, 3) := by decide +kernel
theorem dX0_keepMinimal_15 : decode cX0_keepMinimal 15 = .ok (.aload_n 0, 1) := by decide +kernel
theorem dX0_keepMinimal_16 : decode cX0_keepMinimal 16 = .ok (.getfield 15, 3) := by decide +kernel
theorem dX0_keepMinimal_19 : decode cX0_keepMinimal 19 = .ok (.lconst 0, 1) := by decide +kernel
theorem dX0_keepMinimal_20 : decode cX0_keepMinimal 20 = .ok (.invokestatic 70, 3) := by decide +kernel
theorem dX0_keepMinimal_23 : decode cX0_keepMinimal 23 = .ok (.iconst 0, 1) := by decide +kernel
theorem dX0_keepMinimal_24 : decode cX0_keepMinimal 24 = .ok (.istore_n 2, 1) := by decide +kernel
theorem dX0_keepMinimal_25 : decode cX0_keepMinimal 25 = .ok (.iload_n 2, 1) := by decide +kernel
theorem dX0_keepMinimal_26 : decode cX0_keepMinimal 26 = .ok (.bipush 12, 2) := by decide +kernel
theorem dX0_keepMinimal_28 : decode cX0_keepMinimal 28 = .ok (.if_icmp .ge 21, 3) := by decide +kernel
theorem dX0_keepMinimal_31 : decode cX0_keepMinimal 31 = .ok (.aload_n 0, 1) := by decide +kernel
theorem dX0_keepMinimal_32 : decode cX0_keepMinimal 32 = .ok (.getfield 9, 3) := by decide +kernel
theorem dX0_keepMinimal_35 : decode cX0_keepMinimal 35 = .ok (.aload_n 0, 1) := by decide +kernel
theorem dX0_keepMinimal_36 : decode cX0_keepMinimal 36 = .ok (.getfield 15, 3) := by decide +kernel
theorem dX0_keepMinimal_39 : decode cX0_keepMinimal 39 = .ok (.iload_n 2, 1) := by decide +kernel
theorem dX0_keepMinimal_40 : decode cX0_keepMinimal 40 = .ok (.invokestatic 80, 3) := by decide +kernel
theorem dX0_keepMinimal_43 : decode cX0_keepMinimal 43 = .ok (.iinc 2 1, 3) := by decide +kernel
theorem dX0_keepMinimal_46 : decode cX0_keepMinimal 46 = .ok (.goto (-21), 3) := by decide +kernel
theorem dX0_keepMinimal_49 : decode cX0_keepMinimal 49 = .ok (.aload_n 1, 1) := by decide +kernel
theorem dX0_keepMinimal_50 : decode cX0_keepMinimal 50 = .ok (.aload_n 0, 1) := by decide +kernel
theorem dX0_keepMinimal_51 : decode cX0_keepMinimal 51 = .ok (.getfield 15, 3) := by decide +kernel
theorem dX0_keepMinimal_54 : decode cX0_keepMinimal 54 = .ok (.invokestatic 47, 3) := by decide +kernel
theorem dX0_keepMinimal_57 : decode cX0_keepMinimal 57 = .ok (.return_, 1) := by decide +kernel
theorem dX0_hit_0 : decode cX0_hit 0 = .ok (.aload_n 1, 1) := by decide +kernel
theorem dX0_hit_1 : decode cX0_hit 1 = .ok (.invokestatic 65, 3) := by decide +kernel
theorem dX0_hit_4 : decode cX0_hit 4 = .ok (.iconst 0, 1) := by decide +kernel
theorem dX0_hit_5 : decode cX0_hit 5 = .ok (.istore_n 2, 1) := by decide +kernel
theorem dX0_hit_6 : decode cX0_hit 6 = .ok (.iload_n 2, 1) := by decide +kernel
theorem dX0_hit_7 : decode cX0_hit 7 = .ok (.bipush 12, 2) := by decide +kernel
theorem dX0_hit_9 : decode cX0_hit 9 = .ok (.if_icmp .ge 14, 3) := by decide +kernel
theorem dX0_hit_12 : decode cX0_hit 12 = .ok (.aload_n 1, 1) := by decide +kernel
theorem dX0_hit_13 : decode cX0_hit 13 = .ok (.iload_n 2, 1) := by decide +kernel
theorem dX0_hit_14 : decode cX0_hit 14 = .ok (.invokestatic 83, 3) := by decide +kernel
theorem dX0_hit_17 : decode cX0_hit 17 = .ok (.iinc 2 1, 3) := by decide +kernel
theorem dX0_hit_20 : decode cX0_hit 20 = .ok (.goto (-14), 3) := by decide +kernel
theorem dX0_hit_23 : decode cX0_hit 23 = .ok (.iconst 0, 1) := by decide +kernel
theorem dX0_hit_24 : decode cX0_hit 24 = .ok (.istore_n 2, 1) := by decide +kernel
theorem dX0_hit_25 : decode cX0_hit 25 = .ok (.iload_n 2, 1) := by decide +kernel
theorem dX0_hit_26 : decode cX0_hit 26 = .ok (.bipush 64, 2) := by decide +kernel
theorem dX0_hit_28 : decode cX0_hit 28 = .ok (.if_icmp .ge 19, 3) := by decide +kernel
theorem dX0_hit_31 : decode cX0_hit 31 = .ok (.aload_n 1, 1) := by decide +kernel
theorem dX0_hit_32 : decode cX0_hit 32 = .ok (.iload_n 2, 1) := by decide +kernel
theorem dX0_hit_33 : decode cX0_hit 33 = .ok (.aload_n 1, 1) := by decide +kernel
theorem dX0_hit_34 : decode cX0_hit 34 = .ok (.iload_n 2, 1) := by decide +kernel
theorem dX0_hit_35 : decode cX0_hit 35 = .ok (.laload, 1) := by decide +kernel
theorem dX0_hit_36 : decode cX0_hit 36 = .ok (.ldc2_w 68, 3) := by decide +kernel
theorem dX0_hit_39 : decode cX0_hit 39 = .ok (.lxor, 1) := by decide +kernel
theorem dX0_hit_40 : decode cX0_hit 40 = .ok (.lastore, 1) := by decide +kernel
theorem dX0_hit_41 : decode cX0_hit 41 = .ok (.iinc 2 1, 3) := by decide +kernel
theorem dX0_hit_44 : decode cX0_hit 44 = .ok (.goto (-19), 3) := by decide +kernel
theorem dX0_hit_47 : decode cX0_hit 47 = .ok (.aload_n 0, 1) := by decide +kernel
theorem dX0_hit_48 : decode cX0_hit 48 = .ok (.aload_n 1, 1) := by decide +kernel
theorem dX0_hit_49 : decode cX0_hit 49 = .ok (.invokevirtual 29, 3) := by decide +kernel
theorem dX0_hit_52 : decode cX0_hit 52 = .ok (.return_, 1) := by decide +kernel
theorem dX0_pair_0 : decode cX0_pair 0 = .ok (.aload_n 1, 1) := by decide +kernel
theorem dX0_pair_1 : decode cX0_pair 1 = .ok (.aload_n 0, 1) := by decide +kernel
theorem dX0_pair_2 : decode cX0_pair 2 = .ok (.getfield 18, 3) := by decide +kernel
theorem dX0_pair_5 : decode cX0_pair 5 = .ok (.invokestatic 86, 3) := by decide +kernel
theorem dX0_pair_8 : decode cX0_pair 8 = .ok (.istore 4, 2) := by decide +kernel
theorem dX0_pair_10 : decode cX0_pair 10 = .ok (.aload_n 2, 1) := by decide +kernel
theorem dX0_pair_11 : decode cX0_pair 11 = .ok (.aload_n 0, 1) := by decide +kernel
theorem dX0_pair_12 : decode cX0_pair 12 = .ok (.getfield 22, 3) := by decide +kernel
theorem dX0_pair_15 : decode cX0_pair 15 = .ok (.invokestatic 86, 3) := by decide +kernel
theorem dX0_pair_18 : decode cX0_pair 18 = .ok (.istore 5, 2) := by decide +kernel
theorem dX0_pair_20 : decode cX0_pair 20 = .ok (.iload 4, 2) := by decide +kernel
theorem dX0_pair_22 : decode cX0_pair 22 = .ok (.iload 5, 2) := by decide +kernel
theorem dX0_pair_24 : decode cX0_pair 24 = .ok (.imul, 1) := by decide +kernel
theorem dX0_pair_25 : decode cX0_pair 25 = .ok (.ldc 90, 2) := by decide +kernel
theorem dX0_pair_27 : decode cX0_pair 27 = .ok (.if_icmp .le 11, 3) := by decide +kernel
theorem dX0_pair_30 : decode cX0_pair 30 = .ok (.aload_n 0, 1) := by decide +kernel
theorem dX0_pair_31 : decode cX0_pair 31 = .ok (.aload_n 1, 1) := by decide +kernel
theorem dX0_pair_32 : decode cX0_pair 32 = .ok (.aload_n 2, 1) := by decide +kernel
theorem dX0_pair_33 : decode cX0_pair 33 = .ok (.iload_n 3, 1) := by decide +kernel
theorem dX0_pair_34 : decode cX0_pair 34 = .ok (.invokevirtual 91, 3) := by decide +kernel
theorem dX0_pair_37 : decode cX0_pair 37 = .ok (.return_, 1) := by decide +kernel
theorem dX0_pair_38 : decode cX0_pair 38 = .ok (.aload_n 1, 1) := by decide +kernel
theorem dX0_pair_39 : decode cX0_pair 39 = .ok (.lconst 0, 1) := by decide +kernel
theorem dX0_pair_40 : decode cX0_pair 40 = .ok (.invokestatic 70, 3) := by decide +kernel
theorem dX0_pair_43 : decode cX0_pair 43 = .ok (.iconst 0, 1) := by decide +kernel
theorem dX0_pair_44 : decode cX0_pair 44 = .ok (.istore 6, 2) := by decide +kernel
theorem dX0_pair_46 : decode cX0_pair 46 = .ok (.iload 6, 2) := by decide +kernel
theorem dX0_pair_48 : decode cX0_pair 48 = .ok (.iload 4, 2) := by decide +kernel
theorem dX0_pair_50 : decode cX0_pair 50 = .ok (.if_icmp .ge 82, 3) := by decide +kernel
theorem dX0_pair_53 : decode cX0_pair 53 = .ok (.iload 6, 2) := by decide +kernel
theorem dX0_pair_55 : decode cX0_pair 55 = .ok (.sipush 4096, 3) := by decide +kernel
theorem dX0_pair_58 : decode cX0_pair 58 = .ok (.if_icmp .ge 74, 3) := by decide +kernel
theorem dX0_pair_61 : decode cX0_pair 61 = .ok (.iconst 0, 1) := by decide +kernel
theorem dX0_pair_62 : decode cX0_pair 62 = .ok (.istore 7, 2) := by decide +kernel
theorem dX0_pair_64 : decode cX0_pair 64 = .ok (.iload 7, 2) := by decide +kernel
theorem dX0_pair_66 : decode cX0_pair 66 = .ok (.iload 5, 2) := by decide +kernel
theorem dX0_pair_68 : decode cX0_pair 68 = .ok (.if_icmp .ge 58, 3) := by decide +kernel
theorem dX0_pair_71 : decode cX0_pair 71 = .ok (.iload 7, 2) := by decide +kernel
theorem dX0_pair_73 : decode cX0_pair 73 = .ok (.sipush 4096, 3) := by decide +kernel
theorem dX0_pair_76 : decode cX0_pair 76 = .ok (.if_icmp .ge 50, 3) := by decide +kernel
theorem dX0_pair_79 : decode cX0_pair 79 = .ok (.aload_n 1, 1) := by decide +kernel
theorem dX0_pair_80 : decode cX0_pair 80 = .ok (.iload_n 3, 1) := by decide +kernel
theorem dX0_pair_81 : decode cX0_pair 81 = .ok (.ifCond .eq 21, 3) := by decide +kernel
theorem dX0_pair_84 : decode cX0_pair 84 = .ok (.aload_n 0, 1) := by decide +kernel
theorem dX0_pair_85 : decode cX0_pair 85 = .ok (.getfield 18, 3) := by decide +kernel
theorem dX0_pair_88 : decode cX0_pair 88 = .ok (.iload 6, 2) := by decide +kernel
theorem dX0_pair_90 : decode cX0_pair 90 = .ok (.iaload, 1) := by decide +kernel
theorem dX0_pair_91 : decode cX0_pair 91 = .ok (.aload_n 0, 1) := by decide +kernel
theorem dX0_pair_92 : decode cX0_pair 92 = .ok (.getfield 22, 3) := by decide +kernel
theorem dX0_pair_95 : decode cX0_pair 95 = .ok (.iload 7, 2) := by decide +kernel
theorem dX0_pair_97 : decode cX0_pair 97 = .ok (.iaload, 1) := by decide +kernel
theorem dX0_pair_98 : decode cX0_pair 98 = .ok (.iand, 1) := by decide +kernel
theorem dX0_pair_99 : decode cX0_pair 99 = .ok (.goto 18, 3) := by decide +kernel
theorem dX0_pair_102 : decode cX0_pair 102 = .ok (.aload_n 0, 1) := by decide +kernel
theorem dX0_pair_103 : decode cX0_pair 103 = .ok (.getfield 18, 3) := by decide +kernel
theorem dX0_pair_106 : decode cX0_pair 106 = .ok (.iload 6, 2) := by decide +kernel
theorem dX0_pair_108 : decode cX0_pair 108 = .ok (.iaload, 1) := by decide +kernel
theorem dX0_pair_109 : decode cX0_pair 109 = .ok (.aload_n 0, 1) := by decide +kernel
theorem dX0_pair_110 : decode cX0_pair 110 = .ok (.getfield 22, 3) := by decide +kernel
theorem dX0_pair_113 : decode cX0_pair 113 = .ok (.iload 7, 2) := by decide +kernel
theorem dX0_pair_115 : decode cX0_pair 115 = .ok (.iaload, 1) := by decide +kernel
theorem dX0_pair_116 : decode cX0_pair 116 = .ok (.ior, 1) := by decide +kernel
theorem dX0_pair_117 : decode cX0_pair 117 = .ok (.invokestatic 94, 3) := by decide +kernel
theorem dX0_pair_120 : decode cX0_pair 120 = .ok (.iinc 7 1, 3) := by decide +kernel
theorem dX0_pair_123 : decode cX0_pair 123 = .ok (.goto (-59), 3) := by decide +kernel
theorem dX0_pair_126 : decode cX0_pair 126 = .ok (.iinc 6 1, 3) := by decide +kernel
theorem dX0_pair_129 : decode cX0_pair 129 = .ok (.goto (-83), 3) := by decide +kernel
theorem dX0_pair_132 : decode cX0_pair 132 = .ok (.return_, 1) := by decide +kernel
theorem dX0_countPairs_0 : decode cX0_countPairs 0 = .ok (.aload_n 1, 1) := by decide +kernel
theorem dX0_countPairs_1 : decode cX0_countPairs 1 = .ok (.invokestatic 97, 3) := by decide +kernel
theorem dX0_countPairs_4 : decode cX0_countPairs 4 = .ok (.aload_n 2, 1) := by decide +kernel
theorem dX0_countPairs_5 : decode cX0_countPairs 5 = .ok (.invokestatic 97, 3) := by decide +kernel
theorem dX0_countPairs_8 : decode cX0_countPairs 8 = .ok (.invokestatic 101, 3) := by decide +kernel
theorem dX0_countPairs_11 : decode cX0_countPairs 11 = .ok (.istore 4, 2) := by decide +kernel
theorem dX0_countPairs_13 : decode cX0_countPairs 13 = .ok (.iload_n 3, 1) := by decide +kernel
theorem dX0_countPairs_14 : decode cX0_countPairs 14 = .ok (.ifCond .eq 10, 3) := by decide +kernel
theorem dX0_countPairs_17 : decode cX0_countPairs 17 = .ok (.iload 4, 2) := by decide +kernel
theorem dX0_countPairs_19 : decode cX0_countPairs 19 = .ok (.iconst 1, 1) := by decide +kernel
theorem dX0_countPairs_20 : decode cX0_countPairs 20 = .ok (.isub, 1) := by decide +kernel
theorem dX0_countPairs_21 : decode cX0_countPairs 21 = .ok (.goto 4, 3) := by decide +kernel
theorem dX0_countPairs_24 : decode cX0_countPairs 24 = .ok (.iconst 0, 1) := by decide +kernel
theorem dX0_countPairs_25 : decode cX0_countPairs 25 = .ok (.istore 5, 2) := by decide +kernel
theorem dX0_countPairs_27 : decode cX0_countPairs 27 = .ok (.aload_n 1, 1) := by decide +kernel
theorem dX0_countPairs_28 : decode cX0_countPairs 28 = .ok (.aload_n 0, 1) := by decide +kernel
theorem dX0_countPairs_29 : decode cX0_countPairs 29 = .ok (.getfield 18, 3) := by decide +kernel
theorem dX0_countPairs_32 : decode cX0_countPairs 32 = .ok (.iload 4, 2) := by decide +kernel
theorem dX0_countPairs_34 : decode cX0_countPairs 34 = .ok (.iload 5, 2) := by decide +kernel
theorem dX0_countPairs_36 : decode cX0_countPairs 36 = .ok (.invokestatic 107, 3) := by decide +kernel
theorem dX0_countPairs_39 : decode cX0_countPairs 39 = .ok (.aload_n 2, 1) := by decide +kernel
theorem dX0_countPairs_40 : decode cX0_countPairs 40 = .ok (.aload_n 0, 1) := by decide +kernel
theorem dX0_countPairs_41 : decode cX0_countPairs 41 = .ok (.getfield 22, 3) := by decide +kernel
theorem dX0_countPairs_44 : decode cX0_countPairs 44 = .ok (.iload 4, 2) := by decide +kernel
theorem dX0_countPairs_46 : decode cX0_countPairs 46 = .ok (.iload 5, 2) := by decide +kernel
theorem dX0_countPairs_48 : decode cX0_countPairs 48 = .ok (.invokestatic 107, 3) := by decide +kernel
theorem dX0_countPairs_51 : decode cX0_countPairs 51 = .ok (.aload_n 0, 1) := by decide +kernel
theorem dX0_countPairs_52 : decode cX0_countPairs 52 = .ok (.getfield 18, 3) := by decide +kernel
theorem dX0_countPairs_55 : decode cX0_countPairs 55 = .ok (.iload 4, 2) := by decide +kernel
theorem dX0_countPairs_57 : decode cX0_countPairs 57 = .ok (.iconst 1, 1) := by decide +kernel
theorem dX0_countPairs_58 : decode cX0_countPairs 58 = .ok (.invokestatic 111, 3) := by decide +kernel
theorem dX0_countPairs_61 : decode cX0_countPairs 61 = .ok (.aload_n 0, 1) := by decide +kernel
theorem dX0_countPairs_62 : decode cX0_countPairs 62 = .ok (.getfield 22, 3) := by decide +kernel
theorem dX0_countPairs_65 : decode cX0_countPairs 65 = .ok (.iload 4, 2) := by decide +kernel
theorem dX0_countPairs_67 : decode cX0_countPairs 67 = .ok (.iconst 1, 1) := by decide +kernel
theorem dX0_countPairs_68 : decode cX0_countPairs 68 = .ok (.invokestatic 111, 3) := by decide +kernel
theorem dX0_countPairs_71 : decode cX0_countPairs 71 = .ok (.iconst 0, 1) := by decide +kernel
theorem dX0_countPairs_72 : decode cX0_countPairs 72 = .ok (.istore 6, 2) := by decide +kernel
theorem dX0_countPairs_74 : decode cX0_countPairs 74 = .ok (.iload 6, 2) := by decide +kernel
theorem dX0_countPairs_76 : decode cX0_countPairs 76 = .ok (.iload 4, 2) := by decide +kernel
theorem dX0_countPairs_78 : decode cX0_countPairs 78 = .ok (.if_icmp .ge 34, 3) := by decide +kernel
theorem dX0_countPairs_81 : decode cX0_countPairs 81 = .ok (.iload 6, 2) := by decide +kernel
theorem dX0_countPairs_83 : decode cX0_countPairs 83 = .ok (.sipush 4096, 3) := by decide +kernel
theorem dX0_countPairs_86 : decode cX0_countPairs 86 = .ok (.if_icmp .ge 26, 3) := by decide +kernel
theorem dX0_countPairs_89 : decode cX0_countPairs 89 = .ok (.aload_n 0, 1) := by decide +kernel
theorem dX0_countPairs_90 : decode cX0_countPairs 90 = .ok (.getfield 18, 3) := by decide +kernel
theorem dX0_countPairs_93 : decode cX0_countPairs 93 = .ok (.iload 6, 2) := by decide +kernel
theorem dX0_countPairs_95 : decode cX0_countPairs 95 = .ok (.dup2, 1) := by decide +kernel
theorem dX0_countPairs_96 : decode cX0_countPairs 96 = .ok (.iaload, 1) := by decide +kernel
theorem dX0_countPairs_97 : decode cX0_countPairs 97 = .ok (.aload_n 0, 1) := by decide +kernel
theorem dX0_countPairs_98 : decode cX0_countPairs 98 = .ok (.getfield 22, 3) := by decide +kernel
theorem dX0_countPairs_101 : decode cX0_countPairs 101 = .ok (.iload 6, 2) := by decide +kernel
theorem dX0_countPairs_103 : decode cX0_countPairs 103 = .ok (.iaload, 1) := by decide +kernel
theorem dX0_countPairs_104 : decode cX0_countPairs 104 = .ok (.imul, 1) := by decide +kernel
theorem dX0_countPairs_105 : decode cX0_countPairs 105 = .ok (.iastore, 1) := by decide +kernel
theorem dX0_countPairs_106 : decode cX0_countPairs 106 = .ok (.iinc 6 1, 3) := by decide +kernel
theorem dX0_countPairs_109 : decode cX0_countPairs 109 = .ok (.goto (-35), 3) := by decide +kernel
theorem dX0_countPairs_112 : decode cX0_countPairs 112 = .ok (.aload_n 0, 1) := by decide +kernel
theorem dX0_countPairs_113 : decode cX0_countPairs 113 = .ok (.getfield 18, 3) := by decide +kernel
theorem dX0_countPairs_116 : decode cX0_countPairs 116 = .ok (.iload 4, 2) := by decide +kernel
theorem dX0_countPairs_118 : decode cX0_countPairs 118 = .ok (.iconst (-1), 1) := by decide +kernel
theorem dX0_countPairs_119 : decode cX0_countPairs 119 = .ok (.invokestatic 111, 3) := by decide +kernel
theorem dX0_countPairs_122 : decode cX0_countPairs 122 = .ok (.aload_n 1, 1) := by decide +kernel
theorem dX0_countPairs_123 : decode cX0_countPairs 123 = .ok (.lconst 0, 1) := by decide +kernel
theorem dX0_countPairs_124 : decode cX0_countPairs 124 = .ok (.invokestatic 70, 3) := by decide +kernel
theorem dX0_countPairs_127 : decode cX0_countPairs 127 = .ok (.iconst 0, 1) := by decide +kernel
theorem dX0_countPairs_128 : decode cX0_countPairs 128 = .ok (.istore 6, 2) := by decide +kernel
theorem dX0_countPairs_130 : decode cX0_countPairs 130 = .ok (.iload 6, 2) := by decide +kernel
theorem dX0_countPairs_132 : decode cX0_countPairs 132 = .ok (.iload 4, 2) := by decide +kernel
theorem dX0_countPairs_134 : decode cX0_countPairs 134 = .ok (.if_icmp .ge 36, 3) := by decide +kernel
theorem dX0_countPairs_137 : decode cX0_countPairs 137 = .ok (.iload 6, 2) := by decide +kernel
theorem dX0_countPairs_139 : decode cX0_countPairs 139 = .ok (.sipush 4096, 3) := by decide +kernel
theorem dX0_countPairs_142 : decode cX0_countPairs 142 = .ok (.if_icmp .ge 28, 3) := by decide +kernel
theorem dX0_countPairs_145 : decode cX0_countPairs 145 = .ok (.aload_n 0, 1) := by decide +kernel
theorem dX0_countPairs_146 : decode cX0_countPairs 146 = .ok (.getfield 18, 3) := by decide +kernel
theorem dX0_countPairs_149 : decode cX0_countPairs 149 = .ok (.iload 6, 2) := by decide +kernel
theorem dX0_countPairs_151 : decode cX0_countPairs 151 = .ok (.iaload, 1) := by decide +kernel
theorem dX0_countPairs_152 : decode cX0_countPairs 152 = .ok (.ifCond .eq 12, 3) := by decide +kernel
theorem dX0_countPairs_155 : decode cX0_countPairs 155 = .ok (.aload_n 1, 1) := by decide +kernel
theorem dX0_countPairs_156 : decode cX0_countPairs 156 = .ok (.iload 6, 2) := by decide +kernel
theorem dX0_countPairs_158 : decode cX0_countPairs 158 = .ok (.iload 5, 2) := by decide +kernel
theorem dX0_countPairs_160 : decode cX0_countPairs 160 = .ok (.ixor, 1) := by decide +kernel
theorem dX0_countPairs_161 : decode cX0_countPairs 161 = .ok (.invokestatic 94, 3) := by decide +kernel
theorem dX0_countPairs_164 : decode cX0_countPairs 164 = .ok (.iinc 6 1, 3) := by decide +kernel
theorem dX0_countPairs_167 : decode cX0_countPairs 167 = .ok (.goto (-37), 3) := by decide +kernel
theorem dX0_countPairs_170 : decode cX0_countPairs 170 = .ok (.return_, 1) := by decide +kernel
theorem dX0_spread_0 : decode cX0_spread 0 = .ok (.iconst 0, 1) := by decide +kernel
theorem dX0_spread_1 : decode cX0_spread 1 = .ok (.istore 4, 2) := by decide +kernel
theorem dX0_spread_3 : decode cX0_spread 3 = .ok (.iload 4, 2) := by decide +kernel
theorem dX0_spread_5 : decode cX0_spread 5 = .ok (.iload_n 2, 1) := by decide +kernel
theorem dX0_spread_6 : decode cX0_spread 6 = .ok (.if_icmp .ge 36, 3) := by decide +kernel
theorem dX0_spread_9 : decode cX0_spread 9 = .ok (.iload 4, 2) := by decide +kernel
theorem dX0_spread_11 : decode cX0_spread 11 = .ok (.aload_n 1, 1) := by decide +kernel
theorem dX0_spread_12 : decode cX0_spread 12 = .ok (.arraylength, 1) := by decide +kernel
theorem dX0_spread_13 : decode cX0_spread 13 = .ok (.if_icmp .ge 29, 3) := by decide +kernel
theorem dX0_spread_16 : decode cX0_spread 16 = .ok (.aload_n 1, 1) := by decide +kernel
theorem dX0_spread_17 : decode cX0_spread 17 = .ok (.iload 4, 2) := by decide +kernel
theorem dX0_spread_19 : decode cX0_spread 19 = .ok (.aload_n 0, 1) := by decide +kernel
theorem dX0_spread_20 : decode cX0_spread 20 = .ok (.iload 4, 2) := by decide +kernel
theorem dX0_spread_22 : decode cX0_spread 22 = .ok (.iload_n 3, 1) := by decide +kernel
theorem dX0_spread_23 : decode cX0_spread 23 = .ok (.ixor, 1) := by decide +kernel
theorem dX0_spread_24 : decode cX0_spread 24 = .ok (.invokestatic 115, 3) := by decide +kernel
theorem dX0_spread_27 : decode cX0_spread 27 = .ok (.ifCond .eq 7, 3) := by decide +kernel
theorem dX0_spread_30 : decode cX0_spread 30 = .ok (.iconst 1, 1) := by decide +kernel
theorem dX0_spread_31 : decode cX0_spread 31 = .ok (.goto 4, 3) := by decide +kernel
theorem dX0_spread_34 : decode cX0_spread 34 = .ok (.iconst 0, 1) := by decide +kernel
theorem dX0_spread_35 : decode cX0_spread 35 = .ok (.iastore, 1) := by decide +kernel
theorem dX0_spread_36 : decode cX0_spread 36 = .ok (.iinc 4 1, 3) := by decide +kernel
theorem dX0_spread_39 : decode cX0_spread 39 = .ok (.goto (-36), 3) := by decide +kernel
theorem dX0_spread_42 : decode cX0_spread 42 = .ok (.return_, 1) := by decide +kernel
theorem dX0_sumSubsets_0 : decode cX0_sumSubsets 0 = .ok (.iconst 1, 1) := by decide +kernel
theorem dX0_sumSubsets_1 : decode cX0_sumSubsets 1 = .ok (.istore_n 3, 1) := by decide +kernel
theorem dX0_sumSubsets_2 : decode cX0_sumSubsets 2 = .ok (.iload_n 3, 1) := by decide +kernel
theorem dX0_sumSubsets_3 : decode cX0_sumSubsets 3 = .ok (.iload_n 1, 1) := by decide +kernel
theorem dX0_sumSubsets_4 : decode cX0_sumSubsets 4 = .ok (.if_icmp .ge 54, 3) := by decide +kernel
theorem dX0_sumSubsets_7 : decode cX0_sumSubsets 7 = .ok (.iload_n 3, 1) := by decide +kernel
theorem dX0_sumSubsets_8 : decode cX0_sumSubsets 8 = .ok (.istore 4, 2) := by decide +kernel
theorem dX0_sumSubsets_10 : decode cX0_sumSubsets 10 = .ok (.iload 4, 2) := by decide +kernel
theorem dX0_sumSubsets_12 : decode cX0_sumSubsets 12 = .ok (.iload_n 1, 1) := by decide +kernel
theorem dX0_sumSubsets_13 : decode cX0_sumSubsets 13 = .ok (.if_icmp .ge 38, 3) := by decide +kernel
theorem dX0_sumSubsets_16 : decode cX0_sumSubsets 16 = .ok (.iload 4, 2) := by decide +kernel
theorem dX0_sumSubsets_18 : decode cX0_sumSubsets 18 = .ok (.aload_n 0, 1) := by decide +kernel
theorem dX0_sumSubsets_19 : decode cX0_sumSubsets 19 = .ok (.arraylength, 1) := by decide +kernel
theorem dX0_sumSubsets_20 : decode cX0_sumSubsets 20 = .ok (.if_icmp .ge 31, 3) := by decide +kernel
theorem dX0_sumSubsets_23 : decode cX0_sumSubsets 23 = .ok (.iload 4, 2) := by decide +kernel
theorem dX0_sumSubsets_25 : decode cX0_sumSubsets 25 = .ok (.iload_n 3, 1) := by decide +kernel
theorem dX0_sumSubsets_26 : decode cX0_sumSubsets 26 = .ok (.iand, 1) := by decide +kernel
theorem dX0_sumSubsets_27 : decode cX0_sumSubsets 27 = .ok (.ifCond .eq 18, 3) := by decide +kernel
theorem dX0_sumSubsets_30 : decode cX0_sumSubsets 30 = .ok (.aload_n 0, 1) := by decide +kernel
theorem dX0_sumSubsets_31 : decode cX0_sumSubsets 31 = .ok (.iload 4, 2) := by decide +kernel
theorem dX0_sumSubsets_33 : decode cX0_sumSubsets 33 = .ok (.dup2, 1) := by decide +kernel
theorem dX0_sumSubsets_34 : decode cX0_sumSubsets 34 = .ok (.iaload, 1) := by decide +kernel
theorem dX0_sumSubsets_35 : decode cX0_sumSubsets 35 = .ok (.iload_n 2, 1) := by decide +kernel
theorem dX0_sumSubsets_36 : decode cX0_sumSubsets 36 = .ok (.aload_n 0, 1) := by decide +kernel
theorem dX0_sumSubsets_37 : decode cX0_sumSubsets 37 = .ok (.iload 4, 2) := by decide +kernel
theorem dX0_sumSubsets_39 : decode cX0_sumSubsets 39 = .ok (.iload_n 3, 1) := by decide +kernel
theorem dX0_sumSubsets_40 : decode cX0_sumSubsets 40 = .ok (.isub, 1) := by decide +kernel
theorem dX0_sumSubsets_41 : decode cX0_sumSubsets 41 = .ok (.iaload, 1) := by decide +kernel
theorem dX0_sumSubsets_42 : decode cX0_sumSubsets 42 = .ok (.imul, 1) := by decide +kernel
theorem dX0_sumSubsets_43 : decode cX0_sumSubsets 43 = .ok (.iadd, 1) := by decide +kernel
theorem dX0_sumSubsets_44 : decode cX0_sumSubsets 44 = .ok (.iastore, 1) := by decide +kernel
theorem dX0_sumSubsets_45 : decode cX0_sumSubsets 45 = .ok (.iinc 4 1, 3) := by decide +kernel
theorem dX0_sumSubsets_48 : decode cX0_sumSubsets 48 = .ok (.goto (-38), 3) := by decide +kernel
theorem dX0_sumSubsets_51 : decode cX0_sumSubsets 51 = .ok (.iload_n 3, 1) := by decide +kernel
theorem dX0_sumSubsets_52 : decode cX0_sumSubsets 52 = .ok (.iconst 2, 1) := by decide +kernel
theorem dX0_sumSubsets_53 : decode cX0_sumSubsets 53 = .ok (.imul, 1) := by decide +kernel
theorem dX0_sumSubsets_54 : decode cX0_sumSubsets 54 = .ok (.istore_n 3, 1) := by decide +kernel
theorem dX0_sumSubsets_55 : decode cX0_sumSubsets 55 = .ok (.goto (-53), 3) := by decide +kernel
theorem dX0_sumSubsets_58 : decode cX0_sumSubsets 58 = .ok (.return_, 1) := by decide +kernel
theorem dX0_divide_0 : decode cX0_divide 0 = .ok (.aload_n 2, 1) := by decide +kernel
theorem dX0_divide_1 : decode cX0_divide 1 = .ok (.aload_n 0, 1) := by decide +kernel
theorem dX0_divide_2 : decode cX0_divide 2 = .ok (.getfield 18, 3) := by decide +kernel
theorem dX0_divide_5 : decode cX0_divide 5 = .ok (.invokestatic 86, 3) := by decide +kernel
theorem dX0_divide_8 : decode cX0_divide 8 = .ok (.istore_n 3, 1) := by decide +kernel
theorem dX0_divide_9 : decode cX0_divide 9 = .ok (.iconst 0, 1) := by decide +kernel
theorem dX0_divide_10 : decode cX0_divide 10 = .ok (.istore 4, 2) := by decide +kernel
theorem dX0_divide_12 : decode cX0_divide 12 = .ok (.iconst 0, 1) := by decide +kernel
theorem dX0_divide_13 : decode cX0_divide 13 = .ok (.istore 5, 2) := by decide +kernel
theorem dX0_divide_15 : decode cX0_divide 15 = .ok (.iload 5, 2) := by decide +kernel
theorem dX0_divide_17 : decode cX0_divide 17 = .ok (.iload_n 3, 1) := by decide +kernel
theorem dX0_divide_18 : decode cX0_divide 18 = .ok (.if_icmp .ge 29, 3) := by decide +kernel
theorem dX0_divide_21 : decode cX0_divide 21 = .ok (.iload 5, 2) := by decide +kernel
theorem dX0_divide_23 : decode cX0_divide 23 = .ok (.sipush 4096, 3) := by decide +kernel
theorem dX0_divide_26 : decode cX0_divide 26 = .ok (.if_icmp .ge 21, 3) := by decide +kernel
theorem dX0_divide_29 : decode cX0_divide 29 = .ok (.iload 4, 2) := by decide +kernel
theorem dX0_divide_31 : decode cX0_divide 31 = .ok (.aload_n 0, 1) := by decide +kernel
theorem dX0_divide_32 : decode cX0_divide 32 = .ok (.getfield 18, 3) := by decide +kernel
theorem dX0_divide_35 : decode cX0_divide 35 = .ok (.iload 5, 2) := by decide +kernel
theorem dX0_divide_37 : decode cX0_divide 37 = .ok (.iaload, 1) := by decide +kernel
theorem dX0_divide_38 : decode cX0_divide 38 = .ok (.ior, 1) := by decide +kernel
theorem dX0_divide_39 : decode cX0_divide 39 = .ok (.istore 4, 2) := by decide +kernel
theorem dX0_divide_41 : decode cX0_divide 41 = .ok (.iinc 5 1, 3) := by decide +kernel
theorem dX0_divide_44 : decode cX0_divide 44 = .ok (.goto (-29), 3) := by decide +kernel
theorem dX0_divide_47 : decode cX0_divide 47 = .ok (.aload_n 1, 1) := by decide +kernel
theorem dX0_divide_48 : decode cX0_divide 48 = .ok (.invokestatic 97, 3) := by decide +kernel
theorem dX0_divide_51 : decode cX0_divide 51 = .ok (.istore 5, 2) := by decide +kernel
theorem dX0_divide_53 : decode cX0_divide 53 = .ok (.aload_n 0, 1) := by decide +kernel
theorem dX0_divide_54 : decode cX0_divide 54 = .ok (.getfield 9, 3) := by decide +kernel
theorem dX0_divide_57 : decode cX0_divide 57 = .ok (.lconst 0, 1) := by decide +kernel
theorem dX0_divide_58 : decode cX0_divide 58 = .ok (.invokestatic 70, 3) := by decide +kernel
theorem dX0_divide_61 : decode cX0_divide 61 = .ok (.iconst 0, 1) := by decide +kernel
theorem dX0_divide_62 : decode cX0_divide 62 = .ok (.istore 6, 2) := by decide +kernel
theorem dX0_divide_64 : decode cX0_divide 64 = .ok (.iload 6, 2) := by decide +kernel
theorem dX0_divide_66 : decode cX0_divide 66 = .ok (.iload 5, 2) := by decide +kernel
theorem dX0_divide_68 : decode cX0_divide 68 = .ok (.if_icmp .ge 45, 3) := by decide +kernel
theorem dX0_divide_71 : decode cX0_divide 71 = .ok (.iload 6, 2) := by decide +kernel
theorem dX0_divide_73 : decode cX0_divide 73 = .ok (.sipush 4096, 3) := by decide +kernel
theorem dX0_divide_76 : decode cX0_divide 76 = .ok (.if_icmp .ge 37, 3) := by decide +kernel
theorem dX0_divide_79 : decode cX0_divide 79 = .ok (.iload 6, 2) := by decide +kernel
theorem dX0_divide_81 : decode cX0_divide 81 = .ok (.iload 4, 2) := by decide +kernel
theorem dX0_divide_83 : decode cX0_divide 83 = .ok (.iand, 1) := by decide +kernel
theorem dX0_divide_84 : decode cX0_divide 84 = .ok (.ifCond .ne 23, 3) := by decide +kernel
theorem dX0_divide_87 : decode cX0_divide 87 = .ok (.aload_n 0, 1) := by decide +kernel
theorem dX0_divide_88 : decode cX0_divide 88 = .ok (.aload_n 1, 1) := by decide +kernel
theorem dX0_divide_89 : decode cX0_divide 89 = .ok (.iload 6, 2) := by decide +kernel
theorem dX0_divide_91 : decode cX0_divide 91 = .ok (.iload_n 3, 1) := by decide +kernel
theorem dX0_divide_92 : decode cX0_divide 92 = .ok (.invokevirtual 119, 3) := by decide +kernel
theorem dX0_divide_95 : decode cX0_divide 95 = .ok (.ifCond .eq 12, 3) := by decide +kernel
theorem dX0_divide_98 : decode cX0_divide 98 = .ok (.aload_n 0, 1) := by decide +kernel
theorem dX0_divide_99 : decode cX0_divide 99 = .ok (.getfield 9, 3) := by decide +kernel
theorem dX0_divide_102 : decode cX0_divide 102 = .ok (.iload 6, 2) := by decide +kernel
theorem dX0_divide_104 : decode cX0_divide 104 = .ok (.invokestatic 94, 3) := by decide +kernel
theorem dX0_divide_107 : decode cX0_divide 107 = .ok (.iinc 6 1, 3) := by decide +kernel
theorem dX0_divide_110 : decode cX0_divide 110 = .ok (.goto (-46), 3) := by decide +kernel
theorem dX0_divide_113 : decode cX0_divide 113 = .ok (.iload_n 3, 1) := by decide +kernel
theorem dX0_divide_114 : decode cX0_divide 114 = .ok (.ireturn, 1) := by decide +kernel
theorem dX0_hasAllWith_0 : decode cX0_hasAllWith 0 = .ok (.iconst 0, 1) := by decide +kernel
theorem dX0_hasAllWith_1 : decode cX0_hasAllWith 1 = .ok (.istore 4, 2) := by decide +kernel
theorem dX0_hasAllWith_3 : decode cX0_hasAllWith 3 = .ok (.iload 4, 2) := by decide +kernel
theorem dX0_hasAllWith_5 : decode cX0_hasAllWith 5 = .ok (.iload_n 3, 1) := by decide +kernel
theorem dX0_hasAllWith_6 : decode cX0_hasAllWith 6 = .ok (.if_icmp .ge 35, 3) := by decide +kernel
theorem dX0_hasAllWith_9 : decode cX0_hasAllWith 9 = .ok (.iload 4, 2) := by decide +kernel
theorem dX0_hasAllWith_11 : decode cX0_hasAllWith 11 = .ok (.sipush 4096, 3) := by decide +kernel
theorem dX0_hasAllWith_14 : decode cX0_hasAllWith 14 = .ok (.if_icmp .ge 27, 3) := by decide +kernel
theorem dX0_hasAllWith_17 : decode cX0_hasAllWith 17 = .ok (.aload_n 1, 1) := by decide +kernel
theorem dX0_hasAllWith_18 : decode cX0_hasAllWith 18 = .ok (.iload_n 2, 1) := by decide +kernel
theorem dX0_hasAllWith_19 : decode cX0_hasAllWith 19 = .ok (.aload_n 0, 1) := by decide +kernel
theorem dX0_hasAllWith_20 : decode cX0_hasAllWith 20 = .ok (.getfield 18, 3) := by decide +kernel
theorem dX0_hasAllWith_23 : decode cX0_hasAllWith 23 = .ok (.iload 4, 2) := by decide +kernel
theorem dX0_hasAllWith_25 : decode cX0_hasAllWith 25 = .ok (.iaload, 1) := by decide +kernel
theorem dX0_hasAllWith_26 : decode cX0_hasAllWith 26 = .ok (.ior, 1) := by decide +kernel
theorem dX0_hasAllWith_27 : decode cX0_hasAllWith 27 = .ok (.invokestatic 115, 3) := by decide +kernel
theorem dX0_hasAllWith_30 : decode cX0_hasAllWith 30 = .ok (.ifCond .ne 5, 3) := by decide +kernel
theorem dX0_hasAllWith_33 : decode cX0_hasAllWith 33 = .ok (.iconst 0, 1) := by decide +kernel
theorem dX0_hasAllWith_34 : decode cX0_hasAllWith 34 = .ok (.ireturn, 1) := by decide +kernel
theorem dX0_hasAllWith_35 : decode cX0_hasAllWith 35 = .ok (.iinc 4 1, 3) := by decide +kernel
theorem dX0_hasAllWith_38 : decode cX0_hasAllWith 38 = .ok (.goto (-35), 3) := by decide +kernel
theorem dX0_hasAllWith_41 : decode cX0_hasAllWith 41 = .ok (.iconst 1, 1) := by decide +kernel
theorem dX0_hasAllWith_42 : decode cX0_hasAllWith 42 = .ok (.ireturn, 1) := by decide +kernel
theorem dX0_removeProducts_0 : decode cX0_removeProducts 0 = .ok (.aload_n 0, 1) := by decide +kernel
theorem dX0_removeProducts_1 : decode cX0_removeProducts 1 = .ok (.getfield 9, 3) := by decide +kernel
theorem dX0_removeProducts_4 : decode cX0_removeProducts 4 = .ok (.aload_n 0, 1) := by decide +kernel
theorem dX0_removeProducts_5 : decode cX0_removeProducts 5 = .ok (.getfield 22, 3) := by decide +kernel
theorem dX0_removeProducts_8 : decode cX0_removeProducts 8 = .ok (.invokestatic 86, 3) := by decide +kernel
theorem dX0_removeProducts_11 : decode cX0_removeProducts 11 = .ok (.istore_n 3, 1) := by decide +kernel
theorem dX0_removeProducts_12 : decode cX0_removeProducts 12 = .ok (.iconst 0, 1) := by decide +kernel
theorem dX0_removeProducts_13 : decode cX0_removeProducts 13 = .ok (.istore 4, 2) := by decide +kernel
theorem dX0_removeProducts_15 : decode cX0_removeProducts 15 = .ok (.iload 4, 2) := by decide +kernel
theorem dX0_removeProducts_17 : decode cX0_removeProducts 17 = .ok (.iload_n 3, 1) := by decide +kernel
theorem dX0_removeProducts_18 : decode cX0_removeProducts 18 = .ok (.if_icmp .ge 59, 3) := by decide +kernel
theorem dX0_removeProducts_21 : decode cX0_removeProducts 21 = .ok (.iload 4, 2) := by decide +kernel
theorem dX0_removeProducts_23 : decode cX0_removeProducts 23 = .ok (.sipush 4096, 3) := by decide +kernel
theorem dX0_removeProducts_26 : decode cX0_removeProducts 26 = .ok (.if_icmp .ge 51, 3) := by decide +kernel
theorem dX0_removeProducts_29 : decode cX0_removeProducts 29 = .ok (.iconst 0, 1) := by decide +kernel
theorem dX0_removeProducts_30 : decode cX0_removeProducts 30 = .ok (.istore 5, 2) := by decide +kernel
theorem dX0_removeProducts_32 : decode cX0_removeProducts 32 = .ok (.iload 5, 2) := by decide +kernel
theorem dX0_removeProducts_34 : decode cX0_removeProducts 34 = .ok (.iload_n 2, 1) := by decide +kernel
theorem dX0_removeProducts_35 : decode cX0_removeProducts 35 = .ok (.if_icmp .ge 36, 3) := by decide +kernel
theorem dX0_removeProducts_38 : decode cX0_removeProducts 38 = .ok (.iload 5, 2) := by decide +kernel
theorem dX0_removeProducts_40 : decode cX0_removeProducts 40 = .ok (.sipush 4096, 3) := by decide +kernel
theorem dX0_removeProducts_43 : decode cX0_removeProducts 43 = .ok (.if_icmp .ge 28, 3) := by decide +kernel
theorem dX0_removeProducts_46 : decode cX0_removeProducts 46 = .ok (.aload_n 1, 1) := by decide +kernel
theorem dX0_removeProducts_47 : decode cX0_removeProducts 47 = .ok (.aload_n 0, 1) := by decide +kernel
theorem dX0_removeProducts_48 : decode cX0_removeProducts 48 = .ok (.getfield 22, 3) := by decide +kernel
theorem dX0_removeProducts_51 : decode cX0_removeProducts 51 = .ok (.iload 4, 2) := by decide +kernel
theorem dX0_removeProducts_53 : decode cX0_removeProducts 53 = .ok (.iaload, 1) := by decide +kernel
theorem dX0_removeProducts_54 : decode cX0_removeProducts 54 = .ok (.aload_n 0, 1) := by decide +kernel
theorem dX0_removeProducts_55 : decode cX0_removeProducts 55 = .ok (.getfield 18, 3) := by decide +kernel
theorem dX0_removeProducts_58 : decode cX0_removeProducts 58 = .ok (.iload 5, 2) := by decide +kernel
theorem dX0_removeProducts_60 : decode cX0_removeProducts 60 = .ok (.iaload, 1) := by decide +kernel
theorem dX0_removeProducts_61 : decode cX0_removeProducts 61 = .ok (.ior, 1) := by decide +kernel
theorem dX0_removeProducts_62 : decode cX0_removeProducts 62 = .ok (.invokestatic 123, 3) := by decide +kernel
theorem dX0_removeProducts_65 : decode cX0_removeProducts 65 = .ok (.iinc 5 1, 3) := by decide +kernel
theorem dX0_removeProducts_68 : decode cX0_removeProducts 68 = .ok (.goto (-36), 3) := by decide +kernel
theorem dX0_removeProducts_71 : decode cX0_removeProducts 71 = .ok (.iinc 4 1, 3) := by decide +kernel
theorem dX0_removeProducts_74 : decode cX0_removeProducts 74 = .ok (.goto (-59), 3) := by decide +kernel
theorem dX0_removeProducts_77 : decode cX0_removeProducts 77 = .ok (.return_, 1) := by decide +kernel
theorem dX1_init_0 : decode cX1_init 0 = .ok (.aload_n 0, 1) := by decide +kernel
theorem dX1_init_1 : decode cX1_init 1 = .ok (.invokespecial 3, 3) := by decide +kernel
theorem dX1_init_4 : decode cX1_init 4 = .ok (.aload_n 0, 1) := by decide +kernel
theorem dX1_init_5 : decode cX1_init 5 = .ok (.bipush 43, 2) := by decide +kernel
theorem dX1_init_7 : decode cX1_init 7 = .ok (.anewarray 11, 3) := by decide +kernel
theorem dX1_init_10 : decode cX1_init 10 = .ok (.putfield 13, 3) := by decide +kernel
theorem dX1_init_13 : decode cX1_init 13 = .ok (.aload_n 0, 1) := by decide +kernel
theorem dX1_init_14 : decode cX1_init 14 = .ok (.iconst 0, 1) := by decide +kernel
theorem dX1_init_15 : decode cX1_init 15 = .ok (.putfield 17, 3) := by decide +kernel
theorem dX1_init_18 : decode cX1_init 18 = .ok (.return_, 1) := by decide +kernel
theorem dX1_run_0 : decode cX1_run 0 = .ok (.aload_n 0, 1) := by decide +kernel
theorem dX1_run_1 : decode cX1_run 1 = .ok (.iconst 0, 1) := by decide +kernel
theorem dX1_run_2 : decode cX1_run 2 = .ok (.putfield 17, 3) := by decide +kernel
theorem dX1_run_5 : decode cX1_run 5 = .ok (.aload_n 1, 1) := by decide +kernel
theorem dX1_run_6 : decode cX1_run 6 = .ok (.getfield 21, 3) := by decide +kernel
theorem dX1_run_9 : decode cX1_run 9 = .ok (.sipush 200, 3) := by decide +kernel
theorem dX1_run_12 : decode cX1_run 12 = .ok (.invokestatic 26, 3) := by decide +kernel
theorem dX1_run_15 : decode cX1_run 15 = .ok (.istore 4, 2) := by decide +kernel
theorem dX1_run_17 : decode cX1_run 17 = .ok (.iconst 0, 1) := by decide +kernel
theorem dX1_run_18 : decode cX1_run 18 = .ok (.istore 5, 2) := by decide +kernel
theorem dX1_run_20 : decode cX1_run 20 = .ok (.iload 5, 2) := by decide +kernel
theorem dX1_run_22 : decode cX1_run 22 = .ok (.iload 4, 2) := by decide +kernel
theorem dX1_run_24 : decode cX1_run 24 = .ok (.if_icmp .ge 90, 3) := by decide +kernel
theorem dX1_run_27 : decode cX1_run 27 = .ok (.aload_n 1, 1) := by decide +kernel
theorem dX1_run_28 : decode cX1_run 28 = .ok (.getfield 32, 3) := by decide +kernel
theorem dX1_run_31 : decode cX1_run 31 = .ok (.iload 5, 2) := by decide +kernel
theorem dX1_run_33 : decode cX1_run 33 = .ok (.iaload, 1) := by decide +kernel
theorem dX1_run_34 : decode cX1_run 34 = .ok (.istore 6, 2) := by decide +kernel
theorem dX1_run_36 : decode cX1_run 36 = .ok (.aload_n 1, 1) := by decide +kernel
theorem dX1_run_37 : decode cX1_run 37 = .ok (.getfield 36, 3) := by decide +kernel
theorem dX1_run_40 : decode cX1_run 40 = .ok (.iload 5, 2) := by decide +kernel
theorem dX1_run_42 : decode cX1_run 42 = .ok (.iaload, 1) := by decide +kernel
theorem dX1_run_43 : decode cX1_run 43 = .ok (.istore 7, 2) := by decide +kernel
theorem dX1_run_45 : decode cX1_run 45 = .ok (.iload 6, 2) := by decide +kernel
theorem dX1_run_47 : decode cX1_run 47 = .ok (.bipush 8, 2) := by decide +kernel
theorem dX1_run_49 : decode cX1_run 49 = .ok (.if_icmp .ne 15, 3) := by decide +kernel
theorem dX1_run_52 : decode cX1_run 52 = .ok (.aload_n 0, 1) := by decide +kernel
theorem dX1_run_53 : decode cX1_run 53 = .ok (.invokevirtual 39, 3) := by decide +kernel
theorem dX1_run_56 : decode cX1_run 56 = .ok (.iload 7, 2) := by decide +kernel
theorem dX1_run_58 : decode cX1_run 58 = .ok (.invokestatic 43, 3) := by decide +kernel
theorem dX1_run_61 : decode cX1_run 61 = .ok (.goto 47, 3) := by decide +kernel
theorem dX1_run_64 : decode cX1_run 64 = .ok (.iload 6, 2) := by decide +kernel
theorem dX1_run_66 : decode cX1_run 66 = .ok (.bipush 9, 2) := by decide +kernel
theorem dX1_run_68 : decode cX1_run 68 = .ok (.if_icmp .ne 11, 3) := by decide +kernel
theorem dX1_run_71 : decode cX1_run 71 = .ok (.aload_n 0, 1) := by decide +kernel
theorem dX1_run_72 : decode cX1_run 72 = .ok (.invokevirtual 39, 3) := by decide +kernel
theorem dX1_run_75 : decode cX1_run 75 = .ok (.pop, 1) := by decide +kernel
theorem dX1_run_76 : decode cX1_run 76 = .ok (.goto 32, 3) := by decide +kernel
theorem dX1_run_79 : decode cX1_run 79 = .ok (.iload 6, 2) := by decide +kernel
theorem dX1_run_81 : decode cX1_run 81 = .ok (.bipush 10, 2) := by decide +kernel
theorem dX1_run_83 : decode cX1_run 83 = .ok (.if_icmp .ne 13, 3) := by decide +kernel
theorem dX1_run_86 : decode cX1_run 86 = .ok (.aload_n 0, 1) := by decide +kernel
theorem dX1_run_87 : decode cX1_run 87 = .ok (.aload_n 2, 1) := by decide +kernel
theorem dX1_run_88 : decode cX1_run 88 = .ok (.iload 7, 2) := by decide +kernel
theorem dX1_run_90 : decode cX1_run 90 = .ok (.invokevirtual 49, 3) := by decide +kernel
theorem dX1_run_93 : decode cX1_run 93 = .ok (.goto 15, 3) := by decide +kernel
theorem dX1_run_96 : decode cX1_run 96 = .ok (.aload_n 0, 1) := by decide +kernel
theorem dX1_run_97 : decode cX1_run 97 = .ok (.iload 6, 2) := by decide +kernel
theorem dX1_run_99 : decode cX1_run 99 = .ok (.aload_n 3, 1) := by decide +kernel
theorem dX1_run_100 : decode cX1_run 100 = .ok (.invokevirtual 53, 3) := by decide +kernel
theorem dX1_run_103 : decode cX1_run 103 = .ok (.ifCond .ne 5, 3) := by decide +kernel
theorem dX1_run_106 : decode cX1_run 106 = .ok (.aconst_null, 1) := by decide +kernel
theorem dX1_run_107 : decode cX1_run 107 = .ok (.areturn, 1) := by decide +kernel
theorem dX1_run_108 : decode cX1_run 108 = .ok (.iinc 5 1, 3) := by decide +kernel
theorem dX1_run_111 : decode cX1_run 111 = .ok (.goto (-91), 3) := by decide +kernel
theorem dX1_run_114 : decode cX1_run 114 = .ok (.aload_n 0, 1) := by decide +kernel
theorem dX1_run_115 : decode cX1_run 115 = .ok (.iconst 0, 1) := by decide +kernel
theorem dX1_run_116 : decode cX1_run 116 = .ok (.invokevirtual 57, 3) := by decide +kernel
theorem dX1_run_119 : decode cX1_run 119 = .ok (.areturn, 1) := by decide +kernel
theorem dX1_apply_0 : decode cX1_apply 0 = .ok (.iload_n 1, 1) := by decide +kernel
theorem dX1_apply_1 : decode cX1_apply 1 = .ok (.iconst 4, 1) := by decide +kernel
theorem dX1_apply_2 : decode cX1_apply 2 = .ok (.if_icmp .eq 20, 3) := by decide +kernel
theorem dX1_apply_5 : decode cX1_apply 5 = .ok (.iload_n 1, 1) := by decide +kernel
theorem dX1_apply_6 : decode cX1_apply 6 = .ok (.iconst 5, 1) := by decide +kernel
theorem dX1_apply_7 : decode cX1_apply 7 = .ok (.if_icmp .eq 15, 3) := by decide +kernel
theorem dX1_apply_10 : decode cX1_apply 10 = .ok (.iload_n 1, 1) := by decide +kernel
theorem dX1_apply_11 : decode cX1_apply 11 = .ok (.bipush 6, 2) := by decide +kernel
theorem dX1_apply_13 : decode cX1_apply 13 = .ok (.if_icmp .eq 9, 3) := by decide +kernel
theorem dX1_apply_16 : decode cX1_apply 16 = .ok (.iload_n 1, 1) := by decide +kernel
theorem dX1_apply_17 : decode cX1_apply 17 = .ok (.bipush 7, 2) := by decide +kernel
theorem dX1_apply_19 : decode cX1_apply 19 = .ok (.if_icmp .ne 20, 3) := by decide +kernel
theorem dX1_apply_22 : decode cX1_apply 22 = .ok (.aload_n 2, 1) := by decide +kernel
theorem dX1_apply_23 : decode cX1_apply 23 = .ok (.iload_n 1, 1) := by decide +kernel
theorem dX1_apply_24 : decode cX1_apply 24 = .ok (.aload_n 0, 1) := by decide +kernel
theorem dX1_apply_25 : decode cX1_apply 25 = .ok (.aload_n 0, 1) := by decide +kernel
theorem dX1_apply_26 : decode cX1_apply 26 = .ok (.getfield 17, 3) := by decide +kernel
theorem dX1_apply_29 : decode cX1_apply 29 = .ok (.iconst 1, 1) := by decide +kernel
theorem dX1_apply_30 : decode cX1_apply 30 = .ok (.isub, 1) := by decide +kernel
theorem dX1_apply_31 : decode cX1_apply 31 = .ok (.invokevirtual 57, 3) := by decide +kernel
theorem dX1_apply_34 : decode cX1_apply 34 = .ok (.invokevirtual 61, 3) := by decide +kernel
theorem dX1_apply_37 : decode cX1_apply 37 = .ok (.iconst 1, 1) := by decide +kernel
theorem dX1_apply_38 : decode cX1_apply 38 = .ok (.ireturn, 1) := by decide +kernel
theorem dX1_apply_39 : decode cX1_apply 39 = .ok (.aload_n 0, 1) := by decide +kernel
theorem dX1_apply_40 : decode cX1_apply 40 = .ok (.dup, 1) := by decide +kernel
theorem dX1_apply_41 : decode cX1_apply 41 = .ok (.getfield 17, 3) := by decide +kernel
theorem dX1_apply_44 : decode cX1_apply 44 = .ok (.iconst 1, 1) := by decide +kernel
theorem dX1_apply_45 : decode cX1_apply 45 = .ok (.isub, 1) := by decide +kernel
theorem dX1_apply_46 : decode cX1_apply 46 = .ok (.putfield 17, 3) := by decide +kernel
theorem dX1_apply_49 : decode cX1_apply 49 = .ok (.aload_n 0, 1) := by decide +kernel
theorem dX1_apply_50 : decode cX1_apply 50 = .ok (.aload_n 0, 1) := by decide +kernel
theorem dX1_apply_51 : decode cX1_apply 51 = .ok (.getfield 17, 3) := by decide +kernel
theorem dX1_apply_54 : decode cX1_apply 54 = .ok (.invokevirtual 57, 3) := by decide +kernel
theorem dX1_apply_57 : decode cX1_apply 57 = .ok (.astore_n 3, 1) := by decide +kernel
theorem dX1_apply_58 : decode cX1_apply 58 = .ok (.iload_n 1, 1) := by decide +kernel
theorem dX1_apply_59 : decode cX1_apply 59 = .ok (.bipush 47, 2) := by decide +kernel
theorem dX1_apply_61 : decode cX1_apply 61 = .ok (.if_icmp .eq 9, 3) := by decide +kernel
theorem dX1_apply_64 : decode cX1_apply 64 = .ok (.iload_n 1, 1) := by decide +kernel
theorem dX1_apply_65 : decode cX1_apply 65 = .ok (.bipush 37, 2) := by decide +kernel
theorem dX1_apply_67 : decode cX1_apply 67 = .ok (.if_icmp .ne 12, 3) := by decide +kernel
theorem dX1_apply_70 : decode cX1_apply 70 = .ok (.aload_n 3, 1) := by decide +kernel
theorem dX1_apply_71 : decode cX1_apply 71 = .ok (.invokestatic 67, 3) := by decide +kernel
theorem dX1_apply_74 : decode cX1_apply 74 = .ok (.ifCond .ne 5, 3) := by decide +kernel
theorem dX1_apply_77 : decode cX1_apply 77 = .ok (.iconst 0, 1) := by decide +kernel
theorem dX1_apply_78 : decode cX1_apply 78 = .ok (.ireturn, 1) := by decide +kernel
theorem dX1_apply_79 : decode cX1_apply 79 = .ok (.aload_n 2, 1) := by decide +kernel
theorem dX1_apply_80 : decode cX1_apply 80 = .ok (.iload_n 1, 1) := by decide +kernel
theorem dX1_apply_81 : decode cX1_apply 81 = .ok (.aload_n 0, 1) := by decide +kernel
theorem dX1_apply_82 : decode cX1_apply 82 = .ok (.aload_n 0, 1) := by decide +kernel
theorem dX1_apply_83 : decode cX1_apply 83 = .ok (.getfield 17, 3) := by decide +kernel
theorem dX1_apply_86 : decode cX1_apply 86 = .ok (.iconst 1, 1) := by decide +kernel
theorem dX1_apply_87 : decode cX1_apply 87 = .ok (.isub, 1) := by decide +kernel
theorem dX1_apply_88 : decode cX1_apply 88 = .ok (.invokevirtual 57, 3) := by decide +kernel
theorem dX1_apply_91 : decode cX1_apply 91 = .ok (.aload_n 3, 1) := by decide +kernel
theorem dX1_apply_92 : decode cX1_apply 92 = .ok (.invokevirtual 71, 3) := by decide +kernel
theorem dX1_apply_95 : decode cX1_apply 95 = .ok (.iconst 1, 1) := by decide +kernel
theorem dX1_apply_96 : decode cX1_apply 96 = .ok (.ireturn, 1) := by decide +kernel
theorem dX1_push_0 : decode cX1_push 0 = .ok (.aload_n 0, 1) := by decide +kernel
theorem dX1_push_1 : decode cX1_push 1 = .ok (.aload_n 0, 1) := by decide +kernel
theorem dX1_push_2 : decode cX1_push 2 = .ok (.getfield 17, 3) := by decide +kernel
theorem dX1_push_5 : decode cX1_push 5 = .ok (.invokevirtual 57, 3) := by decide +kernel
theorem dX1_push_8 : decode cX1_push 8 = .ok (.astore_n 1, 1) := by decide +kernel
theorem dX1_push_9 : decode cX1_push 9 = .ok (.aload_n 1, 1) := by decide +kernel
theorem dX1_push_10 : decode cX1_push 10 = .ok (.lconst 0, 1) := by decide +kernel
theorem dX1_push_11 : decode cX1_push 11 = .ok (.invokestatic 75, 3) := by decide +kernel
theorem dX1_push_14 : decode cX1_push 14 = .ok (.aload_n 0, 1) := by decide +kernel
theorem dX1_push_15 : decode cX1_push 15 = .ok (.dup, 1) := by decide +kernel
theorem dX1_push_16 : decode cX1_push 16 = .ok (.getfield 17, 3) := by decide +kernel
theorem dX1_push_19 : decode cX1_push 19 = .ok (.iconst 1, 1) := by decide +kernel
theorem dX1_push_20 : decode cX1_push 20 = .ok (.iadd, 1) := by decide +kernel
theorem dX1_push_21 : decode cX1_push 21 = .ok (.putfield 17, 3) := by decide +kernel
theorem dX1_push_24 : decode cX1_push 24 = .ok (.aload_n 1, 1) := by decide +kernel
theorem dX1_push_25 : decode cX1_push 25 = .ok (.areturn, 1) := by decide +kernel
theorem dX1_pushFamily_0 : decode cX1_pushFamily 0 = .ok (.aload_n 0, 1) := by decide +kernel
theorem dX1_pushFamily_1 : decode cX1_pushFamily 1 = .ok (.invokevirtual 39, 3) := by decide +kernel
theorem dX1_pushFamily_4 : decode cX1_pushFamily 4 = .ok (.astore_n 3, 1) := by decide +kernel
theorem dX1_pushFamily_5 : decode cX1_pushFamily 5 = .ok (.iload_n 2, 1) := by decide +kernel
theorem dX1_pushFamily_6 : decode cX1_pushFamily 6 = .ok (.ifCond .lt 25, 3) := by decide +kernel
theorem dX1_pushFamily_9 : decode cX1_pushFamily 9 = .ok (.iload_n 2, 1) := by decide +kernel
theorem dX1_pushFamily_10 : decode cX1_pushFamily 10 = .ok (.aload_n 1, 1) := by decide +kernel
theorem dX1_pushFamily_11 : decode cX1_pushFamily 11 = .ok (.arraylength, 1) := by decide +kernel
theorem dX1_pushFamily_12 : decode cX1_pushFamily 12 = .ok (.if_icmp .ge 19, 3) := by decide +kernel
theorem dX1_pushFamily_15 : decode cX1_pushFamily 15 = .ok (.aload_n 1, 1) := by decide +kernel
theorem dX1_pushFamily_16 : decode cX1_pushFamily 16 = .ok (.iload_n 2, 1) := by decide +kernel
theorem dX1_pushFamily_17 : decode cX1_pushFamily 17 = .ok (.aaload, 1) := by decide +kernel
theorem dX1_pushFamily_18 : decode cX1_pushFamily 18 = .ok (.ifnull 13, 3) := by decide +kernel
theorem dX1_pushFamily_21 : decode cX1_pushFamily 21 = .ok (.aload_n 1, 1) := by decide +kernel
theorem dX1_pushFamily_22 : decode cX1_pushFamily 22 = .ok (.iload_n 2, 1) := by decide +kernel
theorem dX1_pushFamily_23 : decode cX1_pushFamily 23 = .ok (.aaload, 1) := by decide +kernel
theorem dX1_pushFamily_24 : decode cX1_pushFamily 24 = .ok (.getfield 81, 3) := by decide +kernel
theorem dX1_pushFamily_27 : decode cX1_pushFamily 27 = .ok (.aload_n 3, 1) := by decide +kernel
theorem dX1_pushFamily_28 : decode cX1_pushFamily 28 = .ok (.invokestatic 85, 3) := by decide +kernel
theorem dX1_pushFamily_31 : decode cX1_pushFamily 31 = .ok (.return_, 1) := by decide +kernel
theorem dX1_row_0 : decode cX1_row 0 = .ok (.iconst 0, 1) := by decide +kernel
theorem dX1_row_1 : decode cX1_row 1 = .ok (.iload_n 1, 1) := by decide +kernel
theorem dX1_row_2 : decode cX1_row 2 = .ok (.bipush 42, 2) := by decide +kernel
theorem dX1_row_4 : decode cX1_row 4 = .ok (.invokestatic 26, 3) := by decide +kernel
theorem dX1_row_7 : decode cX1_row 7 = .ok (.invokestatic 89, 3) := by decide +kernel
theorem dX1_row_10 : decode cX1_row 10 = .ok (.istore_n 2, 1) := by decide +kernel
theorem dX1_row_11 : decode cX1_row 11 = .ok (.aload_n 0, 1) := by decide +kernel
theorem dX1_row_12 : decode cX1_row 12 = .ok (.getfield 13, 3) := by decide +kernel
theorem dX1_row_15 : decode cX1_row 15 = .ok (.iload_n 2, 1) := by decide +kernel
theorem dX1_row_16 : decode cX1_row 16 = .ok (.aaload, 1) := by decide +kernel
theorem dX1_row_17 : decode cX1_row 17 = .ok (.ifnonnull 13, 3) := by decide +kernel
theorem dX1_row_20 : decode cX1_row 20 = .ok (.aload_n 0, 1) := by decide +kernel
theorem dX1_row_21 : decode cX1_row 21 = .ok (.getfield 13, 3) := by decide +kernel
theorem dX1_row_24 : decode cX1_row 24 = .ok (.iload_n 2, 1) := by decide +kernel
theorem dX1_row_25 : decode cX1_row 25 = .ok (.bipush 64, 2) := by decide +kernel
theorem dX1_row_27 : decode cX1_row 27 = .ok (.newarray .long, 2) := by decide +kernel
theorem dX1_row_29 : decode cX1_row 29 = .ok (.aastore, 1) := by decide +kernel
theorem dX1_row_30 : decode cX1_row 30 = .ok (.aload_n 0, 1) := by decide +kernel
theorem dX1_row_31 : decode cX1_row 31 = .ok (.getfield 13, 3) := by decide +kernel
theorem dX1_row_34 : decode cX1_row 34 = .ok (.iload_n 2, 1) := by decide +kernel
theorem dX1_row_35 : decode cX1_row 35 = .ok (.aaload, 1) := by decide +kernel
theorem dX1_row_36 : decode cX1_row 36 = .ok (.areturn, 1) := by decide +kernel
theorem dX2_init_0 : decode cX2_init 0 = .ok (.aload_n 0, 1) := by decide +kernel
theorem dX2_init_1 : decode cX2_init 1 = .ok (.invokespecial 3, 3) := by decide +kernel
theorem dX2_init_4 : decode cX2_init 4 = .ok (.aload_n 0, 1) := by decide +kernel
theorem dX2_init_5 : decode cX2_init 5 = .ok (.bipush 12, 2) := by decide +kernel
theorem dX2_init_7 : decode cX2_init 7 = .ok (.newarray .int, 2) := by decide +kernel
theorem dX2_init_9 : decode cX2_init 9 = .ok (.putfield 9, 3) := by decide +kernel
theorem dX2_init_12 : decode cX2_init 12 = .ok (.aload_n 0, 1) := by decide +kernel
theorem dX2_init_13 : decode cX2_init 13 = .ok (.bipush 64, 2) := by decide +kernel
theorem dX2_init_15 : decode cX2_init 15 = .ok (.newarray .int, 2) := by decide +kernel
theorem dX2_init_17 : decode cX2_init 17 = .ok (.putfield 15, 3) := by decide +kernel
theorem dX2_init_20 : decode cX2_init 20 = .ok (.aload_n 0, 1) := by decide +kernel
theorem dX2_init_21 : decode cX2_init 21 = .ok (.bipush 64, 2) := by decide +kernel
theorem dX2_init_23 : decode cX2_init 23 = .ok (.newarray .int, 2) := by decide +kernel
theorem dX2_init_25 : decode cX2_init 25 = .ok (.putfield 18, 3) := by decide +kernel
theorem dX2_init_28 : decode cX2_init 28 = .ok (.return_, 1) := by decide +kernel
theorem dX2_of_0 : decode cX2_of 0 = .ok (.aload_n 0, 1) := by decide +kernel
theorem dX2_of_1 : decode cX2_of 1 = .ok (.getfield 15, 3) := by decide +kernel
theorem dX2_of_4 : decode cX2_of 4 = .ok (.iload_n 1, 1) := by decide +kernel
theorem dX2_of_5 : decode cX2_of 5 = .ok (.bipush 63, 2) := by decide +kernel
theorem dX2_of_7 : decode cX2_of 7 = .ok (.iand, 1) := by decide +kernel
theorem dX2_of_8 : decode cX2_of 8 = .ok (.iaload, 1) := by decide +kernel
theorem dX2_of_9 : decode cX2_of 9 = .ok (.aload_n 0, 1) := by decide +kernel
theorem dX2_of_10 : decode cX2_of 10 = .ok (.getfield 18, 3) := by decide +kernel
theorem dX2_of_13 : decode cX2_of 13 = .ok (.iload_n 1, 1) := by decide +kernel
theorem dX2_of_14 : decode cX2_of 14 = .ok (.bipush 6, 2) := by decide +kernel
theorem dX2_of_16 : decode cX2_of 16 = .ok (.ishr, 1) := by decide +kernel
theorem dX2_of_17 : decode cX2_of 17 = .ok (.bipush 63, 2) := by decide +kernel
theorem dX2_of_19 : decode cX2_of 19 = .ok (.iand, 1) := by decide +kernel
theorem dX2_of_20 : decode cX2_of 20 = .ok (.iaload, 1) := by decide +kernel
theorem dX2_of_21 : decode cX2_of 21 = .ok (.iadd, 1) := by decide +kernel
theorem dX2_of_22 : decode cX2_of 22 = .ok (.ireturn, 1) := by decide +kernel
theorem dX2_rank_0 : decode cX2_rank 0 = .ok (.aload_n 0, 1) := by decide +kernel
theorem dX2_rank_1 : decode cX2_rank 1 = .ok (.iload_n 1, 1) := by decide +kernel
theorem dX2_rank_2 : decode cX2_rank 2 = .ok (.invokevirtual 21, 3) := by decide +kernel
theorem dX2_rank_5 : decode cX2_rank 5 = .ok (.sipush 12000, 3) := by decide +kernel
theorem dX2_rank_8 : decode cX2_rank 8 = .ok (.iadd, 1) := by decide +kernel
theorem dX2_rank_9 : decode cX2_rank 9 = .ok (.sipush 4096, 3) := by decide +kernel
theorem dX2_rank_12 : decode cX2_rank 12 = .ok (.imul, 1) := by decide +kernel
theorem dX2_rank_13 : decode cX2_rank 13 = .ok (.iload_n 1, 1) := by decide +kernel
theorem dX2_rank_14 : decode cX2_rank 14 = .ok (.iadd, 1) := by decide +kernel
theorem dX2_rank_15 : decode cX2_rank 15 = .ok (.ireturn, 1) := by decide +kernel
theorem dX2_replace_0 : decode cX2_replace 0 = .ok (.iload_n 1, 1) := by decide +kernel
theorem dX2_replace_1 : decode cX2_replace 1 = .ok (.ifCond .lt 9, 3) := by decide +kernel
theorem dX2_replace_4 : decode cX2_replace 4 = .ok (.iload_n 1, 1) := by decide +kernel
theorem dX2_replace_5 : decode cX2_replace 5 = .ok (.bipush 12, 2) := by decide +kernel
theorem dX2_replace_7 : decode cX2_replace 7 = .ok (.if_icmp .lt 5, 3) := by decide +kernel
theorem dX2_replace_10 : decode cX2_replace 10 = .ok (.iconst 0, 1) := by decide +kernel
theorem dX2_replace_11 : decode cX2_replace 11 = .ok (.ireturn, 1) := by decide +kernel
theorem dX2_replace_12 : decode cX2_replace 12 = .ok (.aload_n 0, 1) := by decide +kernel
theorem dX2_replace_13 : decode cX2_replace 13 = .ok (.getfield 9, 3) := by decide +kernel
theorem dX2_replace_16 : decode cX2_replace 16 = .ok (.iload_n 1, 1) := by decide +kernel
theorem dX2_replace_17 : decode cX2_replace 17 = .ok (.iaload, 1) := by decide +kernel
theorem dX2_replace_18 : decode cX2_replace 18 = .ok (.istore_n 3, 1) := by decide +kernel
theorem dX2_replace_19 : decode cX2_replace 19 = .ok (.aload_n 0, 1) := by decide +kernel
theorem dX2_replace_20 : decode cX2_replace 20 = .ok (.getfield 9, 3) := by decide +kernel
theorem dX2_replace_23 : decode cX2_replace 23 = .ok (.iload_n 1, 1) := by decide +kernel
theorem dX2_replace_24 : decode cX2_replace 24 = .ok (.iload_n 2, 1) := by decide +kernel
theorem dX2_replace_25 : decode cX2_replace 25 = .ok (.iastore, 1) := by decide +kernel
theorem dX2_replace_26 : decode cX2_replace 26 = .ok (.iload_n 1, 1) := by decide +kernel
theorem dX2_replace_27 : decode cX2_replace 27 = .ok (.bipush 6, 2) := by decide +kernel
theorem dX2_replace_29 : decode cX2_replace 29 = .ok (.if_icmp .ge 10, 3) := by decide +kernel
theorem dX2_replace_32 : decode cX2_replace 32 = .ok (.aload_n 0, 1) := by decide +kernel
theorem dX2_replace_33 : decode cX2_replace 33 = .ok (.getfield 15, 3) := by decide +kernel
theorem dX2_replace_36 : decode cX2_replace 36 = .ok (.goto 7, 3) := by decide +kernel
theorem dX2_replace_39 : decode cX2_replace 39 = .ok (.aload_n 0, 1) := by decide +kernel
theorem dX2_replace_40 : decode cX2_replace 40 = .ok (.getfield 18, 3) := by decide +kernel
theorem dX2_replace_43 : decode cX2_replace 43 = .ok (.astore 4, 2) := by decide +kernel
theorem dX2_replace_45 : decode cX2_replace 45 = .ok (.iconst 0, 1) := by decide +kernel
theorem dX2_replace_46 : decode cX2_replace 46 = .ok (.istore 5, 2) := by decide +kernel
theorem dX2_replace_48 : decode cX2_replace 48 = .ok (.iload 5, 2) := by decide +kernel
theorem dX2_replace_50 : decode cX2_replace 50 = .ok (.bipush 64, 2) := by decide +kernel
theorem dX2_replace_52 : decode cX2_replace 52 = .ok (.if_icmp .ge 32, 3) := by decide +kernel
theorem dX2_replace_55 : decode cX2_replace 55 = .ok (.iload 5, 2) := by decide +kernel
theorem dX2_replace_57 : decode cX2_replace 57 = .ok (.iload_n 1, 1) := by decide +kernel
theorem dX2_replace_58 : decode cX2_replace 58 = .ok (.bipush 6, 2) := by decide +kernel
theorem dX2_replace_60 : decode cX2_replace 60 = .ok (.irem, 1) := by decide +kernel
theorem dX2_replace_61 : decode cX2_replace 61 = .ok (.ishr, 1) := by decide +kernel
theorem dX2_replace_62 : decode cX2_replace 62 = .ok (.iconst 1, 1) := by decide +kernel
theorem dX2_replace_63 : decode cX2_replace 63 = .ok (.iand, 1) := by decide +kernel
theorem dX2_replace_64 : decode cX2_replace 64 = .ok (.ifCond .eq 14, 3) := by decide +kernel
theorem dX2_replace_67 : decode cX2_replace 67 = .ok (.aload 4, 2) := by decide +kernel
theorem dX2_replace_69 : decode cX2_replace 69 = .ok (.iload 5, 2) := by decide +kernel
theorem dX2_replace_71 : decode cX2_replace 71 = .ok (.dup2, 1) := by decide +kernel
theorem dX2_replace_72 : decode cX2_replace 72 = .ok (.iaload, 1) := by decide +kernel
theorem dX2_replace_73 : decode cX2_replace 73 = .ok (.iload_n 2, 1) := by decide +kernel
theorem dX2_replace_74 : decode cX2_replace 74 = .ok (.iload_n 3, 1) := by decide +kernel
theorem dX2_replace_75 : decode cX2_replace 75 = .ok (.isub, 1) := by decide +kernel
theorem dX2_replace_76 : decode cX2_replace 76 = .ok (.iadd, 1) := by decide +kernel
theorem dX2_replace_77 : decode cX2_replace 77 = .ok (.iastore, 1) := by decide +kernel
theorem dX2_replace_78 : decode cX2_replace 78 = .ok (.iinc 5 1, 3) := by decide +kernel
theorem dX2_replace_81 : decode cX2_replace 81 = .ok (.goto (-33), 3) := by decide +kernel
theorem dX2_replace_84 : decode cX2_replace 84 = .ok (.iload_n 3, 1) := by decide +kernel
theorem dX2_replace_85 : decode cX2_replace 85 = .ok (.ireturn, 1) := by decide +kernel
theorem dX3_init_0 : decode cX3_init 0 = .ok (.aload_n 0, 1) := by decide +kernel
theorem dX3_init_1 : decode cX3_init 1 = .ok (.invokespecial 3, 3) := by decide +kernel
theorem dX3_init_4 : decode cX3_init 4 = .ok (.aload_n 0, 1) := by decide +kernel
theorem dX3_init_5 : decode cX3_init 5 = .ok (.bipush 64, 2) := by decide +kernel
theorem dX3_init_7 : decode cX3_init 7 = .ok (.newarray .long, 2) := by decide +kernel
theorem dX3_init_9 : decode cX3_init 9 = .ok (.putfield 11, 3) := by decide +kernel
theorem dX3_init_12 : decode cX3_init 12 = .ok (.aload_n 0, 1) := by decide +kernel
theorem dX3_init_13 : decode cX3_init 13 = .ok (.bipush 64, 2) := by decide +kernel
theorem dX3_init_15 : decode cX3_init 15 = .ok (.newarray .int, 2) := by decide +kernel
theorem dX3_init_17 : decode cX3_init 17 = .ok (.putfield 15, 3) := by decide +kernel
theorem dX3_init_20 : decode cX3_init 20 = .ok (.aload_n 0, 1) := by decide +kernel
theorem dX3_init_21 : decode cX3_init 21 = .ok (.bipush 64, 2) := by decide +kernel
theorem dX3_init_23 : decode cX3_init 23 = .ok (.newarray .int, 2) := by decide +kernel
theorem dX3_init_25 : decode cX3_init 25 = .ok (.putfield 19, 3) := by decide +kernel
theorem dX3_init_28 : decode cX3_init 28 = .ok (.aload_n 0, 1) := by decide +kernel
theorem dX3_init_29 : decode cX3_init 29 = .ok (.sipush 128, 3) := by decide +kernel
theorem dX3_init_32 : decode cX3_init 32 = .ok (.newarray .int, 2) := by decide +kernel
theorem dX3_init_34 : decode cX3_init 34 = .ok (.putfield 22, 3) := by decide +kernel
theorem dX3_init_37 : decode cX3_init 37 = .ok (.aload_n 0, 1) := by decide +kernel
theorem dX3_init_38 : decode cX3_init 38 = .ok (.iconst 2, 1) := by decide +kernel
theorem dX3_init_39 : decode cX3_init 39 = .ok (.putfield 25, 3) := by decide +kernel
theorem dX3_init_42 : decode cX3_init 42 = .ok (.aload_n 0, 1) := by decide +kernel
theorem dX3_init_43 : decode cX3_init 43 = .ok (.iconst 0, 1) := by decide +kernel
theorem dX3_init_44 : decode cX3_init 44 = .ok (.putfield 29, 3) := by decide +kernel
theorem dX3_init_47 : decode cX3_init 47 = .ok (.aload_n 0, 1) := by decide +kernel
theorem dX3_init_48 : decode cX3_init 48 = .ok (.iconst 0, 1) := by decide +kernel
theorem dX3_init_49 : decode cX3_init 49 = .ok (.putfield 32, 3) := by decide +kernel
theorem dX3_init_52 : decode cX3_init 52 = .ok (.aload_n 0, 1) := by decide +kernel
theorem dX3_init_53 : decode cX3_init 53 = .ok (.aload_n 1, 1) := by decide +kernel
theorem dX3_init_54 : decode cX3_init 54 = .ok (.putfield 35, 3) := by decide +kernel
theorem dX3_init_57 : decode cX3_init 57 = .ok (.return_, 1) := by decide +kernel
theorem dX3_visit_0 : decode cX3_visit 0 = .ok (.aload_n 1, 1) := by decide +kernel
theorem dX3_visit_1 : decode cX3_visit 1 = .ok (.invokestatic 38, 3) := by decide +kernel
theorem dX3_visit_4 : decode cX3_visit 4 = .ok (.istore_n 3, 1) := by decide +kernel
theorem dX3_visit_5 : decode cX3_visit 5 = .ok (.iconst 0, 1) := by decide +kernel
theorem dX3_visit_6 : decode cX3_visit 6 = .ok (.istore 4, 2) := by decide +kernel
theorem dX3_visit_8 : decode cX3_visit 8 = .ok (.iload 4, 2) := by decide +kernel
theorem dX3_visit_10 : decode cX3_visit 10 = .ok (.iload_n 3, 1) := by decide +kernel
theorem dX3_visit_11 : decode cX3_visit 11 = .ok (.if_icmp .ge 40, 3) := by decide +kernel
theorem dX3_visit_14 : decode cX3_visit 14 = .ok (.iload 4, 2) := by decide +kernel
theorem dX3_visit_16 : decode cX3_visit 16 = .ok (.aload_n 0, 1) := by decide +kernel
theorem dX3_visit_17 : decode cX3_visit 17 = .ok (.getfield 35, 3) := by decide +kernel
theorem dX3_visit_20 : decode cX3_visit 20 = .ok (.arraylength, 1) := by decide +kernel
theorem dX3_visit_21 : decode cX3_visit 21 = .ok (.if_icmp .ge 30, 3) := by decide +kernel
theorem dX3_visit_24 : decode cX3_visit 24 = .ok (.aload_n 0, 1) := by decide +kernel
theorem dX3_visit_25 : decode cX3_visit 25 = .ok (.getfield 35, 3) := by decide +kernel
theorem dX3_visit_28 : decode cX3_visit 28 = .ok (.iload 4, 2) := by decide +kernel
theorem dX3_visit_30 : decode cX3_visit 30 = .ok (.aload_n 1, 1) := by decide +kernel
theorem dX3_visit_31 : decode cX3_visit 31 = .ok (.iload 4, 2) := by decide +kernel
theorem dX3_visit_33 : decode cX3_visit 33 = .ok (.invokestatic 44, 3) := by decide +kernel
theorem dX3_visit_36 : decode cX3_visit 36 = .ok (.ifCond .eq 7, 3) := by decide +kernel
theorem dX3_visit_39 : decode cX3_visit 39 = .ok (.iconst 1, 1) := by decide +kernel
theorem dX3_visit_40 : decode cX3_visit 40 = .ok (.goto 4, 3) := by decide +kernel
theorem dX3_visit_43 : decode cX3_visit 43 = .ok (.iconst 0, 1) := by decide +kernel
theorem dX3_visit_44 : decode cX3_visit 44 = .ok (.iastore, 1) := by decide +kernel
theorem dX3_visit_45 : decode cX3_visit 45 = .ok (.iinc 4 1, 3) := by decide +kernel
theorem dX3_visit_48 : decode cX3_visit 48 = .ok (.goto (-40), 3) := by decide +kernel
theorem dX3_visit_51 : decode cX3_visit 51 = .ok (.aload_n 0, 1) := by decide +kernel
theorem dX3_visit_52 : decode cX3_visit 52 = .ok (.dup, 1) := by decide +kernel
theorem dX3_visit_53 : decode cX3_visit 53 = .ok (.getfield 29, 3) := by decide +kernel
theorem dX3_visit_56 : decode cX3_visit 56 = .ok (.iconst 1, 1) := by decide +kernel
theorem dX3_visit_57 : decode cX3_visit 57 = .ok (.iadd, 1) := by decide +kernel
theorem dX3_visit_58 : decode cX3_visit 58 = .ok (.putfield 29, 3) := by decide +kernel
theorem dX3_visit_61 : decode cX3_visit 61 = .ok (.iconst 0, 1) := by decide +kernel
theorem dX3_visit_62 : decode cX3_visit 62 = .ok (.istore 4, 2) := by decide +kernel
theorem dX3_visit_64 : decode cX3_visit 64 = .ok (.bipush 11, 2) := by decide +kernel
theorem dX3_visit_66 : decode cX3_visit 66 = .ok (.istore 5, 2) := by decide +kernel
theorem dX3_visit_68 : decode cX3_visit 68 = .ok (.iload 5, 2) := by decide +kernel
theorem dX3_visit_70 : decode cX3_visit 70 = .ok (.ifCond .lt 99, 3) := by decide +kernel
theorem dX3_visit_73 : decode cX3_visit 73 = .ok (.iconst 1, 1) := by decide +kernel
theorem dX3_visit_74 : decode cX3_visit 74 = .ok (.iload 5, 2) := by decide +kernel
theorem dX3_visit_76 : decode cX3_visit 76 = .ok (.ishl, 1) := by decide +kernel
theorem dX3_visit_77 : decode cX3_visit 77 = .ok (.istore 6, 2) := by decide +kernel
theorem dX3_visit_79 : decode cX3_visit 79 = .ok (.iconst 0, 1) := by decide +kernel
theorem dX3_visit_80 : decode cX3_visit 80 = .ok (.istore 7, 2) := by decide +kernel
theorem dX3_visit_82 : decode cX3_visit 82 = .ok (.iload 7, 2) := by decide +kernel
theorem dX3_visit_84 : decode cX3_visit 84 = .ok (.iload 6, 2) := by decide +kernel
theorem dX3_visit_86 : decode cX3_visit 86 = .ok (.iadd, 1) := by decide +kernel
theorem dX3_visit_87 : decode cX3_visit 87 = .ok (.iload_n 3, 1) := by decide +kernel
theorem dX3_visit_88 : decode cX3_visit 88 = .ok (.if_icmp .ge 75, 3) := by decide +kernel
theorem dX3_visit_91 : decode cX3_visit 91 = .ok (.iload 7, 2) := by decide +kernel
theorem dX3_visit_93 : decode cX3_visit 93 = .ok (.iload 6, 2) := by decide +kernel
theorem dX3_visit_95 : decode cX3_visit 95 = .ok (.if_icmp .ge 68, 3) := by decide +kernel
theorem dX3_visit_98 : decode cX3_visit 98 = .ok (.aload_n 0, 1) := by decide +kernel
theorem dX3_visit_99 : decode cX3_visit 99 = .ok (.getfield 35, 3) := by decide +kernel
theorem dX3_visit_102 : decode cX3_visit 102 = .ok (.iload 7, 2) := by decide +kernel
theorem dX3_visit_104 : decode cX3_visit 104 = .ok (.iload 6, 2) := by decide +kernel
theorem dX3_visit_106 : decode cX3_visit 106 = .ok (.iadd, 1) := by decide +kernel
theorem dX3_visit_107 : decode cX3_visit 107 = .ok (.iaload, 1) := by decide +kernel
theorem dX3_visit_108 : decode cX3_visit 108 = .ok (.ifCond .eq 49, 3) := by decide +kernel
theorem dX3_visit_111 : decode cX3_visit 111 = .ok (.aload_n 0, 1) := by decide +kernel
theorem dX3_visit_112 : decode cX3_visit 112 = .ok (.iload 5, 2) := by decide +kernel
theorem dX3_visit_114 : decode cX3_visit 114 = .ok (.aload_n 0, 1) := by decide +kernel
theorem dX3_visit_115 : decode cX3_visit 115 = .ok (.getfield 35, 3) := by decide +kernel
theorem dX3_visit_118 : decode cX3_visit 118 = .ok (.iload 7, 2) := by decide +kernel
theorem dX3_visit_120 : decode cX3_visit 120 = .ok (.iaload, 1) := by decide +kernel
theorem dX3_visit_121 : decode cX3_visit 121 = .ok (.aload_n 0, 1) := by decide +kernel
theorem dX3_visit_122 : decode cX3_visit 122 = .ok (.getfield 35, 3) := by decide +kernel
theorem dX3_visit_125 : decode cX3_visit 125 = .ok (.iload 7, 2) := by decide +kernel
theorem dX3_visit_127 : decode cX3_visit 127 = .ok (.iload 6, 2) := by decide +kernel
theorem dX3_visit_129 : decode cX3_visit 129 = .ok (.iadd, 1) := by decide +kernel
theorem dX3_visit_130 : decode cX3_visit 130 = .ok (.iaload, 1) := by decide +kernel
theorem dX3_visit_131 : decode cX3_visit 131 = .ok (.invokevirtual 48, 3) := by decide +kernel
theorem dX3_visit_134 : decode cX3_visit 134 = .ok (.istore 8, 2) := by decide +kernel
theorem dX3_visit_136 : decode cX3_visit 136 = .ok (.aload_n 0, 1) := by decide +kernel
theorem dX3_visit_137 : decode cX3_visit 137 = .ok (.getfield 35, 3) := by decide +kernel
theorem dX3_visit_140 : decode cX3_visit 140 = .ok (.iload 7, 2) := by decide +kernel
theorem dX3_visit_142 : decode cX3_visit 142 = .ok (.iload 8, 2) := by decide +kernel
theorem dX3_visit_144 : decode cX3_visit 144 = .ok (.iastore, 1) := by decide +kernel
theorem dX3_visit_145 : decode cX3_visit 145 = .ok (.iload 4, 2) := by decide +kernel
theorem dX3_visit_147 : decode cX3_visit 147 = .ok (.aload_n 0, 1) := by decide +kernel
theorem dX3_visit_148 : decode cX3_visit 148 = .ok (.iload 8, 2) := by decide +kernel
theorem dX3_visit_150 : decode cX3_visit 150 = .ok (.iload_n 2, 1) := by decide +kernel
theorem dX3_visit_151 : decode cX3_visit 151 = .ok (.invokevirtual 52, 3) := by decide +kernel
theorem dX3_visit_154 : decode cX3_visit 154 = .ok (.iadd, 1) := by decide +kernel
theorem dX3_visit_155 : decode cX3_visit 155 = .ok (.istore 4, 2) := by decide +kernel
theorem dX3_visit_157 : decode cX3_visit 157 = .ok (.iinc 7 1, 3) := by decide +kernel
theorem dX3_visit_160 : decode cX3_visit 160 = .ok (.goto (-78), 3) := by decide +kernel
theorem dX3_visit_163 : decode cX3_visit 163 = .ok (.iinc 5 (-1), 3) := by decide +kernel
theorem dX3_visit_166 : decode cX3_visit 166 = .ok (.goto (-98), 3) := by decide +kernel
theorem dX3_visit_169 : decode cX3_visit 169 = .ok (.iload 4, 2) := by decide +kernel
theorem dX3_visit_171 : decode cX3_visit 171 = .ok (.ireturn, 1) := by decide +kernel
theorem dX3_mark_0 : decode cX3_mark 0 = .ok (.iload_n 1, 1) := by decide +kernel
theorem dX3_mark_1 : decode cX3_mark 1 = .ok (.ifCond .lt 34, 3) := by decide +kernel
theorem dX3_mark_4 : decode cX3_mark 4 = .ok (.iload_n 1, 1) := by decide +kernel
theorem dX3_mark_5 : decode cX3_mark 5 = .ok (.aload_n 0, 1) := by decide +kernel
theorem dX3_mark_6 : decode cX3_mark 6 = .ok (.getfield 19, 3) := by decide +kernel
theorem dX3_mark_9 : decode cX3_mark 9 = .ok (.arraylength, 1) := by decide +kernel
theorem dX3_mark_10 : decode cX3_mark 10 = .ok (.if_icmp .ge 25, 3) := by decide +kernel
theorem dX3_mark_13 : decode cX3_mark 13 = .ok (.iload_n 1, 1) := by decide +kernel
theorem dX3_mark_14 : decode cX3_mark 14 = .ok (.aload_n 0, 1) := by decide +kernel
theorem dX3_mark_15 : decode cX3_mark 15 = .ok (.getfield 15, 3) := by decide +kernel
theorem dX3_mark_18 : decode cX3_mark 18 = .ok (.arraylength, 1) := by decide +kernel
theorem dX3_mark_19 : decode cX3_mark 19 = .ok (.if_icmp .ge 16, 3) := by decide +kernel
theorem dX3_mark_22 : decode cX3_mark 22 = .ok (.aload_n 0, 1) := by decide +kernel
theorem dX3_mark_23 : decode cX3_mark 23 = .ok (.getfield 19, 3) := by decide +kernel
theorem dX3_mark_26 : decode cX3_mark 26 = .ok (.iload_n 1, 1) := by decide +kernel
theorem dX3_mark_27 : decode cX3_mark 27 = .ok (.iaload, 1) := by decide +kernel
theorem dX3_mark_28 : decode cX3_mark 28 = .ok (.aload_n 0, 1) := by decide +kernel
theorem dX3_mark_29 : decode cX3_mark 29 = .ok (.getfield 29, 3) := by decide +kernel
theorem dX3_mark_32 : decode cX3_mark 32 = .ok (.if_icmp .ne 5, 3) := by decide +kernel
theorem dX3_mark_35 : decode cX3_mark 35 = .ok (.iconst 0, 1) := by decide +kernel
theorem dX3_mark_36 : decode cX3_mark 36 = .ok (.ireturn, 1) := by decide +kernel
theorem dX3_mark_37 : decode cX3_mark 37 = .ok (.aload_n 0, 1) := by decide +kernel
theorem dX3_mark_38 : decode cX3_mark 38 = .ok (.getfield 19, 3) := by decide +kernel
theorem dX3_mark_41 : decode cX3_mark 41 = .ok (.iload_n 1, 1) := by decide +kernel
theorem dX3_mark_42 : decode cX3_mark 42 = .ok (.aload_n 0, 1) := by decide +kernel
theorem dX3_mark_43 : decode cX3_mark 43 = .ok (.getfield 29, 3) := by decide +kernel
theorem dX3_mark_46 : decode cX3_mark 46 = .ok (.iastore, 1) := by decide +kernel
theorem dX3_mark_47 : decode cX3_mark 47 = .ok (.aload_n 0, 1) := by decide +kernel
theorem dX3_mark_48 : decode cX3_mark 48 = .ok (.getfield 15, 3) := by decide +kernel
theorem dX3_mark_51 : decode cX3_mark 51 = .ok (.iload_n 1, 1) := by decide +kernel
theorem dX3_mark_52 : decode cX3_mark 52 = .ok (.iaload, 1) := by decide +kernel
theorem dX3_mark_53 : decode cX3_mark 53 = .ok (.ifCond .le 7, 3) := by decide +kernel
theorem dX3_mark_56 : decode cX3_mark 56 = .ok (.iconst 1, 1) := by decide +kernel
theorem dX3_mark_57 : decode cX3_mark 57 = .ok (.goto 4, 3) := by decide +kernel
theorem dX3_mark_60 : decode cX3_mark 60 = .ok (.iconst 0, 1) := by decide +kernel
theorem dX3_mark_61 : decode cX3_mark 61 = .ok (.istore_n 3, 1) := by decide +kernel
theorem dX3_mark_62 : decode cX3_mark 62 = .ok (.aload_n 0, 1) := by decide +kernel
theorem dX3_mark_63 : decode cX3_mark 63 = .ok (.getfield 15, 3) := by decide +kernel
theorem dX3_mark_66 : decode cX3_mark 66 = .ok (.iload_n 1, 1) := by decide +kernel
theorem dX3_mark_67 : decode cX3_mark 67 = .ok (.dup2, 1) := by decide +kernel
theorem dX3_mark_68 : decode cX3_mark 68 = .ok (.iaload, 1) := by decide +kernel
theorem dX3_mark_69 : decode cX3_mark 69 = .ok (.iload_n 2, 1) := by decide +kernel
theorem dX3_mark_70 : decode cX3_mark 70 = .ok (.iadd, 1) := by decide +kernel
theorem dX3_mark_71 : decode cX3_mark 71 = .ok (.iastore, 1) := by decide +kernel
theorem dX3_mark_72 : decode cX3_mark 72 = .ok (.aload_n 0, 1) := by decide +kernel
theorem dX3_mark_73 : decode cX3_mark 73 = .ok (.getfield 15, 3) := by decide +kernel
theorem dX3_mark_76 : decode cX3_mark 76 = .ok (.iload_n 1, 1) := by decide +kernel
theorem dX3_mark_77 : decode cX3_mark 77 = .ok (.iaload, 1) := by decide +kernel
theorem dX3_mark_78 : decode cX3_mark 78 = .ok (.ifCond .le 7, 3) := by decide +kernel
theorem dX3_mark_81 : decode cX3_mark 81 = .ok (.iconst 1, 1) := by decide +kernel
theorem dX3_mark_82 : decode cX3_mark 82 = .ok (.goto 4, 3) := by decide +kernel
theorem dX3_mark_85 : decode cX3_mark 85 = .ok (.iconst 0, 1) := by decide +kernel
theorem dX3_mark_86 : decode cX3_mark 86 = .ok (.istore 4, 2) := by decide +kernel
theorem dX3_mark_88 : decode cX3_mark 88 = .ok (.iload 4, 2) := by decide +kernel
theorem dX3_mark_90 : decode cX3_mark 90 = .ok (.iload_n 3, 1) := by decide +kernel
theorem dX3_mark_91 : decode cX3_mark 91 = .ok (.if_icmp .eq 13, 3) := by decide +kernel
theorem dX3_mark_94 : decode cX3_mark 94 = .ok (.aload_n 0, 1) := by decide +kernel
theorem dX3_mark_95 : decode cX3_mark 95 = .ok (.dup, 1) := by decide +kernel
theorem dX3_mark_96 : decode cX3_mark 96 = .ok (.getfield 32, 3) := by decide +kernel
theorem dX3_mark_99 : decode cX3_mark 99 = .ok (.iload_n 2, 1) := by decide +kernel
theorem dX3_mark_100 : decode cX3_mark 100 = .ok (.iadd, 1) := by decide +kernel
theorem dX3_mark_101 : decode cX3_mark 101 = .ok (.putfield 32, 3) := by decide +kernel
theorem dX3_mark_104 : decode cX3_mark 104 = .ok (.iconst 1, 1) := by decide +kernel
theorem dX3_mark_105 : decode cX3_mark 105 = .ok (.ireturn, 1) := by decide +kernel
theorem dX3_numberOf_0 : decode cX3_numberOf 0 = .ok (.aload_n 0, 1) := by decide +kernel
theorem dX3_numberOf_1 : decode cX3_numberOf 1 = .ok (.getfield 25, 3) := by decide +kernel
theorem dX3_numberOf_4 : decode cX3_numberOf 4 = .ok (.aload_n 0, 1) := by decide +kernel
theorem dX3_numberOf_5 : decode cX3_numberOf 5 = .ok (.getfield 11, 3) := by decide +kernel
theorem dX3_numberOf_8 : decode cX3_numberOf 8 = .ok (.arraylength, 1) := by decide +kernel
theorem dX3_numberOf_9 : decode cX3_numberOf 9 = .ok (.if_icmp .lt 7, 3) := by decide +kernel
theorem dX3_numberOf_12 : decode cX3_numberOf 12 = .ok (.aload_n 0, 1) := by decide +kernel
theorem dX3_numberOf_13 : decode cX3_numberOf 13 = .ok (.invokevirtual 56, 3) := by decide +kernel
theorem dX3_numberOf_16 : decode cX3_numberOf 16 = .ok (.iload_n 1, 1) := by decide +kernel
theorem dX3_numberOf_17 : decode cX3_numberOf 17 = .ok (.i2l, 1) := by decide +kernel
theorem dX3_numberOf_18 : decode cX3_numberOf 18 = .ok (.bipush 20, 2) := by decide +kernel
theorem dX3_numberOf_20 : decode cX3_numberOf 20 = .ok (.lshl, 1) := by decide +kernel
theorem dX3_numberOf_21 : decode cX3_numberOf 21 = .ok (.iload_n 2, 1) := by decide +kernel
theorem dX3_numberOf_22 : decode cX3_numberOf 22 = .ok (.i2l, 1) := by decide +kernel
theorem dX3_numberOf_23 : decode cX3_numberOf 23 = .ok (.lor, 1) := by decide +kernel
theorem dX3_numberOf_24 : decode cX3_numberOf 24 = .ok (.bipush 20, 2) := by decide +kernel
theorem dX3_numberOf_26 : decode cX3_numberOf 26 = .ok (.lshl, 1) := by decide +kernel
theorem dX3_numberOf_27 : decode cX3_numberOf 27 = .ok (.iload_n 3, 1) := by decide +kernel
theorem dX3_numberOf_28 : decode cX3_numberOf 28 = .ok (.i2l, 1) := by decide +kernel
theorem dX3_numberOf_29 : decode cX3_numberOf 29 = .ok (.lor, 1) := by decide +kernel
theorem dX3_numberOf_30 : decode cX3_numberOf 30 = .ok (.lstore 4, 2) := by decide +kernel
theorem dX3_numberOf_32 : decode cX3_numberOf 32 = .ok (.aload_n 0, 1) := by decide +kernel
theorem dX3_numberOf_33 : decode cX3_numberOf 33 = .ok (.lload 4, 2) := by decide +kernel
theorem dX3_numberOf_35 : decode cX3_numberOf 35 = .ok (.invokevirtual 59, 3) := by decide +kernel
theorem dX3_numberOf_38 : decode cX3_numberOf 38 = .ok (.istore 6, 2) := by decide +kernel
theorem dX3_numberOf_40 : decode cX3_numberOf 40 = .ok (.aload_n 0, 1) := by decide +kernel
theorem dX3_numberOf_41 : decode cX3_numberOf 41 = .ok (.getfield 22, 3) := by decide +kernel
theorem dX3_numberOf_44 : decode cX3_numberOf 44 = .ok (.iload 6, 2) := by decide +kernel
theorem dX3_numberOf_46 : decode cX3_numberOf 46 = .ok (.iaload, 1) := by decide +kernel
theorem dX3_numberOf_47 : decode cX3_numberOf 47 = .ok (.ifCond .ne 35, 3) := by decide +kernel
theorem dX3_numberOf_50 : decode cX3_numberOf 50 = .ok (.aload_n 0, 1) := by decide +kernel
theorem dX3_numberOf_51 : decode cX3_numberOf 51 = .ok (.getfield 11, 3) := by decide +kernel
theorem dX3_numberOf_54 : decode cX3_numberOf 54 = .ok (.aload_n 0, 1) := by decide +kernel
theorem dX3_numberOf_55 : decode cX3_numberOf 55 = .ok (.getfield 25, 3) := by decide +kernel
theorem dX3_numberOf_58 : decode cX3_numberOf 58 = .ok (.lload 4, 2) := by decide +kernel
theorem dX3_numberOf_60 : decode cX3_numberOf 60 = .ok (.lastore, 1) := by decide +kernel
theorem dX3_numberOf_61 : decode cX3_numberOf 61 = .ok (.aload_n 0, 1) := by decide +kernel
theorem dX3_numberOf_62 : decode cX3_numberOf 62 = .ok (.getfield 22, 3) := by decide +kernel
theorem dX3_numberOf_65 : decode cX3_numberOf 65 = .ok (.iload 6, 2) := by decide +kernel
theorem dX3_numberOf_67 : decode cX3_numberOf 67 = .ok (.aload_n 0, 1) := by decide +kernel
theorem dX3_numberOf_68 : decode cX3_numberOf 68 = .ok (.getfield 25, 3) := by decide +kernel
theorem dX3_numberOf_71 : decode cX3_numberOf 71 = .ok (.iastore, 1) := by decide +kernel
theorem dX3_numberOf_72 : decode cX3_numberOf 72 = .ok (.aload_n 0, 1) := by decide +kernel
theorem dX3_numberOf_73 : decode cX3_numberOf 73 = .ok (.dup, 1) := by decide +kernel
theorem dX3_numberOf_74 : decode cX3_numberOf 74 = .ok (.getfield 25, 3) := by decide +kernel
theorem dX3_numberOf_77 : decode cX3_numberOf 77 = .ok (.iconst 1, 1) := by decide +kernel
theorem dX3_numberOf_78 : decode cX3_numberOf 78 = .ok (.iadd, 1) := by decide +kernel
theorem dX3_numberOf_79 : decode cX3_numberOf 79 = .ok (.putfield 25, 3) := by decide +kernel
theorem dX3_numberOf_82 : decode cX3_numberOf 82 = .ok (.aload_n 0, 1) := by decide +kernel
theorem dX3_numberOf_83 : decode cX3_numberOf 83 = .ok (.getfield 22, 3) := by decide +kernel
theorem dX3_numberOf_86 : decode cX3_numberOf 86 = .ok (.iload 6, 2) := by decide +kernel
theorem dX3_numberOf_88 : decode cX3_numberOf 88 = .ok (.iaload, 1) := by decide +kernel
theorem dX3_numberOf_89 : decode cX3_numberOf 89 = .ok (.ireturn, 1) := by decide +kernel
theorem dX3_placeOf_0 : decode cX3_placeOf 0 = .ok (.aload_n 0, 1) := by decide +kernel
theorem dX3_placeOf_1 : decode cX3_placeOf 1 = .ok (.getfield 22, 3) := by decide +kernel
theorem dX3_placeOf_4 : decode cX3_placeOf 4 = .ok (.arraylength, 1) := by decide +kernel
theorem dX3_placeOf_5 : decode cX3_placeOf 5 = .ok (.iconst 1, 1) := by decide +kernel
theorem dX3_placeOf_6 : decode cX3_placeOf 6 = .ok (.isub, 1) := by decide +kernel
theorem dX3_placeOf_7 : decode cX3_placeOf 7 = .ok (.istore_n 3, 1) := by decide +kernel
theorem dX3_placeOf_8 : decode cX3_placeOf 8 = .ok (.lload_n 1, 1) := by decide +kernel
theorem dX3_placeOf_9 : decode cX3_placeOf 9 = .ok (.ldc2_w 63, 3) := by decide +kernel
theorem dX3_placeOf_12 : decode cX3_placeOf 12 = .ok (.lmul, 1) := by decide +kernel
theorem dX3_placeOf_13 : decode cX3_placeOf 13 = .ok (.bipush 40, 2) := by decide +kernel
theorem dX3_placeOf_15 : decode cX3_placeOf 15 = .ok (.lushr, 1) := by decide +kernel
theorem dX3_placeOf_16 : decode cX3_placeOf 16 = .ok (.l2i, 1) := by decide +kernel
theorem dX3_placeOf_17 : decode cX3_placeOf 17 = .ok (.iload_n 3, 1) := by decide +kernel
theorem dX3_placeOf_18 : decode cX3_placeOf 18 = .ok (.iand, 1) := by decide +kernel
theorem dX3_placeOf_19 : decode cX3_placeOf 19 = .ok (.istore 4, 2) := by decide +kernel
theorem dX3_placeOf_21 : decode cX3_placeOf 21 = .ok (.iconst 0, 1) := by decide +kernel
theorem dX3_placeOf_22 : decode cX3_placeOf 22 = .ok (.istore 5, 2) := by decide +kernel
theorem dX3_placeOf_24 : decode cX3_placeOf 24 = .ok (.iload 5, 2) := by decide +kernel
theorem dX3_placeOf_26 : decode cX3_placeOf 26 = .ok (.iload_n 3, 1) := by decide +kernel
theorem dX3_placeOf_27 : decode cX3_placeOf 27 = .ok (.if_icmp .gt 46, 3) := by decide +kernel
theorem dX3_placeOf_30 : decode cX3_placeOf 30 = .ok (.aload_n 0, 1) := by decide +kernel
theorem dX3_placeOf_31 : decode cX3_placeOf 31 = .ok (.getfield 22, 3) := by decide +kernel
theorem dX3_placeOf_34 : decode cX3_placeOf 34 = .ok (.iload 4, 2) := by decide +kernel
theorem dX3_placeOf_36 : decode cX3_placeOf 36 = .ok (.iaload, 1) := by decide +kernel
theorem dX3_placeOf_37 : decode cX3_placeOf 37 = .ok (.istore 6, 2) := by decide +kernel
theorem dX3_placeOf_39 : decode cX3_placeOf 39 = .ok (.iload 6, 2) := by decide +kernel
theorem dX3_placeOf_41 : decode cX3_placeOf 41 = .ok (.ifCond .eq 15, 3) := by decide +kernel
theorem dX3_placeOf_44 : decode cX3_placeOf 44 = .ok (.aload_n 0, 1) := by decide +kernel
theorem dX3_placeOf_45 : decode cX3_placeOf 45 = .ok (.getfield 11, 3) := by decide +kernel
theorem dX3_placeOf_48 : decode cX3_placeOf 48 = .ok (.iload 6, 2) := by decide +kernel
theorem dX3_placeOf_50 : decode cX3_placeOf 50 = .ok (.laload, 1) := by decide +kernel
theorem dX3_placeOf_51 : decode cX3_placeOf 51 = .ok (.lload_n 1, 1) := by decide +kernel
theorem dX3_placeOf_52 : decode cX3_placeOf 52 = .ok (.lcmp, 1) := by decide +kernel
theorem dX3_placeOf_53 : decode cX3_placeOf 53 = .ok (.ifCond .ne 6, 3) := by decide +kernel
theorem dX3_placeOf_56 : decode cX3_placeOf 56 = .ok (.iload 4, 2) := by decide +kernel
theorem dX3_placeOf_58 : decode cX3_placeOf 58 = .ok (.ireturn, 1) := by decide +kernel
theorem dX3_placeOf_59 : decode cX3_placeOf 59 = .ok (.iload 4, 2) := by decide +kernel
theorem dX3_placeOf_61 : decode cX3_placeOf 61 = .ok (.iconst 1, 1) := by decide +kernel
theorem dX3_placeOf_62 : decode cX3_placeOf 62 = .ok (.iadd, 1) := by decide +kernel
theorem dX3_placeOf_63 : decode cX3_placeOf 63 = .ok (.iload_n 3, 1) := by decide +kernel
theorem dX3_placeOf_64 : decode cX3_placeOf 64 = .ok (.iand, 1) := by decide +kernel
theorem dX3_placeOf_65 : decode cX3_placeOf 65 = .ok (.istore 4, 2) := by decide +kernel
theorem dX3_placeOf_67 : decode cX3_placeOf 67 = .ok (.iinc 5 1, 3) := by decide +kernel
theorem dX3_placeOf_70 : decode cX3_placeOf 70 = .ok (.goto (-46), 3) := by decide +kernel
theorem dX3_placeOf_73 : decode cX3_placeOf 73 = .ok (.iload 4, 2) := by decide +kernel
theorem dX3_placeOf_75 : decode cX3_placeOf 75 = .ok (.ireturn, 1) := by decide +kernel
theorem dX3_enlarge_0 : decode cX3_enlarge 0 = .ok (.iconst 2, 1) := by decide +kernel
theorem dX3_enlarge_1 : decode cX3_enlarge 1 = .ok (.aload_n 0, 1) := by decide +kernel
theorem dX3_enlarge_2 : decode cX3_enlarge 2 = .ok (.getfield 11, 3) := by decide +kernel
theorem dX3_enlarge_5 : decode cX3_enlarge 5 = .ok (.arraylength, 1) := by decide +kernel
theorem dX3_enlarge_6 : decode cX3_enlarge 6 = .ok (.imul, 1) := by decide +kernel
theorem dX3_enlarge_7 : decode cX3_enlarge 7 = .ok (.istore_n 1, 1) := by decide +kernel
theorem dX3_enlarge_8 : decode cX3_enlarge 8 = .ok (.aload_n 0, 1) := by decide +kernel
theorem dX3_enlarge_9 : decode cX3_enlarge 9 = .ok (.aload_n 0, 1) := by decide +kernel
theorem dX3_enlarge_10 : decode cX3_enlarge 10 = .ok (.getfield 11, 3) := by decide +kernel
theorem dX3_enlarge_13 : decode cX3_enlarge 13 = .ok (.iload_n 1, 1) := by decide +kernel
theorem dX3_enlarge_14 : decode cX3_enlarge 14 = .ok (.invokestatic 65, 3) := by decide +kernel
theorem dX3_enlarge_17 : decode cX3_enlarge 17 = .ok (.putfield 11, 3) := by decide +kernel
theorem dX3_enlarge_20 : decode cX3_enlarge 20 = .ok (.aload_n 0, 1) := by decide +kernel
theorem dX3_enlarge_21 : decode cX3_enlarge 21 = .ok (.aload_n 0, 1) := by decide +kernel
theorem dX3_enlarge_22 : decode cX3_enlarge 22 = .ok (.getfield 15, 3) := by decide +kernel
theorem dX3_enlarge_25 : decode cX3_enlarge 25 = .ok (.iload_n 1, 1) := by decide +kernel
theorem dX3_enlarge_26 : decode cX3_enlarge 26 = .ok (.invokestatic 71, 3) := by decide +kernel
theorem dX3_enlarge_29 : decode cX3_enlarge 29 = .ok (.putfield 15, 3) := by decide +kernel
theorem dX3_enlarge_32 : decode cX3_enlarge 32 = .ok (.aload_n 0, 1) := by decide +kernel
theorem dX3_enlarge_33 : decode cX3_enlarge 33 = .ok (.aload_n 0, 1) := by decide +kernel
theorem dX3_enlarge_34 : decode cX3_enlarge 34 = .ok (.getfield 19, 3) := by decide +kernel
theorem dX3_enlarge_37 : decode cX3_enlarge 37 = .ok (.iload_n 1, 1) := by decide +kernel
theorem dX3_enlarge_38 : decode cX3_enlarge 38 = .ok (.invokestatic 71, 3) := by decide +kernel
theorem dX3_enlarge_41 : decode cX3_enlarge 41 = .ok (.putfield 19, 3) := by decide +kernel
theorem dX3_enlarge_44 : decode cX3_enlarge 44 = .ok (.aload_n 0, 1) := by decide +kernel
theorem dX3_enlarge_45 : decode cX3_enlarge 45 = .ok (.iconst 2, 1) := by decide +kernel
theorem dX3_enlarge_46 : decode cX3_enlarge 46 = .ok (.iload_n 1, 1) := by decide +kernel
theorem dX3_enlarge_47 : decode cX3_enlarge 47 = .ok (.imul, 1) := by decide +kernel
theorem dX3_enlarge_48 : decode cX3_enlarge 48 = .ok (.newarray .int, 2) := by decide +kernel
theorem dX3_enlarge_50 : decode cX3_enlarge 50 = .ok (.putfield 22, 3) := by decide +kernel
theorem dX3_enlarge_53 : decode cX3_enlarge 53 = .ok (.iconst 2, 1) := by decide +kernel
theorem dX3_enlarge_54 : decode cX3_enlarge 54 = .ok (.istore_n 2, 1) := by decide +kernel
theorem dX3_enlarge_55 : decode cX3_enlarge 55 = .ok (.iload_n 2, 1) := by decide +kernel
theorem dX3_enlarge_56 : decode cX3_enlarge 56 = .ok (.aload_n 0, 1) := by decide +kernel
theorem dX3_enlarge_57 : decode cX3_enlarge 57 = .ok (.getfield 25, 3) := by decide +kernel
theorem dX3_enlarge_60 : decode cX3_enlarge 60 = .ok (.if_icmp .ge 25, 3) := by decide +kernel
theorem dX3_enlarge_63 : decode cX3_enlarge 63 = .ok (.aload_n 0, 1) := by decide +kernel
theorem dX3_enlarge_64 : decode cX3_enlarge 64 = .ok (.getfield 22, 3) := by decide +kernel
theorem dX3_enlarge_67 : decode cX3_enlarge 67 = .ok (.aload_n 0, 1) := by decide +kernel
theorem dX3_enlarge_68 : decode cX3_enlarge 68 = .ok (.aload_n 0, 1) := by decide +kernel
theorem dX3_enlarge_69 : decode cX3_enlarge 69 = .ok (.getfield 11, 3) := by decide +kernel
theorem dX3_enlarge_72 : decode cX3_enlarge 72 = .ok (.iload_n 2, 1) := by decide +kernel
theorem dX3_enlarge_73 : decode cX3_enlarge 73 = .ok (.laload, 1) := by decide +kernel
theorem dX3_enlarge_74 : decode cX3_enlarge 74 = .ok (.invokevirtual 59, 3) := by decide +kernel
theorem dX3_enlarge_77 : decode cX3_enlarge 77 = .ok (.iload_n 2, 1) := by decide +kernel
theorem dX3_enlarge_78 : decode cX3_enlarge 78 = .ok (.iastore, 1) := by decide +kernel
theorem dX3_enlarge_79 : decode cX3_enlarge 79 = .ok (.iinc 2 1, 3) := by decide +kernel
theorem dX3_enlarge_82 : decode cX3_enlarge 82 = .ok (.goto (-27), 3) := by decide +kernel
theorem dX3_enlarge_85 : decode cX3_enlarge 85 = .ok (.return_, 1) := by decide +kernel
theorem dX4_init_0 : decode cX4_init 0 = .ok (.aload_n 0, 1) := by decide +kernel
theorem dX4_init_1 : decode cX4_init 1 = .ok (.invokespecial 1, 3) := by decide +kernel
theorem dX4_init_4 : decode cX4_init 4 = .ok (.aload_n 0, 1) := by decide +kernel
theorem dX4_init_5 : decode cX4_init 5 = .ok (.aload_n 1, 1) := by decide +kernel
theorem dX4_init_6 : decode cX4_init 6 = .ok (.putfield 7, 3) := by decide +kernel
theorem dX4_init_9 : decode cX4_init 9 = .ok (.aload_n 0, 1) := by decide +kernel
theorem dX4_init_10 : decode cX4_init 10 = .ok (.iload_n 2, 1) := by decide +kernel
theorem dX4_init_11 : decode cX4_init 11 = .ok (.putfield 13, 3) := by decide +kernel
theorem dX4_init_14 : decode cX4_init 14 = .ok (.aload_n 0, 1) := by decide +kernel
theorem dX4_init_15 : decode cX4_init 15 = .ok (.iload_n 3, 1) := by decide +kernel
theorem dX4_init_16 : decode cX4_init 16 = .ok (.putfield 17, 3) := by decide +kernel
theorem dX4_init_19 : decode cX4_init 19 = .ok (.return_, 1) := by decide +kernel
theorem dX5_order_0 : decode cX5_order 0 = .ok (.iload_n 1, 1) := by decide +kernel
theorem dX5_order_1 : decode cX5_order 1 = .ok (.iconst 2, 1) := by decide +kernel
theorem dX5_order_2 : decode cX5_order 2 = .ok (.idiv, 1) := by decide +kernel
theorem dX5_order_3 : decode cX5_order 3 = .ok (.iconst 1, 1) := by decide +kernel
theorem dX5_order_4 : decode cX5_order 4 = .ok (.isub, 1) := by decide +kernel
theorem dX5_order_5 : decode cX5_order 5 = .ok (.istore_n 2, 1) := by decide +kernel
theorem dX5_order_6 : decode cX5_order 6 = .ok (.iload_n 2, 1) := by decide +kernel
theorem dX5_order_7 : decode cX5_order 7 = .ok (.ifCond .lt 15, 3) := by decide +kernel
theorem dX5_order_10 : decode cX5_order 10 = .ok (.aload_n 0, 1) := by decide +kernel
theorem dX5_order_11 : decode cX5_order 11 = .ok (.iload_n 2, 1) := by decide +kernel
theorem dX5_order_12 : decode cX5_order 12 = .ok (.iload_n 1, 1) := by decide +kernel
theorem dX5_order_13 : decode cX5_order 13 = .ok (.invokestatic 7, 3) := by decide +kernel
theorem dX5_order_16 : decode cX5_order 16 = .ok (.iinc 2 (-1), 3) := by decide +kernel
theorem dX5_order_19 : decode cX5_order 19 = .ok (.goto (-13), 3) := by decide +kernel
theorem dX5_order_22 : decode cX5_order 22 = .ok (.return_, 1) := by decide +kernel
theorem dX5_takeLeast_0 : decode cX5_takeLeast 0 = .ok (.iload_n 1, 1) := by decide +kernel
theorem dX5_takeLeast_1 : decode cX5_takeLeast 1 = .ok (.ifCond .le 9, 3) := by decide +kernel
theorem dX5_takeLeast_4 : decode cX5_takeLeast 4 = .ok (.iload_n 1, 1) := by decide +kernel
theorem dX5_takeLeast_5 : decode cX5_takeLeast 5 = .ok (.aload_n 0, 1) := by decide +kernel
theorem dX5_takeLeast_6 : decode cX5_takeLeast 6 = .ok (.arraylength, 1) := by decide +kernel
theorem dX5_takeLeast_7 : decode cX5_takeLeast 7 = .ok (.if_icmp .le 5, 3) := by decide +kernel
theorem dX5_takeLeast_10 : decode cX5_takeLeast 10 = .ok (.iconst 0, 1) := by decide +kernel
theorem dX5_takeLeast_11 : decode cX5_takeLeast 11 = .ok (.ireturn, 1) := by decide +kernel
theorem dX5_takeLeast_12 : decode cX5_takeLeast 12 = .ok (.aload_n 0, 1) := by decide +kernel
theorem dX5_takeLeast_13 : decode cX5_takeLeast 13 = .ok (.iconst 0, 1) := by decide +kernel
theorem dX5_takeLeast_14 : decode cX5_takeLeast 14 = .ok (.iaload, 1) := by decide +kernel
theorem dX5_takeLeast_15 : decode cX5_takeLeast 15 = .ok (.istore_n 2, 1) := by decide +kernel
theorem dX5_takeLeast_16 : decode cX5_takeLeast 16 = .ok (.aload_n 0, 1) := by decide +kernel
theorem dX5_takeLeast_17 : decode cX5_takeLeast 17 = .ok (.iconst 0, 1) := by decide +kernel
theorem dX5_takeLeast_18 : decode cX5_takeLeast 18 = .ok (.aload_n 0, 1) := by decide +kernel
theorem dX5_takeLeast_19 : decode cX5_takeLeast 19 = .ok (.iload_n 1, 1) := by decide +kernel
theorem dX5_takeLeast_20 : decode cX5_takeLeast 20 = .ok (.iconst 1, 1) := by decide +kernel
theorem dX5_takeLeast_21 : decode cX5_takeLeast 21 = .ok (.isub, 1) := by decide +kernel
theorem dX5_takeLeast_22 : decode cX5_takeLeast 22 = .ok (.iaload, 1) := by decide +kernel
theorem dX5_takeLeast_23 : decode cX5_takeLeast 23 = .ok (.iastore, 1) := by decide +kernel
theorem dX5_takeLeast_24 : decode cX5_takeLeast 24 = .ok (.aload_n 0, 1) := by decide +kernel
theorem dX5_takeLeast_25 : decode cX5_takeLeast 25 = .ok (.iconst 0, 1) := by decide +kernel
theorem dX5_takeLeast_26 : decode cX5_takeLeast 26 = .ok (.iload_n 1, 1) := by decide +kernel
theorem dX5_takeLeast_27 : decode cX5_takeLeast 27 = .ok (.iconst 1, 1) := by decide +kernel
theorem dX5_takeLeast_28 : decode cX5_takeLeast 28 = .ok (.isub, 1) := by decide +kernel
theorem dX5_takeLeast_29 : decode cX5_takeLeast 29 = .ok (.invokestatic 7, 3) := by decide +kernel
theorem dX5_takeLeast_32 : decode cX5_takeLeast 32 = .ok (.iload_n 2, 1) := by decide +kernel
theorem dX5_takeLeast_33 : decode cX5_takeLeast 33 = .ok (.ireturn, 1) := by decide +kernel
theorem dX5_sink_0 : decode cX5_sink 0 = .ok (.iload_n 1, 1) := by decide +kernel
theorem dX5_sink_1 : decode cX5_sink 1 = .ok (.istore_n 3, 1) := by decide +kernel
theorem dX5_sink_2 : decode cX5_sink 2 = .ok (.iconst 2, 1) := by decide +kernel
theorem dX5_sink_3 : decode cX5_sink 3 = .ok (.iload_n 3, 1) := by decide +kernel
theorem dX5_sink_4 : decode cX5_sink 4 = .ok (.imul, 1) := by decide +kernel
theorem dX5_sink_5 : decode cX5_sink 5 = .ok (.iconst 1, 1) := by decide +kernel
theorem dX5_sink_6 : decode cX5_sink 6 = .ok (.iadd, 1) := by decide +kernel
theorem dX5_sink_7 : decode cX5_sink 7 = .ok (.istore 4, 2) := by decide +kernel
theorem dX5_sink_9 : decode cX5_sink 9 = .ok (.iload 4, 2) := by decide +kernel
theorem dX5_sink_11 : decode cX5_sink 11 = .ok (.iload_n 2, 1) := by decide +kernel
theorem dX5_sink_12 : decode cX5_sink 12 = .ok (.if_icmp .ge 85, 3) := by decide +kernel
theorem dX5_sink_15 : decode cX5_sink 15 = .ok (.iload 4, 2) := by decide +kernel
theorem dX5_sink_17 : decode cX5_sink 17 = .ok (.aload_n 0, 1) := by decide +kernel
theorem dX5_sink_18 : decode cX5_sink 18 = .ok (.arraylength, 1) := by decide +kernel
theorem dX5_sink_19 : decode cX5_sink 19 = .ok (.if_icmp .ge 78, 3) := by decide +kernel
theorem dX5_sink_22 : decode cX5_sink 22 = .ok (.iload 4, 2) := by decide +kernel
theorem dX5_sink_24 : decode cX5_sink 24 = .ok (.iconst 1, 1) := by decide +kernel
theorem dX5_sink_25 : decode cX5_sink 25 = .ok (.iadd, 1) := by decide +kernel
theorem dX5_sink_26 : decode cX5_sink 26 = .ok (.iload_n 2, 1) := by decide +kernel
theorem dX5_sink_27 : decode cX5_sink 27 = .ok (.if_icmp .ge 28, 3) := by decide +kernel
theorem dX5_sink_30 : decode cX5_sink 30 = .ok (.iload 4, 2) := by decide +kernel
theorem dX5_sink_32 : decode cX5_sink 32 = .ok (.iconst 1, 1) := by decide +kernel
theorem dX5_sink_33 : decode cX5_sink 33 = .ok (.iadd, 1) := by decide +kernel
theorem dX5_sink_34 : decode cX5_sink 34 = .ok (.aload_n 0, 1) := by decide +kernel
theorem dX5_sink_35 : decode cX5_sink 35 = .ok (.arraylength, 1) := by decide +kernel
theorem dX5_sink_36 : decode cX5_sink 36 = .ok (.if_icmp .ge 19, 3) := by decide +kernel
theorem dX5_sink_39 : decode cX5_sink 39 = .ok (.aload_n 0, 1) := by decide +kernel
theorem dX5_sink_40 : decode cX5_sink 40 = .ok (.iload 4, 2) := by decide +kernel
theorem dX5_sink_42 : decode cX5_sink 42 = .ok (.iconst 1, 1) := by decide +kernel
theorem dX5_sink_43 : decode cX5_sink 43 = .ok (.iadd, 1) := by decide +kernel
theorem dX5_sink_44 : decode cX5_sink 44 = .ok (.iaload, 1) := by decide +kernel
theorem dX5_sink_45 : decode cX5_sink 45 = .ok (.aload_n 0, 1) := by decide +kernel
theorem dX5_sink_46 : decode cX5_sink 46 = .ok (.iload 4, 2) := by decide +kernel
theorem dX5_sink_48 : decode cX5_sink 48 = .ok (.iaload, 1) := by decide +kernel
theorem dX5_sink_49 : decode cX5_sink 49 = .ok (.if_icmp .ge 6, 3) := by decide +kernel
theorem dX5_sink_52 : decode cX5_sink 52 = .ok (.iinc 4 1, 3) := by decide +kernel
theorem dX5_sink_55 : decode cX5_sink 55 = .ok (.aload_n 0, 1) := by decide +kernel
theorem dX5_sink_56 : decode cX5_sink 56 = .ok (.iload_n 3, 1) := by decide +kernel
theorem dX5_sink_57 : decode cX5_sink 57 = .ok (.iaload, 1) := by decide +kernel
theorem dX5_sink_58 : decode cX5_sink 58 = .ok (.aload_n 0, 1) := by decide +kernel
theorem dX5_sink_59 : decode cX5_sink 59 = .ok (.iload 4, 2) := by decide +kernel
theorem dX5_sink_61 : decode cX5_sink 61 = .ok (.iaload, 1) := by decide +kernel
theorem dX5_sink_62 : decode cX5_sink 62 = .ok (.if_icmp .gt 4, 3) := by decide +kernel
theorem dX5_sink_65 : decode cX5_sink 65 = .ok (.return_, 1) := by decide +kernel
theorem dX5_sink_66 : decode cX5_sink 66 = .ok (.aload_n 0, 1) := by decide +kernel
theorem dX5_sink_67 : decode cX5_sink 67 = .ok (.iload_n 3, 1) := by decide +kernel
theorem dX5_sink_68 : decode cX5_sink 68 = .ok (.iaload, 1) := by decide +kernel
theorem dX5_sink_69 : decode cX5_sink 69 = .ok (.istore 5, 2) := by decide +kernel
theorem dX5_sink_71 : decode cX5_sink 71 = .ok (.aload_n 0, 1) := by decide +kernel
theorem dX5_sink_72 : decode cX5_sink 72 = .ok (.iload_n 3, 1) := by decide +kernel
theorem dX5_sink_73 : decode cX5_sink 73 = .ok (.aload_n 0, 1) := by decide +kernel
theorem dX5_sink_74 : decode cX5_sink 74 = .ok (.iload 4, 2) := by decide +kernel
theorem dX5_sink_76 : decode cX5_sink 76 = .ok (.iaload, 1) := by decide +kernel
theorem dX5_sink_77 : decode cX5_sink 77 = .ok (.iastore, 1) := by decide +kernel
theorem dX5_sink_78 : decode cX5_sink 78 = .ok (.aload_n 0, 1) := by decide +kernel
theorem dX5_sink_79 : decode cX5_sink 79 = .ok (.iload 4, 2) := by decide +kernel
theorem dX5_sink_81 : decode cX5_sink 81 = .ok (.iload 5, 2) := by decide +kernel
theorem dX5_sink_83 : decode cX5_sink 83 = .ok (.iastore, 1) := by decide +kernel
theorem dX5_sink_84 : decode cX5_sink 84 = .ok (.iload 4, 2) := by decide +kernel
theorem dX5_sink_86 : decode cX5_sink 86 = .ok (.istore_n 3, 1) := by decide +kernel
theorem dX5_sink_87 : decode cX5_sink 87 = .ok (.iconst 2, 1) := by decide +kernel
theorem dX5_sink_88 : decode cX5_sink 88 = .ok (.iload_n 3, 1) := by decide +kernel
theorem dX5_sink_89 : decode cX5_sink 89 = .ok (.imul, 1) := by decide +kernel
theorem dX5_sink_90 : decode cX5_sink 90 = .ok (.iconst 1, 1) := by decide +kernel
theorem dX5_sink_91 : decode cX5_sink 91 = .ok (.iadd, 1) := by decide +kernel
theorem dX5_sink_92 : decode cX5_sink 92 = .ok (.istore 4, 2) := by decide +kernel
theorem dX5_sink_94 : decode cX5_sink 94 = .ok (.goto (-85), 3) := by decide +kernel
theorem dX5_sink_97 : decode cX5_sink 97 = .ok (.return_, 1) := by decide +kernel
theorem dX6_init_0 : decode cX6_init 0 = .ok (.aload_n 0, 1) := by decide +kernel
theorem dX6_init_1 : decode cX6_init 1 = .ok (.invokespecial 3, 3) := by decide +kernel
theorem dX6_init_4 : decode cX6_init 4 = .ok (.aload_n 0, 1) := by decide +kernel
theorem dX6_init_5 : decode cX6_init 5 = .ok (.sipush 200, 3) := by decide +kernel
theorem dX6_init_8 : decode cX6_init 8 = .ok (.newarray .int, 2) := by decide +kernel
theorem dX6_init_10 : decode cX6_init 10 = .ok (.putfield 9, 3) := by decide +kernel
theorem dX6_init_13 : decode cX6_init 13 = .ok (.aload_n 0, 1) := by decide +kernel
theorem dX6_init_14 : decode cX6_init 14 = .ok (.sipush 200, 3) := by decide +kernel
theorem dX6_init_17 : decode cX6_init 17 = .ok (.newarray .int, 2) := by decide +kernel
theorem dX6_init_19 : decode cX6_init 19 = .ok (.putfield 15, 3) := by decide +kernel
theorem dX6_init_22 : decode cX6_init 22 = .ok (.aload_n 0, 1) := by decide +kernel
theorem dX6_init_23 : decode cX6_init 23 = .ok (.iconst 0, 1) := by decide +kernel
theorem dX6_init_24 : decode cX6_init 24 = .ok (.putfield 18, 3) := by decide +kernel
theorem dX6_init_27 : decode cX6_init 27 = .ok (.aload_n 0, 1) := by decide +kernel
theorem dX6_init_28 : decode cX6_init 28 = .ok (.iconst 0, 1) := by decide +kernel
theorem dX6_init_29 : decode cX6_init 29 = .ok (.newarray .byte, 2) := by decide +kernel
theorem dX6_init_31 : decode cX6_init 31 = .ok (.putfield 22, 3) := by decide +kernel
theorem dX6_init_34 : decode cX6_init 34 = .ok (.aload_n 0, 1) := by decide +kernel
theorem dX6_init_35 : decode cX6_init 35 = .ok (.iconst 0, 1) := by decide +kernel
theorem dX6_init_36 : decode cX6_init 36 = .ok (.putfield 26, 3) := by decide +kernel
theorem dX6_init_39 : decode cX6_init 39 = .ok (.aload_n 0, 1) := by decide +kernel
theorem dX6_init_40 : decode cX6_init 40 = .ok (.iconst 0, 1) := by decide +kernel
theorem dX6_init_41 : decode cX6_init 41 = .ok (.anewarray 29, 3) := by decide +kernel
theorem dX6_init_44 : decode cX6_init 44 = .ok (.putfield 31, 3) := by decide +kernel
theorem dX6_init_47 : decode cX6_init 47 = .ok (.aload_n 0, 1) := by decide +kernel
theorem dX6_init_48 : decode cX6_init 48 = .ok (.bipush 11, 2) := by decide +kernel
theorem dX6_init_50 : decode cX6_init 50 = .ok (.putfield 35, 3) := by decide +kernel
theorem dX6_init_53 : decode cX6_init 53 = .ok (.aload_n 0, 1) := by decide +kernel
theorem dX6_init_54 : decode cX6_init 54 = .ok (.iconst 0, 1) := by decide +kernel
theorem dX6_init_55 : decode cX6_init 55 = .ok (.putfield 38, 3) := by decide +kernel
theorem dX6_init_58 : decode cX6_init 58 = .ok (.aload_n 0, 1) := by decide +kernel
theorem dX6_init_59 : decode cX6_init 59 = .ok (.iconst 0, 1) := by decide +kernel
theorem dX6_init_60 : decode cX6_init 60 = .ok (.putfield 41, 3) := by decide +kernel
theorem dX6_init_63 : decode cX6_init 63 = .ok (.aload_n 0, 1) := by decide +kernel
theorem dX6_init_64 : decode cX6_init 64 = .ok (.iconst (-1), 1) := by decide +kernel
theorem dX6_init_65 : decode cX6_init 65 = .ok (.putfield 44, 3) := by decide +kernel
theorem dX6_init_68 : decode cX6_init 68 = .ok (.return_, 1) := by decide +kernel
theorem dX6_read_0 : decode cX6_read 0 = .ok (.aload_n 0, 1) := by decide +kernel
theorem dX6_read_1 : decode cX6_read 1 = .ok (.aload_n 1, 1) := by decide +kernel
theorem dX6_read_2 : decode cX6_read 2 = .ok (.putfield 22, 3) := by decide +kernel
theorem dX6_read_5 : decode cX6_read 5 = .ok (.aload_n 0, 1) := by decide +kernel
theorem dX6_read_6 : decode cX6_read 6 = .ok (.iload_n 2, 1) := by decide +kernel
theorem dX6_read_7 : decode cX6_read 7 = .ok (.aload_n 1, 1) := by decide +kernel
theorem dX6_read_8 : decode cX6_read 8 = .ok (.arraylength, 1) := by decide +kernel
theorem dX6_read_9 : decode cX6_read 9 = .ok (.invokestatic 47, 3) := by decide +kernel
theorem dX6_read_12 : decode cX6_read 12 = .ok (.putfield 26, 3) := by decide +kernel
theorem dX6_read_15 : decode cX6_read 15 = .ok (.aload_n 0, 1) := by decide +kernel
theorem dX6_read_16 : decode cX6_read 16 = .ok (.aload_n 3, 1) := by decide +kernel
theorem dX6_read_17 : decode cX6_read 17 = .ok (.putfield 31, 3) := by decide +kernel
theorem dX6_read_20 : decode cX6_read 20 = .ok (.aload_n 0, 1) := by decide +kernel
theorem dX6_read_21 : decode cX6_read 21 = .ok (.iconst 0, 1) := by decide +kernel
theorem dX6_read_22 : decode cX6_read 22 = .ok (.putfield 18, 3) := by decide +kernel
theorem dX6_read_25 : decode cX6_read 25 = .ok (.aload_n 0, 1) := by decide +kernel
theorem dX6_read_26 : decode cX6_read 26 = .ok (.iconst 0, 1) := by decide +kernel
theorem dX6_read_27 : decode cX6_read 27 = .ok (.putfield 41, 3) := by decide +kernel
theorem dX6_read_30 : decode cX6_read 30 = .ok (.aload_n 0, 1) := by decide +kernel
theorem dX6_read_31 : decode cX6_read 31 = .ok (.iconst (-1), 1) := by decide +kernel
theorem dX6_read_32 : decode cX6_read 32 = .ok (.putfield 44, 3) := by decide +kernel
theorem dX6_read_35 : decode cX6_read 35 = .ok (.aload_n 0, 1) := by decide +kernel
theorem dX6_read_36 : decode cX6_read 36 = .ok (.invokevirtual 53, 3) := by decide +kernel
theorem dX6_read_39 : decode cX6_read 39 = .ok (.aload_n 0, 1) := by decide +kernel
theorem dX6_read_40 : decode cX6_read 40 = .ok (.iconst 0, 1) := by decide +kernel
theorem dX6_read_41 : decode cX6_read 41 = .ok (.invokevirtual 56, 3) := by decide +kernel
theorem dX6_read_44 : decode cX6_read 44 = .ok (.aload_n 0, 1) := by decide +kernel
theorem dX6_read_45 : decode cX6_read 45 = .ok (.getfield 35, 3) := by decide +kernel
theorem dX6_read_48 : decode cX6_read 48 = .ok (.bipush 11, 2) := by decide +kernel
theorem dX6_read_50 : decode cX6_read 50 = .ok (.if_icmp .eq 7, 3) := by decide +kernel
theorem dX6_read_53 : decode cX6_read 53 = .ok (.aload_n 0, 1) := by decide +kernel
theorem dX6_read_54 : decode cX6_read 54 = .ok (.invokevirtual 60, 3) := by decide +kernel
theorem dX6_read_57 : decode cX6_read 57 = .ok (.aload_n 0, 1) := by decide +kernel
theorem dX6_read_58 : decode cX6_read 58 = .ok (.getfield 44, 3) := by decide +kernel
theorem dX6_read_61 : decode cX6_read 61 = .ok (.ireturn, 1) := by decide +kernel
theorem dX6_fail_0 : decode cX6_fail 0 = .ok (.aload_n 0, 1) := by decide +kernel
theorem dX6_fail_1 : decode cX6_fail 1 = .ok (.getfield 44, 3) := by decide +kernel
theorem dX6_fail_4 : decode cX6_fail 4 = .ok (.ifCond .ge 11, 3) := by decide +kernel
theorem dX6_fail_7 : decode cX6_fail 7 = .ok (.aload_n 0, 1) := by decide +kernel
theorem dX6_fail_8 : decode cX6_fail 8 = .ok (.aload_n 0, 1) := by decide +kernel
theorem dX6_fail_9 : decode cX6_fail 9 = .ok (.getfield 38, 3) := by decide +kernel
theorem dX6_fail_12 : decode cX6_fail 12 = .ok (.putfield 44, 3) := by decide +kernel
theorem dX6_fail_15 : decode cX6_fail 15 = .ok (.return_, 1) := by decide +kernel
theorem dX6_addStep_0 : decode cX6_addStep 0 = .ok (.aload_n 0, 1) := by decide +kernel
theorem dX6_addStep_1 : decode cX6_addStep 1 = .ok (.getfield 18, 3) := by decide +kernel
theorem dX6_addStep_4 : decode cX6_addStep 4 = .ok (.aload_n 0, 1) := by decide +kernel
theorem dX6_addStep_5 : decode cX6_addStep 5 = .ok (.getfield 9, 3) := by decide +kernel
theorem dX6_addStep_8 : decode cX6_addStep 8 = .ok (.arraylength, 1) := by decide +kernel
theorem dX6_addStep_9 : decode cX6_addStep 9 = .ok (.if_icmp .ge 45, 3) := by decide +kernel
theorem dX6_addStep_12 : decode cX6_addStep 12 = .ok (.aload_n 0, 1) := by decide +kernel
theorem dX6_addStep_13 : decode cX6_addStep 13 = .ok (.getfield 18, 3) := by decide +kernel
theorem dX6_addStep_16 : decode cX6_addStep 16 = .ok (.aload_n 0, 1) := by decide +kernel
theorem dX6_addStep_17 : decode cX6_addStep 17 = .ok (.getfield 15, 3) := by decide +kernel
theorem dX6_addStep_20 : decode cX6_addStep 20 = .ok (.arraylength, 1) := by decide +kernel
theorem dX6_addStep_21 : decode cX6_addStep 21 = .ok (.if_icmp .ge 33, 3) := by decide +kernel
theorem dX6_addStep_24 : decode cX6_addStep 24 = .ok (.aload_n 0, 1) := by decide +kernel
theorem dX6_addStep_25 : decode cX6_addStep 25 = .ok (.getfield 9, 3) := by decide +kernel
theorem dX6_addStep_28 : decode cX6_addStep 28 = .ok (.aload_n 0, 1) := by decide +kernel
theorem dX6_addStep_29 : decode cX6_addStep 29 = .ok (.getfield 18, 3) := by decide +kernel
theorem dX6_addStep_32 : decode cX6_addStep 32 = .ok (.iload_n 1, 1) := by decide +kernel
theorem dX6_addStep_33 : decode cX6_addStep 33 = .ok (.iastore, 1) := by decide +kernel
theorem dX6_addStep_34 : decode cX6_addStep 34 = .ok (.aload_n 0, 1) := by decide +kernel
theorem dX6_addStep_35 : decode cX6_addStep 35 = .ok (.getfield 15, 3) := by decide +kernel
theorem dX6_addStep_38 : decode cX6_addStep 38 = .ok (.aload_n 0, 1) := by decide +kernel
theorem dX6_addStep_39 : decode cX6_addStep 39 = .ok (.getfield 18, 3) := by decide +kernel
theorem dX6_addStep_42 : decode cX6_addStep 42 = .ok (.iload_n 2, 1) := by decide +kernel
theorem dX6_addStep_43 : decode cX6_addStep 43 = .ok (.iastore, 1) := by decide +kernel
theorem dX6_addStep_44 : decode cX6_addStep 44 = .ok (.aload_n 0, 1) := by decide +kernel
theorem dX6_addStep_45 : decode cX6_addStep 45 = .ok (.dup, 1) := by decide +kernel
theorem dX6_addStep_46 : decode cX6_addStep 46 = .ok (.getfield 18, 3) := by decide +kernel
theorem dX6_addStep_49 : decode cX6_addStep 49 = .ok (.iconst 1, 1) := by decide +kernel
theorem dX6_addStep_50 : decode cX6_addStep 50 = .ok (.iadd, 1) := by decide +kernel
theorem dX6_addStep_51 : decode cX6_addStep 51 = .ok (.putfield 18, 3) := by decide +kernel
theorem dX6_addStep_54 : decode cX6_addStep 54 = .ok (.return_, 1) := by decide +kernel
theorem dX6_readSum_0 : decode cX6_readSum 0 = .ok (.aload_n 0, 1) := by decide +kernel
theorem dX6_readSum_1 : decode cX6_readSum 1 = .ok (.iload_n 1, 1) := by decide +kernel
theorem dX6_readSum_2 : decode cX6_readSum 2 = .ok (.invokevirtual 63, 3) := by decide +kernel
theorem dX6_readSum_5 : decode cX6_readSum 5 = .ok (.iconst 0, 1) := by decide +kernel
theorem dX6_readSum_6 : decode cX6_readSum 6 = .ok (.istore_n 2, 1) := by decide +kernel
theorem dX6_readSum_7 : decode cX6_readSum 7 = .ok (.iload_n 2, 1) := by decide +kernel
theorem dX6_readSum_8 : decode cX6_readSum 8 = .ok (.sipush 200, 3) := by decide +kernel
theorem dX6_readSum_11 : decode cX6_readSum 11 = .ok (.if_icmp .ge 46, 3) := by decide +kernel
theorem dX6_readSum_14 : decode cX6_readSum 14 = .ok (.aload_n 0, 1) := by decide +kernel
theorem dX6_readSum_15 : decode cX6_readSum 15 = .ok (.getfield 44, 3) := by decide +kernel
theorem dX6_readSum_18 : decode cX6_readSum 18 = .ok (.ifCond .ge 39, 3) := by decide +kernel
theorem dX6_readSum_21 : decode cX6_readSum 21 = .ok (.aload_n 0, 1) := by decide +kernel
theorem dX6_readSum_22 : decode cX6_readSum 22 = .ok (.getfield 35, 3) := by decide +kernel
theorem dX6_readSum_25 : decode cX6_readSum 25 = .ok (.invokestatic 66, 3) := by decide +kernel
theorem dX6_readSum_28 : decode cX6_readSum 28 = .ok (.ifCond .eq 29, 3) := by decide +kernel
theorem dX6_readSum_31 : decode cX6_readSum 31 = .ok (.aload_n 0, 1) := by decide +kernel
theorem dX6_readSum_32 : decode cX6_readSum 32 = .ok (.getfield 35, 3) := by decide +kernel
theorem dX6_readSum_35 : decode cX6_readSum 35 = .ok (.istore_n 3, 1) := by decide +kernel
theorem dX6_readSum_36 : decode cX6_readSum 36 = .ok (.aload_n 0, 1) := by decide +kernel
theorem dX6_readSum_37 : decode cX6_readSum 37 = .ok (.invokevirtual 53, 3) := by decide +kernel
theorem dX6_readSum_40 : decode cX6_readSum 40 = .ok (.aload_n 0, 1) := by decide +kernel
theorem dX6_readSum_41 : decode cX6_readSum 41 = .ok (.iload_n 1, 1) := by decide +kernel
theorem dX6_readSum_42 : decode cX6_readSum 42 = .ok (.invokevirtual 63, 3) := by decide +kernel
theorem dX6_readSum_45 : decode cX6_readSum 45 = .ok (.aload_n 0, 1) := by decide +kernel
theorem dX6_readSum_46 : decode cX6_readSum 46 = .ok (.iload_n 3, 1) := by decide +kernel
theorem dX6_readSum_47 : decode cX6_readSum 47 = .ok (.iconst 0, 1) := by decide +kernel
theorem dX6_readSum_48 : decode cX6_readSum 48 = .ok (.invokevirtual 70, 3) := by decide +kernel
theorem dX6_readSum_51 : decode cX6_readSum 51 = .ok (.iinc 2 1, 3) := by decide +kernel
theorem dX6_readSum_54 : decode cX6_readSum 54 = .ok (.goto (-47), 3) := by decide +kernel
theorem dX6_readSum_57 : decode cX6_readSum 57 = .ok (.return_, 1) := by decide +kernel
theorem dX6_readProduct_0 : decode cX6_readProduct 0 = .ok (.aload_n 0, 1) := by decide +kernel
theorem dX6_readProduct_1 : decode cX6_readProduct 1 = .ok (.iload_n 1, 1) := by decide +kernel
theorem dX6_readProduct_2 : decode cX6_readProduct 2 = .ok (.invokevirtual 74, 3) := by decide +kernel
theorem dX6_readProduct_5 : decode cX6_readProduct 5 = .ok (.iconst 0, 1) := by decide +kernel
theorem dX6_readProduct_6 : decode cX6_readProduct 6 = .ok (.istore_n 2, 1) := by decide +kernel
theorem dX6_readProduct_7 : decode cX6_readProduct 7 = .ok (.iload_n 2, 1) := by decide +kernel
theorem dX6_readProduct_8 : decode cX6_readProduct 8 = .ok (.sipush 200, 3) := by decide +kernel
theorem dX6_readProduct_11 : decode cX6_readProduct 11 = .ok (.if_icmp .ge 46, 3) := by decide +kernel
theorem dX6_readProduct_14 : decode cX6_readProduct 14 = .ok (.aload_n 0, 1) := by decide +kernel
theorem dX6_readProduct_15 : decode cX6_readProduct 15 = .ok (.getfield 44, 3) := by decide +kernel
theorem dX6_readProduct_18 : decode cX6_readProduct 18 = .ok (.ifCond .ge 39, 3) := by decide +kernel
theorem dX6_readProduct_21 : decode cX6_readProduct 21 = .ok (.aload_n 0, 1) := by decide +kernel
theorem dX6_readProduct_22 : decode cX6_readProduct 22 = .ok (.getfield 35, 3) := by decide +kernel
theorem dX6_readProduct_25 : decode cX6_readProduct 25 = .ok (.invokestatic 77, 3) := by decide +kernel
theorem dX6_readProduct_28 : decode cX6_readProduct 28 = .ok (.ifCond .eq 29, 3) := by decide +kernel
theorem dX6_readProduct_31 : decode cX6_readProduct 31 = .ok (.aload_n 0, 1) := by decide +kernel
theorem dX6_readProduct_32 : decode cX6_readProduct 32 = .ok (.getfield 35, 3) := by decide +kernel
theorem dX6_readProduct_35 : decode cX6_readProduct 35 = .ok (.istore_n 3, 1) := by decide +kernel
theorem dX6_readProduct_36 : decode cX6_readProduct 36 = .ok (.aload_n 0, 1) := by decide +kernel
theorem dX6_readProduct_37 : decode cX6_readProduct 37 = .ok (.invokevirtual 53, 3) := by decide +kernel
theorem dX6_readProduct_40 : decode cX6_readProduct 40 = .ok (.aload_n 0, 1) := by decide +kernel
theorem dX6_readProduct_41 : decode cX6_readProduct 41 = .ok (.iload_n 1, 1) := by decide +kernel
theorem dX6_readProduct_42 : decode cX6_readProduct 42 = .ok (.invokevirtual 74, 3) := by decide +kernel
theorem dX6_readProduct_45 : decode cX6_readProduct 45 = .ok (.aload_n 0, 1) := by decide +kernel
theorem dX6_readProduct_46 : decode cX6_readProduct 46 = .ok (.iload_n 3, 1) := by decide +kernel
theorem dX6_readProduct_47 : decode cX6_readProduct 47 = .ok (.iconst 0, 1) := by decide +kernel
theorem dX6_readProduct_48 : decode cX6_readProduct 48 = .ok (.invokevirtual 70, 3) := by decide +kernel
theorem dX6_readProduct_51 : decode cX6_readProduct 51 = .ok (.iinc 2 1, 3) := by decide +kernel
theorem dX6_readProduct_54 : decode cX6_readProduct 54 = .ok (.goto (-47), 3) := by decide +kernel
theorem dX6_readProduct_57 : decode cX6_readProduct 57 = .ok (.return_, 1) := by decide +kernel
theorem dX6_isSumSign_0 : decode cX6_isSumSign 0 = .ok (.iload_n 0, 1) := by decide +kernel
theorem dX6_isSumSign_1 : decode cX6_isSumSign 1 = .ok (.bipush 43, 2) := by decide +kernel
theorem dX6_isSumSign_3 : decode cX6_isSumSign 3 = .ok (.if_icmp .eq 15, 3) := by decide +kernel
theorem dX6_isSumSign_6 : decode cX6_isSumSign 6 = .ok (.iload_n 0, 1) := by decide +kernel
theorem dX6_isSumSign_7 : decode cX6_isSumSign 7 = .ok (.bipush 45, 2) := by decide +kernel
theorem dX6_isSumSign_9 : decode cX6_isSumSign 9 = .ok (.if_icmp .eq 9, 3) := by decide +kernel
theorem dX6_isSumSign_12 : decode cX6_isSumSign 12 = .ok (.iload_n 0, 1) := by decide +kernel
theorem dX6_isSumSign_13 : decode cX6_isSumSign 13 = .ok (.bipush 38, 2) := by decide +kernel
theorem dX6_isSumSign_15 : decode cX6_isSumSign 15 = .ok (.if_icmp .ne 7, 3) := by decide +kernel
theorem dX6_isSumSign_18 : decode cX6_isSumSign 18 = .ok (.iconst 1, 1) := by decide +kernel
theorem dX6_isSumSign_19 : decode cX6_isSumSign 19 = .ok (.goto 4, 3) := by decide +kernel
theorem dX6_isSumSign_22 : decode cX6_isSumSign 22 = .ok (.iconst 0, 1) := by decide +kernel
theorem dX6_isSumSign_23 : decode cX6_isSumSign 23 = .ok (.ireturn, 1) := by decide +kernel
theorem dX6_isProductSign_0 : decode cX6_isProductSign 0 = .ok (.iload_n 0, 1) := by decide +kernel
theorem dX6_isProductSign_1 : decode cX6_isProductSign 1 = .ok (.bipush 42, 2) := by decide +kernel
theorem dX6_isProductSign_3 : decode cX6_isProductSign 3 = .ok (.if_icmp .eq 15, 3) := by decide +kernel
theorem dX6_isProductSign_6 : decode cX6_isProductSign 6 = .ok (.iload_n 0, 1) := by decide +kernel
theorem dX6_isProductSign_7 : decode cX6_isProductSign 7 = .ok (.bipush 47, 2) := by decide +kernel
theorem dX6_isProductSign_9 : decode cX6_isProductSign 9 = .ok (.if_icmp .eq 9, 3) := by decide +kernel
theorem dX6_isProductSign_12 : decode cX6_isProductSign 12 = .ok (.iload_n 0, 1) := by decide +kernel
theorem dX6_isProductSign_13 : decode cX6_isProductSign 13 = .ok (.bipush 37, 2) := by decide +kernel
theorem dX6_isProductSign_15 : decode cX6_isProductSign 15 = .ok (.if_icmp .ne 7, 3) := by decide +kernel
theorem dX6_isProductSign_18 : decode cX6_isProductSign 18 = .ok (.iconst 1, 1) := by decide +kernel
theorem dX6_isProductSign_19 : decode cX6_isProductSign 19 = .ok (.goto 4, 3) := by decide +kernel
theorem dX6_isProductSign_22 : decode cX6_isProductSign 22 = .ok (.iconst 0, 1) := by decide +kernel
theorem dX6_isProductSign_23 : decode cX6_isProductSign 23 = .ok (.ireturn, 1) := by decide +kernel
theorem dX6_readFactor_0 : decode cX6_readFactor 0 = .ok (.aload_n 0, 1) := by decide +kernel
theorem dX6_readFactor_1 : decode cX6_readFactor 1 = .ok (.getfield 44, 3) := by decide +kernel
theorem dX6_readFactor_4 : decode cX6_readFactor 4 = .ok (.ifCond .lt 4, 3) := by decide +kernel
theorem dX6_readFactor_7 : decode cX6_readFactor 7 = .ok (.return_, 1) := by decide +kernel
theorem dX6_readFactor_8 : decode cX6_readFactor 8 = .ok (.aload_n 0, 1) := by decide +kernel
theorem dX6_readFactor_9 : decode cX6_readFactor 9 = .ok (.getfield 35, 3) := by decide +kernel
theorem dX6_readFactor_12 : decode cX6_readFactor 12 = .ok (.lookupswitch 78 #[(12, 52), (13, 60), (35, 67), (40, 44)], 44) := by decide +kernel
theorem dX6_readFactor_56 : decode cX6_readFactor 56 = .ok (.aload_n 0, 1) := by decide +kernel
theorem dX6_readFactor_57 : decode cX6_readFactor 57 = .ok (.iload_n 1, 1) := by decide +kernel
theorem dX6_readFactor_58 : decode cX6_readFactor 58 = .ok (.invokevirtual 80, 3) := by decide +kernel
theorem dX6_readFactor_61 : decode cX6_readFactor 61 = .ok (.goto 33, 3) := by decide +kernel
theorem dX6_readFactor_64 : decode cX6_readFactor 64 = .ok (.aload_n 0, 1) := by decide +kernel
theorem dX6_readFactor_65 : decode cX6_readFactor 65 = .ok (.iload_n 1, 1) := by decide +kernel
theorem dX6_readFactor_66 : decode cX6_readFactor 66 = .ok (.invokevirtual 83, 3) := by decide +kernel
theorem dX6_readFactor_69 : decode cX6_readFactor 69 = .ok (.goto 25, 3) := by decide +kernel
theorem dX6_readFactor_72 : decode cX6_readFactor 72 = .ok (.aload_n 0, 1) := by decide +kernel
theorem dX6_readFactor_73 : decode cX6_readFactor 73 = .ok (.invokevirtual 86, 3) := by decide +kernel
theorem dX6_readFactor_76 : decode cX6_readFactor 76 = .ok (.goto 18, 3) := by decide +kernel
theorem dX6_readFactor_79 : decode cX6_readFactor 79 = .ok (.aload_n 0, 1) := by decide +kernel
theorem dX6_readFactor_80 : decode cX6_readFactor 80 = .ok (.invokevirtual 53, 3) := by decide +kernel
theorem dX6_readFactor_83 : decode cX6_readFactor 83 = .ok (.aload_n 0, 1) := by decide +kernel
theorem dX6_readFactor_84 : decode cX6_readFactor 84 = .ok (.invokevirtual 89, 3) := by decide +kernel
theorem dX6_readFactor_87 : decode cX6_readFactor 87 = .ok (.goto 7, 3) := by decide +kernel
theorem dX6_readFactor_90 : decode cX6_readFactor 90 = .ok (.aload_n 0, 1) := by decide +kernel
theorem dX6_readFactor_91 : decode cX6_readFactor 91 = .ok (.invokevirtual 60, 3) := by decide +kernel
theorem dX6_readFactor_94 : decode cX6_readFactor 94 = .ok (.return_, 1) := by decide +kernel
theorem dX6_readBracket_0 : decode cX6_readBracket 0 = .ok (.aload_n 0, 1) := by decide +kernel
theorem dX6_readBracket_1 : decode cX6_readBracket 1 = .ok (.getfield 35, 3) := by decide +kernel
theorem dX6_readBracket_4 : decode cX6_readBracket 4 = .ok (.bipush 40, 2) := by decide +kernel
theorem dX6_readBracket_6 : decode cX6_readBracket 6 = .ok (.if_icmp .ne 9, 3) := by decide +kernel
theorem dX6_readBracket_9 : decode cX6_readBracket 9 = .ok (.iload_n 1, 1) := by decide +kernel
theorem dX6_readBracket_10 : decode cX6_readBracket 10 = .ok (.bipush 20, 2) := by decide +kernel
theorem dX6_readBracket_12 : decode cX6_readBracket 12 = .ok (.if_icmp .lt 8, 3) := by decide +kernel
theorem dX6_readBracket_15 : decode cX6_readBracket 15 = .ok (.aload_n 0, 1) := by decide +kernel
theorem dX6_readBracket_16 : decode cX6_readBracket 16 = .ok (.invokevirtual 60, 3) := by decide +kernel
theorem dX6_readBracket_19 : decode cX6_readBracket 19 = .ok (.return_, 1) := by decide +kernel
theorem dX6_readBracket_20 : decode cX6_readBracket 20 = .ok (.aload_n 0, 1) := by decide +kernel
theorem dX6_readBracket_21 : decode cX6_readBracket 21 = .ok (.invokevirtual 53, 3) := by decide +kernel
theorem dX6_readBracket_24 : decode cX6_readBracket 24 = .ok (.aload_n 0, 1) := by decide +kernel
theorem dX6_readBracket_25 : decode cX6_readBracket 25 = .ok (.iload_n 1, 1) := by decide +kernel
theorem dX6_readBracket_26 : decode cX6_readBracket 26 = .ok (.iconst 1, 1) := by decide +kernel
theorem dX6_readBracket_27 : decode cX6_readBracket 27 = .ok (.iadd, 1) := by decide +kernel
theorem dX6_readBracket_28 : decode cX6_readBracket 28 = .ok (.invokevirtual 56, 3) := by decide +kernel
theorem dX6_readBracket_31 : decode cX6_readBracket 31 = .ok (.aload_n 0, 1) := by decide +kernel
theorem dX6_readBracket_32 : decode cX6_readBracket 32 = .ok (.getfield 35, 3) := by decide +kernel
theorem dX6_readBracket_35 : decode cX6_readBracket 35 = .ok (.bipush 41, 2) := by decide +kernel
theorem dX6_readBracket_37 : decode cX6_readBracket 37 = .ok (.if_icmp .eq 8, 3) := by decide +kernel
theorem dX6_readBracket_40 : decode cX6_readBracket 40 = .ok (.aload_n 0, 1) := by decide +kernel
theorem dX6_readBracket_41 : decode cX6_readBracket 41 = .ok (.invokevirtual 60, 3) := by decide +kernel
theorem dX6_readBracket_44 : decode cX6_readBracket 44 = .ok (.return_, 1) := by decide +kernel
theorem dX6_readBracket_45 : decode cX6_readBracket 45 = .ok (.aload_n 0, 1) := by decide +kernel
theorem dX6_readBracket_46 : decode cX6_readBracket 46 = .ok (.invokevirtual 53, 3) := by decide +kernel
theorem dX6_readBracket_49 : decode cX6_readBracket 49 = .ok (.return_, 1) := by decide +kernel
theorem dX6_readWord_0 : decode cX6_readWord 0 = .ok (.aload_n 0, 1) := by decide +kernel
theorem dX6_readWord_1 : decode cX6_readWord 1 = .ok (.invokevirtual 92, 3) := by decide +kernel
theorem dX6_readWord_4 : decode cX6_readWord 4 = .ok (.istore_n 2, 1) := by decide +kernel
theorem dX6_readWord_5 : decode cX6_readWord 5 = .ok (.iload_n 2, 1) := by decide +kernel
theorem dX6_readWord_6 : decode cX6_readWord 6 = .ok (.ifCond .eq 19, 3) := by decide +kernel
theorem dX6_readWord_9 : decode cX6_readWord 9 = .ok (.aload_n 0, 1) := by decide +kernel
theorem dX6_readWord_10 : decode cX6_readWord 10 = .ok (.invokevirtual 53, 3) := by decide +kernel
theorem dX6_readWord_13 : decode cX6_readWord 13 = .ok (.aload_n 0, 1) := by decide +kernel
theorem dX6_readWord_14 : decode cX6_readWord 14 = .ok (.iload_n 1, 1) := by decide +kernel
theorem dX6_readWord_15 : decode cX6_readWord 15 = .ok (.invokevirtual 80, 3) := by decide +kernel
theorem dX6_readWord_18 : decode cX6_readWord 18 = .ok (.aload_n 0, 1) := by decide +kernel
theorem dX6_readWord_19 : decode cX6_readWord 19 = .ok (.iload_n 2, 1) := by decide +kernel
theorem dX6_readWord_20 : decode cX6_readWord 20 = .ok (.iconst 0, 1) := by decide +kernel
theorem dX6_readWord_21 : decode cX6_readWord 21 = .ok (.invokevirtual 70, 3) := by decide +kernel
theorem dX6_readWord_24 : decode cX6_readWord 24 = .ok (.return_, 1) := by decide +kernel
theorem dX6_readWord_25 : decode cX6_readWord 25 = .ok (.aload_n 0, 1) := by decide +kernel
theorem dX6_readWord_26 : decode cX6_readWord 26 = .ok (.invokevirtual 96, 3) := by decide +kernel
theorem dX6_readWord_29 : decode cX6_readWord 29 = .ok (.istore_n 3, 1) := by decide +kernel
theorem dX6_readWord_30 : decode cX6_readWord 30 = .ok (.iload_n 3, 1) := by decide +kernel
theorem dX6_readWord_31 : decode cX6_readWord 31 = .ok (.ifCond .ne 8, 3) := by decide +kernel
theorem dX6_readWord_34 : decode cX6_readWord 34 = .ok (.aload_n 0, 1) := by decide +kernel
theorem dX6_readWord_35 : decode cX6_readWord 35 = .ok (.invokevirtual 60, 3) := by decide +kernel
theorem dX6_readWord_38 : decode cX6_readWord 38 = .ok (.return_, 1) := by decide +kernel
theorem dX6_readWord_39 : decode cX6_readWord 39 = .ok (.aload_n 0, 1) := by decide +kernel
theorem dX6_readWord_40 : decode cX6_readWord 40 = .ok (.bipush 8, 2) := by decide +kernel
theorem dX6_readWord_42 : decode cX6_readWord 42 = .ok (.iload_n 3, 1) := by decide +kernel
theorem dX6_readWord_43 : decode cX6_readWord 43 = .ok (.invokevirtual 70, 3) := by decide +kernel
theorem dX6_readWord_46 : decode cX6_readWord 46 = .ok (.aload_n 0, 1) := by decide +kernel
theorem dX6_readWord_47 : decode cX6_readWord 47 = .ok (.invokevirtual 53, 3) := by decide +kernel
theorem dX6_readWord_50 : decode cX6_readWord 50 = .ok (.return_, 1) := by decide +kernel
theorem dX6_readConstant_0 : decode cX6_readConstant 0 = .ok (.aload_n 0, 1) := by decide +kernel
theorem dX6_readConstant_1 : decode cX6_readConstant 1 = .ok (.aload_n 0, 1) := by decide +kernel
theorem dX6_readConstant_2 : decode cX6_readConstant 2 = .ok (.getfield 38, 3) := by decide +kernel
theorem dX6_readConstant_5 : decode cX6_readConstant 5 = .ok (.invokevirtual 99, 3) := by decide +kernel
theorem dX6_readConstant_8 : decode cX6_readConstant 8 = .ok (.istore_n 1, 1) := by decide +kernel
theorem dX6_readConstant_9 : decode cX6_readConstant 9 = .ok (.aload_n 0, 1) := by decide +kernel
theorem dX6_readConstant_10 : decode cX6_readConstant 10 = .ok (.getfield 41, 3) := by decide +kernel
theorem dX6_readConstant_13 : decode cX6_readConstant 13 = .ok (.aload_n 0, 1) := by decide +kernel
theorem dX6_readConstant_14 : decode cX6_readConstant 14 = .ok (.getfield 38, 3) := by decide +kernel
theorem dX6_readConstant_17 : decode cX6_readConstant 17 = .ok (.isub, 1) := by decide +kernel
theorem dX6_readConstant_18 : decode cX6_readConstant 18 = .ok (.iconst 1, 1) := by decide +kernel
theorem dX6_readConstant_19 : decode cX6_readConstant 19 = .ok (.if_icmp .ne 15, 3) := by decide +kernel
theorem dX6_readConstant_22 : decode cX6_readConstant 22 = .ok (.iload_n 1, 1) := by decide +kernel
theorem dX6_readConstant_23 : decode cX6_readConstant 23 = .ok (.bipush 48, 2) := by decide +kernel
theorem dX6_readConstant_25 : decode cX6_readConstant 25 = .ok (.if_icmp .eq 14, 3) := by decide +kernel
theorem dX6_readConstant_28 : decode cX6_readConstant 28 = .ok (.iload_n 1, 1) := by decide +kernel
theorem dX6_readConstant_29 : decode cX6_readConstant 29 = .ok (.bipush 49, 2) := by decide +kernel
theorem dX6_readConstant_31 : decode cX6_readConstant 31 = .ok (.if_icmp .eq 8, 3) := by decide +kernel
theorem dX6_readConstant_34 : decode cX6_readConstant 34 = .ok (.aload_n 0, 1) := by decide +kernel
theorem dX6_readConstant_35 : decode cX6_readConstant 35 = .ok (.invokevirtual 60, 3) := by decide +kernel
theorem dX6_readConstant_38 : decode cX6_readConstant 38 = .ok (.return_, 1) := by decide +kernel
theorem dX6_readConstant_39 : decode cX6_readConstant 39 = .ok (.aload_n 0, 1) := by decide +kernel
theorem dX6_readConstant_40 : decode cX6_readConstant 40 = .ok (.iload_n 1, 1) := by decide +kernel
theorem dX6_readConstant_41 : decode cX6_readConstant 41 = .ok (.bipush 48, 2) := by decide +kernel
theorem dX6_readConstant_43 : decode cX6_readConstant 43 = .ok (.if_icmp .ne 8, 3) := by decide +kernel
theorem dX6_readConstant_46 : decode cX6_readConstant 46 = .ok (.bipush 9, 2) := by decide +kernel
theorem dX6_readConstant_48 : decode cX6_readConstant 48 = .ok (.goto 5, 3) := by decide +kernel
theorem dX6_readConstant_51 : decode cX6_readConstant 51 = .ok (.bipush 8, 2) := by decide +kernel
theorem dX6_readConstant_53 : decode cX6_readConstant 53 = .ok (.iconst 0, 1) := by decide +kernel
theorem dX6_readConstant_54 : decode cX6_readConstant 54 = .ok (.invokevirtual 70, 3) := by decide +kernel
theorem dX6_readConstant_57 : decode cX6_readConstant 57 = .ok (.aload_n 0, 1) := by decide +kernel
theorem dX6_readConstant_58 : decode cX6_readConstant 58 = .ok (.invokevirtual 53, 3) := by decide +kernel
theorem dX6_readConstant_61 : decode cX6_readConstant 61 = .ok (.return_, 1) := by decide +kernel
theorem dX6_readFamilyNumber_0 : decode cX6_readFamilyNumber 0 = .ok (.aload_n 0, 1) := by decide +kernel
theorem dX6_readFamilyNumber_1 : decode cX6_readFamilyNumber 1 = .ok (.getfield 35, 3) := by decide +kernel
theorem dX6_readFamilyNumber_4 : decode cX6_readFamilyNumber 4 = .ok (.bipush 13, 2) := by decide +kernel
theorem dX6_readFamilyNumber_6 : decode cX6_readFamilyNumber 6 = .ok (.if_icmp .ne 17, 3) := by decide +kernel
theorem dX6_readFamilyNumber_9 : decode cX6_readFamilyNumber 9 = .ok (.aload_n 0, 1) := by decide +kernel
theorem dX6_readFamilyNumber_10 : decode cX6_readFamilyNumber 10 = .ok (.getfield 41, 3) := by decide +kernel
theorem dX6_readFamilyNumber_13 : decode cX6_readFamilyNumber 13 = .ok (.aload_n 0, 1) := by decide +kernel
theorem dX6_readFamilyNumber_14 : decode cX6_readFamilyNumber 14 = .ok (.getfield 38, 3) := by decide +kernel
theorem dX6_readFamilyNumber_17 : decode cX6_readFamilyNumber 17 = .ok (.isub, 1) := by decide +kernel
theorem dX6_readFamilyNumber_18 : decode cX6_readFamilyNumber 18 = .ok (.bipush 9, 2) := by decide +kernel
theorem dX6_readFamilyNumber_20 : decode cX6_readFamilyNumber 20 = .ok (.if_icmp .le 8, 3) := by decide +kernel
theorem dX6_readFamilyNumber_23 : decode cX6_readFamilyNumber 23 = .ok (.aload_n 0, 1) := by decide +kernel
theorem dX6_readFamilyNumber_24 : decode cX6_readFamilyNumber 24 = .ok (.invokevirtual 60, 3) := by decide +kernel
theorem dX6_readFamilyNumber_27 : decode cX6_readFamilyNumber 27 = .ok (.return_, 1) := by decide +kernel
theorem dX6_readFamilyNumber_28 : decode cX6_readFamilyNumber 28 = .ok (.iconst 0, 1) := by decide +kernel
theorem dX6_readFamilyNumber_29 : decode cX6_readFamilyNumber 29 = .ok (.istore_n 1, 1) := by decide +kernel
theorem dX6_readFamilyNumber_30 : decode cX6_readFamilyNumber 30 = .ok (.aload_n 0, 1) := by decide +kernel
theorem dX6_readFamilyNumber_31 : decode cX6_readFamilyNumber 31 = .ok (.getfield 38, 3) := by decide +kernel
theorem dX6_readFamilyNumber_34 : decode cX6_readFamilyNumber 34 = .ok (.istore_n 2, 1) := by decide +kernel
theorem dX6_readFamilyNumber_35 : decode cX6_readFamilyNumber 35 = .ok (.iload_n 2, 1) := by decide +kernel
theorem dX6_readFamilyNumber_36 : decode cX6_readFamilyNumber 36 = .ok (.aload_n 0, 1) := by decide +kernel
theorem dX6_readFamilyNumber_37 : decode cX6_readFamilyNumber 37 = .ok (.getfield 41, 3) := by decide +kernel
theorem dX6_readFamilyNumber_40 : decode cX6_readFamilyNumber 40 = .ok (.if_icmp .ge 23, 3) := by decide +kernel
theorem dX6_readFamilyNumber_43 : decode cX6_readFamilyNumber 43 = .ok (.iload_n 1, 1) := by decide +kernel
theorem dX6_readFamilyNumber_44 : decode cX6_readFamilyNumber 44 = .ok (.bipush 10, 2) := by decide +kernel
theorem dX6_readFamilyNumber_46 : decode cX6_readFamilyNumber 46 = .ok (.imul, 1) := by decide +kernel
theorem dX6_readFamilyNumber_47 : decode cX6_readFamilyNumber 47 = .ok (.aload_n 0, 1) := by decide +kernel
theorem dX6_readFamilyNumber_48 : decode cX6_readFamilyNumber 48 = .ok (.iload_n 2, 1) := by decide +kernel
theorem dX6_readFamilyNumber_49 : decode cX6_readFamilyNumber 49 = .ok (.invokevirtual 99, 3) := by decide +kernel
theorem dX6_readFamilyNumber_52 : decode cX6_readFamilyNumber 52 = .ok (.iadd, 1) := by decide +kernel
theorem dX6_readFamilyNumber_53 : decode cX6_readFamilyNumber 53 = .ok (.bipush 48, 2) := by decide +kernel
theorem dX6_readFamilyNumber_55 : decode cX6_readFamilyNumber 55 = .ok (.isub, 1) := by decide +kernel
theorem dX6_readFamilyNumber_56 : decode cX6_readFamilyNumber 56 = .ok (.istore_n 1, 1) := by decide +kernel
theorem dX6_readFamilyNumber_57 : decode cX6_readFamilyNumber 57 = .ok (.iinc 2 1, 3) := by decide +kernel
theorem dX6_readFamilyNumber_60 : decode cX6_readFamilyNumber 60 = .ok (.goto (-25), 3) := by decide +kernel
theorem dX6_readFamilyNumber_63 : decode cX6_readFamilyNumber 63 = .ok (.iload_n 1, 1) := by decide +kernel
theorem dX6_readFamilyNumber_64 : decode cX6_readFamilyNumber 64 = .ok (.ifCond .lt 21, 3) := by decide +kernel
theorem dX6_readFamilyNumber_67 : decode cX6_readFamilyNumber 67 = .ok (.iload_n 1, 1) := by decide +kernel
theorem dX6_readFamilyNumber_68 : decode cX6_readFamilyNumber 68 = .ok (.aload_n 0, 1) := by decide +kernel
theorem dX6_readFamilyNumber_69 : decode cX6_readFamilyNumber 69 = .ok (.getfield 31, 3) := by decide +kernel
theorem dX6_readFamilyNumber_72 : decode cX6_readFamilyNumber 72 = .ok (.arraylength, 1) := by decide +kernel
theorem dX6_readFamilyNumber_73 : decode cX6_readFamilyNumber 73 = .ok (.if_icmp .ge 12, 3) := by decide +kernel
theorem dX6_readFamilyNumber_76 : decode cX6_readFamilyNumber 76 = .ok (.aload_n 0, 1) := by decide +kernel
theorem dX6_readFamilyNumber_77 : decode cX6_readFamilyNumber 77 = .ok (.getfield 31, 3) := by decide +kernel
theorem dX6_readFamilyNumber_80 : decode cX6_readFamilyNumber 80 = .ok (.iload_n 1, 1) := by decide +kernel
theorem dX6_readFamilyNumber_81 : decode cX6_readFamilyNumber 81 = .ok (.aaload, 1) := by decide +kernel
theorem dX6_readFamilyNumber_82 : decode cX6_readFamilyNumber 82 = .ok (.ifnonnull 8, 3) := by decide +kernel
theorem dX6_readFamilyNumber_85 : decode cX6_readFamilyNumber 85 = .ok (.aload_n 0, 1) := by decide +kernel
theorem dX6_readFamilyNumber_86 : decode cX6_readFamilyNumber 86 = .ok (.invokevirtual 60, 3) := by decide +kernel
theorem dX6_readFamilyNumber_89 : decode cX6_readFamilyNumber 89 = .ok (.return_, 1) := by decide +kernel
theorem dX6_readFamilyNumber_90 : decode cX6_readFamilyNumber 90 = .ok (.aload_n 0, 1) := by decide +kernel
theorem dX6_readFamilyNumber_91 : decode cX6_readFamilyNumber 91 = .ok (.bipush 10, 2) := by decide +kernel
theorem dX6_readFamilyNumber_93 : decode cX6_readFamilyNumber 93 = .ok (.iload_n 1, 1) := by decide +kernel
theorem dX6_readFamilyNumber_94 : decode cX6_readFamilyNumber 94 = .ok (.invokevirtual 70, 3) := by decide +kernel
theorem dX6_readFamilyNumber_97 : decode cX6_readFamilyNumber 97 = .ok (.aload_n 0, 1) := by decide +kernel
theorem dX6_readFamilyNumber_98 : decode cX6_readFamilyNumber 98 = .ok (.invokevirtual 53, 3) := by decide +kernel
theorem dX6_readFamilyNumber_101 : decode cX6_readFamilyNumber 101 = .ok (.return_, 1) := by decide +kernel
theorem dX6_functionOfWord_0 : decode cX6_functionOfWord 0 = .ok (.aload_n 0, 1) := by decide +kernel
theorem dX6_functionOfWord_1 : decode cX6_functionOfWord 1 = .ok (.bipush 109, 2) := by decide +kernel
theorem dX6_functionOfWord_3 : decode cX6_functionOfWord 3 = .ok (.bipush 97, 2) := by decide +kernel
theorem dX6_functionOfWord_5 : decode cX6_functionOfWord 5 = .ok (.bipush 120, 2) := by decide +kernel
theorem dX6_functionOfWord_7 : decode cX6_functionOfWord 7 = .ok (.invokevirtual 103, 3) := by decide +kernel
theorem dX6_functionOfWord_10 : decode cX6_functionOfWord 10 = .ok (.ifCond .eq 5, 3) := by decide +kernel
theorem dX6_functionOfWord_13 : decode cX6_functionOfWord 13 = .ok (.iconst 4, 1) := by decide +kernel
theorem dX6_functionOfWord_14 : decode cX6_functionOfWord 14 = .ok (.ireturn, 1) := by decide +kernel
theorem dX6_functionOfWord_15 : decode cX6_functionOfWord 15 = .ok (.aload_n 0, 1) := by decide +kernel
theorem dX6_functionOfWord_16 : decode cX6_functionOfWord 16 = .ok (.bipush 109, 2) := by decide +kernel
theorem dX6_functionOfWord_18 : decode cX6_functionOfWord 18 = .ok (.bipush 105, 2) := by decide +kernel
theorem dX6_functionOfWord_20 : decode cX6_functionOfWord 20 = .ok (.bipush 110, 2) := by decide +kernel
theorem dX6_functionOfWord_22 : decode cX6_functionOfWord 22 = .ok (.invokevirtual 103, 3) := by decide +kernel
theorem dX6_functionOfWord_25 : decode cX6_functionOfWord 25 = .ok (.ifCond .eq 5, 3) := by decide +kernel
theorem dX6_functionOfWord_28 : decode cX6_functionOfWord 28 = .ok (.iconst 5, 1) := by decide +kernel
theorem dX6_functionOfWord_29 : decode cX6_functionOfWord 29 = .ok (.ireturn, 1) := by decide +kernel
theorem dX6_functionOfWord_30 : decode cX6_functionOfWord 30 = .ok (.aload_n 0, 1) := by decide +kernel
theorem dX6_functionOfWord_31 : decode cX6_functionOfWord 31 = .ok (.bipush 104, 2) := by decide +kernel
theorem dX6_functionOfWord_33 : decode cX6_functionOfWord 33 = .ok (.bipush 105, 2) := by decide +kernel
theorem dX6_functionOfWord_35 : decode cX6_functionOfWord 35 = .ok (.bipush 116, 2) := by decide +kernel
theorem dX6_functionOfWord_37 : decode cX6_functionOfWord 37 = .ok (.invokevirtual 103, 3) := by decide +kernel
theorem dX6_functionOfWord_40 : decode cX6_functionOfWord 40 = .ok (.ifCond .eq 6, 3) := by decide +kernel
theorem dX6_functionOfWord_43 : decode cX6_functionOfWord 43 = .ok (.bipush 6, 2) := by decide +kernel
theorem dX6_functionOfWord_45 : decode cX6_functionOfWord 45 = .ok (.ireturn, 1) := by decide +kernel
theorem dX6_functionOfWord_46 : decode cX6_functionOfWord 46 = .ok (.aload_n 0, 1) := by decide +kernel
theorem dX6_functionOfWord_47 : decode cX6_functionOfWord 47 = .ok (.bipush 115, 2) := by decide +kernel
theorem dX6_functionOfWord_49 : decode cX6_functionOfWord 49 = .ok (.bipush 117, 2) := by decide +kernel
theorem dX6_functionOfWord_51 : decode cX6_functionOfWord 51 = .ok (.bipush 98, 2) := by decide +kernel
theorem dX6_functionOfWord_53 : decode cX6_functionOfWord 53 = .ok (.invokevirtual 103, 3) := by decide +kernel
theorem dX6_functionOfWord_56 : decode cX6_functionOfWord 56 = .ok (.ifCond .eq 8, 3) := by decide +kernel
theorem dX6_functionOfWord_59 : decode cX6_functionOfWord 59 = .ok (.bipush 7, 2) := by decide +kernel
theorem dX6_functionOfWord_61 : decode cX6_functionOfWord 61 = .ok (.goto 4, 3) := by decide +kernel
theorem dX6_functionOfWord_64 : decode cX6_functionOfWord 64 = .ok (.iconst 0, 1) := by decide +kernel
theorem dX6_functionOfWord_65 : decode cX6_functionOfWord 65 = .ok (.ireturn, 1) := by decide +kernel
theorem dX6_isWord_0 : decode cX6_isWord 0 = .ok (.aload_n 0, 1) := by decide +kernel
theorem dX6_isWord_1 : decode cX6_isWord 1 = .ok (.getfield 41, 3) := by decide +kernel
theorem dX6_isWord_4 : decode cX6_isWord 4 = .ok (.aload_n 0, 1) := by decide +kernel
theorem dX6_isWord_5 : decode cX6_isWord 5 = .ok (.getfield 38, 3) := by decide +kernel
theorem dX6_isWord_8 : decode cX6_isWord 8 = .ok (.isub, 1) := by decide +kernel
theorem dX6_isWord_9 : decode cX6_isWord 9 = .ok (.iconst 3, 1) := by decide +kernel
theorem dX6_isWord_10 : decode cX6_isWord 10 = .ok (.if_icmp .ne 47, 3) := by decide +kernel
theorem dX6_isWord_13 : decode cX6_isWord 13 = .ok (.aload_n 0, 1) := by decide +kernel
theorem dX6_isWord_14 : decode cX6_isWord 14 = .ok (.aload_n 0, 1) := by decide +kernel
theorem dX6_isWord_15 : decode cX6_isWord 15 = .ok (.getfield 38, 3) := by decide +kernel
theorem dX6_isWord_18 : decode cX6_isWord 18 = .ok (.invokevirtual 99, 3) := by decide +kernel
theorem dX6_isWord_21 : decode cX6_isWord 21 = .ok (.iload_n 1, 1) := by decide +kernel
theorem dX6_isWord_22 : decode cX6_isWord 22 = .ok (.if_icmp .ne 35, 3) := by decide +kernel
theorem dX6_isWord_25 : decode cX6_isWord 25 = .ok (.aload_n 0, 1) := by decide +kernel
theorem dX6_isWord_26 : decode cX6_isWord 26 = .ok (.aload_n 0, 1) := by decide +kernel
theorem dX6_isWord_27 : decode cX6_isWord 27 = .ok (.getfield 38, 3) := by decide +kernel
theorem dX6_isWord_30 : decode cX6_isWord 30 = .ok (.iconst 1, 1) := by decide +kernel
theorem dX6_isWord_31 : decode cX6_isWord 31 = .ok (.iadd, 1) := by decide +kernel
theorem dX6_isWord_32 : decode cX6_isWord 32 = .ok (.invokevirtual 99, 3) := by decide +kernel
theorem dX6_isWord_35 : decode cX6_isWord 35 = .ok (.iload_n 2, 1) := by decide +kernel
theorem dX6_isWord_36 : decode cX6_isWord 36 = .ok (.if_icmp .ne 21, 3) := by decide +kernel
theorem dX6_isWord_39 : decode cX6_isWord 39 = .ok (.aload_n 0, 1) := by decide +kernel
theorem dX6_isWord_40 : decode cX6_isWord 40 = .ok (.aload_n 0, 1) := by decide +kernel
theorem dX6_isWord_41 : decode cX6_isWord 41 = .ok (.getfield 38, 3) := by decide +kernel
theorem dX6_isWord_44 : decode cX6_isWord 44 = .ok (.iconst 2, 1) := by decide +kernel
theorem dX6_isWord_45 : decode cX6_isWord 45 = .ok (.iadd, 1) := by decide +kernel
theorem dX6_isWord_46 : decode cX6_isWord 46 = .ok (.invokevirtual 99, 3) := by decide +kernel
theorem dX6_isWord_49 : decode cX6_isWord 49 = .ok (.iload_n 3, 1) := by decide +kernel
theorem dX6_isWord_50 : decode cX6_isWord 50 = .ok (.if_icmp .ne 7, 3) := by decide +kernel
theorem dX6_isWord_53 : decode cX6_isWord 53 = .ok (.iconst 1, 1) := by decide +kernel
theorem dX6_isWord_54 : decode cX6_isWord 54 = .ok (.goto 4, 3) := by decide +kernel
theorem dX6_isWord_57 : decode cX6_isWord 57 = .ok (.iconst 0, 1) := by decide +kernel
theorem dX6_isWord_58 : decode cX6_isWord 58 = .ok (.ireturn, 1) := by decide +kernel
theorem dX6_maskOfWord_0 : decode cX6_maskOfWord 0 = .ok (.iconst 0, 1) := by decide +kernel
theorem dX6_maskOfWord_1 : decode cX6_maskOfWord 1 = .ok (.istore_n 1, 1) := by decide +kernel
theorem dX6_maskOfWord_2 : decode cX6_maskOfWord 2 = .ok (.aload_n 0, 1) := by decide +kernel
theorem dX6_maskOfWord_3 : decode cX6_maskOfWord 3 = .ok (.getfield 38, 3) := by decide +kernel
theorem dX6_maskOfWord_6 : decode cX6_maskOfWord 6 = .ok (.istore_n 2, 1) := by decide +kernel
theorem dX6_maskOfWord_7 : decode cX6_maskOfWord 7 = .ok (.iload_n 2, 1) := by decide +kernel
theorem dX6_maskOfWord_8 : decode cX6_maskOfWord 8 = .ok (.aload_n 0, 1) := by decide +kernel
theorem dX6_maskOfWord_9 : decode cX6_maskOfWord 9 = .ok (.getfield 41, 3) := by decide +kernel
theorem dX6_maskOfWord_12 : decode cX6_maskOfWord 12 = .ok (.if_icmp .ge 44, 3) := by decide +kernel
theorem dX6_maskOfWord_15 : decode cX6_maskOfWord 15 = .ok (.aload_n 0, 1) := by decide +kernel
theorem dX6_maskOfWord_16 : decode cX6_maskOfWord 16 = .ok (.iload_n 2, 1) := by decide +kernel
theorem dX6_maskOfWord_17 : decode cX6_maskOfWord 17 = .ok (.invokevirtual 99, 3) := by decide +kernel
theorem dX6_maskOfWord_20 : decode cX6_maskOfWord 20 = .ok (.bipush 97, 2) := by decide +kernel
theorem dX6_maskOfWord_22 : decode cX6_maskOfWord 22 = .ok (.isub, 1) := by decide +kernel
theorem dX6_maskOfWord_23 : decode cX6_maskOfWord 23 = .ok (.istore_n 3, 1) := by decide +kernel
theorem dX6_maskOfWord_24 : decode cX6_maskOfWord 24 = .ok (.iload_n 3, 1) := by decide +kernel
theorem dX6_maskOfWord_25 : decode cX6_maskOfWord 25 = .ok (.ifCond .lt 17, 3) := by decide +kernel
theorem dX6_maskOfWord_28 : decode cX6_maskOfWord 28 = .ok (.iload_n 3, 1) := by decide +kernel
theorem dX6_maskOfWord_29 : decode cX6_maskOfWord 29 = .ok (.bipush 12, 2) := by decide +kernel
theorem dX6_maskOfWord_31 : decode cX6_maskOfWord 31 = .ok (.if_icmp .ge 11, 3) := by decide +kernel
theorem dX6_maskOfWord_34 : decode cX6_maskOfWord 34 = .ok (.iload_n 1, 1) := by decide +kernel
theorem dX6_maskOfWord_35 : decode cX6_maskOfWord 35 = .ok (.iload_n 3, 1) := by decide +kernel
theorem dX6_maskOfWord_36 : decode cX6_maskOfWord 36 = .ok (.ishr, 1) := by decide +kernel
theorem dX6_maskOfWord_37 : decode cX6_maskOfWord 37 = .ok (.iconst 1, 1) := by decide +kernel
theorem dX6_maskOfWord_38 : decode cX6_maskOfWord 38 = .ok (.iand, 1) := by decide +kernel
theorem dX6_maskOfWord_39 : decode cX6_maskOfWord 39 = .ok (.ifCond .eq 5, 3) := by decide +kernel
theorem dX6_maskOfWord_42 : decode cX6_maskOfWord 42 = .ok (.iconst 0, 1) := by decide +kernel
theorem dX6_maskOfWord_43 : decode cX6_maskOfWord 43 = .ok (.ireturn, 1) := by decide +kernel
theorem dX6_maskOfWord_44 : decode cX6_maskOfWord 44 = .ok (.iload_n 1, 1) := by decide +kernel
theorem dX6_maskOfWord_45 : decode cX6_maskOfWord 45 = .ok (.iconst 1, 1) := by decide +kernel
theorem dX6_maskOfWord_46 : decode cX6_maskOfWord 46 = .ok (.iload_n 3, 1) := by decide +kernel
theorem dX6_maskOfWord_47 : decode cX6_maskOfWord 47 = .ok (.ishl, 1) := by decide +kernel
theorem dX6_maskOfWord_48 : decode cX6_maskOfWord 48 = .ok (.ior, 1) := by decide +kernel
theorem dX6_maskOfWord_49 : decode cX6_maskOfWord 49 = .ok (.istore_n 1, 1) := by decide +kernel
theorem dX6_maskOfWord_50 : decode cX6_maskOfWord 50 = .ok (.iinc 2 1, 3) := by decide +kernel
theorem dX6_maskOfWord_53 : decode cX6_maskOfWord 53 = .ok (.goto (-46), 3) := by decide +kernel
theorem dX6_maskOfWord_56 : decode cX6_maskOfWord 56 = .ok (.iload_n 1, 1) := by decide +kernel
theorem dX6_maskOfWord_57 : decode cX6_maskOfWord 57 = .ok (.ireturn, 1) := by decide +kernel
theorem dX6_advance_0 : decode cX6_advance 0 = .ok (.aload_n 0, 1) := by decide +kernel
theorem dX6_advance_1 : decode cX6_advance 1 = .ok (.aload_n 0, 1) := by decide +kernel
theorem dX6_advance_2 : decode cX6_advance 2 = .ok (.getfield 41, 3) := by decide +kernel
theorem dX6_advance_5 : decode cX6_advance 5 = .ok (.putfield 38, 3) := by decide +kernel
theorem dX6_advance_8 : decode cX6_advance 8 = .ok (.aload_n 0, 1) := by decide +kernel
theorem dX6_advance_9 : decode cX6_advance 9 = .ok (.getfield 38, 3) := by decide +kernel
theorem dX6_advance_12 : decode cX6_advance 12 = .ok (.aload_n 0, 1) := by decide +kernel
theorem dX6_advance_13 : decode cX6_advance 13 = .ok (.getfield 26, 3) := by decide +kernel
theorem dX6_advance_16 : decode cX6_advance 16 = .ok (.if_icmp .ge 29, 3) := by decide +kernel
theorem dX6_advance_19 : decode cX6_advance 19 = .ok (.aload_n 0, 1) := by decide +kernel
theorem dX6_advance_20 : decode cX6_advance 20 = .ok (.aload_n 0, 1) := by decide +kernel
theorem dX6_advance_21 : decode cX6_advance 21 = .ok (.getfield 38, 3) := by decide +kernel
theorem dX6_advance_24 : decode cX6_advance 24 = .ok (.invokevirtual 99, 3) := by decide +kernel
theorem dX6_advance_27 : decode cX6_advance 27 = .ok (.bipush 32, 2) := by decide +kernel
theorem dX6_advance_29 : decode cX6_advance 29 = .ok (.if_icmp .ne 16, 3) := by decide +kernel
theorem dX6_advance_32 : decode cX6_advance 32 = .ok (.aload_n 0, 1) := by decide +kernel
theorem dX6_advance_33 : decode cX6_advance 33 = .ok (.dup, 1) := by decide +kernel
theorem dX6_advance_34 : decode cX6_advance 34 = .ok (.getfield 38, 3) := by decide +kernel
theorem dX6_advance_37 : decode cX6_advance 37 = .ok (.iconst 1, 1) := by decide +kernel
theorem dX6_advance_38 : decode cX6_advance 38 = .ok (.iadd, 1) := by decide +kernel
theorem dX6_advance_39 : decode cX6_advance 39 = .ok (.putfield 38, 3) := by decide +kernel
theorem dX6_advance_42 : decode cX6_advance 42 = .ok (.goto (-34), 3) := by decide +kernel
theorem dX6_advance_45 : decode cX6_advance 45 = .ok (.aload_n 0, 1) := by decide +kernel
theorem dX6_advance_46 : decode cX6_advance 46 = .ok (.aload_n 0, 1) := by decide +kernel
theorem dX6_advance_47 : decode cX6_advance 47 = .ok (.getfield 38, 3) := by decide +kernel
theorem dX6_advance_50 : decode cX6_advance 50 = .ok (.putfield 41, 3) := by decide +kernel
theorem dX6_advance_53 : decode cX6_advance 53 = .ok (.aload_n 0, 1) := by decide +kernel
theorem dX6_advance_54 : decode cX6_advance 54 = .ok (.getfield 38, 3) := by decide +kernel
theorem dX6_advance_57 : decode cX6_advance 57 = .ok (.aload_n 0, 1) := by decide +kernel
theorem dX6_advance_58 : decode cX6_advance 58 = .ok (.getfield 26, 3) := by decide +kernel
theorem dX6_advance_61 : decode cX6_advance 61 = .ok (.if_icmp .lt 10, 3) := by decide +kernel
theorem dX6_advance_64 : decode cX6_advance 64 = .ok (.aload_n 0, 1) := by decide +kernel
theorem dX6_advance_65 : decode cX6_advance 65 = .ok (.bipush 11, 2) := by decide +kernel
theorem dX6_advance_67 : decode cX6_advance 67 = .ok (.putfield 35, 3) := by decide +kernel
theorem dX6_advance_70 : decode cX6_advance 70 = .ok (.return_, 1) := by decide +kernel
theorem dX6_advance_71 : decode cX6_advance 71 = .ok (.aload_n 0, 1) := by decide +kernel
theorem dX6_advance_72 : decode cX6_advance 72 = .ok (.aload_n 0, 1) := by decide +kernel
theorem dX6_advance_73 : decode cX6_advance 73 = .ok (.getfield 38, 3) := by decide +kernel
theorem dX6_advance_76 : decode cX6_advance 76 = .ok (.invokevirtual 99, 3) := by decide +kernel
theorem dX6_advance_79 : decode cX6_advance 79 = .ok (.istore_n 1, 1) := by decide +kernel
theorem dX6_advance_80 : decode cX6_advance 80 = .ok (.aload_n 0, 1) := by decide +kernel
theorem dX6_advance_81 : decode cX6_advance 81 = .ok (.dup, 1) := by decide +kernel
theorem dX6_advance_82 : decode cX6_advance 82 = .ok (.getfield 41, 3) := by decide +kernel
theorem dX6_advance_85 : decode cX6_advance 85 = .ok (.iconst 1, 1) := by decide +kernel
theorem dX6_advance_86 : decode cX6_advance 86 = .ok (.iadd, 1) := by decide +kernel
theorem dX6_advance_87 : decode cX6_advance 87 = .ok (.putfield 41, 3) := by decide +kernel
theorem dX6_advance_90 : decode cX6_advance 90 = .ok (.iload_n 1, 1) := by decide +kernel
theorem dX6_advance_91 : decode cX6_advance 91 = .ok (.invokestatic 107, 3) := by decide +kernel
theorem dX6_advance_94 : decode cX6_advance 94 = .ok (.ifCond .eq 47, 3) := by decide +kernel
theorem dX6_advance_97 : decode cX6_advance 97 = .ok (.aload_n 0, 1) := by decide +kernel
theorem dX6_advance_98 : decode cX6_advance 98 = .ok (.bipush 12, 2) := by decide +kernel
theorem dX6_advance_100 : decode cX6_advance 100 = .ok (.putfield 35, 3) := by decide +kernel
theorem dX6_advance_103 : decode cX6_advance 103 = .ok (.aload_n 0, 1) := by decide +kernel
theorem dX6_advance_104 : decode cX6_advance 104 = .ok (.getfield 41, 3) := by decide +kernel
theorem dX6_advance_107 : decode cX6_advance 107 = .ok (.aload_n 0, 1) := by decide +kernel
theorem dX6_advance_108 : decode cX6_advance 108 = .ok (.getfield 26, 3) := by decide +kernel
theorem dX6_advance_111 : decode cX6_advance 111 = .ok (.if_icmp .ge 98, 3) := by decide +kernel
theorem dX6_advance_114 : decode cX6_advance 114 = .ok (.aload_n 0, 1) := by decide +kernel
theorem dX6_advance_115 : decode cX6_advance 115 = .ok (.aload_n 0, 1) := by decide +kernel
theorem dX6_advance_116 : decode cX6_advance 116 = .ok (.getfield 41, 3) := by decide +kernel
theorem dX6_advance_119 : decode cX6_advance 119 = .ok (.invokevirtual 99, 3) := by decide +kernel
theorem dX6_advance_122 : decode cX6_advance 122 = .ok (.invokestatic 107, 3) := by decide +kernel
theorem dX6_advance_125 : decode cX6_advance 125 = .ok (.ifCond .eq 84, 3) := by decide +kernel
theorem dX6_advance_128 : decode cX6_advance 128 = .ok (.aload_n 0, 1) := by decide +kernel
theorem dX6_advance_129 : decode cX6_advance 129 = .ok (.dup, 1) := by decide +kernel
theorem dX6_advance_130 : decode cX6_advance 130 = .ok (.getfield 41, 3) := by decide +kernel
theorem dX6_advance_133 : decode cX6_advance 133 = .ok (.iconst 1, 1) := by decide +kernel
theorem dX6_advance_134 : decode cX6_advance 134 = .ok (.iadd, 1) := by decide +kernel
theorem dX6_advance_135 : decode cX6_advance 135 = .ok (.putfield 41, 3) := by decide +kernel
theorem dX6_advance_138 : decode cX6_advance 138 = .ok (.goto (-35), 3) := by decide +kernel
theorem dX6_advance_141 : decode cX6_advance 141 = .ok (.iload_n 1, 1) := by decide +kernel
theorem dX6_advance_142 : decode cX6_advance 142 = .ok (.invokestatic 110, 3) := by decide +kernel
theorem dX6_advance_145 : decode cX6_advance 145 = .ok (.ifCond .eq 47, 3) := by decide +kernel
theorem dX6_advance_148 : decode cX6_advance 148 = .ok (.aload_n 0, 1) := by decide +kernel
theorem dX6_advance_149 : decode cX6_advance 149 = .ok (.bipush 13, 2) := by decide +kernel
theorem dX6_advance_151 : decode cX6_advance 151 = .ok (.putfield 35, 3) := by decide +kernel
theorem dX6_advance_154 : decode cX6_advance 154 = .ok (.aload_n 0, 1) := by decide +kernel
theorem dX6_advance_155 : decode cX6_advance 155 = .ok (.getfield 41, 3) := by decide +kernel
theorem dX6_advance_158 : decode cX6_advance 158 = .ok (.aload_n 0, 1) := by decide +kernel
theorem dX6_advance_159 : decode cX6_advance 159 = .ok (.getfield 26, 3) := by decide +kernel
theorem dX6_advance_162 : decode cX6_advance 162 = .ok (.if_icmp .ge 47, 3) := by decide +kernel
theorem dX6_advance_165 : decode cX6_advance 165 = .ok (.aload_n 0, 1) := by decide +kernel
theorem dX6_advance_166 : decode cX6_advance 166 = .ok (.aload_n 0, 1) := by decide +kernel
theorem dX6_advance_167 : decode cX6_advance 167 = .ok (.getfield 41, 3) := by decide +kernel
theorem dX6_advance_170 : decode cX6_advance 170 = .ok (.invokevirtual 99, 3) := by decide +kernel
theorem dX6_advance_173 : decode cX6_advance 173 = .ok (.invokestatic 110, 3) := by decide +kernel
theorem dX6_advance_176 : decode cX6_advance 176 = .ok (.ifCond .eq 33, 3) := by decide +kernel
theorem dX6_advance_179 : decode cX6_advance 179 = .ok (.aload_n 0, 1) := by decide +kernel
theorem dX6_advance_180 : decode cX6_advance 180 = .ok (.dup, 1) := by decide +kernel
theorem dX6_advance_181 : decode cX6_advance 181 = .ok (.getfield 41, 3) := by decide +kernel
theorem dX6_advance_184 : decode cX6_advance 184 = .ok (.iconst 1, 1) := by decide +kernel
theorem dX6_advance_185 : decode cX6_advance 185 = .ok (.iadd, 1) := by decide +kernel
theorem dX6_advance_186 : decode cX6_advance 186 = .ok (.putfield 41, 3) := by decide +kernel
theorem dX6_advance_189 : decode cX6_advance 189 = .ok (.goto (-35), 3) := by decide +kernel
theorem dX6_advance_192 : decode cX6_advance 192 = .ok (.aload_n 0, 1) := by decide +kernel
theorem dX6_advance_193 : decode cX6_advance 193 = .ok (.iload_n 1, 1) := by decide +kernel
theorem dX6_advance_194 : decode cX6_advance 194 = .ok (.invokestatic 113, 3) := by decide +kernel
theorem dX6_advance_197 : decode cX6_advance 197 = .ok (.ifCond .eq 7, 3) := by decide +kernel
theorem dX6_advance_200 : decode cX6_advance 200 = .ok (.iload_n 1, 1) := by decide +kernel
theorem dX6_advance_201 : decode cX6_advance 201 = .ok (.goto 5, 3) := by decide +kernel
theorem dX6_advance_204 : decode cX6_advance 204 = .ok (.bipush 14, 2) := by decide +kernel
theorem dX6_advance_206 : decode cX6_advance 206 = .ok (.putfield 35, 3) := by decide +kernel
theorem dX6_advance_209 : decode cX6_advance 209 = .ok (.return_, 1) := by decide +kernel
theorem dX6_at_0 : decode cX6_at 0 = .ok (.iload_n 1, 1) := by decide +kernel
theorem dX6_at_1 : decode cX6_at 1 = .ok (.ifCond .lt 29, 3) := by decide +kernel
theorem dX6_at_4 : decode cX6_at 4 = .ok (.iload_n 1, 1) := by decide +kernel
theorem dX6_at_5 : decode cX6_at 5 = .ok (.aload_n 0, 1) := by decide +kernel
theorem dX6_at_6 : decode cX6_at 6 = .ok (.getfield 26, 3) := by decide +kernel
theorem dX6_at_9 : decode cX6_at 9 = .ok (.if_icmp .ge 21, 3) := by decide +kernel
theorem dX6_at_12 : decode cX6_at 12 = .ok (.iload_n 1, 1) := by decide +kernel
theorem dX6_at_13 : decode cX6_at 13 = .ok (.aload_n 0, 1) := by decide +kernel
theorem dX6_at_14 : decode cX6_at 14 = .ok (.getfield 22, 3) := by decide +kernel
theorem dX6_at_17 : decode cX6_at 17 = .ok (.arraylength, 1) := by decide +kernel
theorem dX6_at_18 : decode cX6_at 18 = .ok (.if_icmp .ge 12, 3) := by decide +kernel
theorem dX6_at_21 : decode cX6_at 21 = .ok (.aload_n 0, 1) := by decide +kernel
theorem dX6_at_22 : decode cX6_at 22 = .ok (.getfield 22, 3) := by decide +kernel
theorem dX6_at_25 : decode cX6_at 25 = .ok (.iload_n 1, 1) := by decide +kernel
theorem dX6_at_26 : decode cX6_at 26 = .ok (.baload, 1) := by decide +kernel
theorem dX6_at_27 : decode cX6_at 27 = .ok (.goto 4, 3) := by decide +kernel
theorem dX6_at_30 : decode cX6_at 30 = .ok (.iconst 0, 1) := by decide +kernel
theorem dX6_at_31 : decode cX6_at 31 = .ok (.ireturn, 1) := by decide +kernel
theorem dX6_isLetter_0 : decode cX6_isLetter 0 = .ok (.iload_n 0, 1) := by decide +kernel
theorem dX6_isLetter_1 : decode cX6_isLetter 1 = .ok (.bipush 97, 2) := by decide +kernel
theorem dX6_isLetter_3 : decode cX6_isLetter 3 = .ok (.if_icmp .lt 13, 3) := by decide +kernel
theorem dX6_isLetter_6 : decode cX6_isLetter 6 = .ok (.iload_n 0, 1) := by decide +kernel
theorem dX6_isLetter_7 : decode cX6_isLetter 7 = .ok (.bipush 122, 2) := by decide +kernel
theorem dX6_isLetter_9 : decode cX6_isLetter 9 = .ok (.if_icmp .gt 7, 3) := by decide +kernel
theorem dX6_isLetter_12 : decode cX6_isLetter 12 = .ok (.iconst 1, 1) := by decide +kernel
theorem dX6_isLetter_13 : decode cX6_isLetter 13 = .ok (.goto 4, 3) := by decide +kernel
theorem dX6_isLetter_16 : decode cX6_isLetter 16 = .ok (.iconst 0, 1) := by decide +kernel
theorem dX6_isLetter_17 : decode cX6_isLetter 17 = .ok (.ireturn, 1) := by decide +kernel
theorem dX6_isDigit_0 : decode cX6_isDigit 0 = .ok (.iload_n 0, 1) := by decide +kernel
theorem dX6_isDigit_1 : decode cX6_isDigit 1 = .ok (.bipush 48, 2) := by decide +kernel
theorem dX6_isDigit_3 : decode cX6_isDigit 3 = .ok (.if_icmp .lt 13, 3) := by decide +kernel
theorem dX6_isDigit_6 : decode cX6_isDigit 6 = .ok (.iload_n 0, 1) := by decide +kernel
theorem dX6_isDigit_7 : decode cX6_isDigit 7 = .ok (.bipush 57, 2) := by decide +kernel
theorem dX6_isDigit_9 : decode cX6_isDigit 9 = .ok (.if_icmp .gt 7, 3) := by decide +kernel
theorem dX6_isDigit_12 : decode cX6_isDigit 12 = .ok (.iconst 1, 1) := by decide +kernel
theorem dX6_isDigit_13 : decode cX6_isDigit 13 = .ok (.goto 4, 3) := by decide +kernel
theorem dX6_isDigit_16 : decode cX6_isDigit 16 = .ok (.iconst 0, 1) := by decide +kernel
theorem dX6_isDigit_17 : decode cX6_isDigit 17 = .ok (.ireturn, 1) := by decide +kernel
theorem dX6_isSymbol_0 : decode cX6_isSymbol 0 = .ok (.iload_n 0, 1) := by decide +kernel
theorem dX6_isSymbol_1 : decode cX6_isSymbol 1 = .ok (.invokestatic 66, 3) := by decide +kernel
theorem dX6_isSymbol_4 : decode cX6_isSymbol 4 = .ok (.ifCond .ne 28, 3) := by decide +kernel
theorem dX6_isSymbol_7 : decode cX6_isSymbol 7 = .ok (.iload_n 0, 1) := by decide +kernel
theorem dX6_isSymbol_8 : decode cX6_isSymbol 8 = .ok (.invokestatic 77, 3) := by decide +kernel
theorem dX6_isSymbol_11 : decode cX6_isSymbol 11 = .ok (.ifCond .ne 21, 3) := by decide +kernel
theorem dX6_isSymbol_14 : decode cX6_isSymbol 14 = .ok (.iload_n 0, 1) := by decide +kernel
theorem dX6_isSymbol_15 : decode cX6_isSymbol 15 = .ok (.bipush 40, 2) := by decide +kernel
theorem dX6_isSymbol_17 : decode cX6_isSymbol 17 = .ok (.if_icmp .eq 15, 3) := by decide +kernel
theorem dX6_isSymbol_20 : decode cX6_isSymbol 20 = .ok (.iload_n 0, 1) := by decide +kernel
theorem dX6_isSymbol_21 : decode cX6_isSymbol 21 = .ok (.bipush 41, 2) := by decide +kernel
theorem dX6_isSymbol_23 : decode cX6_isSymbol 23 = .ok (.if_icmp .eq 9, 3) := by decide +kernel
theorem dX6_isSymbol_26 : decode cX6_isSymbol 26 = .ok (.iload_n 0, 1) := by decide +kernel
theorem dX6_isSymbol_27 : decode cX6_isSymbol 27 = .ok (.bipush 35, 2) := by decide +kernel
theorem dX6_isSymbol_29 : decode cX6_isSymbol 29 = .ok (.if_icmp .ne 7, 3) := by decide +kernel
theorem dX6_isSymbol_32 : decode cX6_isSymbol 32 = .ok (.iconst 1, 1) := by decide +kernel
theorem dX6_isSymbol_33 : decode cX6_isSymbol 33 = .ok (.goto 4, 3) := by decide +kernel
theorem dX6_isSymbol_36 : decode cX6_isSymbol 36 = .ok (.iconst 0, 1) := by decide +kernel
theorem dX6_isSymbol_37 : decode cX6_isSymbol 37 = .ok (.ireturn, 1) := by decide +kernel
theorem dX7_has_0 : decode cX7_has 0 = .ok (.iload_n 1, 1) := by decide +kernel
theorem dX7_has_1 : decode cX7_has 1 = .ok (.ifCond .lt 32, 3) := by decide +kernel
theorem dX7_has_4 : decode cX7_has 4 = .ok (.iload_n 1, 1) := by decide +kernel
theorem dX7_has_5 : decode cX7_has 5 = .ok (.sipush 4096, 3) := by decide +kernel
theorem dX7_has_8 : decode cX7_has 8 = .ok (.if_icmp .ge 25, 3) := by decide +kernel
theorem dX7_has_11 : decode cX7_has 11 = .ok (.aload_n 0, 1) := by decide +kernel
theorem dX7_has_12 : decode cX7_has 12 = .ok (.iload_n 1, 1) := by decide +kernel
theorem dX7_has_13 : decode cX7_has 13 = .ok (.bipush 64, 2) := by decide +kernel
theorem dX7_has_15 : decode cX7_has 15 = .ok (.idiv, 1) := by decide +kernel
theorem dX7_has_16 : decode cX7_has 16 = .ok (.laload, 1) := by decide +kernel
theorem dX7_has_17 : decode cX7_has 17 = .ok (.iload_n 1, 1) := by decide +kernel
theorem dX7_has_18 : decode cX7_has 18 = .ok (.bipush 64, 2) := by decide +kernel
theorem dX7_has_20 : decode cX7_has 20 = .ok (.irem, 1) := by decide +kernel
theorem dX7_has_21 : decode cX7_has 21 = .ok (.lushr, 1) := by decide +kernel
theorem dX7_has_22 : decode cX7_has 22 = .ok (.lconst 1, 1) := by decide +kernel
theorem dX7_has_23 : decode cX7_has 23 = .ok (.land, 1) := by decide +kernel
theorem dX7_has_24 : decode cX7_has 24 = .ok (.lconst 0, 1) := by decide +kernel
theorem dX7_has_25 : decode cX7_has 25 = .ok (.lcmp, 1) := by decide +kernel
theorem dX7_has_26 : decode cX7_has 26 = .ok (.ifCond .eq 7, 3) := by decide +kernel
theorem dX7_has_29 : decode cX7_has 29 = .ok (.iconst 1, 1) := by decide +kernel
theorem dX7_has_30 : decode cX7_has 30 = .ok (.goto 4, 3) := by decide +kernel
theorem dX7_has_33 : decode cX7_has 33 = .ok (.iconst 0, 1) := by decide +kernel
theorem dX7_has_34 : decode cX7_has 34 = .ok (.ireturn, 1) := by decide +kernel
theorem dX7_put_0 : decode cX7_put 0 = .ok (.iload_n 1, 1) := by decide +kernel
theorem dX7_put_1 : decode cX7_put 1 = .ok (.ifCond .lt 25, 3) := by decide +kernel
theorem dX7_put_4 : decode cX7_put 4 = .ok (.iload_n 1, 1) := by decide +kernel
theorem dX7_put_5 : decode cX7_put 5 = .ok (.sipush 4096, 3) := by decide +kernel
theorem dX7_put_8 : decode cX7_put 8 = .ok (.if_icmp .ge 18, 3) := by decide +kernel
theorem dX7_put_11 : decode cX7_put 11 = .ok (.aload_n 0, 1) := by decide +kernel
theorem dX7_put_12 : decode cX7_put 12 = .ok (.iload_n 1, 1) := by decide +kernel
theorem dX7_put_13 : decode cX7_put 13 = .ok (.bipush 64, 2) := by decide +kernel
theorem dX7_put_15 : decode cX7_put 15 = .ok (.idiv, 1) := by decide +kernel
theorem dX7_put_16 : decode cX7_put 16 = .ok (.dup2, 1) := by decide +kernel
theorem dX7_put_17 : decode cX7_put 17 = .ok (.laload, 1) := by decide +kernel
theorem dX7_put_18 : decode cX7_put 18 = .ok (.lconst 1, 1) := by decide +kernel
theorem dX7_put_19 : decode cX7_put 19 = .ok (.iload_n 1, 1) := by decide +kernel
theorem dX7_put_20 : decode cX7_put 20 = .ok (.bipush 64, 2) := by decide +kernel
theorem dX7_put_22 : decode cX7_put 22 = .ok (.irem, 1) := by decide +kernel
theorem dX7_put_23 : decode cX7_put 23 = .ok (.lshl, 1) := by decide +kernel
theorem dX7_put_24 : decode cX7_put 24 = .ok (.lor, 1) := by decide +kernel
theorem dX7_put_25 : decode cX7_put 25 = .ok (.lastore, 1) := by decide +kernel
theorem dX7_put_26 : decode cX7_put 26 = .ok (.return_, 1) := by decide +kernel
theorem dX7_remove_0 : decode cX7_remove 0 = .ok (.iload_n 1, 1) := by decide +kernel
theorem dX7_remove_1 : decode cX7_remove 1 = .ok (.ifCond .lt 29, 3) := by decide +kernel
theorem dX7_remove_4 : decode cX7_remove 4 = .ok (.iload_n 1, 1) := by decide +kernel
theorem dX7_remove_5 : decode cX7_remove 5 = .ok (.sipush 4096, 3) := by decide +kernel
theorem dX7_remove_8 : decode cX7_remove 8 = .ok (.if_icmp .ge 22, 3) := by decide +kernel
theorem dX7_remove_11 : decode cX7_remove 11 = .ok (.aload_n 0, 1) := by decide +kernel
theorem dX7_remove_12 : decode cX7_remove 12 = .ok (.iload_n 1, 1) := by decide +kernel
theorem dX7_remove_13 : decode cX7_remove 13 = .ok (.bipush 64, 2) := by decide +kernel
theorem dX7_remove_15 : decode cX7_remove 15 = .ok (.idiv, 1) := by decide +kernel
theorem dX7_remove_16 : decode cX7_remove 16 = .ok (.dup2, 1) := by decide +kernel
theorem dX7_remove_17 : decode cX7_remove 17 = .ok (.laload, 1) := by decide +kernel
theorem dX7_remove_18 : decode cX7_remove 18 = .ok (.lconst 1, 1) := by decide +kernel
theorem dX7_remove_19 : decode cX7_remove 19 = .ok (.iload_n 1, 1) := by decide +kernel
theorem dX7_remove_20 : decode cX7_remove 20 = .ok (.bipush 64, 2) := by decide +kernel
theorem dX7_remove_22 : decode cX7_remove 22 = .ok (.irem, 1) := by decide +kernel
theorem dX7_remove_23 : decode cX7_remove 23 = .ok (.lshl, 1) := by decide +kernel
theorem dX7_remove_24 : decode cX7_remove 24 = .ok (.ldc2_w 9, 3) := by decide +kernel
theorem dX7_remove_27 : decode cX7_remove 27 = .ok (.lxor, 1) := by decide +kernel
theorem dX7_remove_28 : decode cX7_remove 28 = .ok (.land, 1) := by decide +kernel
theorem dX7_remove_29 : decode cX7_remove 29 = .ok (.lastore, 1) := by decide +kernel
theorem dX7_remove_30 : decode cX7_remove 30 = .ok (.return_, 1) := by decide +kernel
theorem dX7_copy_0 : decode cX7_copy 0 = .ok (.aload_n 0, 1) := by decide +kernel
theorem dX7_copy_1 : decode cX7_copy 1 = .ok (.iconst 0, 1) := by decide +kernel
theorem dX7_copy_2 : decode cX7_copy 2 = .ok (.aload_n 1, 1) := by decide +kernel
theorem dX7_copy_3 : decode cX7_copy 3 = .ok (.iconst 0, 1) := by decide +kernel
theorem dX7_copy_4 : decode cX7_copy 4 = .ok (.bipush 64, 2) := by decide +kernel
theorem dX7_copy_6 : decode cX7_copy 6 = .ok (.invokestatic 11, 3) := by decide +kernel
theorem dX7_copy_9 : decode cX7_copy 9 = .ok (.return_, 1) := by decide +kernel
theorem dX7_size_0 : decode cX7_size 0 = .ok (.iconst 0, 1) := by decide +kernel
theorem dX7_size_1 : decode cX7_size 1 = .ok (.istore_n 1, 1) := by decide +kernel
theorem dX7_size_2 : decode cX7_size 2 = .ok (.iconst 0, 1) := by decide +kernel
theorem dX7_size_3 : decode cX7_size 3 = .ok (.istore_n 2, 1) := by decide +kernel
theorem dX7_size_4 : decode cX7_size 4 = .ok (.iload_n 2, 1) := by decide +kernel
theorem dX7_size_5 : decode cX7_size 5 = .ok (.bipush 64, 2) := by decide +kernel
theorem dX7_size_7 : decode cX7_size 7 = .ok (.if_icmp .ge 18, 3) := by decide +kernel
theorem dX7_size_10 : decode cX7_size 10 = .ok (.iload_n 1, 1) := by decide +kernel
theorem dX7_size_11 : decode cX7_size 11 = .ok (.aload_n 0, 1) := by decide +kernel
theorem dX7_size_12 : decode cX7_size 12 = .ok (.iload_n 2, 1) := by decide +kernel
theorem dX7_size_13 : decode cX7_size 13 = .ok (.laload, 1) := by decide +kernel
theorem dX7_size_14 : decode cX7_size 14 = .ok (.invokestatic 17, 3) := by decide +kernel
theorem dX7_size_17 : decode cX7_size 17 = .ok (.iadd, 1) := by decide +kernel
theorem dX7_size_18 : decode cX7_size 18 = .ok (.istore_n 1, 1) := by decide +kernel
theorem dX7_size_19 : decode cX7_size 19 = .ok (.iinc 2 1, 3) := by decide +kernel
theorem dX7_size_22 : decode cX7_size 22 = .ok (.goto (-18), 3) := by decide +kernel
theorem dX7_size_25 : decode cX7_size 25 = .ok (.iload_n 1, 1) := by decide +kernel
theorem dX7_size_26 : decode cX7_size 26 = .ok (.ireturn, 1) := by decide +kernel
theorem dX7_sizeBelow_0 : decode cX7_sizeBelow 0 = .ok (.iconst 0, 1) := by decide +kernel
theorem dX7_sizeBelow_1 : decode cX7_sizeBelow 1 = .ok (.istore_n 2, 1) := by decide +kernel
theorem dX7_sizeBelow_2 : decode cX7_sizeBelow 2 = .ok (.iconst 0, 1) := by decide +kernel
theorem dX7_sizeBelow_3 : decode cX7_sizeBelow 3 = .ok (.istore_n 3, 1) := by decide +kernel
theorem dX7_sizeBelow_4 : decode cX7_sizeBelow 4 = .ok (.iload_n 3, 1) := by decide +kernel
theorem dX7_sizeBelow_5 : decode cX7_sizeBelow 5 = .ok (.iload_n 1, 1) := by decide +kernel
theorem dX7_sizeBelow_6 : decode cX7_sizeBelow 6 = .ok (.bipush 64, 2) := by decide +kernel
theorem dX7_sizeBelow_8 : decode cX7_sizeBelow 8 = .ok (.idiv, 1) := by decide +kernel
theorem dX7_sizeBelow_9 : decode cX7_sizeBelow 9 = .ok (.if_icmp .ge 24, 3) := by decide +kernel
theorem dX7_sizeBelow_12 : decode cX7_sizeBelow 12 = .ok (.iload_n 3, 1) := by decide +kernel
theorem dX7_sizeBelow_13 : decode cX7_sizeBelow 13 = .ok (.bipush 64, 2) := by decide +kernel
theorem dX7_sizeBelow_15 : decode cX7_sizeBelow 15 = .ok (.if_icmp .ge 18, 3) := by decide +kernel
theorem dX7_sizeBelow_18 : decode cX7_sizeBelow 18 = .ok (.iload_n 2, 1) := by decide +kernel
theorem dX7_sizeBelow_19 : decode cX7_sizeBelow 19 = .ok (.aload_n 0, 1) := by decide +kernel
theorem dX7_sizeBelow_20 : decode cX7_sizeBelow 20 = .ok (.iload_n 3, 1) := by decide +kernel
theorem dX7_sizeBelow_21 : decode cX7_sizeBelow 21 = .ok (.laload, 1) := by decide +kernel
theorem dX7_sizeBelow_22 : decode cX7_sizeBelow 22 = .ok (.invokestatic 17, 3) := by decide +kernel
theorem dX7_sizeBelow_25 : decode cX7_sizeBelow 25 = .ok (.iadd, 1) := by decide +kernel
theorem dX7_sizeBelow_26 : decode cX7_sizeBelow 26 = .ok (.istore_n 2, 1) := by decide +kernel
theorem dX7_sizeBelow_27 : decode cX7_sizeBelow 27 = .ok (.iinc 3 1, 3) := by decide +kernel
theorem dX7_sizeBelow_30 : decode cX7_sizeBelow 30 = .ok (.goto (-26), 3) := by decide +kernel
theorem dX7_sizeBelow_33 : decode cX7_sizeBelow 33 = .ok (.iload_n 1, 1) := by decide +kernel
theorem dX7_sizeBelow_34 : decode cX7_sizeBelow 34 = .ok (.ifCond .lt 33, 3) := by decide +kernel
theorem dX7_sizeBelow_37 : decode cX7_sizeBelow 37 = .ok (.iload_n 1, 1) := by decide +kernel
theorem dX7_sizeBelow_38 : decode cX7_sizeBelow 38 = .ok (.sipush 4096, 3) := by decide +kernel
theorem dX7_sizeBelow_41 : decode cX7_sizeBelow 41 = .ok (.if_icmp .ge 26, 3) := by decide +kernel
theorem dX7_sizeBelow_44 : decode cX7_sizeBelow 44 = .ok (.lconst 1, 1) := by decide +kernel
theorem dX7_sizeBelow_45 : decode cX7_sizeBelow 45 = .ok (.iload_n 1, 1) := by decide +kernel
theorem dX7_sizeBelow_46 : decode cX7_sizeBelow 46 = .ok (.bipush 64, 2) := by decide +kernel
theorem dX7_sizeBelow_48 : decode cX7_sizeBelow 48 = .ok (.irem, 1) := by decide +kernel
theorem dX7_sizeBelow_49 : decode cX7_sizeBelow 49 = .ok (.lshl, 1) := by decide +kernel
theorem dX7_sizeBelow_50 : decode cX7_sizeBelow 50 = .ok (.lconst 1, 1) := by decide +kernel
theorem dX7_sizeBelow_51 : decode cX7_sizeBelow 51 = .ok (.lsub, 1) := by decide +kernel
theorem dX7_sizeBelow_52 : decode cX7_sizeBelow 52 = .ok (.lstore_n 3, 1) := by decide +kernel
theorem dX7_sizeBelow_53 : decode cX7_sizeBelow 53 = .ok (.iload_n 2, 1) := by decide +kernel
theorem dX7_sizeBelow_54 : decode cX7_sizeBelow 54 = .ok (.aload_n 0, 1) := by decide +kernel
theorem dX7_sizeBelow_55 : decode cX7_sizeBelow 55 = .ok (.iload_n 1, 1) := by decide +kernel
theorem dX7_sizeBelow_56 : decode cX7_sizeBelow 56 = .ok (.bipush 64, 2) := by decide +kernel
theorem dX7_sizeBelow_58 : decode cX7_sizeBelow 58 = .ok (.idiv, 1) := by decide +kernel
theorem dX7_sizeBelow_59 : decode cX7_sizeBelow 59 = .ok (.laload, 1) := by decide +kernel
theorem dX7_sizeBelow_60 : decode cX7_sizeBelow 60 = .ok (.lload_n 3, 1) := by decide +kernel
theorem dX7_sizeBelow_61 : decode cX7_sizeBelow 61 = .ok (.land, 1) := by decide +kernel
theorem dX7_sizeBelow_62 : decode cX7_sizeBelow 62 = .ok (.invokestatic 17, 3) := by decide +kernel
theorem dX7_sizeBelow_65 : decode cX7_sizeBelow 65 = .ok (.iadd, 1) := by decide +kernel
theorem dX7_sizeBelow_66 : decode cX7_sizeBelow 66 = .ok (.istore_n 2, 1) := by decide +kernel
theorem dX7_sizeBelow_67 : decode cX7_sizeBelow 67 = .ok (.iload_n 2, 1) := by decide +kernel
theorem dX7_sizeBelow_68 : decode cX7_sizeBelow 68 = .ok (.ireturn, 1) := by decide +kernel
theorem dX7_isInside_0 : decode cX7_isInside 0 = .ok (.iconst 0, 1) := by decide +kernel
theorem dX7_isInside_1 : decode cX7_isInside 1 = .ok (.istore_n 2, 1) := by decide +kernel
theorem dX7_isInside_2 : decode cX7_isInside 2 = .ok (.iload_n 2, 1) := by decide +kernel
theorem dX7_isInside_3 : decode cX7_isInside 3 = .ok (.bipush 64, 2) := by decide +kernel
theorem dX7_isInside_5 : decode cX7_isInside 5 = .ok (.if_icmp .ge 27, 3) := by decide +kernel
theorem dX7_isInside_8 : decode cX7_isInside 8 = .ok (.aload_n 0, 1) := by decide +kernel
theorem dX7_isInside_9 : decode cX7_isInside 9 = .ok (.iload_n 2, 1) := by decide +kernel
theorem dX7_isInside_10 : decode cX7_isInside 10 = .ok (.laload, 1) := by decide +kernel
theorem dX7_isInside_11 : decode cX7_isInside 11 = .ok (.aload_n 1, 1) := by decide +kernel
theorem dX7_isInside_12 : decode cX7_isInside 12 = .ok (.iload_n 2, 1) := by decide +kernel
theorem dX7_isInside_13 : decode cX7_isInside 13 = .ok (.laload, 1) := by decide +kernel
theorem dX7_isInside_14 : decode cX7_isInside 14 = .ok (.ldc2_w 9, 3) := by decide +kernel
theorem dX7_isInside_17 : decode cX7_isInside 17 = .ok (.lxor, 1) := by decide +kernel
theorem dX7_isInside_18 : decode cX7_isInside 18 = .ok (.land, 1) := by decide +kernel
theorem dX7_isInside_19 : decode cX7_isInside 19 = .ok (.lconst 0, 1) := by decide +kernel
theorem dX7_isInside_20 : decode cX7_isInside 20 = .ok (.lcmp, 1) := by decide +kernel
theorem dX7_isInside_21 : decode cX7_isInside 21 = .ok (.ifCond .eq 5, 3) := by decide +kernel
theorem dX7_isInside_24 : decode cX7_isInside 24 = .ok (.iconst 0, 1) := by decide +kernel
theorem dX7_isInside_25 : decode cX7_isInside 25 = .ok (.ireturn, 1) := by decide +kernel
theorem dX7_isInside_26 : decode cX7_isInside 26 = .ok (.iinc 2 1, 3) := by decide +kernel
theorem dX7_isInside_29 : decode cX7_isInside 29 = .ok (.goto (-27), 3) := by decide +kernel
theorem dX7_isInside_32 : decode cX7_isInside 32 = .ok (.iconst 1, 1) := by decide +kernel
theorem dX7_isInside_33 : decode cX7_isInside 33 = .ok (.ireturn, 1) := by decide +kernel
theorem dX7_span_0 : decode cX7_span 0 = .ok (.iconst 0, 1) := by decide +kernel
theorem dX7_span_1 : decode cX7_span 1 = .ok (.istore_n 1, 1) := by decide +kernel
theorem dX7_span_2 : decode cX7_span 2 = .ok (.bipush 63, 2) := by decide +kernel
theorem dX7_span_4 : decode cX7_span 4 = .ok (.istore_n 2, 1) := by decide +kernel
theorem dX7_span_5 : decode cX7_span 5 = .ok (.iload_n 2, 1) := by decide +kernel
theorem dX7_span_6 : decode cX7_span 6 = .ok (.ifCond .lt 38, 3) := by decide +kernel
theorem dX7_span_9 : decode cX7_span 9 = .ok (.iload_n 1, 1) := by decide +kernel
theorem dX7_span_10 : decode cX7_span 10 = .ok (.ifCond .ne 34, 3) := by decide +kernel
theorem dX7_span_13 : decode cX7_span 13 = .ok (.aload_n 0, 1) := by decide +kernel
theorem dX7_span_14 : decode cX7_span 14 = .ok (.iload_n 2, 1) := by decide +kernel
theorem dX7_span_15 : decode cX7_span 15 = .ok (.laload, 1) := by decide +kernel
theorem dX7_span_16 : decode cX7_span 16 = .ok (.lconst 0, 1) := by decide +kernel
theorem dX7_span_17 : decode cX7_span 17 = .ok (.lcmp, 1) := by decide +kernel
theorem dX7_span_18 : decode cX7_span 18 = .ok (.ifCond .eq 20, 3) := by decide +kernel
theorem dX7_span_21 : decode cX7_span 21 = .ok (.iload_n 2, 1) := by decide +kernel
theorem dX7_span_22 : decode cX7_span 22 = .ok (.bipush 64, 2) := by decide +kernel
theorem dX7_span_24 : decode cX7_span 24 = .ok (.imul, 1) := by decide +kernel
theorem dX7_span_25 : decode cX7_span 25 = .ok (.bipush 64, 2) := by decide +kernel
theorem dX7_span_27 : decode cX7_span 27 = .ok (.iadd, 1) := by decide +kernel
theorem dX7_span_28 : decode cX7_span 28 = .ok (.iconst 1, 1) := by decide +kernel
theorem dX7_span_29 : decode cX7_span 29 = .ok (.isub, 1) := by decide +kernel
theorem dX7_span_30 : decode cX7_span 30 = .ok (.aload_n 0, 1) := by decide +kernel
theorem dX7_span_31 : decode cX7_span 31 = .ok (.iload_n 2, 1) := by decide +kernel
theorem dX7_span_32 : decode cX7_span 32 = .ok (.laload, 1) := by decide +kernel
theorem dX7_span_33 : decode cX7_span 33 = .ok (.invokestatic 23, 3) := by decide +kernel
theorem dX7_span_36 : decode cX7_span 36 = .ok (.isub, 1) := by decide +kernel
theorem dX7_span_37 : decode cX7_span 37 = .ok (.istore_n 1, 1) := by decide +kernel
theorem dX7_span_38 : decode cX7_span 38 = .ok (.iinc 2 (-1), 3) := by decide +kernel
theorem dX7_span_41 : decode cX7_span 41 = .ok (.goto (-36), 3) := by decide +kernel
theorem dX7_span_44 : decode cX7_span 44 = .ok (.iconst 1, 1) := by decide +kernel
theorem dX7_span_45 : decode cX7_span 45 = .ok (.istore_n 2, 1) := by decide +kernel
theorem dX7_span_46 : decode cX7_span 46 = .ok (.iload_n 2, 1) := by decide +kernel
theorem dX7_span_47 : decode cX7_span 47 = .ok (.iload_n 1, 1) := by decide +kernel
theorem dX7_span_48 : decode cX7_span 48 = .ok (.if_icmp .gt 17, 3) := by decide +kernel
theorem dX7_span_51 : decode cX7_span 51 = .ok (.iload_n 2, 1) := by decide +kernel
theorem dX7_span_52 : decode cX7_span 52 = .ok (.sipush 4096, 3) := by decide +kernel
theorem dX7_span_55 : decode cX7_span 55 = .ok (.if_icmp .ge 10, 3) := by decide +kernel
theorem dX7_span_58 : decode cX7_span 58 = .ok (.iload_n 2, 1) := by decide +kernel
theorem dX7_span_59 : decode cX7_span 59 = .ok (.iconst 2, 1) := by decide +kernel
theorem dX7_span_60 : decode cX7_span 60 = .ok (.imul, 1) := by decide +kernel
theorem dX7_span_61 : decode cX7_span 61 = .ok (.istore_n 2, 1) := by decide +kernel
theorem dX7_span_62 : decode cX7_span 62 = .ok (.goto (-16), 3) := by decide +kernel
theorem dX7_span_65 : decode cX7_span 65 = .ok (.iload_n 2, 1) := by decide +kernel
theorem dX7_span_66 : decode cX7_span 66 = .ok (.ireturn, 1) := by decide +kernel
theorem dX7_list_0 : decode cX7_list 0 = .ok (.iconst 0, 1) := by decide +kernel
theorem dX7_list_1 : decode cX7_list 1 = .ok (.istore_n 2, 1) := by decide +kernel
theorem dX7_list_2 : decode cX7_list 2 = .ok (.iconst 0, 1) := by decide +kernel
theorem dX7_list_3 : decode cX7_list 3 = .ok (.istore_n 3, 1) := by decide +kernel
theorem dX7_list_4 : decode cX7_list 4 = .ok (.iload_n 3, 1) := by decide +kernel
theorem dX7_list_5 : decode cX7_list 5 = .ok (.bipush 64, 2) := by decide +kernel
theorem dX7_list_7 : decode cX7_list 7 = .ok (.if_icmp .ge 68, 3) := by decide +kernel
theorem dX7_list_10 : decode cX7_list 10 = .ok (.aload_n 0, 1) := by decide +kernel
theorem dX7_list_11 : decode cX7_list 11 = .ok (.iload_n 3, 1) := by decide +kernel
theorem dX7_list_12 : decode cX7_list 12 = .ok (.laload, 1) := by decide +kernel
theorem dX7_list_13 : decode cX7_list 13 = .ok (.lstore 4, 2) := by decide +kernel
theorem dX7_list_15 : decode cX7_list 15 = .ok (.iconst 0, 1) := by decide +kernel
theorem dX7_list_16 : decode cX7_list 16 = .ok (.istore 6, 2) := by decide +kernel
theorem dX7_list_18 : decode cX7_list 18 = .ok (.iload 6, 2) := by decide +kernel
theorem dX7_list_20 : decode cX7_list 20 = .ok (.bipush 64, 2) := by decide +kernel
theorem dX7_list_22 : decode cX7_list 22 = .ok (.if_icmp .ge 47, 3) := by decide +kernel
theorem dX7_list_25 : decode cX7_list 25 = .ok (.lload 4, 2) := by decide +kernel
theorem dX7_list_27 : decode cX7_list 27 = .ok (.lconst 0, 1) := by decide +kernel
theorem dX7_list_28 : decode cX7_list 28 = .ok (.lcmp, 1) := by decide +kernel
theorem dX7_list_29 : decode cX7_list 29 = .ok (.ifCond .eq 40, 3) := by decide +kernel
theorem dX7_list_32 : decode cX7_list 32 = .ok (.iload_n 2, 1) := by decide +kernel
theorem dX7_list_33 : decode cX7_list 33 = .ok (.aload_n 1, 1) := by decide +kernel
theorem dX7_list_34 : decode cX7_list 34 = .ok (.arraylength, 1) := by decide +kernel
theorem dX7_list_35 : decode cX7_list 35 = .ok (.if_icmp .ge 19, 3) := by decide +kernel
theorem dX7_list_38 : decode cX7_list 38 = .ok (.aload_n 1, 1) := by decide +kernel
theorem dX7_list_39 : decode cX7_list 39 = .ok (.iload_n 2, 1) := by decide +kernel
theorem dX7_list_40 : decode cX7_list 40 = .ok (.iload_n 3, 1) := by decide +kernel
theorem dX7_list_41 : decode cX7_list 41 = .ok (.bipush 64, 2) := by decide +kernel
theorem dX7_list_43 : decode cX7_list 43 = .ok (.imul, 1) := by decide +kernel
theorem dX7_list_44 : decode cX7_list 44 = .ok (.lload 4, 2) := by decide +kernel
theorem dX7_list_46 : decode cX7_list 46 = .ok (.invokestatic 26, 3) := by decide +kernel
theorem dX7_list_49 : decode cX7_list 49 = .ok (.iadd, 1) := by decide +kernel
theorem dX7_list_50 : decode cX7_list 50 = .ok (.iastore, 1) := by decide +kernel
theorem dX7_list_51 : decode cX7_list 51 = .ok (.iinc 2 1, 3) := by decide +kernel
theorem dX7_list_54 : decode cX7_list 54 = .ok (.lload 4, 2) := by decide +kernel
theorem dX7_list_56 : decode cX7_list 56 = .ok (.lload 4, 2) := by decide +kernel
theorem dX7_list_58 : decode cX7_list 58 = .ok (.lconst 1, 1) := by decide +kernel
theorem dX7_list_59 : decode cX7_list 59 = .ok (.lsub, 1) := by decide +kernel
theorem dX7_list_60 : decode cX7_list 60 = .ok (.land, 1) := by decide +kernel
theorem dX7_list_61 : decode cX7_list 61 = .ok (.lstore 4, 2) := by decide +kernel
theorem dX7_list_63 : decode cX7_list 63 = .ok (.iinc 6 1, 3) := by decide +kernel
theorem dX7_list_66 : decode cX7_list 66 = .ok (.goto (-48), 3) := by decide +kernel
theorem dX7_list_69 : decode cX7_list 69 = .ok (.iinc 3 1, 3) := by decide +kernel
theorem dX7_list_72 : decode cX7_list 72 = .ok (.goto (-68), 3) := by decide +kernel
theorem dX7_list_75 : decode cX7_list 75 = .ok (.iload_n 2, 1) := by decide +kernel
theorem dX7_list_76 : decode cX7_list 76 = .ok (.ireturn, 1) := by decide +kernel
theorem dX7_takeOut_0 : decode cX7_takeOut 0 = .ok (.iload_n 2, 1) := by decide +kernel
theorem dX7_takeOut_1 : decode cX7_takeOut 1 = .ok (.bipush 6, 2) := by decide +kernel
theorem dX7_takeOut_3 : decode cX7_takeOut 3 = .ok (.if_icmp .ge 41, 3) := by decide +kernel
theorem dX7_takeOut_6 : decode cX7_takeOut 6 = .ok (.iload_n 2, 1) := by decide +kernel
theorem dX7_takeOut_7 : decode cX7_takeOut 7 = .ok (.ifCond .lt 37, 3) := by decide +kernel
theorem dX7_takeOut_10 : decode cX7_takeOut 10 = .ok (.iconst 0, 1) := by decide +kernel
theorem dX7_takeOut_11 : decode cX7_takeOut 11 = .ok (.istore_n 3, 1) := by decide +kernel
theorem dX7_takeOut_12 : decode cX7_takeOut 12 = .ok (.iload_n 3, 1) := by decide +kernel
theorem dX7_takeOut_13 : decode cX7_takeOut 13 = .ok (.bipush 64, 2) := by decide +kernel
theorem dX7_takeOut_15 : decode cX7_takeOut 15 = .ok (.if_icmp .ge 28, 3) := by decide +kernel
theorem dX7_takeOut_18 : decode cX7_takeOut 18 = .ok (.aload_n 1, 1) := by decide +kernel
theorem dX7_takeOut_19 : decode cX7_takeOut 19 = .ok (.iload_n 3, 1) := by decide +kernel
theorem dX7_takeOut_20 : decode cX7_takeOut 20 = .ok (.dup2, 1) := by decide +kernel
theorem dX7_takeOut_21 : decode cX7_takeOut 21 = .ok (.laload, 1) := by decide +kernel
theorem dX7_takeOut_22 : decode cX7_takeOut 22 = .ok (.aload_n 0, 1) := by decide +kernel
theorem dX7_takeOut_23 : decode cX7_takeOut 23 = .ok (.iload_n 3, 1) := by decide +kernel
theorem dX7_takeOut_24 : decode cX7_takeOut 24 = .ok (.laload, 1) := by decide +kernel
theorem dX7_takeOut_25 : decode cX7_takeOut 25 = .ok (.getstatic 29, 3) := by decide +kernel
theorem dX7_takeOut_28 : decode cX7_takeOut 28 = .ok (.iload_n 2, 1) := by decide +kernel
theorem dX7_takeOut_29 : decode cX7_takeOut 29 = .ok (.laload, 1) := by decide +kernel
theorem dX7_takeOut_30 : decode cX7_takeOut 30 = .ok (.land, 1) := by decide +kernel
theorem dX7_takeOut_31 : decode cX7_takeOut 31 = .ok (.iconst 1, 1) := by decide +kernel
theorem dX7_takeOut_32 : decode cX7_takeOut 32 = .ok (.iload_n 2, 1) := by decide +kernel
theorem dX7_takeOut_33 : decode cX7_takeOut 33 = .ok (.ishl, 1) := by decide +kernel
theorem dX7_takeOut_34 : decode cX7_takeOut 34 = .ok (.lushr, 1) := by decide +kernel
theorem dX7_takeOut_35 : decode cX7_takeOut 35 = .ok (.lor, 1) := by decide +kernel
theorem dX7_takeOut_36 : decode cX7_takeOut 36 = .ok (.lastore, 1) := by decide +kernel
theorem dX7_takeOut_37 : decode cX7_takeOut 37 = .ok (.iinc 3 1, 3) := by decide +kernel
theorem dX7_takeOut_40 : decode cX7_takeOut 40 = .ok (.goto (-28), 3) := by decide +kernel
theorem dX7_takeOut_43 : decode cX7_takeOut 43 = .ok (.return_, 1) := by decide +kernel
theorem dX7_takeOut_44 : decode cX7_takeOut 44 = .ok (.iconst 1, 1) := by decide +kernel
theorem dX7_takeOut_45 : decode cX7_takeOut 45 = .ok (.iload_n 2, 1) := by decide +kernel
theorem dX7_takeOut_46 : decode cX7_takeOut 46 = .ok (.bipush 6, 2) := by decide +kernel
theorem dX7_takeOut_48 : decode cX7_takeOut 48 = .ok (.isub, 1) := by decide +kernel
theorem dX7_takeOut_49 : decode cX7_takeOut 49 = .ok (.ishl, 1) := by decide +kernel
theorem dX7_takeOut_50 : decode cX7_takeOut 50 = .ok (.istore_n 3, 1) := by decide +kernel
theorem dX7_takeOut_51 : decode cX7_takeOut 51 = .ok (.iconst 0, 1) := by decide +kernel
theorem dX7_takeOut_52 : decode cX7_takeOut 52 = .ok (.istore 4, 2) := by decide +kernel
theorem dX7_takeOut_54 : decode cX7_takeOut 54 = .ok (.iload 4, 2) := by decide +kernel
theorem dX7_takeOut_56 : decode cX7_takeOut 56 = .ok (.iload_n 3, 1) := by decide +kernel
theorem dX7_takeOut_57 : decode cX7_takeOut 57 = .ok (.iadd, 1) := by decide +kernel
theorem dX7_takeOut_58 : decode cX7_takeOut 58 = .ok (.bipush 64, 2) := by decide +kernel
theorem dX7_takeOut_60 : decode cX7_takeOut 60 = .ok (.if_icmp .ge 29, 3) := by decide +kernel
theorem dX7_takeOut_63 : decode cX7_takeOut 63 = .ok (.iload 4, 2) := by decide +kernel
theorem dX7_takeOut_65 : decode cX7_takeOut 65 = .ok (.iload_n 3, 1) := by decide +kernel
theorem dX7_takeOut_66 : decode cX7_takeOut 66 = .ok (.iand, 1) := by decide +kernel
theorem dX7_takeOut_67 : decode cX7_takeOut 67 = .ok (.ifCond .ne 16, 3) := by decide +kernel
theorem dX7_takeOut_70 : decode cX7_takeOut 70 = .ok (.aload_n 1, 1) := by decide +kernel
theorem dX7_takeOut_71 : decode cX7_takeOut 71 = .ok (.iload 4, 2) := by decide +kernel
theorem dX7_takeOut_73 : decode cX7_takeOut 73 = .ok (.dup2, 1) := by decide +kernel
theorem dX7_takeOut_74 : decode cX7_takeOut 74 = .ok (.laload, 1) := by decide +kernel
theorem dX7_takeOut_75 : decode cX7_takeOut 75 = .ok (.aload_n 0, 1) := by decide +kernel
theorem dX7_takeOut_76 : decode cX7_takeOut 76 = .ok (.iload 4, 2) := by decide +kernel
theorem dX7_takeOut_78 : decode cX7_takeOut 78 = .ok (.iload_n 3, 1) := by decide +kernel
theorem dX7_takeOut_79 : decode cX7_takeOut 79 = .ok (.iadd, 1) := by decide +kernel
theorem dX7_takeOut_80 : decode cX7_takeOut 80 = .ok (.laload, 1) := by decide +kernel
theorem dX7_takeOut_81 : decode cX7_takeOut 81 = .ok (.lor, 1) := by decide +kernel
theorem dX7_takeOut_82 : decode cX7_takeOut 82 = .ok (.lastore, 1) := by decide +kernel
theorem dX7_takeOut_83 : decode cX7_takeOut 83 = .ok (.iinc 4 1, 3) := by decide +kernel
theorem dX7_takeOut_86 : decode cX7_takeOut 86 = .ok (.goto (-32), 3) := by decide +kernel
theorem dX7_takeOut_89 : decode cX7_takeOut 89 = .ok (.return_, 1) := by decide +kernel
theorem dX7_putIn_0 : decode cX7_putIn 0 = .ok (.iload_n 2, 1) := by decide +kernel
theorem dX7_putIn_1 : decode cX7_putIn 1 = .ok (.bipush 6, 2) := by decide +kernel
theorem dX7_putIn_3 : decode cX7_putIn 3 = .ok (.if_icmp .ge 45, 3) := by decide +kernel
theorem dX7_putIn_6 : decode cX7_putIn 6 = .ok (.iload_n 2, 1) := by decide +kernel
theorem dX7_putIn_7 : decode cX7_putIn 7 = .ok (.ifCond .lt 41, 3) := by decide +kernel
theorem dX7_putIn_10 : decode cX7_putIn 10 = .ok (.iconst 0, 1) := by decide +kernel
theorem dX7_putIn_11 : decode cX7_putIn 11 = .ok (.istore_n 3, 1) := by decide +kernel
theorem dX7_putIn_12 : decode cX7_putIn 12 = .ok (.iload_n 3, 1) := by decide +kernel
theorem dX7_putIn_13 : decode cX7_putIn 13 = .ok (.bipush 64, 2) := by decide +kernel
theorem dX7_putIn_15 : decode cX7_putIn 15 = .ok (.if_icmp .ge 32, 3) := by decide +kernel
theorem dX7_putIn_18 : decode cX7_putIn 18 = .ok (.aload_n 1, 1) := by decide +kernel
theorem dX7_putIn_19 : decode cX7_putIn 19 = .ok (.iload_n 3, 1) := by decide +kernel
theorem dX7_putIn_20 : decode cX7_putIn 20 = .ok (.dup2, 1) := by decide +kernel
theorem dX7_putIn_21 : decode cX7_putIn 21 = .ok (.laload, 1) := by decide +kernel
theorem dX7_putIn_22 : decode cX7_putIn 22 = .ok (.aload_n 0, 1) := by decide +kernel
theorem dX7_putIn_23 : decode cX7_putIn 23 = .ok (.iload_n 3, 1) := by decide +kernel
theorem dX7_putIn_24 : decode cX7_putIn 24 = .ok (.laload, 1) := by decide +kernel
theorem dX7_putIn_25 : decode cX7_putIn 25 = .ok (.getstatic 29, 3) := by decide +kernel
theorem dX7_putIn_28 : decode cX7_putIn 28 = .ok (.iload_n 2, 1) := by decide +kernel
theorem dX7_putIn_29 : decode cX7_putIn 29 = .ok (.laload, 1) := by decide +kernel
theorem dX7_putIn_30 : decode cX7_putIn 30 = .ok (.ldc2_w 9, 3) := by decide +kernel
theorem dX7_putIn_33 : decode cX7_putIn 33 = .ok (.lxor, 1) := by decide +kernel
theorem dX7_putIn_34 : decode cX7_putIn 34 = .ok (.land, 1) := by decide +kernel
theorem dX7_putIn_35 : decode cX7_putIn 35 = .ok (.iconst 1, 1) := by decide +kernel
theorem dX7_putIn_36 : decode cX7_putIn 36 = .ok (.iload_n 2, 1) := by decide +kernel
theorem dX7_putIn_37 : decode cX7_putIn 37 = .ok (.ishl, 1) := by decide +kernel
theorem dX7_putIn_38 : decode cX7_putIn 38 = .ok (.lshl, 1) := by decide +kernel
theorem dX7_putIn_39 : decode cX7_putIn 39 = .ok (.lor, 1) := by decide +kernel
theorem dX7_putIn_40 : decode cX7_putIn 40 = .ok (.lastore, 1) := by decide +kernel
theorem dX7_putIn_41 : decode cX7_putIn 41 = .ok (.iinc 3 1, 3) := by decide +kernel
theorem dX7_putIn_44 : decode cX7_putIn 44 = .ok (.goto (-32), 3) := by decide +kernel
theorem dX7_putIn_47 : decode cX7_putIn 47 = .ok (.return_, 1) := by decide +kernel
theorem dX7_putIn_48 : decode cX7_putIn 48 = .ok (.iconst 1, 1) := by decide +kernel
theorem dX7_putIn_49 : decode cX7_putIn 49 = .ok (.iload_n 2, 1) := by decide +kernel
theorem dX7_putIn_50 : decode cX7_putIn 50 = .ok (.bipush 6, 2) := by decide +kernel
theorem dX7_putIn_52 : decode cX7_putIn 52 = .ok (.isub, 1) := by decide +kernel
theorem dX7_putIn_53 : decode cX7_putIn 53 = .ok (.ishl, 1) := by decide +kernel
theorem dX7_putIn_54 : decode cX7_putIn 54 = .ok (.istore_n 3, 1) := by decide +kernel
theorem dX7_putIn_55 : decode cX7_putIn 55 = .ok (.iconst 0, 1) := by decide +kernel
theorem dX7_putIn_56 : decode cX7_putIn 56 = .ok (.istore 4, 2) := by decide +kernel
theorem dX7_putIn_58 : decode cX7_putIn 58 = .ok (.iload 4, 2) := by decide +kernel
theorem dX7_putIn_60 : decode cX7_putIn 60 = .ok (.iload_n 3, 1) := by decide +kernel
theorem dX7_putIn_61 : decode cX7_putIn 61 = .ok (.iadd, 1) := by decide +kernel
theorem dX7_putIn_62 : decode cX7_putIn 62 = .ok (.bipush 64, 2) := by decide +kernel
theorem dX7_putIn_64 : decode cX7_putIn 64 = .ok (.if_icmp .ge 29, 3) := by decide +kernel
theorem dX7_putIn_67 : decode cX7_putIn 67 = .ok (.iload 4, 2) := by decide +kernel
theorem dX7_putIn_69 : decode cX7_putIn 69 = .ok (.iload_n 3, 1) := by decide +kernel
theorem dX7_putIn_70 : decode cX7_putIn 70 = .ok (.iand, 1) := by decide +kernel
theorem dX7_putIn_71 : decode cX7_putIn 71 = .ok (.ifCond .ne 16, 3) := by decide +kernel
theorem dX7_putIn_74 : decode cX7_putIn 74 = .ok (.aload_n 1, 1) := by decide +kernel
theorem dX7_putIn_75 : decode cX7_putIn 75 = .ok (.iload 4, 2) := by decide +kernel
theorem dX7_putIn_77 : decode cX7_putIn 77 = .ok (.iload_n 3, 1) := by decide +kernel
theorem dX7_putIn_78 : decode cX7_putIn 78 = .ok (.iadd, 1) := by decide +kernel
theorem dX7_putIn_79 : decode cX7_putIn 79 = .ok (.dup2, 1) := by decide +kernel
theorem dX7_putIn_80 : decode cX7_putIn 80 = .ok (.laload, 1) := by decide +kernel
theorem dX7_putIn_81 : decode cX7_putIn 81 = .ok (.aload_n 0, 1) := by decide +kernel
theorem dX7_putIn_82 : decode cX7_putIn 82 = .ok (.iload 4, 2) := by decide +kernel
theorem dX7_putIn_84 : decode cX7_putIn 84 = .ok (.laload, 1) := by decide +kernel
theorem dX7_putIn_85 : decode cX7_putIn 85 = .ok (.lor, 1) := by decide +kernel
theorem dX7_putIn_86 : decode cX7_putIn 86 = .ok (.lastore, 1) := by decide +kernel
theorem dX7_putIn_87 : decode cX7_putIn 87 = .ok (.iinc 4 1, 3) := by decide +kernel
theorem dX7_putIn_90 : decode cX7_putIn 90 = .ok (.goto (-32), 3) := by decide +kernel
theorem dX7_putIn_93 : decode cX7_putIn 93 = .ok (.return_, 1) := by decide +kernel
theorem dX7_swap_0 : decode cX7_swap 0 = .ok (.iload_n 1, 1) := by decide +kernel
theorem dX7_swap_1 : decode cX7_swap 1 = .ok (.bipush 6, 2) := by decide +kernel
theorem dX7_swap_3 : decode cX7_swap 3 = .ok (.if_icmp .ge 53, 3) := by decide +kernel
theorem dX7_swap_6 : decode cX7_swap 6 = .ok (.iload_n 1, 1) := by decide +kernel
theorem dX7_swap_7 : decode cX7_swap 7 = .ok (.ifCond .lt 49, 3) := by decide +kernel
theorem dX7_swap_10 : decode cX7_swap 10 = .ok (.iconst 1, 1) := by decide +kernel
theorem dX7_swap_11 : decode cX7_swap 11 = .ok (.iload_n 1, 1) := by decide +kernel
theorem dX7_swap_12 : decode cX7_swap 12 = .ok (.ishl, 1) := by decide +kernel
theorem dX7_swap_13 : decode cX7_swap 13 = .ok (.istore_n 2, 1) := by decide +kernel
theorem dX7_swap_14 : decode cX7_swap 14 = .ok (.iconst 0, 1) := by decide +kernel
theorem dX7_swap_15 : decode cX7_swap 15 = .ok (.istore_n 3, 1) := by decide +kernel
theorem dX7_swap_16 : decode cX7_swap 16 = .ok (.iload_n 3, 1) := by decide +kernel
theorem dX7_swap_17 : decode cX7_swap 17 = .ok (.bipush 64, 2) := by decide +kernel
theorem dX7_swap_19 : decode cX7_swap 19 = .ok (.if_icmp .ge 36, 3) := by decide +kernel
theorem dX7_swap_22 : decode cX7_swap 22 = .ok (.aload_n 0, 1) := by decide +kernel
theorem dX7_swap_23 : decode cX7_swap 23 = .ok (.iload_n 3, 1) := by decide +kernel
theorem dX7_swap_24 : decode cX7_swap 24 = .ok (.laload, 1) := by decide +kernel
theorem dX7_swap_25 : decode cX7_swap 25 = .ok (.getstatic 29, 3) := by decide +kernel
theorem dX7_swap_28 : decode cX7_swap 28 = .ok (.iload_n 1, 1) := by decide +kernel
theorem dX7_swap_29 : decode cX7_swap 29 = .ok (.laload, 1) := by decide +kernel
theorem dX7_swap_30 : decode cX7_swap 30 = .ok (.land, 1) := by decide +kernel
theorem dX7_swap_31 : decode cX7_swap 31 = .ok (.lstore 4, 2) := by decide +kernel
theorem dX7_swap_33 : decode cX7_swap 33 = .ok (.aload_n 0, 1) := by decide +kernel
theorem dX7_swap_34 : decode cX7_swap 34 = .ok (.iload_n 3, 1) := by decide +kernel
theorem dX7_swap_35 : decode cX7_swap 35 = .ok (.lload 4, 2) := by decide +kernel
theorem dX7_swap_37 : decode cX7_swap 37 = .ok (.iload_n 2, 1) := by decide +kernel
theorem dX7_swap_38 : decode cX7_swap 38 = .ok (.lushr, 1) := by decide +kernel
theorem dX7_swap_39 : decode cX7_swap 39 = .ok (.aload_n 0, 1) := by decide +kernel
theorem dX7_swap_40 : decode cX7_swap 40 = .ok (.iload_n 3, 1) := by decide +kernel
theorem dX7_swap_41 : decode cX7_swap 41 = .ok (.laload, 1) := by decide +kernel
theorem dX7_swap_42 : decode cX7_swap 42 = .ok (.lload 4, 2) := by decide +kernel
theorem dX7_swap_44 : decode cX7_swap 44 = .ok (.lxor, 1) := by decide +kernel
theorem dX7_swap_45 : decode cX7_swap 45 = .ok (.iload_n 2, 1) := by decide +kernel
theorem dX7_swap_46 : decode cX7_swap 46 = .ok (.lshl, 1) := by decide +kernel
theorem dX7_swap_47 : decode cX7_swap 47 = .ok (.lor, 1) := by decide +kernel
theorem dX7_swap_48 : decode cX7_swap 48 = .ok (.lastore, 1) := by decide +kernel
theorem dX7_swap_49 : decode cX7_swap 49 = .ok (.iinc 3 1, 3) := by decide +kernel
theorem dX7_swap_52 : decode cX7_swap 52 = .ok (.goto (-36), 3) := by decide +kernel
theorem dX7_swap_55 : decode cX7_swap 55 = .ok (.return_, 1) := by decide +kernel
theorem dX7_swap_56 : decode cX7_swap 56 = .ok (.iconst 1, 1) := by decide +kernel
theorem dX7_swap_57 : decode cX7_swap 57 = .ok (.iload_n 1, 1) := by decide +kernel
theorem dX7_swap_58 : decode cX7_swap 58 = .ok (.bipush 6, 2) := by decide +kernel
theorem dX7_swap_60 : decode cX7_swap 60 = .ok (.isub, 1) := by decide +kernel
theorem dX7_swap_61 : decode cX7_swap 61 = .ok (.ishl, 1) := by decide +kernel
theorem dX7_swap_62 : decode cX7_swap 62 = .ok (.istore_n 2, 1) := by decide +kernel
theorem dX7_swap_63 : decode cX7_swap 63 = .ok (.iconst 0, 1) := by decide +kernel
theorem dX7_swap_64 : decode cX7_swap 64 = .ok (.istore_n 3, 1) := by decide +kernel
theorem dX7_swap_65 : decode cX7_swap 65 = .ok (.iload_n 3, 1) := by decide +kernel
theorem dX7_swap_66 : decode cX7_swap 66 = .ok (.iload_n 2, 1) := by decide +kernel
theorem dX7_swap_67 : decode cX7_swap 67 = .ok (.iadd, 1) := by decide +kernel
theorem dX7_swap_68 : decode cX7_swap 68 = .ok (.bipush 64, 2) := by decide +kernel
theorem dX7_swap_70 : decode cX7_swap 70 = .ok (.if_icmp .ge 35, 3) := by decide +kernel
theorem dX7_swap_73 : decode cX7_swap 73 = .ok (.iload_n 3, 1) := by decide +kernel
theorem dX7_swap_74 : decode cX7_swap 74 = .ok (.iload_n 2, 1) := by decide +kernel
theorem dX7_swap_75 : decode cX7_swap 75 = .ok (.iand, 1) := by decide +kernel
theorem dX7_swap_76 : decode cX7_swap 76 = .ok (.ifCond .ne 23, 3) := by decide +kernel
theorem dX7_swap_79 : decode cX7_swap 79 = .ok (.aload_n 0, 1) := by decide +kernel
theorem dX7_swap_80 : decode cX7_swap 80 = .ok (.iload_n 3, 1) := by decide +kernel
theorem dX7_swap_81 : decode cX7_swap 81 = .ok (.iload_n 2, 1) := by decide +kernel
theorem dX7_swap_82 : decode cX7_swap 82 = .ok (.iadd, 1) := by decide +kernel
theorem dX7_swap_83 : decode cX7_swap 83 = .ok (.laload, 1) := by decide +kernel
theorem dX7_swap_84 : decode cX7_swap 84 = .ok (.lstore 4, 2) := by decide +kernel
theorem dX7_swap_86 : decode cX7_swap 86 = .ok (.aload_n 0, 1) := by decide +kernel
theorem dX7_swap_87 : decode cX7_swap 87 = .ok (.iload_n 3, 1) := by decide +kernel
theorem dX7_swap_88 : decode cX7_swap 88 = .ok (.iload_n 2, 1) := by decide +kernel
theorem dX7_swap_89 : decode cX7_swap 89 = .ok (.iadd, 1) := by decide +kernel
theorem dX7_swap_90 : decode cX7_swap 90 = .ok (.aload_n 0, 1) := by decide +kernel
theorem dX7_swap_91 : decode cX7_swap 91 = .ok (.iload_n 3, 1) := by decide +kernel
theorem dX7_swap_92 : decode cX7_swap 92 = .ok (.laload, 1) := by decide +kernel
theorem dX7_swap_93 : decode cX7_swap 93 = .ok (.lastore, 1) := by decide +kernel
theorem dX7_swap_94 : decode cX7_swap 94 = .ok (.aload_n 0, 1) := by decide +kernel
theorem dX7_swap_95 : decode cX7_swap 95 = .ok (.iload_n 3, 1) := by decide +kernel
theorem dX7_swap_96 : decode cX7_swap 96 = .ok (.lload 4, 2) := by decide +kernel
theorem dX7_swap_98 : decode cX7_swap 98 = .ok (.lastore, 1) := by decide +kernel
theorem dX7_swap_99 : decode cX7_swap 99 = .ok (.iinc 3 1, 3) := by decide +kernel
theorem dX7_swap_102 : decode cX7_swap 102 = .ok (.goto (-37), 3) := by decide +kernel
theorem dX7_swap_105 : decode cX7_swap 105 = .ok (.return_, 1) := by decide +kernel
theorem dX7_lower_0 : decode cX7_lower 0 = .ok (.iconst 0, 1) := by decide +kernel
theorem dX7_lower_1 : decode cX7_lower 1 = .ok (.istore_n 1, 1) := by decide +kernel
theorem dX7_lower_2 : decode cX7_lower 2 = .ok (.iload_n 1, 1) := by decide +kernel
theorem dX7_lower_3 : decode cX7_lower 3 = .ok (.bipush 12, 2) := by decide +kernel
theorem dX7_lower_5 : decode cX7_lower 5 = .ok (.if_icmp .ge 15, 3) := by decide +kernel
theorem dX7_lower_8 : decode cX7_lower 8 = .ok (.aload_n 0, 1) := by decide +kernel
theorem dX7_lower_9 : decode cX7_lower 9 = .ok (.aload_n 0, 1) := by decide +kernel
theorem dX7_lower_10 : decode cX7_lower 10 = .ok (.iload_n 1, 1) := by decide +kernel
theorem dX7_lower_11 : decode cX7_lower 11 = .ok (.invokestatic 35, 3) := by decide +kernel
theorem dX7_lower_14 : decode cX7_lower 14 = .ok (.iinc 1 1, 3) := by decide +kernel
theorem dX7_lower_17 : decode cX7_lower 17 = .ok (.goto (-15), 3) := by decide +kernel
theorem dX7_lower_20 : decode cX7_lower 20 = .ok (.return_, 1) := by decide +kernel
theorem dX7_raise_0 : decode cX7_raise 0 = .ok (.iconst 0, 1) := by decide +kernel
theorem dX7_raise_1 : decode cX7_raise 1 = .ok (.istore_n 1, 1) := by decide +kernel
theorem dX7_raise_2 : decode cX7_raise 2 = .ok (.iload_n 1, 1) := by decide +kernel
theorem dX7_raise_3 : decode cX7_raise 3 = .ok (.bipush 12, 2) := by decide +kernel
theorem dX7_raise_5 : decode cX7_raise 5 = .ok (.if_icmp .ge 15, 3) := by decide +kernel
theorem dX7_raise_8 : decode cX7_raise 8 = .ok (.aload_n 0, 1) := by decide +kernel
theorem dX7_raise_9 : decode cX7_raise 9 = .ok (.aload_n 0, 1) := by decide +kernel
theorem dX7_raise_10 : decode cX7_raise 10 = .ok (.iload_n 1, 1) := by decide +kernel
theorem dX7_raise_11 : decode cX7_raise 11 = .ok (.invokestatic 39, 3) := by decide +kernel
theorem dX7_raise_14 : decode cX7_raise 14 = .ok (.iinc 1 1, 3) := by decide +kernel
theorem dX7_raise_17 : decode cX7_raise 17 = .ok (.goto (-15), 3) := by decide +kernel
theorem dX7_raise_20 : decode cX7_raise 20 = .ok (.return_, 1) := by decide +kernel
theorem dX8_init_0 : decode cX8_init 0 = .ok (.aload_n 0, 1) := by decide +kernel
theorem dX8_init_1 : decode cX8_init 1 = .ok (.invokespecial 1, 3) := by decide +kernel
theorem dX8_init_4 : decode cX8_init 4 = .ok (.aload_n 0, 1) := by decide +kernel
theorem dX8_init_5 : decode cX8_init 5 = .ok (.sipush 200, 3) := by decide +kernel
theorem dX8_init_8 : decode cX8_init 8 = .ok (.newarray .byte, 2) := by decide +kernel
theorem dX8_init_10 : decode cX8_init 10 = .ok (.putfield 9, 3) := by decide +kernel
theorem dX8_init_13 : decode cX8_init 13 = .ok (.aload_n 0, 1) := by decide +kernel
theorem dX8_init_14 : decode cX8_init 14 = .ok (.iconst 0, 1) := by decide +kernel
theorem dX8_init_15 : decode cX8_init 15 = .ok (.putfield 13, 3) := by decide +kernel
theorem dX8_init_18 : decode cX8_init 18 = .ok (.aload_n 0, 1) := by decide +kernel
theorem dX8_init_19 : decode cX8_init 19 = .ok (.iconst (-1), 1) := by decide +kernel
theorem dX8_init_20 : decode cX8_init 20 = .ok (.putfield 17, 3) := by decide +kernel
theorem dX8_init_23 : decode cX8_init 23 = .ok (.aload_n 0, 1) := by decide +kernel
theorem dX8_init_24 : decode cX8_init 24 = .ok (.sipush 1000, 3) := by decide +kernel
theorem dX8_init_27 : decode cX8_init 27 = .ok (.newarray .byte, 2) := by decide +kernel
theorem dX8_init_29 : decode cX8_init 29 = .ok (.putfield 20, 3) := by decide +kernel
theorem dX8_init_32 : decode cX8_init 32 = .ok (.aload_n 0, 1) := by decide +kernel
theorem dX8_init_33 : decode cX8_init 33 = .ok (.iconst 0, 1) := by decide +kernel
theorem dX8_init_34 : decode cX8_init 34 = .ok (.putfield 23, 3) := by decide +kernel
theorem dX8_init_37 : decode cX8_init 37 = .ok (.aload_n 0, 1) := by decide +kernel
theorem dX8_init_38 : decode cX8_init 38 = .ok (.sipush 200, 3) := by decide +kernel
theorem dX8_init_41 : decode cX8_init 41 = .ok (.anewarray 26, 3) := by decide +kernel
theorem dX8_init_44 : decode cX8_init 44 = .ok (.putfield 28, 3) := by decide +kernel
theorem dX8_init_47 : decode cX8_init 47 = .ok (.aload_n 0, 1) := by decide +kernel
theorem dX8_init_48 : decode cX8_init 48 = .ok (.iconst 0, 1) := by decide +kernel
theorem dX8_init_49 : decode cX8_init 49 = .ok (.putfield 32, 3) := by decide +kernel
theorem dX8_init_52 : decode cX8_init 52 = .ok (.aload_n 0, 1) := by decide +kernel
theorem dX8_init_53 : decode cX8_init 53 = .ok (.iconst 0, 1) := by decide +kernel
theorem dX8_init_54 : decode cX8_init 54 = .ok (.putfield 35, 3) := by decide +kernel
theorem dX8_init_57 : decode cX8_init 57 = .ok (.aload_n 0, 1) := by decide +kernel
theorem dX8_init_58 : decode cX8_init 58 = .ok (.sipush 4096, 3) := by decide +kernel
theorem dX8_init_61 : decode cX8_init 61 = .ok (.newarray .int, 2) := by decide +kernel
theorem dX8_init_63 : decode cX8_init 63 = .ok (.putfield 38, 3) := by decide +kernel
theorem dX8_init_66 : decode cX8_init 66 = .ok (.aload_n 0, 1) := by decide +kernel
theorem dX8_init_67 : decode cX8_init 67 = .ok (.sipush 4096, 3) := by decide +kernel
theorem dX8_init_70 : decode cX8_init 70 = .ok (.newarray .int, 2) := by decide +kernel
theorem dX8_init_72 : decode cX8_init 72 = .ok (.putfield 42, 3) := by decide +kernel
theorem dX8_init_75 : decode cX8_init 75 = .ok (.aload_n 0, 1) := by decide +kernel
theorem dX8_init_76 : decode cX8_init 76 = .ok (.new 45, 3) := by decide +kernel
theorem dX8_init_79 : decode cX8_init 79 = .ok (.dup, 1) := by decide +kernel
theorem dX8_init_80 : decode cX8_init 80 = .ok (.aload_n 0, 1) := by decide +kernel
theorem dX8_init_81 : decode cX8_init 81 = .ok (.getfield 38, 3) := by decide +kernel
theorem dX8_init_84 : decode cX8_init 84 = .ok (.aload_n 0, 1) := by decide +kernel
theorem dX8_init_85 : decode cX8_init 85 = .ok (.getfield 42, 3) := by decide +kernel
theorem dX8_init_88 : decode cX8_init 88 = .ok (.invokespecial 47, 3) := by decide +kernel
theorem dX8_init_91 : decode cX8_init 91 = .ok (.putfield 50, 3) := by decide +kernel
theorem dX8_init_94 : decode cX8_init 94 = .ok (.aload_n 0, 1) := by decide +kernel
theorem dX8_init_95 : decode cX8_init 95 = .ok (.new 54, 3) := by decide +kernel
theorem dX8_init_98 : decode cX8_init 98 = .ok (.dup, 1) := by decide +kernel
theorem dX8_init_99 : decode cX8_init 99 = .ok (.aload_n 0, 1) := by decide +kernel
theorem dX8_init_100 : decode cX8_init 100 = .ok (.getfield 38, 3) := by decide +kernel
theorem dX8_init_103 : decode cX8_init 103 = .ok (.invokespecial 56, 3) := by decide +kernel
theorem dX8_init_106 : decode cX8_init 106 = .ok (.putfield 59, 3) := by decide +kernel
theorem dX8_init_109 : decode cX8_init 109 = .ok (.aload_n 0, 1) := by decide +kernel
theorem dX8_init_110 : decode cX8_init 110 = .ok (.new 63, 3) := by decide +kernel
theorem dX8_init_113 : decode cX8_init 113 = .ok (.dup, 1) := by decide +kernel
theorem dX8_init_114 : decode cX8_init 114 = .ok (.invokespecial 65, 3) := by decide +kernel
theorem dX8_init_117 : decode cX8_init 117 = .ok (.putfield 66, 3) := by decide +kernel
theorem dX8_init_120 : decode cX8_init 120 = .ok (.aload_n 0, 1) := by decide +kernel
theorem dX8_init_121 : decode cX8_init 121 = .ok (.new 70, 3) := by decide +kernel
theorem dX8_init_124 : decode cX8_init 124 = .ok (.dup, 1) := by decide +kernel
theorem dX8_init_125 : decode cX8_init 125 = .ok (.invokespecial 72, 3) := by decide +kernel
theorem dX8_init_128 : decode cX8_init 128 = .ok (.putfield 73, 3) := by decide +kernel
theorem dX8_init_131 : decode cX8_init 131 = .ok (.aload_n 0, 1) := by decide +kernel
theorem dX8_init_132 : decode cX8_init 132 = .ok (.new 77, 3) := by decide +kernel
theorem dX8_init_135 : decode cX8_init 135 = .ok (.dup, 1) := by decide +kernel
theorem dX8_init_136 : decode cX8_init 136 = .ok (.invokespecial 79, 3) := by decide +kernel
theorem dX8_init_139 : decode cX8_init 139 = .ok (.putfield 80, 3) := by decide +kernel
theorem dX8_init_142 : decode cX8_init 142 = .ok (.aload_n 0, 1) := by decide +kernel
theorem dX8_init_143 : decode cX8_init 143 = .ok (.sipush 300, 3) := by decide +kernel
theorem dX8_init_146 : decode cX8_init 146 = .ok (.newarray .int, 2) := by decide +kernel
theorem dX8_init_148 : decode cX8_init 148 = .ok (.putfield 84, 3) := by decide +kernel
theorem dX8_init_151 : decode cX8_init 151 = .ok (.aload_n 0, 1) := by decide +kernel
theorem dX8_init_152 : decode cX8_init 152 = .ok (.iconst 0, 1) := by decide +kernel
theorem dX8_init_153 : decode cX8_init 153 = .ok (.putfield 87, 3) := by decide +kernel
theorem dX8_init_156 : decode cX8_init 156 = .ok (.return_, 1) := by decide +kernel
theorem dX8_feed_0 : decode cX8_feed 0 = .ok (.aload_n 0, 1) := by decide +kernel
theorem dX8_feed_1 : decode cX8_feed 1 = .ok (.getfield 13, 3) := by decide +kernel
theorem dX8_feed_4 : decode cX8_feed 4 = .ok (.bipush 20, 2) := by decide +kernel
theorem dX8_feed_6 : decode cX8_feed 6 = .ok (.iadd, 1) := by decide +kernel
theorem dX8_feed_7 : decode cX8_feed 7 = .ok (.sipush 200, 3) := by decide +kernel
theorem dX8_feed_10 : decode cX8_feed 10 = .ok (.if_icmp .le 11, 3) := by decide +kernel
theorem dX8_feed_13 : decode cX8_feed 13 = .ok (.new 90, 3) := by decide +kernel
theorem dX8_feed_16 : decode cX8_feed 16 = .ok (.dup, 1) := by decide +kernel
theorem dX8_feed_17 : decode cX8_feed 17 = .ok (.invokespecial 92, 3) := by decide +kernel
theorem dX8_feed_20 : decode cX8_feed 20 = .ok (.athrow, 1) := by decide +kernel
theorem dX8_feed_21 : decode cX8_feed 21 = .ok (.aload_n 0, 1) := by decide +kernel
theorem dX8_feed_22 : decode cX8_feed 22 = .ok (.iload_n 1, 1) := by decide +kernel
theorem dX8_feed_23 : decode cX8_feed 23 = .ok (.invokevirtual 93, 3) := by decide +kernel
theorem dX8_feed_26 : decode cX8_feed 26 = .ok (.aload_n 0, 1) := by decide +kernel
theorem dX8_feed_27 : decode cX8_feed 27 = .ok (.iload_n 2, 1) := by decide +kernel
theorem dX8_feed_28 : decode cX8_feed 28 = .ok (.invokevirtual 93, 3) := by decide +kernel
theorem dX8_feed_31 : decode cX8_feed 31 = .ok (.aload_n 0, 1) := by decide +kernel
theorem dX8_feed_32 : decode cX8_feed 32 = .ok (.iload_n 3, 1) := by decide +kernel
theorem dX8_feed_33 : decode cX8_feed 33 = .ok (.invokevirtual 93, 3) := by decide +kernel
theorem dX8_feed_36 : decode cX8_feed 36 = .ok (.aload_n 0, 1) := by decide +kernel
theorem dX8_feed_37 : decode cX8_feed 37 = .ok (.iload 4, 2) := by decide +kernel
theorem dX8_feed_39 : decode cX8_feed 39 = .ok (.invokevirtual 93, 3) := by decide +kernel
theorem dX8_feed_42 : decode cX8_feed 42 = .ok (.aload_n 0, 1) := by decide +kernel
theorem dX8_feed_43 : decode cX8_feed 43 = .ok (.iload 5, 2) := by decide +kernel
theorem dX8_feed_45 : decode cX8_feed 45 = .ok (.invokevirtual 93, 3) := by decide +kernel
theorem dX8_feed_48 : decode cX8_feed 48 = .ok (.aload_n 0, 1) := by decide +kernel
theorem dX8_feed_49 : decode cX8_feed 49 = .ok (.getfield 13, 3) := by decide +kernel
theorem dX8_feed_52 : decode cX8_feed 52 = .ok (.ireturn, 1) := by decide +kernel
theorem dX8_appendBytes_0 : decode cX8_appendBytes 0 = .ok (.bipush 24, 2) := by decide +kernel
theorem dX8_appendBytes_2 : decode cX8_appendBytes 2 = .ok (.istore_n 2, 1) := by decide +kernel
theorem dX8_appendBytes_3 : decode cX8_appendBytes 3 = .ok (.iload_n 2, 1) := by decide +kernel
theorem dX8_appendBytes_4 : decode cX8_appendBytes 4 = .ok (.ifCond .lt 42, 3) := by decide +kernel
theorem dX8_appendBytes_7 : decode cX8_appendBytes 7 = .ok (.aload_n 0, 1) := by decide +kernel
theorem dX8_appendBytes_8 : decode cX8_appendBytes 8 = .ok (.getfield 13, 3) := by decide +kernel
theorem dX8_appendBytes_11 : decode cX8_appendBytes 11 = .ok (.sipush 200, 3) := by decide +kernel
theorem dX8_appendBytes_14 : decode cX8_appendBytes 14 = .ok (.if_icmp .ge 26, 3) := by decide +kernel
theorem dX8_appendBytes_17 : decode cX8_appendBytes 17 = .ok (.aload_n 0, 1) := by decide +kernel
theorem dX8_appendBytes_18 : decode cX8_appendBytes 18 = .ok (.getfield 9, 3) := by decide +kernel
theorem dX8_appendBytes_21 : decode cX8_appendBytes 21 = .ok (.aload_n 0, 1) := by decide +kernel
theorem dX8_appendBytes_22 : decode cX8_appendBytes 22 = .ok (.getfield 13, 3) := by decide +kernel
theorem dX8_appendBytes_25 : decode cX8_appendBytes 25 = .ok (.iload_n 1, 1) := by decide +kernel
theorem dX8_appendBytes_26 : decode cX8_appendBytes 26 = .ok (.iload_n 2, 1) := by decide +kernel
theorem dX8_appendBytes_27 : decode cX8_appendBytes 27 = .ok (.iushr, 1) := by decide +kernel
theorem dX8_appendBytes_28 : decode cX8_appendBytes 28 = .ok (.i2b, 1) := by decide +kernel
theorem dX8_appendBytes_29 : decode cX8_appendBytes 29 = .ok (.bastore, 1) := by decide +kernel
theorem dX8_appendBytes_30 : decode cX8_appendBytes 30 = .ok (.aload_n 0, 1) := by decide +kernel
theorem dX8_appendBytes_31 : decode cX8_appendBytes 31 = .ok (.dup, 1) := by decide +kernel
theorem dX8_appendBytes_32 : decode cX8_appendBytes 32 = .ok (.getfield 13, 3) := by decide +kernel
theorem dX8_appendBytes_35 : decode cX8_appendBytes 35 = .ok (.iconst 1, 1) := by decide +kernel
theorem dX8_appendBytes_36 : decode cX8_appendBytes 36 = .ok (.iadd, 1) := by decide +kernel
theorem dX8_appendBytes_37 : decode cX8_appendBytes 37 = .ok (.putfield 13, 3) := by decide +kernel
theorem dX8_appendBytes_40 : decode cX8_appendBytes 40 = .ok (.iinc 2 (-8), 3) := by decide +kernel
theorem dX8_appendBytes_43 : decode cX8_appendBytes 43 = .ok (.goto (-40), 3) := by decide +kernel
theorem dX8_appendBytes_46 : decode cX8_appendBytes 46 = .ok (.return_, 1) := by decide +kernel
theorem dX8_trim_0 : decode cX8_trim 0 = .ok (.iload_n 1, 1) := by decide +kernel
theorem dX8_trim_1 : decode cX8_trim 1 = .ok (.ifCond .lt 11, 3) := by decide +kernel
theorem dX8_trim_4 : decode cX8_trim 4 = .ok (.iload_n 1, 1) := by decide +kernel
theorem dX8_trim_5 : decode cX8_trim 5 = .ok (.aload_n 0, 1) := by decide +kernel
theorem dX8_trim_6 : decode cX8_trim 6 = .ok (.getfield 13, 3) := by decide +kernel
theorem dX8_trim_9 : decode cX8_trim 9 = .ok (.if_icmp .le 11, 3) := by decide +kernel
theorem dX8_trim_12 : decode cX8_trim 12 = .ok (.new 97, 3) := by decide +kernel
theorem dX8_trim_15 : decode cX8_trim 15 = .ok (.dup, 1) := by decide +kernel
theorem dX8_trim_16 : decode cX8_trim 16 = .ok (.invokespecial 99, 3) := by decide +kernel
theorem dX8_trim_19 : decode cX8_trim 19 = .ok (.athrow, 1) := by decide +kernel
theorem dX8_trim_20 : decode cX8_trim 20 = .ok (.aload_n 0, 1) := by decide +kernel
theorem dX8_trim_21 : decode cX8_trim 21 = .ok (.iload_n 1, 1) := by decide +kernel
theorem dX8_trim_22 : decode cX8_trim 22 = .ok (.putfield 13, 3) := by decide +kernel
theorem dX8_trim_25 : decode cX8_trim 25 = .ok (.iload_n 1, 1) := by decide +kernel
theorem dX8_trim_26 : decode cX8_trim 26 = .ok (.ireturn, 1) := by decide +kernel
theorem dX8_evaluate_0 : decode cX8_evaluate 0 = .ok (.aload_n 0, 1) := by decide +kernel
theorem dX8_evaluate_1 : decode cX8_evaluate 1 = .ok (.aload_n 0, 1) := by decide +kernel
theorem dX8_evaluate_2 : decode cX8_evaluate 2 = .ok (.getfield 66, 3) := by decide +kernel
theorem dX8_evaluate_5 : decode cX8_evaluate 5 = .ok (.aload_n 0, 1) := by decide +kernel
theorem dX8_evaluate_6 : decode cX8_evaluate 6 = .ok (.getfield 9, 3) := by decide +kernel
theorem dX8_evaluate_9 : decode cX8_evaluate 9 = .ok (.aload_n 0, 1) := by decide +kernel
theorem dX8_evaluate_10 : decode cX8_evaluate 10 = .ok (.getfield 13, 3) := by decide +kernel
theorem dX8_evaluate_13 : decode cX8_evaluate 13 = .ok (.aload_n 0, 1) := by decide +kernel
theorem dX8_evaluate_14 : decode cX8_evaluate 14 = .ok (.getfield 28, 3) := by decide +kernel
theorem dX8_evaluate_17 : decode cX8_evaluate 17 = .ok (.invokevirtual 100, 3) := by decide +kernel
theorem dX8_evaluate_20 : decode cX8_evaluate 20 = .ok (.putfield 17, 3) := by decide +kernel
theorem dX8_evaluate_23 : decode cX8_evaluate 23 = .ok (.aload_n 0, 1) := by decide +kernel
theorem dX8_evaluate_24 : decode cX8_evaluate 24 = .ok (.iconst 0, 1) := by decide +kernel
theorem dX8_evaluate_25 : decode cX8_evaluate 25 = .ok (.putfield 13, 3) := by decide +kernel
theorem dX8_evaluate_28 : decode cX8_evaluate 28 = .ok (.aload_n 0, 1) := by decide +kernel
theorem dX8_evaluate_29 : decode cX8_evaluate 29 = .ok (.getfield 17, 3) := by decide +kernel
theorem dX8_evaluate_32 : decode cX8_evaluate 32 = .ok (.ifCond .lt 11, 3) := by decide +kernel
theorem dX8_evaluate_35 : decode cX8_evaluate 35 = .ok (.new 97, 3) := by decide +kernel
theorem dX8_evaluate_38 : decode cX8_evaluate 38 = .ok (.dup, 1) := by decide +kernel
theorem dX8_evaluate_39 : decode cX8_evaluate 39 = .ok (.invokespecial 99, 3) := by decide +kernel
theorem dX8_evaluate_42 : decode cX8_evaluate 42 = .ok (.athrow, 1) := by decide +kernel
theorem dX8_evaluate_43 : decode cX8_evaluate 43 = .ok (.aload_n 0, 1) := by decide +kernel
theorem dX8_evaluate_44 : decode cX8_evaluate 44 = .ok (.invokevirtual 104, 3) := by decide +kernel
theorem dX8_evaluate_47 : decode cX8_evaluate 47 = .ok (.aload_n 0, 1) := by decide +kernel
theorem dX8_evaluate_48 : decode cX8_evaluate 48 = .ok (.getfield 73, 3) := by decide +kernel
theorem dX8_evaluate_51 : decode cX8_evaluate 51 = .ok (.aload_n 0, 1) := by decide +kernel
theorem dX8_evaluate_52 : decode cX8_evaluate 52 = .ok (.getfield 66, 3) := by decide +kernel
theorem dX8_evaluate_55 : decode cX8_evaluate 55 = .ok (.aload_n 0, 1) := by decide +kernel
theorem dX8_evaluate_56 : decode cX8_evaluate 56 = .ok (.getfield 28, 3) := by decide +kernel
theorem dX8_evaluate_59 : decode cX8_evaluate 59 = .ok (.aload_n 0, 1) := by decide +kernel
