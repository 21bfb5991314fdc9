theorem dX8_evaluate_60 : decode cX8_evaluate 60 = .ok (.getfield 50, 3) := by decide +kernel
theorem dX8_evaluate_63 : decode cX8_evaluate 63 = .ok (.invokevirtual 107, 3) := by decide +kernel
theorem dX8_evaluate_66 : decode cX8_evaluate 66 = .ok (.astore_n 1, 1) := by decide +kernel
theorem dX8_evaluate_67 : decode cX8_evaluate 67 = .ok (.aload_n 1, 1) := by decide +kernel
theorem dX8_evaluate_68 : decode cX8_evaluate 68 = .ok (.ifnonnull 11, 3) := by decide +kernel
theorem dX8_evaluate_71 : decode cX8_evaluate 71 = .ok (.new 111, 3) := by decide +kernel
theorem dX8_evaluate_74 : decode cX8_evaluate 74 = .ok (.dup, 1) := by decide +kernel
theorem dX8_evaluate_75 : decode cX8_evaluate 75 = .ok (.invokespecial 113, 3) := by decide +kernel
theorem dX8_evaluate_78 : decode cX8_evaluate 78 = .ok (.athrow, 1) := by decide +kernel
theorem dX8_evaluate_79 : decode cX8_evaluate 79 = .ok (.aload_n 0, 1) := by decide +kernel
theorem dX8_evaluate_80 : decode cX8_evaluate 80 = .ok (.aload_n 1, 1) := by decide +kernel
theorem dX8_evaluate_81 : decode cX8_evaluate 81 = .ok (.bipush 64, 2) := by decide +kernel
theorem dX8_evaluate_83 : decode cX8_evaluate 83 = .ok (.invokestatic 114, 3) := by decide +kernel
theorem dX8_evaluate_86 : decode cX8_evaluate 86 = .ok (.invokevirtual 120, 3) := by decide +kernel
theorem dX8_evaluate_89 : decode cX8_evaluate 89 = .ok (.ireturn, 1) := by decide +kernel
theorem dX8_errorPosition_0 : decode cX8_errorPosition 0 = .ok (.aload_n 0, 1) := by decide +kernel
theorem dX8_errorPosition_1 : decode cX8_errorPosition 1 = .ok (.getfield 17, 3) := by decide +kernel
theorem dX8_errorPosition_4 : decode cX8_errorPosition 4 = .ok (.ireturn, 1) := by decide +kernel
theorem dX8_write_0 : decode cX8_write 0 = .ok (.aload_n 0, 1) := by decide +kernel
theorem dX8_write_1 : decode cX8_write 1 = .ok (.iload_n 1, 1) := by decide +kernel
theorem dX8_write_2 : decode cX8_write 2 = .ok (.invokevirtual 124, 3) := by decide +kernel
theorem dX8_write_5 : decode cX8_write 5 = .ok (.astore_n 2, 1) := by decide +kernel
theorem dX8_write_6 : decode cX8_write 6 = .ok (.aload_n 2, 1) := by decide +kernel
theorem dX8_write_7 : decode cX8_write 7 = .ok (.getfield 128, 3) := by decide +kernel
theorem dX8_write_10 : decode cX8_write 10 = .ok (.aload_n 0, 1) := by decide +kernel
theorem dX8_write_11 : decode cX8_write 11 = .ok (.getfield 38, 3) := by decide +kernel
theorem dX8_write_14 : decode cX8_write 14 = .ok (.invokestatic 132, 3) := by decide +kernel
theorem dX8_write_17 : decode cX8_write 17 = .ok (.istore_n 3, 1) := by decide +kernel
theorem dX8_write_18 : decode cX8_write 18 = .ok (.aload_n 0, 1) := by decide +kernel
theorem dX8_write_19 : decode cX8_write 19 = .ok (.iload_n 3, 1) := by decide +kernel
theorem dX8_write_20 : decode cX8_write 20 = .ok (.invokevirtual 138, 3) := by decide +kernel
theorem dX8_write_23 : decode cX8_write 23 = .ok (.sipush 1000, 3) := by decide +kernel
theorem dX8_write_26 : decode cX8_write 26 = .ok (.if_icmp .le 11, 3) := by decide +kernel
theorem dX8_write_29 : decode cX8_write 29 = .ok (.new 111, 3) := by decide +kernel
theorem dX8_write_32 : decode cX8_write 32 = .ok (.dup, 1) := by decide +kernel
theorem dX8_write_33 : decode cX8_write 33 = .ok (.invokespecial 113, 3) := by decide +kernel
theorem dX8_write_36 : decode cX8_write 36 = .ok (.athrow, 1) := by decide +kernel
theorem dX8_write_37 : decode cX8_write 37 = .ok (.aload_n 0, 1) := by decide +kernel
theorem dX8_write_38 : decode cX8_write 38 = .ok (.iconst 0, 1) := by decide +kernel
theorem dX8_write_39 : decode cX8_write 39 = .ok (.putfield 23, 3) := by decide +kernel
theorem dX8_write_42 : decode cX8_write 42 = .ok (.iload_n 3, 1) := by decide +kernel
theorem dX8_write_43 : decode cX8_write 43 = .ok (.ifCond .ne 9, 3) := by decide +kernel
theorem dX8_write_46 : decode cX8_write 46 = .ok (.aload_n 0, 1) := by decide +kernel
theorem dX8_write_47 : decode cX8_write 47 = .ok (.bipush 48, 2) := by decide +kernel
theorem dX8_write_49 : decode cX8_write 49 = .ok (.invokevirtual 142, 3) := by decide +kernel
theorem dX8_write_52 : decode cX8_write 52 = .ok (.iconst 0, 1) := by decide +kernel
theorem dX8_write_53 : decode cX8_write 53 = .ok (.istore 4, 2) := by decide +kernel
theorem dX8_write_55 : decode cX8_write 55 = .ok (.iload 4, 2) := by decide +kernel
theorem dX8_write_57 : decode cX8_write 57 = .ok (.iload_n 3, 1) := by decide +kernel
theorem dX8_write_58 : decode cX8_write 58 = .ok (.if_icmp .ge 39, 3) := by decide +kernel
theorem dX8_write_61 : decode cX8_write 61 = .ok (.iload 4, 2) := by decide +kernel
theorem dX8_write_63 : decode cX8_write 63 = .ok (.sipush 4096, 3) := by decide +kernel
theorem dX8_write_66 : decode cX8_write 66 = .ok (.if_icmp .ge 31, 3) := by decide +kernel
theorem dX8_write_69 : decode cX8_write 69 = .ok (.iload 4, 2) := by decide +kernel
theorem dX8_write_71 : decode cX8_write 71 = .ok (.ifCond .le 9, 3) := by decide +kernel
theorem dX8_write_74 : decode cX8_write 74 = .ok (.aload_n 0, 1) := by decide +kernel
theorem dX8_write_75 : decode cX8_write 75 = .ok (.bipush 43, 2) := by decide +kernel
theorem dX8_write_77 : decode cX8_write 77 = .ok (.invokevirtual 142, 3) := by decide +kernel
theorem dX8_write_80 : decode cX8_write 80 = .ok (.aload_n 0, 1) := by decide +kernel
theorem dX8_write_81 : decode cX8_write 81 = .ok (.aload_n 0, 1) := by decide +kernel
theorem dX8_write_82 : decode cX8_write 82 = .ok (.getfield 38, 3) := by decide +kernel
theorem dX8_write_85 : decode cX8_write 85 = .ok (.iload 4, 2) := by decide +kernel
theorem dX8_write_87 : decode cX8_write 87 = .ok (.iaload, 1) := by decide +kernel
theorem dX8_write_88 : decode cX8_write 88 = .ok (.invokevirtual 145, 3) := by decide +kernel
theorem dX8_write_91 : decode cX8_write 91 = .ok (.iinc 4 1, 3) := by decide +kernel
theorem dX8_write_94 : decode cX8_write 94 = .ok (.goto (-39), 3) := by decide +kernel
theorem dX8_write_97 : decode cX8_write 97 = .ok (.aload_n 0, 1) := by decide +kernel
theorem dX8_write_98 : decode cX8_write 98 = .ok (.getfield 23, 3) := by decide +kernel
theorem dX8_write_101 : decode cX8_write 101 = .ok (.ireturn, 1) := by decide +kernel
theorem dX8_writtenLength_0 : decode cX8_writtenLength 0 = .ok (.iload_n 1, 1) := by decide +kernel
theorem dX8_writtenLength_1 : decode cX8_writtenLength 1 = .ok (.ifCond .ne 5, 3) := by decide +kernel
theorem dX8_writtenLength_4 : decode cX8_writtenLength 4 = .ok (.iconst 1, 1) := by decide +kernel
theorem dX8_writtenLength_5 : decode cX8_writtenLength 5 = .ok (.ireturn, 1) := by decide +kernel
theorem dX8_writtenLength_6 : decode cX8_writtenLength 6 = .ok (.iload_n 1, 1) := by decide +kernel
theorem dX8_writtenLength_7 : decode cX8_writtenLength 7 = .ok (.iconst 1, 1) := by decide +kernel
theorem dX8_writtenLength_8 : decode cX8_writtenLength 8 = .ok (.isub, 1) := by decide +kernel
theorem dX8_writtenLength_9 : decode cX8_writtenLength 9 = .ok (.istore_n 2, 1) := by decide +kernel
theorem dX8_writtenLength_10 : decode cX8_writtenLength 10 = .ok (.iconst 0, 1) := by decide +kernel
theorem dX8_writtenLength_11 : decode cX8_writtenLength 11 = .ok (.istore_n 3, 1) := by decide +kernel
theorem dX8_writtenLength_12 : decode cX8_writtenLength 12 = .ok (.iload_n 3, 1) := by decide +kernel
theorem dX8_writtenLength_13 : decode cX8_writtenLength 13 = .ok (.iload_n 1, 1) := by decide +kernel
theorem dX8_writtenLength_14 : decode cX8_writtenLength 14 = .ok (.if_icmp .ge 32, 3) := by decide +kernel
theorem dX8_writtenLength_17 : decode cX8_writtenLength 17 = .ok (.iload_n 3, 1) := by decide +kernel
theorem dX8_writtenLength_18 : decode cX8_writtenLength 18 = .ok (.sipush 4096, 3) := by decide +kernel
theorem dX8_writtenLength_21 : decode cX8_writtenLength 21 = .ok (.if_icmp .ge 25, 3) := by decide +kernel
theorem dX8_writtenLength_24 : decode cX8_writtenLength 24 = .ok (.iload_n 2, 1) := by decide +kernel
theorem dX8_writtenLength_25 : decode cX8_writtenLength 25 = .ok (.iconst 1, 1) := by decide +kernel
theorem dX8_writtenLength_26 : decode cX8_writtenLength 26 = .ok (.aload_n 0, 1) := by decide +kernel
theorem dX8_writtenLength_27 : decode cX8_writtenLength 27 = .ok (.getfield 38, 3) := by decide +kernel
theorem dX8_writtenLength_30 : decode cX8_writtenLength 30 = .ok (.iload_n 3, 1) := by decide +kernel
theorem dX8_writtenLength_31 : decode cX8_writtenLength 31 = .ok (.iaload, 1) := by decide +kernel
theorem dX8_writtenLength_32 : decode cX8_writtenLength 32 = .ok (.invokestatic 148, 3) := by decide +kernel
theorem dX8_writtenLength_35 : decode cX8_writtenLength 35 = .ok (.invokestatic 153, 3) := by decide +kernel
theorem dX8_writtenLength_38 : decode cX8_writtenLength 38 = .ok (.iadd, 1) := by decide +kernel
theorem dX8_writtenLength_39 : decode cX8_writtenLength 39 = .ok (.istore_n 2, 1) := by decide +kernel
theorem dX8_writtenLength_40 : decode cX8_writtenLength 40 = .ok (.iinc 3 1, 3) := by decide +kernel
theorem dX8_writtenLength_43 : decode cX8_writtenLength 43 = .ok (.goto (-31), 3) := by decide +kernel
theorem dX8_writtenLength_46 : decode cX8_writtenLength 46 = .ok (.iload_n 2, 1) := by decide +kernel
theorem dX8_writtenLength_47 : decode cX8_writtenLength 47 = .ok (.ireturn, 1) := by decide +kernel
theorem dX8_writeSet_0 : decode cX8_writeSet 0 = .ok (.iload_n 1, 1) := by decide +kernel
theorem dX8_writeSet_1 : decode cX8_writeSet 1 = .ok (.ifCond .ne 9, 3) := by decide +kernel
theorem dX8_writeSet_4 : decode cX8_writeSet 4 = .ok (.aload_n 0, 1) := by decide +kernel
theorem dX8_writeSet_5 : decode cX8_writeSet 5 = .ok (.bipush 49, 2) := by decide +kernel
theorem dX8_writeSet_7 : decode cX8_writeSet 7 = .ok (.invokevirtual 142, 3) := by decide +kernel
theorem dX8_writeSet_10 : decode cX8_writeSet 10 = .ok (.iconst 0, 1) := by decide +kernel
theorem dX8_writeSet_11 : decode cX8_writeSet 11 = .ok (.istore_n 2, 1) := by decide +kernel
theorem dX8_writeSet_12 : decode cX8_writeSet 12 = .ok (.iload_n 2, 1) := by decide +kernel
theorem dX8_writeSet_13 : decode cX8_writeSet 13 = .ok (.bipush 12, 2) := by decide +kernel
theorem dX8_writeSet_15 : decode cX8_writeSet 15 = .ok (.if_icmp .ge 25, 3) := by decide +kernel
theorem dX8_writeSet_18 : decode cX8_writeSet 18 = .ok (.iload_n 1, 1) := by decide +kernel
theorem dX8_writeSet_19 : decode cX8_writeSet 19 = .ok (.iload_n 2, 1) := by decide +kernel
theorem dX8_writeSet_20 : decode cX8_writeSet 20 = .ok (.ishr, 1) := by decide +kernel
theorem dX8_writeSet_21 : decode cX8_writeSet 21 = .ok (.iconst 1, 1) := by decide +kernel
theorem dX8_writeSet_22 : decode cX8_writeSet 22 = .ok (.iand, 1) := by decide +kernel
theorem dX8_writeSet_23 : decode cX8_writeSet 23 = .ok (.ifCond .eq 11, 3) := by decide +kernel
theorem dX8_writeSet_26 : decode cX8_writeSet 26 = .ok (.aload_n 0, 1) := by decide +kernel
theorem dX8_writeSet_27 : decode cX8_writeSet 27 = .ok (.bipush 97, 2) := by decide +kernel
theorem dX8_writeSet_29 : decode cX8_writeSet 29 = .ok (.iload_n 2, 1) := by decide +kernel
theorem dX8_writeSet_30 : decode cX8_writeSet 30 = .ok (.iadd, 1) := by decide +kernel
theorem dX8_writeSet_31 : decode cX8_writeSet 31 = .ok (.invokevirtual 142, 3) := by decide +kernel
theorem dX8_writeSet_34 : decode cX8_writeSet 34 = .ok (.iinc 2 1, 3) := by decide +kernel
theorem dX8_writeSet_37 : decode cX8_writeSet 37 = .ok (.goto (-25), 3) := by decide +kernel
theorem dX8_writeSet_40 : decode cX8_writeSet 40 = .ok (.return_, 1) := by decide +kernel
theorem dX8_appendOutput_0 : decode cX8_appendOutput 0 = .ok (.aload_n 0, 1) := by decide +kernel
theorem dX8_appendOutput_1 : decode cX8_appendOutput 1 = .ok (.getfield 23, 3) := by decide +kernel
theorem dX8_appendOutput_4 : decode cX8_appendOutput 4 = .ok (.sipush 1000, 3) := by decide +kernel
theorem dX8_appendOutput_7 : decode cX8_appendOutput 7 = .ok (.if_icmp .ge 24, 3) := by decide +kernel
theorem dX8_appendOutput_10 : decode cX8_appendOutput 10 = .ok (.aload_n 0, 1) := by decide +kernel
theorem dX8_appendOutput_11 : decode cX8_appendOutput 11 = .ok (.getfield 20, 3) := by decide +kernel
theorem dX8_appendOutput_14 : decode cX8_appendOutput 14 = .ok (.aload_n 0, 1) := by decide +kernel
theorem dX8_appendOutput_15 : decode cX8_appendOutput 15 = .ok (.getfield 23, 3) := by decide +kernel
theorem dX8_appendOutput_18 : decode cX8_appendOutput 18 = .ok (.iload_n 1, 1) := by decide +kernel
theorem dX8_appendOutput_19 : decode cX8_appendOutput 19 = .ok (.i2b, 1) := by decide +kernel
theorem dX8_appendOutput_20 : decode cX8_appendOutput 20 = .ok (.bastore, 1) := by decide +kernel
theorem dX8_appendOutput_21 : decode cX8_appendOutput 21 = .ok (.aload_n 0, 1) := by decide +kernel
theorem dX8_appendOutput_22 : decode cX8_appendOutput 22 = .ok (.dup, 1) := by decide +kernel
theorem dX8_appendOutput_23 : decode cX8_appendOutput 23 = .ok (.getfield 23, 3) := by decide +kernel
theorem dX8_appendOutput_26 : decode cX8_appendOutput 26 = .ok (.iconst 1, 1) := by decide +kernel
theorem dX8_appendOutput_27 : decode cX8_appendOutput 27 = .ok (.iadd, 1) := by decide +kernel
theorem dX8_appendOutput_28 : decode cX8_appendOutput 28 = .ok (.putfield 23, 3) := by decide +kernel
theorem dX8_appendOutput_31 : decode cX8_appendOutput 31 = .ok (.return_, 1) := by decide +kernel
theorem dX8_outputByte_0 : decode cX8_outputByte 0 = .ok (.iload_n 1, 1) := by decide +kernel
theorem dX8_outputByte_1 : decode cX8_outputByte 1 = .ok (.ifCond .lt 18, 3) := by decide +kernel
theorem dX8_outputByte_4 : decode cX8_outputByte 4 = .ok (.iload_n 1, 1) := by decide +kernel
theorem dX8_outputByte_5 : decode cX8_outputByte 5 = .ok (.aload_n 0, 1) := by decide +kernel
theorem dX8_outputByte_6 : decode cX8_outputByte 6 = .ok (.getfield 23, 3) := by decide +kernel
theorem dX8_outputByte_9 : decode cX8_outputByte 9 = .ok (.if_icmp .ge 10, 3) := by decide +kernel
theorem dX8_outputByte_12 : decode cX8_outputByte 12 = .ok (.iload_n 1, 1) := by decide +kernel
theorem dX8_outputByte_13 : decode cX8_outputByte 13 = .ok (.sipush 1000, 3) := by decide +kernel
theorem dX8_outputByte_16 : decode cX8_outputByte 16 = .ok (.if_icmp .lt 11, 3) := by decide +kernel
theorem dX8_outputByte_19 : decode cX8_outputByte 19 = .ok (.new 159, 3) := by decide +kernel
theorem dX8_outputByte_22 : decode cX8_outputByte 22 = .ok (.dup, 1) := by decide +kernel
theorem dX8_outputByte_23 : decode cX8_outputByte 23 = .ok (.invokespecial 161, 3) := by decide +kernel
theorem dX8_outputByte_26 : decode cX8_outputByte 26 = .ok (.athrow, 1) := by decide +kernel
theorem dX8_outputByte_27 : decode cX8_outputByte 27 = .ok (.aload_n 0, 1) := by decide +kernel
theorem dX8_outputByte_28 : decode cX8_outputByte 28 = .ok (.getfield 20, 3) := by decide +kernel
theorem dX8_outputByte_31 : decode cX8_outputByte 31 = .ok (.iload_n 1, 1) := by decide +kernel
theorem dX8_outputByte_32 : decode cX8_outputByte 32 = .ok (.baload, 1) := by decide +kernel
theorem dX8_outputByte_33 : decode cX8_outputByte 33 = .ok (.ireturn, 1) := by decide +kernel
theorem dX8_single_0 : decode cX8_single 0 = .ok (.aload_n 0, 1) := by decide +kernel
theorem dX8_single_1 : decode cX8_single 1 = .ok (.iload_n 1, 1) := by decide +kernel
theorem dX8_single_2 : decode cX8_single 2 = .ok (.invokevirtual 162, 3) := by decide +kernel
theorem dX8_single_5 : decode cX8_single 5 = .ok (.aload_n 0, 1) := by decide +kernel
theorem dX8_single_6 : decode cX8_single 6 = .ok (.invokevirtual 104, 3) := by decide +kernel
theorem dX8_single_9 : decode cX8_single 9 = .ok (.bipush 64, 2) := by decide +kernel
theorem dX8_single_11 : decode cX8_single 11 = .ok (.newarray .long, 2) := by decide +kernel
theorem dX8_single_13 : decode cX8_single 13 = .ok (.astore_n 2, 1) := by decide +kernel
theorem dX8_single_14 : decode cX8_single 14 = .ok (.aload_n 2, 1) := by decide +kernel
theorem dX8_single_15 : decode cX8_single 15 = .ok (.iload_n 1, 1) := by decide +kernel
theorem dX8_single_16 : decode cX8_single 16 = .ok (.invokestatic 165, 3) := by decide +kernel
theorem dX8_single_19 : decode cX8_single 19 = .ok (.aload_n 0, 1) := by decide +kernel
theorem dX8_single_20 : decode cX8_single 20 = .ok (.aload_n 2, 1) := by decide +kernel
theorem dX8_single_21 : decode cX8_single 21 = .ok (.invokevirtual 120, 3) := by decide +kernel
theorem dX8_single_24 : decode cX8_single 24 = .ok (.ireturn, 1) := by decide +kernel
theorem dX8_subsetsOf_0 : decode cX8_subsetsOf 0 = .ok (.aload_n 0, 1) := by decide +kernel
theorem dX8_subsetsOf_1 : decode cX8_subsetsOf 1 = .ok (.iload_n 1, 1) := by decide +kernel
theorem dX8_subsetsOf_2 : decode cX8_subsetsOf 2 = .ok (.invokevirtual 162, 3) := by decide +kernel
theorem dX8_subsetsOf_5 : decode cX8_subsetsOf 5 = .ok (.iload_n 2, 1) := by decide +kernel
theorem dX8_subsetsOf_6 : decode cX8_subsetsOf 6 = .ok (.iconst (-1), 1) := by decide +kernel
theorem dX8_subsetsOf_7 : decode cX8_subsetsOf 7 = .ok (.if_icmp .lt 9, 3) := by decide +kernel
theorem dX8_subsetsOf_10 : decode cX8_subsetsOf 10 = .ok (.iload_n 2, 1) := by decide +kernel
theorem dX8_subsetsOf_11 : decode cX8_subsetsOf 11 = .ok (.bipush 12, 2) := by decide +kernel
theorem dX8_subsetsOf_13 : decode cX8_subsetsOf 13 = .ok (.if_icmp .le 11, 3) := by decide +kernel
theorem dX8_subsetsOf_16 : decode cX8_subsetsOf 16 = .ok (.new 97, 3) := by decide +kernel
theorem dX8_subsetsOf_19 : decode cX8_subsetsOf 19 = .ok (.dup, 1) := by decide +kernel
theorem dX8_subsetsOf_20 : decode cX8_subsetsOf 20 = .ok (.invokespecial 99, 3) := by decide +kernel
theorem dX8_subsetsOf_23 : decode cX8_subsetsOf 23 = .ok (.athrow, 1) := by decide +kernel
theorem dX8_subsetsOf_24 : decode cX8_subsetsOf 24 = .ok (.aload_n 0, 1) := by decide +kernel
theorem dX8_subsetsOf_25 : decode cX8_subsetsOf 25 = .ok (.invokevirtual 104, 3) := by decide +kernel
theorem dX8_subsetsOf_28 : decode cX8_subsetsOf 28 = .ok (.bipush 64, 2) := by decide +kernel
theorem dX8_subsetsOf_30 : decode cX8_subsetsOf 30 = .ok (.newarray .long, 2) := by decide +kernel
theorem dX8_subsetsOf_32 : decode cX8_subsetsOf 32 = .ok (.astore_n 3, 1) := by decide +kernel
theorem dX8_subsetsOf_33 : decode cX8_subsetsOf 33 = .ok (.iconst 0, 1) := by decide +kernel
theorem dX8_subsetsOf_34 : decode cX8_subsetsOf 34 = .ok (.istore 4, 2) := by decide +kernel
theorem dX8_subsetsOf_36 : decode cX8_subsetsOf 36 = .ok (.iload 4, 2) := by decide +kernel
theorem dX8_subsetsOf_38 : decode cX8_subsetsOf 38 = .ok (.iload_n 1, 1) := by decide +kernel
theorem dX8_subsetsOf_39 : decode cX8_subsetsOf 39 = .ok (.if_icmp .gt 46, 3) := by decide +kernel
theorem dX8_subsetsOf_42 : decode cX8_subsetsOf 42 = .ok (.iload 4, 2) := by decide +kernel
theorem dX8_subsetsOf_44 : decode cX8_subsetsOf 44 = .ok (.sipush 4096, 3) := by decide +kernel
theorem dX8_subsetsOf_47 : decode cX8_subsetsOf 47 = .ok (.if_icmp .ge 38, 3) := by decide +kernel
theorem dX8_subsetsOf_50 : decode cX8_subsetsOf 50 = .ok (.iload 4, 2) := by decide +kernel
theorem dX8_subsetsOf_52 : decode cX8_subsetsOf 52 = .ok (.iload_n 1, 1) := by decide +kernel
theorem dX8_subsetsOf_53 : decode cX8_subsetsOf 53 = .ok (.iconst (-1), 1) := by decide +kernel
theorem dX8_subsetsOf_54 : decode cX8_subsetsOf 54 = .ok (.ixor, 1) := by decide +kernel
theorem dX8_subsetsOf_55 : decode cX8_subsetsOf 55 = .ok (.iand, 1) := by decide +kernel
theorem dX8_subsetsOf_56 : decode cX8_subsetsOf 56 = .ok (.ifCond .ne 23, 3) := by decide +kernel
theorem dX8_subsetsOf_59 : decode cX8_subsetsOf 59 = .ok (.iload_n 2, 1) := by decide +kernel
theorem dX8_subsetsOf_60 : decode cX8_subsetsOf 60 = .ok (.iconst (-1), 1) := by decide +kernel
theorem dX8_subsetsOf_61 : decode cX8_subsetsOf 61 = .ok (.if_icmp .eq 12, 3) := by decide +kernel
theorem dX8_subsetsOf_64 : decode cX8_subsetsOf 64 = .ok (.iload 4, 2) := by decide +kernel
theorem dX8_subsetsOf_66 : decode cX8_subsetsOf 66 = .ok (.invokestatic 148, 3) := by decide +kernel
theorem dX8_subsetsOf_69 : decode cX8_subsetsOf 69 = .ok (.iload_n 2, 1) := by decide +kernel
theorem dX8_subsetsOf_70 : decode cX8_subsetsOf 70 = .ok (.if_icmp .ne 9, 3) := by decide +kernel
theorem dX8_subsetsOf_73 : decode cX8_subsetsOf 73 = .ok (.aload_n 3, 1) := by decide +kernel
theorem dX8_subsetsOf_74 : decode cX8_subsetsOf 74 = .ok (.iload 4, 2) := by decide +kernel
theorem dX8_subsetsOf_76 : decode cX8_subsetsOf 76 = .ok (.invokestatic 165, 3) := by decide +kernel
theorem dX8_subsetsOf_79 : decode cX8_subsetsOf 79 = .ok (.iinc 4 1, 3) := by decide +kernel
theorem dX8_subsetsOf_82 : decode cX8_subsetsOf 82 = .ok (.goto (-46), 3) := by decide +kernel
theorem dX8_subsetsOf_85 : decode cX8_subsetsOf 85 = .ok (.aload_n 0, 1) := by decide +kernel
theorem dX8_subsetsOf_86 : decode cX8_subsetsOf 86 = .ok (.aload_n 3, 1) := by decide +kernel
theorem dX8_subsetsOf_87 : decode cX8_subsetsOf 87 = .ok (.invokevirtual 120, 3) := by decide +kernel
theorem dX8_subsetsOf_90 : decode cX8_subsetsOf 90 = .ok (.ireturn, 1) := by decide +kernel
theorem dX8_release_0 : decode cX8_release 0 = .ok (.aload_n 0, 1) := by decide +kernel
theorem dX8_release_1 : decode cX8_release 1 = .ok (.iload_n 1, 1) := by decide +kernel
theorem dX8_release_2 : decode cX8_release 2 = .ok (.invokevirtual 124, 3) := by decide +kernel
theorem dX8_release_5 : decode cX8_release 5 = .ok (.astore_n 2, 1) := by decide +kernel
theorem dX8_release_6 : decode cX8_release 6 = .ok (.aload_n 0, 1) := by decide +kernel
theorem dX8_release_7 : decode cX8_release 7 = .ok (.getfield 59, 3) := by decide +kernel
theorem dX8_release_10 : decode cX8_release 10 = .ok (.aload_n 2, 1) := by decide +kernel
theorem dX8_release_11 : decode cX8_release 11 = .ok (.getfield 128, 3) := by decide +kernel
theorem dX8_release_14 : decode cX8_release 14 = .ok (.iconst (-1), 1) := by decide +kernel
theorem dX8_release_15 : decode cX8_release 15 = .ok (.invokevirtual 169, 3) := by decide +kernel
theorem dX8_release_18 : decode cX8_release 18 = .ok (.pop, 1) := by decide +kernel
theorem dX8_release_19 : decode cX8_release 19 = .ok (.aload_n 0, 1) := by decide +kernel
theorem dX8_release_20 : decode cX8_release 20 = .ok (.getfield 28, 3) := by decide +kernel
theorem dX8_release_23 : decode cX8_release 23 = .ok (.iload_n 1, 1) := by decide +kernel
theorem dX8_release_24 : decode cX8_release 24 = .ok (.aconst_null, 1) := by decide +kernel
theorem dX8_release_25 : decode cX8_release 25 = .ok (.aastore, 1) := by decide +kernel
theorem dX8_release_26 : decode cX8_release 26 = .ok (.aload_n 0, 1) := by decide +kernel
theorem dX8_release_27 : decode cX8_release 27 = .ok (.dup, 1) := by decide +kernel
theorem dX8_release_28 : decode cX8_release 28 = .ok (.getfield 35, 3) := by decide +kernel
theorem dX8_release_31 : decode cX8_release 31 = .ok (.iconst 1, 1) := by decide +kernel
theorem dX8_release_32 : decode cX8_release 32 = .ok (.isub, 1) := by decide +kernel
theorem dX8_release_33 : decode cX8_release 33 = .ok (.putfield 35, 3) := by decide +kernel
theorem dX8_release_36 : decode cX8_release 36 = .ok (.aload_n 0, 1) := by decide +kernel
theorem dX8_release_37 : decode cX8_release 37 = .ok (.getfield 35, 3) := by decide +kernel
theorem dX8_release_40 : decode cX8_release 40 = .ok (.ireturn, 1) := by decide +kernel
theorem dX8_createdCount_0 : decode cX8_createdCount 0 = .ok (.aload_n 0, 1) := by decide +kernel
theorem dX8_createdCount_1 : decode cX8_createdCount 1 = .ok (.getfield 32, 3) := by decide +kernel
theorem dX8_createdCount_4 : decode cX8_createdCount 4 = .ok (.ireturn, 1) := by decide +kernel
theorem dX8_nodeCount_0 : decode cX8_nodeCount 0 = .ok (.aload_n 0, 1) := by decide +kernel
theorem dX8_nodeCount_1 : decode cX8_nodeCount 1 = .ok (.getfield 59, 3) := by decide +kernel
theorem dX8_nodeCount_4 : decode cX8_nodeCount 4 = .ok (.getfield 173, 3) := by decide +kernel
theorem dX8_nodeCount_7 : decode cX8_nodeCount 7 = .ok (.ireturn, 1) := by decide +kernel
theorem dX8_nodesOf_0 : decode cX8_nodesOf 0 = .ok (.aload_n 0, 1) := by decide +kernel
theorem dX8_nodesOf_1 : decode cX8_nodesOf 1 = .ok (.iload_n 1, 1) := by decide +kernel
theorem dX8_nodesOf_2 : decode cX8_nodesOf 2 = .ok (.invokevirtual 124, 3) := by decide +kernel
theorem dX8_nodesOf_5 : decode cX8_nodesOf 5 = .ok (.getfield 176, 3) := by decide +kernel
theorem dX8_nodesOf_8 : decode cX8_nodesOf 8 = .ok (.ireturn, 1) := by decide +kernel
theorem dX8_checkMask_0 : decode cX8_checkMask 0 = .ok (.iload_n 1, 1) := by decide +kernel
theorem dX8_checkMask_1 : decode cX8_checkMask 1 = .ok (.ifCond .lt 10, 3) := by decide +kernel
theorem dX8_checkMask_4 : decode cX8_checkMask 4 = .ok (.iload_n 1, 1) := by decide +kernel
theorem dX8_checkMask_5 : decode cX8_checkMask 5 = .ok (.sipush 4096, 3) := by decide +kernel
theorem dX8_checkMask_8 : decode cX8_checkMask 8 = .ok (.if_icmp .lt 11, 3) := by decide +kernel
theorem dX8_checkMask_11 : decode cX8_checkMask 11 = .ok (.new 97, 3) := by decide +kernel
theorem dX8_checkMask_14 : decode cX8_checkMask 14 = .ok (.dup, 1) := by decide +kernel
theorem dX8_checkMask_15 : decode cX8_checkMask 15 = .ok (.invokespecial 99, 3) := by decide +kernel
theorem dX8_checkMask_18 : decode cX8_checkMask 18 = .ok (.athrow, 1) := by decide +kernel
theorem dX8_checkMask_19 : decode cX8_checkMask 19 = .ok (.return_, 1) := by decide +kernel
theorem dX8_checkElement_0 : decode cX8_checkElement 0 = .ok (.iload_n 1, 1) := by decide +kernel
theorem dX8_checkElement_1 : decode cX8_checkElement 1 = .ok (.ifCond .lt 9, 3) := by decide +kernel
theorem dX8_checkElement_4 : decode cX8_checkElement 4 = .ok (.iload_n 1, 1) := by decide +kernel
theorem dX8_checkElement_5 : decode cX8_checkElement 5 = .ok (.bipush 12, 2) := by decide +kernel
theorem dX8_checkElement_7 : decode cX8_checkElement 7 = .ok (.if_icmp .lt 11, 3) := by decide +kernel
theorem dX8_checkElement_10 : decode cX8_checkElement 10 = .ok (.new 159, 3) := by decide +kernel
theorem dX8_checkElement_13 : decode cX8_checkElement 13 = .ok (.dup, 1) := by decide +kernel
theorem dX8_checkElement_14 : decode cX8_checkElement 14 = .ok (.invokespecial 161, 3) := by decide +kernel
theorem dX8_checkElement_17 : decode cX8_checkElement 17 = .ok (.athrow, 1) := by decide +kernel
theorem dX8_checkElement_18 : decode cX8_checkElement 18 = .ok (.return_, 1) := by decide +kernel
theorem dX8_checkCreated_0 : decode cX8_checkCreated 0 = .ok (.iload_n 1, 1) := by decide +kernel
theorem dX8_checkCreated_1 : decode cX8_checkCreated 1 = .ok (.ifCond .lt 18, 3) := by decide +kernel
theorem dX8_checkCreated_4 : decode cX8_checkCreated 4 = .ok (.iload_n 1, 1) := by decide +kernel
theorem dX8_checkCreated_5 : decode cX8_checkCreated 5 = .ok (.aload_n 0, 1) := by decide +kernel
theorem dX8_checkCreated_6 : decode cX8_checkCreated 6 = .ok (.getfield 32, 3) := by decide +kernel
theorem dX8_checkCreated_9 : decode cX8_checkCreated 9 = .ok (.if_icmp .ge 10, 3) := by decide +kernel
theorem dX8_checkCreated_12 : decode cX8_checkCreated 12 = .ok (.iload_n 1, 1) := by decide +kernel
theorem dX8_checkCreated_13 : decode cX8_checkCreated 13 = .ok (.sipush 200, 3) := by decide +kernel
theorem dX8_checkCreated_16 : decode cX8_checkCreated 16 = .ok (.if_icmp .lt 11, 3) := by decide +kernel
theorem dX8_checkCreated_19 : decode cX8_checkCreated 19 = .ok (.new 159, 3) := by decide +kernel
theorem dX8_checkCreated_22 : decode cX8_checkCreated 22 = .ok (.dup, 1) := by decide +kernel
theorem dX8_checkCreated_23 : decode cX8_checkCreated 23 = .ok (.invokespecial 161, 3) := by decide +kernel
theorem dX8_checkCreated_26 : decode cX8_checkCreated 26 = .ok (.athrow, 1) := by decide +kernel
theorem dX8_checkCreated_27 : decode cX8_checkCreated 27 = .ok (.return_, 1) := by decide +kernel
theorem dX8_checkRoom_0 : decode cX8_checkRoom 0 = .ok (.aload_n 0, 1) := by decide +kernel
theorem dX8_checkRoom_1 : decode cX8_checkRoom 1 = .ok (.getfield 32, 3) := by decide +kernel
theorem dX8_checkRoom_4 : decode cX8_checkRoom 4 = .ok (.sipush 200, 3) := by decide +kernel
theorem dX8_checkRoom_7 : decode cX8_checkRoom 7 = .ok (.if_icmp .lt 11, 3) := by decide +kernel
theorem dX8_checkRoom_10 : decode cX8_checkRoom 10 = .ok (.new 90, 3) := by decide +kernel
theorem dX8_checkRoom_13 : decode cX8_checkRoom 13 = .ok (.dup, 1) := by decide +kernel
theorem dX8_checkRoom_14 : decode cX8_checkRoom 14 = .ok (.invokespecial 92, 3) := by decide +kernel
theorem dX8_checkRoom_17 : decode cX8_checkRoom 17 = .ok (.athrow, 1) := by decide +kernel
theorem dX8_checkRoom_18 : decode cX8_checkRoom 18 = .ok (.return_, 1) := by decide +kernel
theorem dX8_familyOf_0 : decode cX8_familyOf 0 = .ok (.aload_n 0, 1) := by decide +kernel
theorem dX8_familyOf_1 : decode cX8_familyOf 1 = .ok (.iload_n 1, 1) := by decide +kernel
theorem dX8_familyOf_2 : decode cX8_familyOf 2 = .ok (.invokevirtual 179, 3) := by decide +kernel
theorem dX8_familyOf_5 : decode cX8_familyOf 5 = .ok (.aload_n 0, 1) := by decide +kernel
theorem dX8_familyOf_6 : decode cX8_familyOf 6 = .ok (.getfield 28, 3) := by decide +kernel
theorem dX8_familyOf_9 : decode cX8_familyOf 9 = .ok (.iload_n 1, 1) := by decide +kernel
theorem dX8_familyOf_10 : decode cX8_familyOf 10 = .ok (.aaload, 1) := by decide +kernel
theorem dX8_familyOf_11 : decode cX8_familyOf 11 = .ok (.astore_n 2, 1) := by decide +kernel
theorem dX8_familyOf_12 : decode cX8_familyOf 12 = .ok (.aload_n 2, 1) := by decide +kernel
theorem dX8_familyOf_13 : decode cX8_familyOf 13 = .ok (.ifnonnull 11, 3) := by decide +kernel
theorem dX8_familyOf_16 : decode cX8_familyOf 16 = .ok (.new 182, 3) := by decide +kernel
theorem dX8_familyOf_19 : decode cX8_familyOf 19 = .ok (.dup, 1) := by decide +kernel
theorem dX8_familyOf_20 : decode cX8_familyOf 20 = .ok (.invokespecial 184, 3) := by decide +kernel
theorem dX8_familyOf_23 : decode cX8_familyOf 23 = .ok (.athrow, 1) := by decide +kernel
theorem dX8_familyOf_24 : decode cX8_familyOf 24 = .ok (.aload_n 2, 1) := by decide +kernel
theorem dX8_familyOf_25 : decode cX8_familyOf 25 = .ok (.areturn, 1) := by decide +kernel
theorem dX8_filledFamilyOf_0 : decode cX8_filledFamilyOf 0 = .ok (.aload_n 0, 1) := by decide +kernel
theorem dX8_filledFamilyOf_1 : decode cX8_filledFamilyOf 1 = .ok (.iload_n 1, 1) := by decide +kernel
theorem dX8_filledFamilyOf_2 : decode cX8_filledFamilyOf 2 = .ok (.invokevirtual 124, 3) := by decide +kernel
theorem dX8_filledFamilyOf_5 : decode cX8_filledFamilyOf 5 = .ok (.astore_n 2, 1) := by decide +kernel
theorem dX8_filledFamilyOf_6 : decode cX8_filledFamilyOf 6 = .ok (.aload_n 2, 1) := by decide +kernel
theorem dX8_filledFamilyOf_7 : decode cX8_filledFamilyOf 7 = .ok (.getfield 185, 3) := by decide +kernel
theorem dX8_filledFamilyOf_10 : decode cX8_filledFamilyOf 10 = .ok (.ifCond .ne 11, 3) := by decide +kernel
theorem dX8_filledFamilyOf_13 : decode cX8_filledFamilyOf 13 = .ok (.new 182, 3) := by decide +kernel
theorem dX8_filledFamilyOf_16 : decode cX8_filledFamilyOf 16 = .ok (.dup, 1) := by decide +kernel
theorem dX8_filledFamilyOf_17 : decode cX8_filledFamilyOf 17 = .ok (.invokespecial 184, 3) := by decide +kernel
theorem dX8_filledFamilyOf_20 : decode cX8_filledFamilyOf 20 = .ok (.athrow, 1) := by decide +kernel
theorem dX8_filledFamilyOf_21 : decode cX8_filledFamilyOf 21 = .ok (.aload_n 2, 1) := by decide +kernel
theorem dX8_filledFamilyOf_22 : decode cX8_filledFamilyOf 22 = .ok (.areturn, 1) := by decide +kernel
theorem dX8_addFamily_0 : decode cX8_addFamily 0 = .ok (.aload_n 0, 1) := by decide +kernel
theorem dX8_addFamily_1 : decode cX8_addFamily 1 = .ok (.invokevirtual 104, 3) := by decide +kernel
theorem dX8_addFamily_4 : decode cX8_addFamily 4 = .ok (.aload_n 0, 1) := by decide +kernel
theorem dX8_addFamily_5 : decode cX8_addFamily 5 = .ok (.getfield 28, 3) := by decide +kernel
theorem dX8_addFamily_8 : decode cX8_addFamily 8 = .ok (.aload_n 0, 1) := by decide +kernel
theorem dX8_addFamily_9 : decode cX8_addFamily 9 = .ok (.getfield 32, 3) := by decide +kernel
theorem dX8_addFamily_12 : decode cX8_addFamily 12 = .ok (.new 26, 3) := by decide +kernel
theorem dX8_addFamily_15 : decode cX8_addFamily 15 = .ok (.dup, 1) := by decide +kernel
theorem dX8_addFamily_16 : decode cX8_addFamily 16 = .ok (.aload_n 1, 1) := by decide +kernel
theorem dX8_addFamily_17 : decode cX8_addFamily 17 = .ok (.aload_n 1, 1) := by decide +kernel
theorem dX8_addFamily_18 : decode cX8_addFamily 18 = .ok (.invokestatic 188, 3) := by decide +kernel
theorem dX8_addFamily_21 : decode cX8_addFamily 21 = .ok (.aload_n 0, 1) := by decide +kernel
theorem dX8_addFamily_22 : decode cX8_addFamily 22 = .ok (.getfield 59, 3) := by decide +kernel
theorem dX8_addFamily_25 : decode cX8_addFamily 25 = .ok (.aload_n 1, 1) := by decide +kernel
theorem dX8_addFamily_26 : decode cX8_addFamily 26 = .ok (.iconst 1, 1) := by decide +kernel
theorem dX8_addFamily_27 : decode cX8_addFamily 27 = .ok (.invokevirtual 169, 3) := by decide +kernel
theorem dX8_addFamily_30 : decode cX8_addFamily 30 = .ok (.invokespecial 191, 3) := by decide +kernel
theorem dX8_addFamily_33 : decode cX8_addFamily 33 = .ok (.aastore, 1) := by decide +kernel
theorem dX8_addFamily_34 : decode cX8_addFamily 34 = .ok (.aload_n 0, 1) := by decide +kernel
theorem dX8_addFamily_35 : decode cX8_addFamily 35 = .ok (.dup, 1) := by decide +kernel
theorem dX8_addFamily_36 : decode cX8_addFamily 36 = .ok (.getfield 32, 3) := by decide +kernel
theorem dX8_addFamily_39 : decode cX8_addFamily 39 = .ok (.iconst 1, 1) := by decide +kernel
theorem dX8_addFamily_40 : decode cX8_addFamily 40 = .ok (.iadd, 1) := by decide +kernel
theorem dX8_addFamily_41 : decode cX8_addFamily 41 = .ok (.putfield 32, 3) := by decide +kernel
theorem dX8_addFamily_44 : decode cX8_addFamily 44 = .ok (.aload_n 0, 1) := by decide +kernel
theorem dX8_addFamily_45 : decode cX8_addFamily 45 = .ok (.dup, 1) := by decide +kernel
theorem dX8_addFamily_46 : decode cX8_addFamily 46 = .ok (.getfield 35, 3) := by decide +kernel
theorem dX8_addFamily_49 : decode cX8_addFamily 49 = .ok (.iconst 1, 1) := by decide +kernel
theorem dX8_addFamily_50 : decode cX8_addFamily 50 = .ok (.iadd, 1) := by decide +kernel
theorem dX8_addFamily_51 : decode cX8_addFamily 51 = .ok (.putfield 35, 3) := by decide +kernel
theorem dX8_addFamily_54 : decode cX8_addFamily 54 = .ok (.aload_n 0, 1) := by decide +kernel
theorem dX8_addFamily_55 : decode cX8_addFamily 55 = .ok (.getfield 32, 3) := by decide +kernel
theorem dX8_addFamily_58 : decode cX8_addFamily 58 = .ok (.iconst 1, 1) := by decide +kernel
theorem dX8_addFamily_59 : decode cX8_addFamily 59 = .ok (.isub, 1) := by decide +kernel
theorem dX8_addFamily_60 : decode cX8_addFamily 60 = .ok (.ireturn, 1) := by decide +kernel
theorem dX8_union_0 : decode cX8_union 0 = .ok (.aload_n 0, 1) := by decide +kernel
theorem dX8_union_1 : decode cX8_union 1 = .ok (.iload_n 1, 1) := by decide +kernel
theorem dX8_union_2 : decode cX8_union 2 = .ok (.iload_n 2, 1) := by decide +kernel
theorem dX8_union_3 : decode cX8_union 3 = .ok (.bipush 43, 2) := by decide +kernel
theorem dX8_union_5 : decode cX8_union 5 = .ok (.invokevirtual 194, 3) := by decide +kernel
theorem dX8_union_8 : decode cX8_union 8 = .ok (.ireturn, 1) := by decide +kernel
theorem dX8_intersection_0 : decode cX8_intersection 0 = .ok (.aload_n 0, 1) := by decide +kernel
theorem dX8_intersection_1 : decode cX8_intersection 1 = .ok (.iload_n 1, 1) := by decide +kernel
theorem dX8_intersection_2 : decode cX8_intersection 2 = .ok (.iload_n 2, 1) := by decide +kernel
theorem dX8_intersection_3 : decode cX8_intersection 3 = .ok (.bipush 38, 2) := by decide +kernel
theorem dX8_intersection_5 : decode cX8_intersection 5 = .ok (.invokevirtual 194, 3) := by decide +kernel
theorem dX8_intersection_8 : decode cX8_intersection 8 = .ok (.ireturn, 1) := by decide +kernel
theorem dX8_difference_0 : decode cX8_difference 0 = .ok (.aload_n 0, 1) := by decide +kernel
theorem dX8_difference_1 : decode cX8_difference 1 = .ok (.iload_n 1, 1) := by decide +kernel
theorem dX8_difference_2 : decode cX8_difference 2 = .ok (.iload_n 2, 1) := by decide +kernel
theorem dX8_difference_3 : decode cX8_difference 3 = .ok (.bipush 45, 2) := by decide +kernel
theorem dX8_difference_5 : decode cX8_difference 5 = .ok (.invokevirtual 194, 3) := by decide +kernel
theorem dX8_difference_8 : decode cX8_difference 8 = .ok (.ireturn, 1) := by decide +kernel
theorem dX8_join_0 : decode cX8_join 0 = .ok (.aload_n 0, 1) := by decide +kernel
theorem dX8_join_1 : decode cX8_join 1 = .ok (.iload_n 1, 1) := by decide +kernel
theorem dX8_join_2 : decode cX8_join 2 = .ok (.iload_n 2, 1) := by decide +kernel
theorem dX8_join_3 : decode cX8_join 3 = .ok (.bipush 42, 2) := by decide +kernel
theorem dX8_join_5 : decode cX8_join 5 = .ok (.invokevirtual 194, 3) := by decide +kernel
theorem dX8_join_8 : decode cX8_join 8 = .ok (.ireturn, 1) := by decide +kernel
theorem dX8_meet_0 : decode cX8_meet 0 = .ok (.aload_n 0, 1) := by decide +kernel
theorem dX8_meet_1 : decode cX8_meet 1 = .ok (.iload_n 1, 1) := by decide +kernel
theorem dX8_meet_2 : decode cX8_meet 2 = .ok (.iload_n 2, 1) := by decide +kernel
theorem dX8_meet_3 : decode cX8_meet 3 = .ok (.iconst 1, 1) := by decide +kernel
theorem dX8_meet_4 : decode cX8_meet 4 = .ok (.invokevirtual 194, 3) := by decide +kernel
theorem dX8_meet_7 : decode cX8_meet 7 = .ok (.ireturn, 1) := by decide +kernel
theorem dX8_quotient_0 : decode cX8_quotient 0 = .ok (.aload_n 0, 1) := by decide +kernel
theorem dX8_quotient_1 : decode cX8_quotient 1 = .ok (.iload_n 1, 1) := by decide +kernel
theorem dX8_quotient_2 : decode cX8_quotient 2 = .ok (.iload_n 2, 1) := by decide +kernel
theorem dX8_quotient_3 : decode cX8_quotient 3 = .ok (.bipush 47, 2) := by decide +kernel
theorem dX8_quotient_5 : decode cX8_quotient 5 = .ok (.invokevirtual 194, 3) := by decide +kernel
theorem dX8_quotient_8 : decode cX8_quotient 8 = .ok (.ireturn, 1) := by decide +kernel
theorem dX8_remainder_0 : decode cX8_remainder 0 = .ok (.aload_n 0, 1) := by decide +kernel
theorem dX8_remainder_1 : decode cX8_remainder 1 = .ok (.iload_n 1, 1) := by decide +kernel
theorem dX8_remainder_2 : decode cX8_remainder 2 = .ok (.iload_n 2, 1) := by decide +kernel
theorem dX8_remainder_3 : decode cX8_remainder 3 = .ok (.bipush 37, 2) := by decide +kernel
theorem dX8_remainder_5 : decode cX8_remainder 5 = .ok (.invokevirtual 194, 3) := by decide +kernel
theorem dX8_remainder_8 : decode cX8_remainder 8 = .ok (.ireturn, 1) := by decide +kernel
theorem dX8_supersets_0 : decode cX8_supersets 0 = .ok (.aload_n 0, 1) := by decide +kernel
theorem dX8_supersets_1 : decode cX8_supersets 1 = .ok (.iload_n 1, 1) := by decide +kernel
theorem dX8_supersets_2 : decode cX8_supersets 2 = .ok (.iload_n 2, 1) := by decide +kernel
theorem dX8_supersets_3 : decode cX8_supersets 3 = .ok (.iconst 2, 1) := by decide +kernel
theorem dX8_supersets_4 : decode cX8_supersets 4 = .ok (.invokevirtual 194, 3) := by decide +kernel
theorem dX8_supersets_7 : decode cX8_supersets 7 = .ok (.ireturn, 1) := by decide +kernel
theorem dX8_subsets_0 : decode cX8_subsets 0 = .ok (.aload_n 0, 1) := by decide +kernel
theorem dX8_subsets_1 : decode cX8_subsets 1 = .ok (.iload_n 1, 1) := by decide +kernel
theorem dX8_subsets_2 : decode cX8_subsets 2 = .ok (.iload_n 2, 1) := by decide +kernel
theorem dX8_subsets_3 : decode cX8_subsets 3 = .ok (.iconst 3, 1) := by decide +kernel
theorem dX8_subsets_4 : decode cX8_subsets 4 = .ok (.invokevirtual 194, 3) := by decide +kernel
theorem dX8_subsets_7 : decode cX8_subsets 7 = .ok (.ireturn, 1) := by decide +kernel
theorem dX8_maximal_0 : decode cX8_maximal 0 = .ok (.aload_n 0, 1) := by decide +kernel
theorem dX8_maximal_1 : decode cX8_maximal 1 = .ok (.iload_n 1, 1) := by decide +kernel
theorem dX8_maximal_2 : decode cX8_maximal 2 = .ok (.iconst 4, 1) := by decide +kernel
theorem dX8_maximal_3 : decode cX8_maximal 3 = .ok (.invokevirtual 198, 3) := by decide +kernel
theorem dX8_maximal_6 : decode cX8_maximal 6 = .ok (.ireturn, 1) := by decide +kernel
theorem dX8_minimal_0 : decode cX8_minimal 0 = .ok (.aload_n 0, 1) := by decide +kernel
theorem dX8_minimal_1 : decode cX8_minimal 1 = .ok (.iload_n 1, 1) := by decide +kernel
theorem dX8_minimal_2 : decode cX8_minimal 2 = .ok (.iconst 5, 1) := by decide +kernel
theorem dX8_minimal_3 : decode cX8_minimal 3 = .ok (.invokevirtual 198, 3) := by decide +kernel
theorem dX8_minimal_6 : decode cX8_minimal 6 = .ok (.ireturn, 1) := by decide +kernel
theorem dX8_hitting_0 : decode cX8_hitting 0 = .ok (.aload_n 0, 1) := by decide +kernel
theorem dX8_hitting_1 : decode cX8_hitting 1 = .ok (.iload_n 1, 1) := by decide +kernel
theorem dX8_hitting_2 : decode cX8_hitting 2 = .ok (.bipush 6, 2) := by decide +kernel
theorem dX8_hitting_4 : decode cX8_hitting 4 = .ok (.invokevirtual 198, 3) := by decide +kernel
theorem dX8_hitting_7 : decode cX8_hitting 7 = .ok (.ireturn, 1) := by decide +kernel
theorem dX8_closure_0 : decode cX8_closure 0 = .ok (.aload_n 0, 1) := by decide +kernel
theorem dX8_closure_1 : decode cX8_closure 1 = .ok (.iload_n 1, 1) := by decide +kernel
theorem dX8_closure_2 : decode cX8_closure 2 = .ok (.bipush 7, 2) := by decide +kernel
theorem dX8_closure_4 : decode cX8_closure 4 = .ok (.invokevirtual 198, 3) := by decide +kernel
theorem dX8_closure_7 : decode cX8_closure 7 = .ok (.ireturn, 1) := by decide +kernel
theorem dX8_addOfOne_0 : decode cX8_addOfOne 0 = .ok (.aload_n 0, 1) := by decide +kernel
theorem dX8_addOfOne_1 : decode cX8_addOfOne 1 = .ok (.iload_n 1, 1) := by decide +kernel
theorem dX8_addOfOne_2 : decode cX8_addOfOne 2 = .ok (.invokevirtual 124, 3) := by decide +kernel
theorem dX8_addOfOne_5 : decode cX8_addOfOne 5 = .ok (.astore_n 3, 1) := by decide +kernel
theorem dX8_addOfOne_6 : decode cX8_addOfOne 6 = .ok (.aload_n 0, 1) := by decide +kernel
theorem dX8_addOfOne_7 : decode cX8_addOfOne 7 = .ok (.invokevirtual 104, 3) := by decide +kernel
theorem dX8_addOfOne_10 : decode cX8_addOfOne 10 = .ok (.aload_n 3, 1) := by decide +kernel
theorem dX8_addOfOne_11 : decode cX8_addOfOne 11 = .ok (.getfield 128, 3) := by decide +kernel
theorem dX8_addOfOne_14 : decode cX8_addOfOne 14 = .ok (.bipush 64, 2) := by decide +kernel
theorem dX8_addOfOne_16 : decode cX8_addOfOne 16 = .ok (.invokestatic 114, 3) := by decide +kernel
theorem dX8_addOfOne_19 : decode cX8_addOfOne 19 = .ok (.astore 4, 2) := by decide +kernel
theorem dX8_addOfOne_21 : decode cX8_addOfOne 21 = .ok (.aload_n 0, 1) := by decide +kernel
theorem dX8_addOfOne_22 : decode cX8_addOfOne 22 = .ok (.getfield 50, 3) := by decide +kernel
theorem dX8_addOfOne_25 : decode cX8_addOfOne 25 = .ok (.iload_n 2, 1) := by decide +kernel
theorem dX8_addOfOne_26 : decode cX8_addOfOne 26 = .ok (.aload 4, 2) := by decide +kernel
theorem dX8_addOfOne_28 : decode cX8_addOfOne 28 = .ok (.invokevirtual 201, 3) := by decide +kernel
theorem dX8_addOfOne_31 : decode cX8_addOfOne 31 = .ok (.aload_n 0, 1) := by decide +kernel
theorem dX8_addOfOne_32 : decode cX8_addOfOne 32 = .ok (.aload 4, 2) := by decide +kernel
theorem dX8_addOfOne_34 : decode cX8_addOfOne 34 = .ok (.invokevirtual 120, 3) := by decide +kernel
theorem dX8_addOfOne_37 : decode cX8_addOfOne 37 = .ok (.ireturn, 1) := by decide +kernel
theorem dX8_addOfTwo_0 : decode cX8_addOfTwo 0 = .ok (.aload_n 0, 1) := by decide +kernel
theorem dX8_addOfTwo_1 : decode cX8_addOfTwo 1 = .ok (.iload_n 1, 1) := by decide +kernel
theorem dX8_addOfTwo_2 : decode cX8_addOfTwo 2 = .ok (.invokevirtual 179, 3) := by decide +kernel
theorem dX8_addOfTwo_5 : decode cX8_addOfTwo 5 = .ok (.aload_n 0, 1) := by decide +kernel
theorem dX8_addOfTwo_6 : decode cX8_addOfTwo 6 = .ok (.iload_n 2, 1) := by decide +kernel
theorem dX8_addOfTwo_7 : decode cX8_addOfTwo 7 = .ok (.invokevirtual 179, 3) := by decide +kernel
theorem dX8_addOfTwo_10 : decode cX8_addOfTwo 10 = .ok (.aload_n 0, 1) := by decide +kernel
theorem dX8_addOfTwo_11 : decode cX8_addOfTwo 11 = .ok (.iload_n 1, 1) := by decide +kernel
theorem dX8_addOfTwo_12 : decode cX8_addOfTwo 12 = .ok (.invokevirtual 124, 3) := by decide +kernel
theorem dX8_addOfTwo_15 : decode cX8_addOfTwo 15 = .ok (.astore 4, 2) := by decide +kernel
theorem dX8_addOfTwo_17 : decode cX8_addOfTwo 17 = .ok (.aload_n 0, 1) := by decide +kernel
theorem dX8_addOfTwo_18 : decode cX8_addOfTwo 18 = .ok (.iload_n 2, 1) := by decide +kernel
theorem dX8_addOfTwo_19 : decode cX8_addOfTwo 19 = .ok (.invokevirtual 124, 3) := by decide +kernel
theorem dX8_addOfTwo_22 : decode cX8_addOfTwo 22 = .ok (.astore 5, 2) := by decide +kernel
theorem dX8_addOfTwo_24 : decode cX8_addOfTwo 24 = .ok (.aload_n 0, 1) := by decide +kernel
theorem dX8_addOfTwo_25 : decode cX8_addOfTwo 25 = .ok (.invokevirtual 104, 3) := by decide +kernel
theorem dX8_addOfTwo_28 : decode cX8_addOfTwo 28 = .ok (.aload 5, 2) := by decide +kernel
theorem dX8_addOfTwo_30 : decode cX8_addOfTwo 30 = .ok (.getfield 185, 3) := by decide +kernel
theorem dX8_addOfTwo_33 : decode cX8_addOfTwo 33 = .ok (.ifCond .ne 23, 3) := by decide +kernel
theorem dX8_addOfTwo_36 : decode cX8_addOfTwo 36 = .ok (.iload_n 3, 1) := by decide +kernel
theorem dX8_addOfTwo_37 : decode cX8_addOfTwo 37 = .ok (.bipush 47, 2) := by decide +kernel
theorem dX8_addOfTwo_39 : decode cX8_addOfTwo 39 = .ok (.if_icmp .eq 9, 3) := by decide +kernel
theorem dX8_addOfTwo_42 : decode cX8_addOfTwo 42 = .ok (.iload_n 3, 1) := by decide +kernel
theorem dX8_addOfTwo_43 : decode cX8_addOfTwo 43 = .ok (.bipush 37, 2) := by decide +kernel
theorem dX8_addOfTwo_45 : decode cX8_addOfTwo 45 = .ok (.if_icmp .ne 11, 3) := by decide +kernel
theorem dX8_addOfTwo_48 : decode cX8_addOfTwo 48 = .ok (.new 111, 3) := by decide +kernel
theorem dX8_addOfTwo_51 : decode cX8_addOfTwo 51 = .ok (.dup, 1) := by decide +kernel
theorem dX8_addOfTwo_52 : decode cX8_addOfTwo 52 = .ok (.invokespecial 113, 3) := by decide +kernel
theorem dX8_addOfTwo_55 : decode cX8_addOfTwo 55 = .ok (.athrow, 1) := by decide +kernel
theorem dX8_addOfTwo_56 : decode cX8_addOfTwo 56 = .ok (.aload 4, 2) := by decide +kernel
theorem dX8_addOfTwo_58 : decode cX8_addOfTwo 58 = .ok (.getfield 128, 3) := by decide +kernel
theorem dX8_addOfTwo_61 : decode cX8_addOfTwo 61 = .ok (.bipush 64, 2) := by decide +kernel
theorem dX8_addOfTwo_63 : decode cX8_addOfTwo 63 = .ok (.invokestatic 114, 3) := by decide +kernel
theorem dX8_addOfTwo_66 : decode cX8_addOfTwo 66 = .ok (.astore 6, 2) := by decide +kernel
theorem dX8_addOfTwo_68 : decode cX8_addOfTwo 68 = .ok (.aload_n 0, 1) := by decide +kernel
theorem dX8_addOfTwo_69 : decode cX8_addOfTwo 69 = .ok (.getfield 50, 3) := by decide +kernel
theorem dX8_addOfTwo_72 : decode cX8_addOfTwo 72 = .ok (.iload_n 3, 1) := by decide +kernel
theorem dX8_addOfTwo_73 : decode cX8_addOfTwo 73 = .ok (.aload 6, 2) := by decide +kernel
theorem dX8_addOfTwo_75 : decode cX8_addOfTwo 75 = .ok (.aload 5, 2) := by decide +kernel
theorem dX8_addOfTwo_77 : decode cX8_addOfTwo 77 = .ok (.getfield 128, 3) := by decide +kernel
theorem dX8_addOfTwo_80 : decode cX8_addOfTwo 80 = .ok (.invokevirtual 205, 3) := by decide +kernel
theorem dX8_addOfTwo_83 : decode cX8_addOfTwo 83 = .ok (.aload_n 0, 1) := by decide +kernel
theorem dX8_addOfTwo_84 : decode cX8_addOfTwo 84 = .ok (.aload 6, 2) := by decide +kernel
theorem dX8_addOfTwo_86 : decode cX8_addOfTwo 86 = .ok (.invokevirtual 120, 3) := by decide +kernel
theorem dX8_addOfTwo_89 : decode cX8_addOfTwo 89 = .ok (.ireturn, 1) := by decide +kernel
theorem dX8_change_0 : decode cX8_change 0 = .ok (.aload_n 0, 1) := by decide +kernel
theorem dX8_change_1 : decode cX8_change 1 = .ok (.iload_n 1, 1) := by decide +kernel
theorem dX8_change_2 : decode cX8_change 2 = .ok (.invokevirtual 179, 3) := by decide +kernel
theorem dX8_change_5 : decode cX8_change 5 = .ok (.aload_n 0, 1) := by decide +kernel
theorem dX8_change_6 : decode cX8_change 6 = .ok (.iload_n 2, 1) := by decide +kernel
theorem dX8_change_7 : decode cX8_change 7 = .ok (.invokevirtual 209, 3) := by decide +kernel
theorem dX8_change_10 : decode cX8_change 10 = .ok (.aload_n 0, 1) := by decide +kernel
theorem dX8_change_11 : decode cX8_change 11 = .ok (.iload_n 1, 1) := by decide +kernel
theorem dX8_change_12 : decode cX8_change 12 = .ok (.invokevirtual 124, 3) := by decide +kernel
theorem dX8_change_15 : decode cX8_change 15 = .ok (.astore_n 3, 1) := by decide +kernel
theorem dX8_change_16 : decode cX8_change 16 = .ok (.aload_n 0, 1) := by decide +kernel
theorem dX8_change_17 : decode cX8_change 17 = .ok (.invokevirtual 104, 3) := by decide +kernel
theorem dX8_change_20 : decode cX8_change 20 = .ok (.aload_n 3, 1) := by decide +kernel
theorem dX8_change_21 : decode cX8_change 21 = .ok (.getfield 128, 3) := by decide +kernel
theorem dX8_change_24 : decode cX8_change 24 = .ok (.bipush 64, 2) := by decide +kernel
theorem dX8_change_26 : decode cX8_change 26 = .ok (.invokestatic 114, 3) := by decide +kernel
theorem dX8_change_29 : decode cX8_change 29 = .ok (.astore 4, 2) := by decide +kernel
theorem dX8_change_31 : decode cX8_change 31 = .ok (.aload 4, 2) := by decide +kernel
theorem dX8_change_33 : decode cX8_change 33 = .ok (.iload_n 2, 1) := by decide +kernel
theorem dX8_change_34 : decode cX8_change 34 = .ok (.invokestatic 212, 3) := by decide +kernel
theorem dX8_change_37 : decode cX8_change 37 = .ok (.aload_n 0, 1) := by decide +kernel
theorem dX8_change_38 : decode cX8_change 38 = .ok (.aload 4, 2) := by decide +kernel
theorem dX8_change_40 : decode cX8_change 40 = .ok (.invokevirtual 120, 3) := by decide +kernel
theorem dX8_change_43 : decode cX8_change 43 = .ok (.ireturn, 1) := by decide +kernel
theorem dX8_withCost_0 : decode cX8_withCost 0 = .ok (.aload_n 0, 1) := by decide +kernel
theorem dX8_withCost_1 : decode cX8_withCost 1 = .ok (.iload_n 1, 1) := by decide +kernel
theorem dX8_withCost_2 : decode cX8_withCost 2 = .ok (.invokevirtual 124, 3) := by decide +kernel
theorem dX8_withCost_5 : decode cX8_withCost 5 = .ok (.astore 4, 2) := by decide +kernel
theorem dX8_withCost_7 : decode cX8_withCost 7 = .ok (.aload_n 0, 1) := by decide +kernel
theorem dX8_withCost_8 : decode cX8_withCost 8 = .ok (.invokevirtual 104, 3) := by decide +kernel
theorem dX8_withCost_11 : decode cX8_withCost 11 = .ok (.aload 4, 2) := by decide +kernel
theorem dX8_withCost_13 : decode cX8_withCost 13 = .ok (.getfield 128, 3) := by decide +kernel
theorem dX8_withCost_16 : decode cX8_withCost 16 = .ok (.aload_n 0, 1) := by decide +kernel
theorem dX8_withCost_17 : decode cX8_withCost 17 = .ok (.getfield 38, 3) := by decide +kernel
theorem dX8_withCost_20 : decode cX8_withCost 20 = .ok (.invokestatic 132, 3) := by decide +kernel
theorem dX8_withCost_23 : decode cX8_withCost 23 = .ok (.istore 5, 2) := by decide +kernel
theorem dX8_withCost_25 : decode cX8_withCost 25 = .ok (.bipush 64, 2) := by decide +kernel
theorem dX8_withCost_27 : decode cX8_withCost 27 = .ok (.newarray .long, 2) := by decide +kernel
theorem dX8_withCost_29 : decode cX8_withCost 29 = .ok (.astore 6, 2) := by decide +kernel
theorem dX8_withCost_31 : decode cX8_withCost 31 = .ok (.iconst 0, 1) := by decide +kernel
theorem dX8_withCost_32 : decode cX8_withCost 32 = .ok (.istore 7, 2) := by decide +kernel
theorem dX8_withCost_34 : decode cX8_withCost 34 = .ok (.iload 7, 2) := by decide +kernel
theorem dX8_withCost_36 : decode cX8_withCost 36 = .ok (.iload 5, 2) := by decide +kernel
theorem dX8_withCost_38 : decode cX8_withCost 38 = .ok (.if_icmp .ge 57, 3) := by decide +kernel
theorem dX8_withCost_41 : decode cX8_withCost 41 = .ok (.iload 7, 2) := by decide +kernel
theorem dX8_withCost_43 : decode cX8_withCost 43 = .ok (.sipush 4096, 3) := by decide +kernel
theorem dX8_withCost_46 : decode cX8_withCost 46 = .ok (.if_icmp .ge 49, 3) := by decide +kernel
theorem dX8_withCost_49 : decode cX8_withCost 49 = .ok (.aload_n 0, 1) := by decide +kernel
theorem dX8_withCost_50 : decode cX8_withCost 50 = .ok (.getfield 80, 3) := by decide +kernel
theorem dX8_withCost_53 : decode cX8_withCost 53 = .ok (.aload_n 0, 1) := by decide +kernel
theorem dX8_withCost_54 : decode cX8_withCost 54 = .ok (.getfield 38, 3) := by decide +kernel
theorem dX8_withCost_57 : decode cX8_withCost 57 = .ok (.iload 7, 2) := by decide +kernel
theorem dX8_withCost_59 : decode cX8_withCost 59 = .ok (.iaload, 1) := by decide +kernel
theorem dX8_withCost_60 : decode cX8_withCost 60 = .ok (.invokevirtual 215, 3) := by decide +kernel
theorem dX8_withCost_63 : decode cX8_withCost 63 = .ok (.istore 8, 2) := by decide +kernel
theorem dX8_withCost_65 : decode cX8_withCost 65 = .ok (.iload 8, 2) := by decide +kernel
theorem dX8_withCost_67 : decode cX8_withCost 67 = .ok (.iload_n 2, 1) := by decide +kernel
theorem dX8_withCost_68 : decode cX8_withCost 68 = .ok (.if_icmp .lt 21, 3) := by decide +kernel
theorem dX8_withCost_71 : decode cX8_withCost 71 = .ok (.iload 8, 2) := by decide +kernel
theorem dX8_withCost_73 : decode cX8_withCost 73 = .ok (.iload_n 3, 1) := by decide +kernel
theorem dX8_withCost_74 : decode cX8_withCost 74 = .ok (.if_icmp .gt 15, 3) := by decide +kernel
theorem dX8_withCost_77 : decode cX8_withCost 77 = .ok (.aload 6, 2) := by decide +kernel
theorem dX8_withCost_79 : decode cX8_withCost 79 = .ok (.aload_n 0, 1) := by decide +kernel
theorem dX8_withCost_80 : decode cX8_withCost 80 = .ok (.getfield 38, 3) := by decide +kernel
theorem dX8_withCost_83 : decode cX8_withCost 83 = .ok (.iload 7, 2) := by decide +kernel
theorem dX8_withCost_85 : decode cX8_withCost 85 = .ok (.iaload, 1) := by decide +kernel
theorem dX8_withCost_86 : decode cX8_withCost 86 = .ok (.invokestatic 165, 3) := by decide +kernel
theorem dX8_withCost_89 : decode cX8_withCost 89 = .ok (.iinc 7 1, 3) := by decide +kernel
theorem dX8_withCost_92 : decode cX8_withCost 92 = .ok (.goto (-58), 3) := by decide +kernel
theorem dX8_withCost_95 : decode cX8_withCost 95 = .ok (.aload_n 0, 1) := by decide +kernel
theorem dX8_withCost_96 : decode cX8_withCost 96 = .ok (.aload 6, 2) := by decide +kernel
theorem dX8_withCost_98 : decode cX8_withCost 98 = .ok (.invokevirtual 120, 3) := by decide +kernel
theorem dX8_withCost_101 : decode cX8_withCost 101 = .ok (.ireturn, 1) := by decide +kernel
theorem dX8_count_0 : decode cX8_count 0 = .ok (.aload_n 0, 1) := by decide +kernel
theorem dX8_count_1 : decode cX8_count 1 = .ok (.iload_n 1, 1) := by decide +kernel
theorem dX8_count_2 : decode cX8_count 2 = .ok (.invokevirtual 124, 3) := by decide +kernel
theorem dX8_count_5 : decode cX8_count 5 = .ok (.getfield 185, 3) := by decide +kernel
theorem dX8_count_8 : decode cX8_count 8 = .ok (.ireturn, 1) := by decide +kernel
theorem dX8_countOfSize_0 : decode cX8_countOfSize 0 = .ok (.aload_n 0, 1) := by decide +kernel
theorem dX8_countOfSize_1 : decode cX8_countOfSize 1 = .ok (.iload_n 1, 1) := by decide +kernel
theorem dX8_countOfSize_2 : decode cX8_countOfSize 2 = .ok (.invokevirtual 124, 3) := by decide +kernel
theorem dX8_countOfSize_5 : decode cX8_countOfSize 5 = .ok (.astore_n 3, 1) := by decide +kernel
theorem dX8_countOfSize_6 : decode cX8_countOfSize 6 = .ok (.aload_n 3, 1) := by decide +kernel
theorem dX8_countOfSize_7 : decode cX8_countOfSize 7 = .ok (.getfield 128, 3) := by decide +kernel
theorem dX8_countOfSize_10 : decode cX8_countOfSize 10 = .ok (.aload_n 0, 1) := by decide +kernel
theorem dX8_countOfSize_11 : decode cX8_countOfSize 11 = .ok (.getfield 38, 3) := by decide +kernel
theorem dX8_countOfSize_14 : decode cX8_countOfSize 14 = .ok (.invokestatic 132, 3) := by decide +kernel
theorem dX8_countOfSize_17 : decode cX8_countOfSize 17 = .ok (.istore 4, 2) := by decide +kernel
theorem dX8_countOfSize_19 : decode cX8_countOfSize 19 = .ok (.iconst 0, 1) := by decide +kernel
theorem dX8_countOfSize_20 : decode cX8_countOfSize 20 = .ok (.istore 5, 2) := by decide +kernel
theorem dX8_countOfSize_22 : decode cX8_countOfSize 22 = .ok (.iconst 0, 1) := by decide +kernel
theorem dX8_countOfSize_23 : decode cX8_countOfSize 23 = .ok (.istore 6, 2) := by decide +kernel
theorem dX8_countOfSize_25 : decode cX8_countOfSize 25 = .ok (.iload 6, 2) := by decide +kernel
theorem dX8_countOfSize_27 : decode cX8_countOfSize 27 = .ok (.iload 4, 2) := by decide +kernel
theorem dX8_countOfSize_29 : decode cX8_countOfSize 29 = .ok (.if_icmp .ge 34, 3) := by decide +kernel
theorem dX8_countOfSize_32 : decode cX8_countOfSize 32 = .ok (.iload 6, 2) := by decide +kernel
theorem dX8_countOfSize_34 : decode cX8_countOfSize 34 = .ok (.sipush 4096, 3) := by decide +kernel
theorem dX8_countOfSize_37 : decode cX8_countOfSize 37 = .ok (.if_icmp .ge 26, 3) := by decide +kernel
theorem dX8_countOfSize_40 : decode cX8_countOfSize 40 = .ok (.aload_n 0, 1) := by decide +kernel
theorem dX8_countOfSize_41 : decode cX8_countOfSize 41 = .ok (.getfield 38, 3) := by decide +kernel
theorem dX8_countOfSize_44 : decode cX8_countOfSize 44 = .ok (.iload 6, 2) := by decide +kernel
theorem dX8_countOfSize_46 : decode cX8_countOfSize 46 = .ok (.iaload, 1) := by decide +kernel
theorem dX8_countOfSize_47 : decode cX8_countOfSize 47 = .ok (.invokestatic 148, 3) := by decide +kernel
theorem dX8_countOfSize_50 : decode cX8_countOfSize 50 = .ok (.iload_n 2, 1) := by decide +kernel
theorem dX8_countOfSize_51 : decode cX8_countOfSize 51 = .ok (.if_icmp .ne 6, 3) := by decide +kernel
theorem dX8_countOfSize_54 : decode cX8_countOfSize 54 = .ok (.iinc 5 1, 3) := by decide +kernel
theorem dX8_countOfSize_57 : decode cX8_countOfSize 57 = .ok (.iinc 6 1, 3) := by decide +kernel
theorem dX8_countOfSize_60 : decode cX8_countOfSize 60 = .ok (.goto (-35), 3) := by decide +kernel
theorem dX8_countOfSize_63 : decode cX8_countOfSize 63 = .ok (.iload 5, 2) := by decide +kernel
theorem dX8_countOfSize_65 : decode cX8_countOfSize 65 = .ok (.ireturn, 1) := by decide +kernel
theorem dX8_countWith_0 : decode cX8_countWith 0 = .ok (.aload_n 0, 1) := by decide +kernel
theorem dX8_countWith_1 : decode cX8_countWith 1 = .ok (.iload_n 1, 1) := by decide +kernel
theorem dX8_countWith_2 : decode cX8_countWith 2 = .ok (.invokevirtual 179, 3) := by decide +kernel
theorem dX8_countWith_5 : decode cX8_countWith 5 = .ok (.aload_n 0, 1) := by decide +kernel
theorem dX8_countWith_6 : decode cX8_countWith 6 = .ok (.iload_n 2, 1) := by decide +kernel
theorem dX8_countWith_7 : decode cX8_countWith 7 = .ok (.invokevirtual 209, 3) := by decide +kernel
theorem dX8_countWith_10 : decode cX8_countWith 10 = .ok (.aload_n 0, 1) := by decide +kernel
theorem dX8_countWith_11 : decode cX8_countWith 11 = .ok (.iload_n 1, 1) := by decide +kernel
theorem dX8_countWith_12 : decode cX8_countWith 12 = .ok (.invokevirtual 124, 3) := by decide +kernel
theorem dX8_countWith_15 : decode cX8_countWith 15 = .ok (.astore_n 3, 1) := by decide +kernel
theorem dX8_countWith_16 : decode cX8_countWith 16 = .ok (.aload_n 3, 1) := by decide +kernel
theorem dX8_countWith_17 : decode cX8_countWith 17 = .ok (.getfield 128, 3) := by decide +kernel
theorem dX8_countWith_20 : decode cX8_countWith 20 = .ok (.aload_n 0, 1) := by decide +kernel
theorem dX8_countWith_21 : decode cX8_countWith 21 = .ok (.getfield 38, 3) := by decide +kernel
theorem dX8_countWith_24 : decode cX8_countWith 24 = .ok (.invokestatic 132, 3) := by decide +kernel
theorem dX8_countWith_27 : decode cX8_countWith 27 = .ok (.istore 4, 2) := by decide +kernel
theorem dX8_countWith_29 : decode cX8_countWith 29 = .ok (.iconst 0, 1) := by decide +kernel
theorem dX8_countWith_30 : decode cX8_countWith 30 = .ok (.istore 5, 2) := by decide +kernel
theorem dX8_countWith_32 : decode cX8_countWith 32 = .ok (.iconst 0, 1) := by decide +kernel
theorem dX8_countWith_33 : decode cX8_countWith 33 = .ok (.istore 6, 2) := by decide +kernel
theorem dX8_countWith_35 : decode cX8_countWith 35 = .ok (.iload 6, 2) := by decide +kernel
theorem dX8_countWith_37 : decode cX8_countWith 37 = .ok (.iload 4, 2) := by decide +kernel
theorem dX8_countWith_39 : decode cX8_countWith 39 = .ok (.if_icmp .ge 33, 3) := by decide +kernel
theorem dX8_countWith_42 : decode cX8_countWith 42 = .ok (.iload 6, 2) := by decide +kernel
theorem dX8_countWith_44 : decode cX8_countWith 44 = .ok (.sipush 4096, 3) := by decide +kernel
theorem dX8_countWith_47 : decode cX8_countWith 47 = .ok (.if_icmp .ge 25, 3) := by decide +kernel
theorem dX8_countWith_50 : decode cX8_countWith 50 = .ok (.iload 5, 2) := by decide +kernel
theorem dX8_countWith_52 : decode cX8_countWith 52 = .ok (.aload_n 0, 1) := by decide +kernel
theorem dX8_countWith_53 : decode cX8_countWith 53 = .ok (.getfield 38, 3) := by decide +kernel
theorem dX8_countWith_56 : decode cX8_countWith 56 = .ok (.iload 6, 2) := by decide +kernel
theorem dX8_countWith_58 : decode cX8_countWith 58 = .ok (.iaload, 1) := by decide +kernel
theorem dX8_countWith_59 : decode cX8_countWith 59 = .ok (.iload_n 2, 1) := by decide +kernel
theorem dX8_countWith_60 : decode cX8_countWith 60 = .ok (.ishr, 1) := by decide +kernel
theorem dX8_countWith_61 : decode cX8_countWith 61 = .ok (.iconst 1, 1) := by decide +kernel
theorem dX8_countWith_62 : decode cX8_countWith 62 = .ok (.iand, 1) := by decide +kernel
theorem dX8_countWith_63 : decode cX8_countWith 63 = .ok (.iadd, 1) := by decide +kernel
theorem dX8_countWith_64 : decode cX8_countWith 64 = .ok (.istore 5, 2) := by decide +kernel
theorem dX8_countWith_66 : decode cX8_countWith 66 = .ok (.iinc 6 1, 3) := by decide +kernel
theorem dX8_countWith_69 : decode cX8_countWith 69 = .ok (.goto (-34), 3) := by decide +kernel
theorem dX8_countWith_72 : decode cX8_countWith 72 = .ok (.iload 5, 2) := by decide +kernel
theorem dX8_countWith_74 : decode cX8_countWith 74 = .ok (.ireturn, 1) := by decide +kernel
theorem dX8_contains_0 : decode cX8_contains 0 = .ok (.aload_n 0, 1) := by decide +kernel
theorem dX8_contains_1 : decode cX8_contains 1 = .ok (.iload_n 1, 1) := by decide +kernel
theorem dX8_contains_2 : decode cX8_contains 2 = .ok (.invokevirtual 124, 3) := by decide +kernel
theorem dX8_contains_5 : decode cX8_contains 5 = .ok (.getfield 128, 3) := by decide +kernel
theorem dX8_contains_8 : decode cX8_contains 8 = .ok (.iload_n 2, 1) := by decide +kernel
theorem dX8_contains_9 : decode cX8_contains 9 = .ok (.invokestatic 218, 3) := by decide +kernel
theorem dX8_contains_12 : decode cX8_contains 12 = .ok (.ireturn, 1) := by decide +kernel
theorem dX8_areEqual_0 : decode cX8_areEqual 0 = .ok (.aload_n 0, 1) := by decide +kernel
theorem dX8_areEqual_1 : decode cX8_areEqual 1 = .ok (.iload_n 1, 1) := by decide +kernel
theorem dX8_areEqual_2 : decode cX8_areEqual 2 = .ok (.invokevirtual 179, 3) := by decide +kernel
theorem dX8_areEqual_5 : decode cX8_areEqual 5 = .ok (.aload_n 0, 1) := by decide +kernel
theorem dX8_areEqual_6 : decode cX8_areEqual 6 = .ok (.iload_n 2, 1) := by decide +kernel
theorem dX8_areEqual_7 : decode cX8_areEqual 7 = .ok (.invokevirtual 179, 3) := by decide +kernel
theorem dX8_areEqual_10 : decode cX8_areEqual 10 = .ok (.aload_n 0, 1) := by decide +kernel
theorem dX8_areEqual_11 : decode cX8_areEqual 11 = .ok (.iload_n 1, 1) := by decide +kernel
theorem dX8_areEqual_12 : decode cX8_areEqual 12 = .ok (.invokevirtual 124, 3) := by decide +kernel
theorem dX8_areEqual_15 : decode cX8_areEqual 15 = .ok (.astore_n 3, 1) := by decide +kernel
theorem dX8_areEqual_16 : decode cX8_areEqual 16 = .ok (.aload_n 0, 1) := by decide +kernel
theorem dX8_areEqual_17 : decode cX8_areEqual 17 = .ok (.iload_n 2, 1) := by decide +kernel
theorem dX8_areEqual_18 : decode cX8_areEqual 18 = .ok (.invokevirtual 124, 3) := by decide +kernel
theorem dX8_areEqual_21 : decode cX8_areEqual 21 = .ok (.astore 4, 2) := by decide +kernel
theorem dX8_areEqual_23 : decode cX8_areEqual 23 = .ok (.aload_n 3, 1) := by decide +kernel
theorem dX8_areEqual_24 : decode cX8_areEqual 24 = .ok (.getfield 185, 3) := by decide +kernel
theorem dX8_areEqual_27 : decode cX8_areEqual 27 = .ok (.aload 4, 2) := by decide +kernel
theorem dX8_areEqual_29 : decode cX8_areEqual 29 = .ok (.getfield 185, 3) := by decide +kernel
theorem dX8_areEqual_32 : decode cX8_areEqual 32 = .ok (.if_icmp .ne 22, 3) := by decide +kernel
theorem dX8_areEqual_35 : decode cX8_areEqual 35 = .ok (.aload_n 3, 1) := by decide +kernel
theorem dX8_areEqual_36 : decode cX8_areEqual 36 = .ok (.getfield 128, 3) := by decide +kernel
theorem dX8_areEqual_39 : decode cX8_areEqual 39 = .ok (.aload 4, 2) := by decide +kernel
theorem dX8_areEqual_41 : decode cX8_areEqual 41 = .ok (.getfield 128, 3) := by decide +kernel
theorem dX8_areEqual_44 : decode cX8_areEqual 44 = .ok (.invokestatic 222, 3) := by decide +kernel
theorem dX8_areEqual_47 : decode cX8_areEqual 47 = .ok (.ifCond .eq 7, 3) := by decide +kernel
theorem dX8_areEqual_50 : decode cX8_areEqual 50 = .ok (.iconst 1, 1) := by decide +kernel
theorem dX8_areEqual_51 : decode cX8_areEqual 51 = .ok (.goto 4, 3) := by decide +kernel
theorem dX8_areEqual_54 : decode cX8_areEqual 54 = .ok (.iconst 0, 1) := by decide +kernel
theorem dX8_areEqual_55 : decode cX8_areEqual 55 = .ok (.ireturn, 1) := by decide +kernel
theorem dX8_isPartOf_0 : decode cX8_isPartOf 0 = .ok (.aload_n 0, 1) := by decide +kernel
theorem dX8_isPartOf_1 : decode cX8_isPartOf 1 = .ok (.iload_n 1, 1) := by decide +kernel
theorem dX8_isPartOf_2 : decode cX8_isPartOf 2 = .ok (.invokevirtual 179, 3) := by decide +kernel
theorem dX8_isPartOf_5 : decode cX8_isPartOf 5 = .ok (.aload_n 0, 1) := by decide +kernel
theorem dX8_isPartOf_6 : decode cX8_isPartOf 6 = .ok (.iload_n 2, 1) := by decide +kernel
theorem dX8_isPartOf_7 : decode cX8_isPartOf 7 = .ok (.invokevirtual 179, 3) := by decide +kernel
theorem dX8_isPartOf_10 : decode cX8_isPartOf 10 = .ok (.aload_n 0, 1) := by decide +kernel
theorem dX8_isPartOf_11 : decode cX8_isPartOf 11 = .ok (.iload_n 1, 1) := by decide +kernel
theorem dX8_isPartOf_12 : decode cX8_isPartOf 12 = .ok (.invokevirtual 124, 3) := by decide +kernel
theorem dX8_isPartOf_15 : decode cX8_isPartOf 15 = .ok (.astore_n 3, 1) := by decide +kernel
theorem dX8_isPartOf_16 : decode cX8_isPartOf 16 = .ok (.aload_n 0, 1) := by decide +kernel
theorem dX8_isPartOf_17 : decode cX8_isPartOf 17 = .ok (.iload_n 2, 1) := by decide +kernel
theorem dX8_isPartOf_18 : decode cX8_isPartOf 18 = .ok (.invokevirtual 124, 3) := by decide +kernel
theorem dX8_isPartOf_21 : decode cX8_isPartOf 21 = .ok (.astore 4, 2) := by decide +kernel
theorem dX8_isPartOf_23 : decode cX8_isPartOf 23 = .ok (.aload_n 3, 1) := by decide +kernel
theorem dX8_isPartOf_24 : decode cX8_isPartOf 24 = .ok (.getfield 128, 3) := by decide +kernel
theorem dX8_isPartOf_27 : decode cX8_isPartOf 27 = .ok (.aload 4, 2) := by decide +kernel
theorem dX8_isPartOf_29 : decode cX8_isPartOf 29 = .ok (.getfield 128, 3) := by decide +kernel
theorem dX8_isPartOf_32 : decode cX8_isPartOf 32 = .ok (.invokestatic 222, 3) := by decide +kernel
theorem dX8_isPartOf_35 : decode cX8_isPartOf 35 = .ok (.ireturn, 1) := by decide +kernel
theorem dX8_setAt_0 : decode cX8_setAt 0 = .ok (.aload_n 0, 1) := by decide +kernel
theorem dX8_setAt_1 : decode cX8_setAt 1 = .ok (.iload_n 1, 1) := by decide +kernel
theorem dX8_setAt_2 : decode cX8_setAt 2 = .ok (.invokevirtual 124, 3) := by decide +kernel
theorem dX8_setAt_5 : decode cX8_setAt 5 = .ok (.astore_n 3, 1) := by decide +kernel
theorem dX8_setAt_6 : decode cX8_setAt 6 = .ok (.aload_n 3, 1) := by decide +kernel
theorem dX8_setAt_7 : decode cX8_setAt 7 = .ok (.getfield 128, 3) := by decide +kernel
theorem dX8_setAt_10 : decode cX8_setAt 10 = .ok (.aload_n 0, 1) := by decide +kernel
theorem dX8_setAt_11 : decode cX8_setAt 11 = .ok (.getfield 38, 3) := by decide +kernel
theorem dX8_setAt_14 : decode cX8_setAt 14 = .ok (.invokestatic 132, 3) := by decide +kernel
theorem dX8_setAt_17 : decode cX8_setAt 17 = .ok (.istore 4, 2) := by decide +kernel
theorem dX8_setAt_19 : decode cX8_setAt 19 = .ok (.iload_n 2, 1) := by decide +kernel
theorem dX8_setAt_20 : decode cX8_setAt 20 = .ok (.ifCond .lt 16, 3) := by decide +kernel
theorem dX8_setAt_23 : decode cX8_setAt 23 = .ok (.iload_n 2, 1) := by decide +kernel
theorem dX8_setAt_24 : decode cX8_setAt 24 = .ok (.iload 4, 2) := by decide +kernel
theorem dX8_setAt_26 : decode cX8_setAt 26 = .ok (.if_icmp .ge 10, 3) := by decide +kernel
theorem dX8_setAt_29 : decode cX8_setAt 29 = .ok (.iload_n 2, 1) := by decide +kernel
theorem dX8_setAt_30 : decode cX8_setAt 30 = .ok (.sipush 4096, 3) := by decide +kernel
theorem dX8_setAt_33 : decode cX8_setAt 33 = .ok (.if_icmp .lt 11, 3) := by decide +kernel
theorem dX8_setAt_36 : decode cX8_setAt 36 = .ok (.new 182, 3) := by decide +kernel
theorem dX8_setAt_39 : decode cX8_setAt 39 = .ok (.dup, 1) := by decide +kernel
theorem dX8_setAt_40 : decode cX8_setAt 40 = .ok (.invokespecial 184, 3) := by decide +kernel
theorem dX8_setAt_43 : decode cX8_setAt 43 = .ok (.athrow, 1) := by decide +kernel
theorem dX8_setAt_44 : decode cX8_setAt 44 = .ok (.aload_n 0, 1) := by decide +kernel
theorem dX8_setAt_45 : decode cX8_setAt 45 = .ok (.getfield 38, 3) := by decide +kernel
theorem dX8_setAt_48 : decode cX8_setAt 48 = .ok (.iload_n 2, 1) := by decide +kernel
theorem dX8_setAt_49 : decode cX8_setAt 49 = .ok (.iaload, 1) := by decide +kernel
theorem dX8_setAt_50 : decode cX8_setAt 50 = .ok (.ireturn, 1) := by decide +kernel
theorem dX8_indexOf_0 : decode cX8_indexOf 0 = .ok (.aload_n 0, 1) := by decide +kernel
theorem dX8_indexOf_1 : decode cX8_indexOf 1 = .ok (.iload_n 1, 1) := by decide +kernel
theorem dX8_indexOf_2 : decode cX8_indexOf 2 = .ok (.invokevirtual 124, 3) := by decide +kernel
theorem dX8_indexOf_5 : decode cX8_indexOf 5 = .ok (.astore_n 3, 1) := by decide +kernel
theorem dX8_indexOf_6 : decode cX8_indexOf 6 = .ok (.aload_n 3, 1) := by decide +kernel
theorem dX8_indexOf_7 : decode cX8_indexOf 7 = .ok (.getfield 128, 3) := by decide +kernel
theorem dX8_indexOf_10 : decode cX8_indexOf 10 = .ok (.iload_n 2, 1) := by decide +kernel
theorem dX8_indexOf_11 : decode cX8_indexOf 11 = .ok (.invokestatic 218, 3) := by decide +kernel
theorem dX8_indexOf_14 : decode cX8_indexOf 14 = .ok (.ifCond .ne 5, 3) := by decide +kernel
theorem dX8_indexOf_17 : decode cX8_indexOf 17 = .ok (.iconst (-1), 1) := by decide +kernel
theorem dX8_indexOf_18 : decode cX8_indexOf 18 = .ok (.ireturn, 1) := by decide +kernel
theorem dX8_indexOf_19 : decode cX8_indexOf 19 = .ok (.aload_n 3, 1) := by decide +kernel
theorem dX8_indexOf_20 : decode cX8_indexOf 20 = .ok (.getfield 128, 3) := by decide +kernel
theorem dX8_indexOf_23 : decode cX8_indexOf 23 = .ok (.iload_n 2, 1) := by decide +kernel
theorem dX8_indexOf_24 : decode cX8_indexOf 24 = .ok (.invokestatic 226, 3) := by decide +kernel
theorem dX8_indexOf_27 : decode cX8_indexOf 27 = .ok (.ireturn, 1) := by decide +kernel
theorem dX8_setCost_0 : decode cX8_setCost 0 = .ok (.aload_n 0, 1) := by decide +kernel
theorem dX8_setCost_1 : decode cX8_setCost 1 = .ok (.iload_n 1, 1) := by decide +kernel
theorem dX8_setCost_2 : decode cX8_setCost 2 = .ok (.invokevirtual 209, 3) := by decide +kernel
theorem dX8_setCost_5 : decode cX8_setCost 5 = .ok (.iload_n 2, 1) := by decide +kernel
theorem dX8_setCost_6 : decode cX8_setCost 6 = .ok (.sipush (-1000), 3) := by decide +kernel
theorem dX8_setCost_9 : decode cX8_setCost 9 = .ok (.if_icmp .lt 10, 3) := by decide +kernel
theorem dX8_setCost_12 : decode cX8_setCost 12 = .ok (.iload_n 2, 1) := by decide +kernel
theorem dX8_setCost_13 : decode cX8_setCost 13 = .ok (.sipush 1000, 3) := by decide +kernel
theorem dX8_setCost_16 : decode cX8_setCost 16 = .ok (.if_icmp .le 11, 3) := by decide +kernel
theorem dX8_setCost_19 : decode cX8_setCost 19 = .ok (.new 97, 3) := by decide +kernel
theorem dX8_setCost_22 : decode cX8_setCost 22 = .ok (.dup, 1) := by decide +kernel
theorem dX8_setCost_23 : decode cX8_setCost 23 = .ok (.invokespecial 99, 3) := by decide +kernel
theorem dX8_setCost_26 : decode cX8_setCost 26 = .ok (.athrow, 1) := by decide +kernel
theorem dX8_setCost_27 : decode cX8_setCost 27 = .ok (.aload_n 0, 1) := by decide +kernel
theorem dX8_setCost_28 : decode cX8_setCost 28 = .ok (.getfield 80, 3) := by decide +kernel
theorem dX8_setCost_31 : decode cX8_setCost 31 = .ok (.iload_n 1, 1) := by decide +kernel
theorem dX8_setCost_32 : decode cX8_setCost 32 = .ok (.iload_n 2, 1) := by decide +kernel
theorem dX8_setCost_33 : decode cX8_setCost 33 = .ok (.invokevirtual 229, 3) := by decide +kernel
theorem dX8_setCost_36 : decode cX8_setCost 36 = .ok (.ireturn, 1) := by decide +kernel
theorem dX8_leastCost_0 : decode cX8_leastCost 0 = .ok (.aload_n 0, 1) := by decide +kernel
theorem dX8_leastCost_1 : decode cX8_leastCost 1 = .ok (.iload_n 1, 1) := by decide +kernel
theorem dX8_leastCost_2 : decode cX8_leastCost 2 = .ok (.invokevirtual 232, 3) := by decide +kernel
theorem dX8_leastCost_5 : decode cX8_leastCost 5 = .ok (.astore_n 2, 1) := by decide +kernel
theorem dX8_leastCost_6 : decode cX8_leastCost 6 = .ok (.aload_n 2, 1) := by decide +kernel
theorem dX8_leastCost_7 : decode cX8_leastCost 7 = .ok (.getfield 128, 3) := by decide +kernel
theorem dX8_leastCost_10 : decode cX8_leastCost 10 = .ok (.aload_n 0, 1) := by decide +kernel
theorem dX8_leastCost_11 : decode cX8_leastCost 11 = .ok (.getfield 38, 3) := by decide +kernel
theorem dX8_leastCost_14 : decode cX8_leastCost 14 = .ok (.invokestatic 132, 3) := by decide +kernel
theorem dX8_leastCost_17 : decode cX8_leastCost 17 = .ok (.istore_n 3, 1) := by decide +kernel
theorem dX8_leastCost_18 : decode cX8_leastCost 18 = .ok (.sipush 12000, 3) := by decide +kernel
theorem dX8_leastCost_21 : decode cX8_leastCost 21 = .ok (.istore 4, 2) := by decide +kernel
theorem dX8_leastCost_23 : decode cX8_leastCost 23 = .ok (.iconst 0, 1) := by decide +kernel
theorem dX8_leastCost_24 : decode cX8_leastCost 24 = .ok (.istore 5, 2) := by decide +kernel
theorem dX8_leastCost_26 : decode cX8_leastCost 26 = .ok (.iload 5, 2) := by decide +kernel
theorem dX8_leastCost_28 : decode cX8_leastCost 28 = .ok (.iload_n 3, 1) := by decide +kernel
theorem dX8_leastCost_29 : decode cX8_leastCost 29 = .ok (.if_icmp .ge 38, 3) := by decide +kernel
theorem dX8_leastCost_32 : decode cX8_leastCost 32 = .ok (.iload 5, 2) := by decide +kernel
theorem dX8_leastCost_34 : decode cX8_leastCost 34 = .ok (.sipush 4096, 3) := by decide +kernel
theorem dX8_leastCost_37 : decode cX8_leastCost 37 = .ok (.if_icmp .ge 30, 3) := by decide +kernel
theorem dX8_leastCost_40 : decode cX8_leastCost 40 = .ok (.iload 4, 2) := by decide +kernel
theorem dX8_leastCost_42 : decode cX8_leastCost 42 = .ok (.aload_n 0, 1) := by decide +kernel
theorem dX8_leastCost_43 : decode cX8_leastCost 43 = .ok (.getfield 80, 3) := by decide +kernel
theorem dX8_leastCost_46 : decode cX8_leastCost 46 = .ok (.aload_n 0, 1) := by decide +kernel
theorem dX8_leastCost_47 : decode cX8_leastCost 47 = .ok (.getfield 38, 3) := by decide +kernel
theorem dX8_leastCost_50 : decode cX8_leastCost 50 = .ok (.iload 5, 2) := by decide +kernel
theorem dX8_leastCost_52 : decode cX8_leastCost 52 = .ok (.iaload, 1) := by decide +kernel
theorem dX8_leastCost_53 : decode cX8_leastCost 53 = .ok (.invokevirtual 215, 3) := by decide +kernel
theorem dX8_leastCost_56 : decode cX8_leastCost 56 = .ok (.invokestatic 235, 3) := by decide +kernel
theorem dX8_leastCost_59 : decode cX8_leastCost 59 = .ok (.istore 4, 2) := by decide +kernel
theorem dX8_leastCost_61 : decode cX8_leastCost 61 = .ok (.iinc 5 1, 3) := by decide +kernel
theorem dX8_leastCost_64 : decode cX8_leastCost 64 = .ok (.goto (-38), 3) := by decide +kernel
theorem dX8_leastCost_67 : decode cX8_leastCost 67 = .ok (.iload 4, 2) := by decide +kernel
theorem dX8_leastCost_69 : decode cX8_leastCost 69 = .ok (.ireturn, 1) := by decide +kernel
theorem dX8_meanCost_0 : decode cX8_meanCost 0 = .ok (.aload_n 0, 1) := by decide +kernel
theorem dX8_meanCost_1 : decode cX8_meanCost 1 = .ok (.iload_n 1, 1) := by decide +kernel
theorem dX8_meanCost_2 : decode cX8_meanCost 2 = .ok (.invokevirtual 232, 3) := by decide +kernel
theorem dX8_meanCost_5 : decode cX8_meanCost 5 = .ok (.astore_n 2, 1) := by decide +kernel
theorem dX8_meanCost_6 : decode cX8_meanCost 6 = .ok (.aload_n 2, 1) := by decide +kernel
theorem dX8_meanCost_7 : decode cX8_meanCost 7 = .ok (.getfield 128, 3) := by decide +kernel
theorem dX8_meanCost_10 : decode cX8_meanCost 10 = .ok (.aload_n 0, 1) := by decide +kernel
theorem dX8_meanCost_11 : decode cX8_meanCost 11 = .ok (.getfield 38, 3) := by decide +kernel
theorem dX8_meanCost_14 : decode cX8_meanCost 14 = .ok (.invokestatic 132, 3) := by decide +kernel
theorem dX8_meanCost_17 : decode cX8_meanCost 17 = .ok (.istore_n 3, 1) := by decide +kernel
theorem dX8_meanCost_18 : decode cX8_meanCost 18 = .ok (.iconst 0, 1) := by decide +kernel
theorem dX8_meanCost_19 : decode cX8_meanCost 19 = .ok (.istore 4, 2) := by decide +kernel
theorem dX8_meanCost_21 : decode cX8_meanCost 21 = .ok (.iconst 0, 1) := by decide +kernel
theorem dX8_meanCost_22 : decode cX8_meanCost 22 = .ok (.istore 5, 2) := by decide +kernel
theorem dX8_meanCost_24 : decode cX8_meanCost 24 = .ok (.iload 5, 2) := by decide +kernel
theorem dX8_meanCost_26 : decode cX8_meanCost 26 = .ok (.iload_n 3, 1) := by decide +kernel
theorem dX8_meanCost_27 : decode cX8_meanCost 27 = .ok (.if_icmp .ge 36, 3) := by decide +kernel
theorem dX8_meanCost_30 : decode cX8_meanCost 30 = .ok (.iload 5, 2) := by decide +kernel
theorem dX8_meanCost_32 : decode cX8_meanCost 32 = .ok (.sipush 4096, 3) := by decide +kernel
theorem dX8_meanCost_35 : decode cX8_meanCost 35 = .ok (.if_icmp .ge 28, 3) := by decide +kernel
theorem dX8_meanCost_38 : decode cX8_meanCost 38 = .ok (.iload 4, 2) := by decide +kernel
theorem dX8_meanCost_40 : decode cX8_meanCost 40 = .ok (.aload_n 0, 1) := by decide +kernel
theorem dX8_meanCost_41 : decode cX8_meanCost 41 = .ok (.getfield 80, 3) := by decide +kernel
theorem dX8_meanCost_44 : decode cX8_meanCost 44 = .ok (.aload_n 0, 1) := by decide +kernel
theorem dX8_meanCost_45 : decode cX8_meanCost 45 = .ok (.getfield 38, 3) := by decide +kernel
theorem dX8_meanCost_48 : decode cX8_meanCost 48 = .ok (.iload 5, 2) := by decide +kernel
theorem dX8_meanCost_50 : decode cX8_meanCost 50 = .ok (.iaload, 1) := by decide +kernel
theorem dX8_meanCost_51 : decode cX8_meanCost 51 = .ok (.invokevirtual 215, 3) := by decide +kernel
theorem dX8_meanCost_54 : decode cX8_meanCost 54 = .ok (.iadd, 1) := by decide +kernel
theorem dX8_meanCost_55 : decode cX8_meanCost 55 = .ok (.istore 4, 2) := by decide +kernel
theorem dX8_meanCost_57 : decode cX8_meanCost 57 = .ok (.iinc 5 1, 3) := by decide +kernel
theorem dX8_meanCost_60 : decode cX8_meanCost 60 = .ok (.goto (-36), 3) := by decide +kernel
theorem dX8_meanCost_63 : decode cX8_meanCost 63 = .ok (.iload 4, 2) := by decide +kernel
theorem dX8_meanCost_65 : decode cX8_meanCost 65 = .ok (.i2d, 1) := by decide +kernel
theorem dX8_meanCost_66 : decode cX8_meanCost 66 = .ok (.aload_n 2, 1) := by decide +kernel
theorem dX8_meanCost_67 : decode cX8_meanCost 67 = .ok (.getfield 185, 3) := by decide +kernel
theorem dX8_meanCost_70 : decode cX8_meanCost 70 = .ok (.i2d, 1) := by decide +kernel
theorem dX8_meanCost_71 : decode cX8_meanCost 71 = .ok (.ddiv, 1) := by decide +kernel
theorem dX8_meanCost_72 : decode cX8_meanCost 72 = .ok (.dreturn, 1) := by decide +kernel
theorem dX8_enumerate_0 : decode cX8_enumerate 0 = .ok (.aload_n 0, 1) := by decide +kernel
theorem dX8_enumerate_1 : decode cX8_enumerate 1 = .ok (.iload_n 1, 1) := by decide +kernel
theorem dX8_enumerate_2 : decode cX8_enumerate 2 = .ok (.invokevirtual 124, 3) := by decide +kernel
theorem dX8_enumerate_5 : decode cX8_enumerate 5 = .ok (.astore 4, 2) := by decide +kernel
theorem dX8_enumerate_7 : decode cX8_enumerate 7 = .ok (.iload_n 3, 1) := by decide +kernel
theorem dX8_enumerate_8 : decode cX8_enumerate 8 = .ok (.iconst 1, 1) := by decide +kernel
theorem dX8_enumerate_9 : decode cX8_enumerate 9 = .ok (.if_icmp .lt 10, 3) := by decide +kernel
theorem dX8_enumerate_12 : decode cX8_enumerate 12 = .ok (.iload_n 3, 1) := by decide +kernel
theorem dX8_enumerate_13 : decode cX8_enumerate 13 = .ok (.sipush 300, 3) := by decide +kernel
theorem dX8_enumerate_16 : decode cX8_enumerate 16 = .ok (.if_icmp .le 11, 3) := by decide +kernel
theorem dX8_enumerate_19 : decode cX8_enumerate 19 = .ok (.new 97, 3) := by decide +kernel
theorem dX8_enumerate_22 : decode cX8_enumerate 22 = .ok (.dup, 1) := by decide +kernel
theorem dX8_enumerate_23 : decode cX8_enumerate 23 = .ok (.invokespecial 99, 3) := by decide +kernel
theorem dX8_enumerate_26 : decode cX8_enumerate 26 = .ok (.athrow, 1) := by decide +kernel
theorem dX8_enumerate_27 : decode cX8_enumerate 27 = .ok (.aload 4, 2) := by decide +kernel
theorem dX8_enumerate_29 : decode cX8_enumerate 29 = .ok (.getfield 128, 3) := by decide +kernel
theorem dX8_enumerate_32 : decode cX8_enumerate 32 = .ok (.aload_n 0, 1) := by decide +kernel
theorem dX8_enumerate_33 : decode cX8_enumerate 33 = .ok (.getfield 38, 3) := by decide +kernel
theorem dX8_enumerate_36 : decode cX8_enumerate 36 = .ok (.invokestatic 132, 3) := by decide +kernel
theorem dX8_enumerate_39 : decode cX8_enumerate 39 = .ok (.istore 5, 2) := by decide +kernel
theorem dX8_enumerate_41 : decode cX8_enumerate 41 = .ok (.iconst 0, 1) := by decide +kernel
theorem dX8_enumerate_42 : decode cX8_enumerate 42 = .ok (.istore 6, 2) := by decide +kernel
theorem dX8_enumerate_44 : decode cX8_enumerate 44 = .ok (.iconst 0, 1) := by decide +kernel
theorem dX8_enumerate_45 : decode cX8_enumerate 45 = .ok (.istore 7, 2) := by decide +kernel
theorem dX8_enumerate_47 : decode cX8_enumerate 47 = .ok (.iload 7, 2) := by decide +kernel
theorem dX8_enumerate_49 : decode cX8_enumerate 49 = .ok (.iload 5, 2) := by decide +kernel
theorem dX8_enumerate_51 : decode cX8_enumerate 51 = .ok (.if_icmp .ge 67, 3) := by decide +kernel
theorem dX8_enumerate_54 : decode cX8_enumerate 54 = .ok (.iload 7, 2) := by decide +kernel
theorem dX8_enumerate_56 : decode cX8_enumerate 56 = .ok (.sipush 4096, 3) := by decide +kernel
theorem dX8_enumerate_59 : decode cX8_enumerate 59 = .ok (.if_icmp .ge 59, 3) := by decide +kernel
theorem dX8_enumerate_62 : decode cX8_enumerate 62 = .ok (.aload_n 0, 1) := by decide +kernel
theorem dX8_enumerate_63 : decode cX8_enumerate 63 = .ok (.getfield 80, 3) := by decide +kernel
theorem dX8_enumerate_66 : decode cX8_enumerate 66 = .ok (.aload_n 0, 1) := by decide +kernel
theorem dX8_enumerate_67 : decode cX8_enumerate 67 = .ok (.getfield 38, 3) := by decide +kernel
theorem dX8_enumerate_70 : decode cX8_enumerate 70 = .ok (.iload 7, 2) := by decide +kernel
theorem dX8_enumerate_72 : decode cX8_enumerate 72 = .ok (.iaload, 1) := by decide +kernel
theorem dX8_enumerate_73 : decode cX8_enumerate 73 = .ok (.invokevirtual 215, 3) := by decide +kernel
theorem dX8_enumerate_76 : decode cX8_enumerate 76 = .ok (.iload_n 2, 1) := by decide +kernel
theorem dX8_enumerate_77 : decode cX8_enumerate 77 = .ok (.if_icmp .gt 35, 3) := by decide +kernel
theorem dX8_enumerate_80 : decode cX8_enumerate 80 = .ok (.iload 6, 2) := by decide +kernel
theorem dX8_enumerate_82 : decode cX8_enumerate 82 = .ok (.sipush 4096, 3) := by decide +kernel
theorem dX8_enumerate_85 : decode cX8_enumerate 85 = .ok (.if_icmp .ge 27, 3) := by decide +kernel
theorem dX8_enumerate_88 : decode cX8_enumerate 88 = .ok (.aload_n 0, 1) := by decide +kernel
theorem dX8_enumerate_89 : decode cX8_enumerate 89 = .ok (.getfield 42, 3) := by decide +kernel
theorem dX8_enumerate_92 : decode cX8_enumerate 92 = .ok (.iload 6, 2) := by decide +kernel
theorem dX8_enumerate_94 : decode cX8_enumerate 94 = .ok (.aload_n 0, 1) := by decide +kernel
theorem dX8_enumerate_95 : decode cX8_enumerate 95 = .ok (.getfield 80, 3) := by decide +kernel
theorem dX8_enumerate_98 : decode cX8_enumerate 98 = .ok (.aload_n 0, 1) := by decide +kernel
theorem dX8_enumerate_99 : decode cX8_enumerate 99 = .ok (.getfield 38, 3) := by decide +kernel
theorem dX8_enumerate_102 : decode cX8_enumerate 102 = .ok (.iload 7, 2) := by decide +kernel
theorem dX8_enumerate_104 : decode cX8_enumerate 104 = .ok (.iaload, 1) := by decide +kernel
theorem dX8_enumerate_105 : decode cX8_enumerate 105 = .ok (.invokevirtual 238, 3) := by decide +kernel
theorem dX8_enumerate_108 : decode cX8_enumerate 108 = .ok (.iastore, 1) := by decide +kernel
theorem dX8_enumerate_109 : decode cX8_enumerate 109 = .ok (.iinc 6 1, 3) := by decide +kernel
theorem dX8_enumerate_112 : decode cX8_enumerate 112 = .ok (.iinc 7 1, 3) := by decide +kernel
theorem dX8_enumerate_115 : decode cX8_enumerate 115 = .ok (.goto (-68), 3) := by decide +kernel
theorem dX8_enumerate_118 : decode cX8_enumerate 118 = .ok (.aload_n 0, 1) := by decide +kernel
theorem dX8_enumerate_119 : decode cX8_enumerate 119 = .ok (.iload 6, 2) := by decide +kernel
theorem dX8_enumerate_121 : decode cX8_enumerate 121 = .ok (.iload_n 3, 1) := by decide +kernel
theorem dX8_enumerate_122 : decode cX8_enumerate 122 = .ok (.iload 6, 2) := by decide +kernel
theorem dX8_enumerate_124 : decode cX8_enumerate 124 = .ok (.invokestatic 235, 3) := by decide +kernel
theorem dX8_enumerate_127 : decode cX8_enumerate 127 = .ok (.invokevirtual 241, 3) := by decide +kernel
theorem dX8_enumerate_130 : decode cX8_enumerate 130 = .ok (.aload_n 0, 1) := by decide +kernel
theorem dX8_enumerate_131 : decode cX8_enumerate 131 = .ok (.getfield 87, 3) := by decide +kernel
theorem dX8_enumerate_134 : decode cX8_enumerate 134 = .ok (.ireturn, 1) := by decide +kernel
theorem dX8_keepCheapest_0 : decode cX8_keepCheapest 0 = .ok (.aload_n 0, 1) := by decide +kernel
theorem dX8_keepCheapest_1 : decode cX8_keepCheapest 1 = .ok (.getfield 42, 3) := by decide +kernel
theorem dX8_keepCheapest_4 : decode cX8_keepCheapest 4 = .ok (.iload_n 1, 1) := by decide +kernel
theorem dX8_keepCheapest_5 : decode cX8_keepCheapest 5 = .ok (.invokestatic 245, 3) := by decide +kernel
theorem dX8_keepCheapest_8 : decode cX8_keepCheapest 8 = .ok (.aload_n 0, 1) := by decide +kernel
theorem dX8_keepCheapest_9 : decode cX8_keepCheapest 9 = .ok (.iconst 0, 1) := by decide +kernel
theorem dX8_keepCheapest_10 : decode cX8_keepCheapest 10 = .ok (.putfield 87, 3) := by decide +kernel
theorem dX8_keepCheapest_13 : decode cX8_keepCheapest 13 = .ok (.iconst 0, 1) := by decide +kernel
theorem dX8_keepCheapest_14 : decode cX8_keepCheapest 14 = .ok (.istore_n 3, 1) := by decide +kernel
theorem dX8_keepCheapest_15 : decode cX8_keepCheapest 15 = .ok (.iload_n 3, 1) := by decide +kernel
theorem dX8_keepCheapest_16 : decode cX8_keepCheapest 16 = .ok (.iload_n 2, 1) := by decide +kernel
theorem dX8_keepCheapest_17 : decode cX8_keepCheapest 17 = .ok (.if_icmp .ge 46, 3) := by decide +kernel
theorem dX8_keepCheapest_20 : decode cX8_keepCheapest 20 = .ok (.iload_n 3, 1) := by decide +kernel
theorem dX8_keepCheapest_21 : decode cX8_keepCheapest 21 = .ok (.sipush 300, 3) := by decide +kernel
theorem dX8_keepCheapest_24 : decode cX8_keepCheapest 24 = .ok (.if_icmp .ge 39, 3) := by decide +kernel
theorem dX8_keepCheapest_27 : decode cX8_keepCheapest 27 = .ok (.aload_n 0, 1) := by decide +kernel
theorem dX8_keepCheapest_28 : decode cX8_keepCheapest 28 = .ok (.getfield 84, 3) := by decide +kernel
theorem dX8_keepCheapest_31 : decode cX8_keepCheapest 31 = .ok (.iload_n 3, 1) := by decide +kernel
theorem dX8_keepCheapest_32 : decode cX8_keepCheapest 32 = .ok (.aload_n 0, 1) := by decide +kernel
theorem dX8_keepCheapest_33 : decode cX8_keepCheapest 33 = .ok (.getfield 42, 3) := by decide +kernel
theorem dX8_keepCheapest_36 : decode cX8_keepCheapest 36 = .ok (.iload_n 1, 1) := by decide +kernel
theorem dX8_keepCheapest_37 : decode cX8_keepCheapest 37 = .ok (.iload_n 3, 1) := by decide +kernel
theorem dX8_keepCheapest_38 : decode cX8_keepCheapest 38 = .ok (.isub, 1) := by decide +kernel
theorem dX8_keepCheapest_39 : decode cX8_keepCheapest 39 = .ok (.invokestatic 251, 3) := by decide +kernel
theorem dX8_keepCheapest_42 : decode cX8_keepCheapest 42 = .ok (.sipush 4095, 3) := by decide +kernel
theorem dX8_keepCheapest_45 : decode cX8_keepCheapest 45 = .ok (.iand, 1) := by decide +kernel
theorem dX8_keepCheapest_46 : decode cX8_keepCheapest 46 = .ok (.iastore, 1) := by decide +kernel
theorem dX8_keepCheapest_47 : decode cX8_keepCheapest 47 = .ok (.aload_n 0, 1) := by decide +kernel
theorem dX8_keepCheapest_48 : decode cX8_keepCheapest 48 = .ok (.dup, 1) := by decide +kernel
theorem dX8_keepCheapest_49 : decode cX8_keepCheapest 49 = .ok (.getfield 87, 3) := by decide +kernel
theorem dX8_keepCheapest_52 : decode cX8_keepCheapest 52 = .ok (.iconst 1, 1) := by decide +kernel
theorem dX8_keepCheapest_53 : decode cX8_keepCheapest 53 = .ok (.iadd, 1) := by decide +kernel
theorem dX8_keepCheapest_54 : decode cX8_keepCheapest 54 = .ok (.putfield 87, 3) := by decide +kernel
theorem dX8_keepCheapest_57 : decode cX8_keepCheapest 57 = .ok (.iinc 3 1, 3) := by decide +kernel
theorem dX8_keepCheapest_60 : decode cX8_keepCheapest 60 = .ok (.goto (-45), 3) := by decide +kernel
theorem dX8_keepCheapest_63 : decode cX8_keepCheapest 63 = .ok (.return_, 1) := by decide +kernel
theorem dX8_enumerated_0 : decode cX8_enumerated 0 = .ok (.iload_n 1, 1) := by decide +kernel
theorem dX8_enumerated_1 : decode cX8_enumerated 1 = .ok (.ifCond .lt 18, 3) := by decide +kernel
theorem dX8_enumerated_4 : decode cX8_enumerated 4 = .ok (.iload_n 1, 1) := by decide +kernel
theorem dX8_enumerated_5 : decode cX8_enumerated 5 = .ok (.aload_n 0, 1) := by decide +kernel
theorem dX8_enumerated_6 : decode cX8_enumerated 6 = .ok (.getfield 87, 3) := by decide +kernel
theorem dX8_enumerated_9 : decode cX8_enumerated 9 = .ok (.if_icmp .ge 10, 3) := by decide +kernel
theorem dX8_enumerated_12 : decode cX8_enumerated 12 = .ok (.iload_n 1, 1) := by decide +kernel
theorem dX8_enumerated_13 : decode cX8_enumerated 13 = .ok (.sipush 300, 3) := by decide +kernel
theorem dX8_enumerated_16 : decode cX8_enumerated 16 = .ok (.if_icmp .lt 11, 3) := by decide +kernel
theorem dX8_enumerated_19 : decode cX8_enumerated 19 = .ok (.new 159, 3) := by decide +kernel
theorem dX8_enumerated_22 : decode cX8_enumerated 22 = .ok (.dup, 1) := by decide +kernel
theorem dX8_enumerated_23 : decode cX8_enumerated 23 = .ok (.invokespecial 161, 3) := by decide +kernel
theorem dX8_enumerated_26 : decode cX8_enumerated 26 = .ok (.athrow, 1) := by decide +kernel
theorem dX8_enumerated_27 : decode cX8_enumerated 27 = .ok (.aload_n 0, 1) := by decide +kernel
theorem dX8_enumerated_28 : decode cX8_enumerated 28 = .ok (.getfield 84, 3) := by decide +kernel
theorem dX8_enumerated_31 : decode cX8_enumerated 31 = .ok (.iload_n 1, 1) := by decide +kernel
theorem dX8_enumerated_32 : decode cX8_enumerated 32 = .ok (.iaload, 1) := by decide +kernel
theorem dX8_enumerated_33 : decode cX8_enumerated 33 = .ok (.ireturn, 1) := by decide +kernel
theorem dX8_digest_0 : decode cX8_digest 0 = .ok (.ldc2_w 255, 3) := by decide +kernel
theorem dX8_digest_3 : decode cX8_digest 3 = .ok (.lstore_n 1, 1) := by decide +kernel
theorem dX8_digest_4 : decode cX8_digest 4 = .ok (.lload_n 1, 1) := by decide +kernel
theorem dX8_digest_5 : decode cX8_digest 5 = .ok (.ldc2_w 257, 3) := by decide +kernel
theorem dX8_digest_8 : decode cX8_digest 8 = .ok (.lmul, 1) := by decide +kernel
theorem dX8_digest_9 : decode cX8_digest 9 = .ok (.aload_n 0, 1) := by decide +kernel
theorem dX8_digest_10 : decode cX8_digest 10 = .ok (.getfield 32, 3) := by decide +kernel
theorem dX8_digest_13 : decode cX8_digest 13 = .ok (.i2l, 1) := by decide +kernel
theorem dX8_digest_14 : decode cX8_digest 14 = .ok (.ladd, 1) := by decide +kernel
theorem dX8_digest_15 : decode cX8_digest 15 = .ok (.lstore_n 1, 1) := by decide +kernel
theorem dX8_digest_16 : decode cX8_digest 16 = .ok (.iconst 0, 1) := by decide +kernel
theorem dX8_digest_17 : decode cX8_digest 17 = .ok (.istore_n 3, 1) := by decide +kernel
theorem dX8_digest_18 : decode cX8_digest 18 = .ok (.iload_n 3, 1) := by decide +kernel
theorem dX8_digest_19 : decode cX8_digest 19 = .ok (.aload_n 0, 1) := by decide +kernel
theorem dX8_digest_20 : decode cX8_digest 20 = .ok (.getfield 32, 3) := by decide +kernel
theorem dX8_digest_23 : decode cX8_digest 23 = .ok (.if_icmp .ge 66, 3) := by decide +kernel
theorem dX8_digest_26 : decode cX8_digest 26 = .ok (.iload_n 3, 1) := by decide +kernel
theorem dX8_digest_27 : decode cX8_digest 27 = .ok (.sipush 200, 3) := by decide +kernel
theorem dX8_digest_30 : decode cX8_digest 30 = .ok (.if_icmp .ge 59, 3) := by decide +kernel
theorem dX8_digest_33 : decode cX8_digest 33 = .ok (.aload_n 0, 1) := by decide +kernel
theorem dX8_digest_34 : decode cX8_digest 34 = .ok (.getfield 28, 3) := by decide +kernel
theorem dX8_digest_37 : decode cX8_digest 37 = .ok (.iload_n 3, 1) := by decide +kernel
theorem dX8_digest_38 : decode cX8_digest 38 = .ok (.aaload, 1) := by decide +kernel
theorem dX8_digest_39 : decode cX8_digest 39 = .ok (.astore 4, 2) := by decide +kernel
theorem dX8_digest_41 : decode cX8_digest 41 = .ok (.aload 4, 2) := by decide +kernel
theorem dX8_digest_43 : decode cX8_digest 43 = .ok (.ifnonnull 14, 3) := by decide +kernel
theorem dX8_digest_46 : decode cX8_digest 46 = .ok (.lload_n 1, 1) := by decide +kernel
theorem dX8_digest_47 : decode cX8_digest 47 = .ok (.ldc2_w 257, 3) := by decide +kernel
theorem dX8_digest_50 : decode cX8_digest 50 = .ok (.lmul, 1) := by decide +kernel
theorem dX8_digest_51 : decode cX8_digest 51 = .ok (.lconst 1, 1) := by decide +kernel
theorem dX8_digest_52 : decode cX8_digest 52 = .ok (.lsub, 1) := by decide +kernel
theorem dX8_digest_53 : decode cX8_digest 53 = .ok (.lstore_n 1, 1) := by decide +kernel
theorem dX8_digest_54 : decode cX8_digest 54 = .ok (.goto 29, 3) := by decide +kernel
theorem dX8_digest_57 : decode cX8_digest 57 = .ok (.lload_n 1, 1) := by decide +kernel
theorem dX8_digest_58 : decode cX8_digest 58 = .ok (.ldc2_w 257, 3) := by decide +kernel
theorem dX8_digest_61 : decode cX8_digest 61 = .ok (.lmul, 1) := by decide +kernel
theorem dX8_digest_62 : decode cX8_digest 62 = .ok (.aload 4, 2) := by decide +kernel
theorem dX8_digest_64 : decode cX8_digest 64 = .ok (.getfield 185, 3) := by decide +kernel
theorem dX8_digest_67 : decode cX8_digest 67 = .ok (.i2l, 1) := by decide +kernel
theorem dX8_digest_68 : decode cX8_digest 68 = .ok (.ladd, 1) := by decide +kernel
theorem dX8_digest_69 : decode cX8_digest 69 = .ok (.lstore_n 1, 1) := by decide +kernel
theorem dX8_digest_70 : decode cX8_digest 70 = .ok (.lload_n 1, 1) := by decide +kernel
theorem dX8_digest_71 : decode cX8_digest 71 = .ok (.ldc2_w 257, 3) := by decide +kernel
theorem dX8_digest_74 : decode cX8_digest 74 = .ok (.lmul, 1) := by decide +kernel
theorem dX8_digest_75 : decode cX8_digest 75 = .ok (.aload 4, 2) := by decide +kernel
theorem dX8_digest_77 : decode cX8_digest 77 = .ok (.getfield 176, 3) := by decide +kernel
theorem dX8_digest_80 : decode cX8_digest 80 = .ok (.i2l, 1) := by decide +kernel
theorem dX8_digest_81 : decode cX8_digest 81 = .ok (.ladd, 1) := by decide +kernel
theorem dX8_digest_82 : decode cX8_digest 82 = .ok (.lstore_n 1, 1) := by decide +kernel
theorem dX8_digest_83 : decode cX8_digest 83 = .ok (.iinc 3 1, 3) := by decide +kernel
theorem dX8_digest_86 : decode cX8_digest 86 = .ok (.goto (-68), 3) := by decide +kernel
theorem dX8_digest_89 : decode cX8_digest 89 = .ok (.lload_n 1, 1) := by decide +kernel
theorem dX8_digest_90 : decode cX8_digest 90 = .ok (.ldc2_w 257, 3) := by decide +kernel
theorem dX8_digest_93 : decode cX8_digest 93 = .ok (.lmul, 1) := by decide +kernel
theorem dX8_digest_94 : decode cX8_digest 94 = .ok (.aload_n 0, 1) := by decide +kernel
theorem dX8_digest_95 : decode cX8_digest 95 = .ok (.getfield 59, 3) := by decide +kernel
theorem dX8_digest_98 : decode cX8_digest 98 = .ok (.getfield 173, 3) := by decide +kernel
theorem dX8_digest_101 : decode cX8_digest 101 = .ok (.i2l, 1) := by decide +kernel
theorem dX8_digest_102 : decode cX8_digest 102 = .ok (.ladd, 1) := by decide +kernel
theorem dX8_digest_103 : decode cX8_digest 103 = .ok (.lstore_n 1, 1) := by decide +kernel
theorem dX8_digest_104 : decode cX8_digest 104 = .ok (.iconst 0, 1) := by decide +kernel
theorem dX8_digest_105 : decode cX8_digest 105 = .ok (.istore_n 3, 1) := by decide +kernel
theorem dX8_digest_106 : decode cX8_digest 106 = .ok (.iload_n 3, 1) := by decide +kernel
theorem dX8_digest_107 : decode cX8_digest 107 = .ok (.bipush 12, 2) := by decide +kernel
theorem dX8_digest_109 : decode cX8_digest 109 = .ok (.if_icmp .ge 26, 3) := by decide +kernel
theorem dX8_digest_112 : decode cX8_digest 112 = .ok (.lload_n 1, 1) := by decide +kernel
theorem dX8_digest_113 : decode cX8_digest 113 = .ok (.ldc2_w 257, 3) := by decide +kernel
theorem dX8_digest_116 : decode cX8_digest 116 = .ok (.lmul, 1) := by decide +kernel
theorem dX8_digest_117 : decode cX8_digest 117 = .ok (.aload_n 0, 1) := by decide +kernel
theorem dX8_digest_118 : decode cX8_digest 118 = .ok (.getfield 80, 3) := by decide +kernel
theorem dX8_digest_121 : decode cX8_digest 121 = .ok (.getfield 259, 3) := by decide +kernel
theorem dX8_digest_124 : decode cX8_digest 124 = .ok (.iload_n 3, 1) := by decide +kernel
theorem dX8_digest_125 : decode cX8_digest 125 = .ok (.iaload, 1) := by decide +kernel
theorem dX8_digest_126 : decode cX8_digest 126 = .ok (.i2l, 1) := by decide +kernel
theorem dX8_digest_127 : decode cX8_digest 127 = .ok (.ladd, 1) := by decide +kernel
theorem dX8_digest_128 : decode cX8_digest 128 = .ok (.lstore_n 1, 1) := by decide +kernel
theorem dX8_digest_129 : decode cX8_digest 129 = .ok (.iinc 3 1, 3) := by decide +kernel
theorem dX8_digest_132 : decode cX8_digest 132 = .ok (.goto (-26), 3) := by decide +kernel
theorem dX8_digest_135 : decode cX8_digest 135 = .ok (.lload_n 1, 1) := by decide +kernel
theorem dX8_digest_136 : decode cX8_digest 136 = .ok (.lreturn, 1) := by decide +kernel
theorem dX9_init_0 : decode cX9_init 0 = .ok (.aload_n 0, 1) := by decide +kernel
theorem dX9_init_1 : decode cX9_init 1 = .ok (.invokespecial 1, 3) := by decide +kernel
theorem dX9_init_4 : decode cX9_init 4 = .ok (.aload_n 0, 1) := by decide +kernel
theorem dX9_init_5 : decode cX9_init 5 = .ok (.sipush 200, 3) := by decide +kernel
theorem dX9_init_8 : decode cX9_init 8 = .ok (.newarray .byte, 2) := by decide +kernel
theorem dX9_init_10 : decode cX9_init 10 = .ok (.putfield 9, 3) := by decide +kernel
theorem dX9_init_13 : decode cX9_init 13 = .ok (.aload_n 0, 1) := by decide +kernel
theorem dX9_init_14 : decode cX9_init 14 = .ok (.sipush 1000, 3) := by decide +kernel
theorem dX9_init_17 : decode cX9_init 17 = .ok (.newarray .byte, 2) := by decide +kernel
theorem dX9_init_19 : decode cX9_init 19 = .ok (.putfield 13, 3) := by decide +kernel
theorem dX9_init_22 : decode cX9_init 22 = .ok (.aload_n 0, 1) := by decide +kernel
theorem dX9_init_23 : decode cX9_init 23 = .ok (.iconst (-1), 1) := by decide +kernel
theorem dX9_init_24 : decode cX9_init 24 = .ok (.putfield 16, 3) := by decide +kernel
theorem dX9_init_27 : decode cX9_init 27 = .ok (.aload_n 0, 1) := by decide +kernel
theorem dX9_init_28 : decode cX9_init 28 = .ok (.sipush 200, 3) := by decide +kernel
theorem dX9_init_31 : decode cX9_init 31 = .ok (.newarray .boolean, 2) := by decide +kernel
theorem dX9_init_33 : decode cX9_init 33 = .ok (.putfield 20, 3) := by decide +kernel
theorem dX9_init_36 : decode cX9_init 36 = .ok (.aload_n 0, 1) := by decide +kernel
theorem dX9_init_37 : decode cX9_init 37 = .ok (.sipush 12800, 3) := by decide +kernel
theorem dX9_init_40 : decode cX9_init 40 = .ok (.newarray .long, 2) := by decide +kernel
theorem dX9_init_42 : decode cX9_init 42 = .ok (.putfield 24, 3) := by decide +kernel
theorem dX9_init_45 : decode cX9_init 45 = .ok (.aload_n 0, 1) := by decide +kernel
theorem dX9_init_46 : decode cX9_init 46 = .ok (.bipush 12, 2) := by decide +kernel
theorem dX9_init_48 : decode cX9_init 48 = .ok (.newarray .int, 2) := by decide +kernel
theorem dX9_init_50 : decode cX9_init 50 = .ok (.putfield 28, 3) := by decide +kernel
theorem dX9_init_53 : decode cX9_init 53 = .ok (.aload_n 0, 1) := by decide +kernel
theorem dX9_init_54 : decode cX9_init 54 = .ok (.sipush 300, 3) := by decide +kernel
theorem dX9_init_57 : decode cX9_init 57 = .ok (.newarray .int, 2) := by decide +kernel
theorem dX9_init_59 : decode cX9_init 59 = .ok (.putfield 32, 3) := by decide +kernel
theorem dX9_init_62 : decode cX9_init 62 = .ok (.aload_n 0, 1) := by decide +kernel
theorem dX9_init_63 : decode cX9_init 63 = .ok (.sipush 4096, 3) := by decide +kernel
theorem dX9_init_66 : decode cX9_init 66 = .ok (.newarray .long, 2) := by decide +kernel
theorem dX9_init_68 : decode cX9_init 68 = .ok (.putfield 35, 3) := by decide +kernel
theorem dX9_init_71 : decode cX9_init 71 = .ok (.aload_n 0, 1) := by decide +kernel
theorem dX9_init_72 : decode cX9_init 72 = .ok (.sipush 4096, 3) := by decide +kernel
theorem dX9_init_75 : decode cX9_init 75 = .ok (.newarray .long, 2) := by decide +kernel
theorem dX9_init_77 : decode cX9_init 77 = .ok (.putfield 38, 3) := by decide +kernel
theorem dX9_init_80 : decode cX9_init 80 = .ok (.aload_n 0, 1) := by decide +kernel
theorem dX9_init_81 : decode cX9_init 81 = .ok (.sipush 7040, 3) := by decide +kernel
theorem dX9_init_84 : decode cX9_init 84 = .ok (.newarray .long, 2) := by decide +kernel
theorem dX9_init_86 : decode cX9_init 86 = .ok (.putfield 41, 3) := by decide +kernel
theorem dX9_init_89 : decode cX9_init 89 = .ok (.aload_n 0, 1) := by decide +kernel
theorem dX9_init_90 : decode cX9_init 90 = .ok (.bipush 64, 2) := by decide +kernel
theorem dX9_init_92 : decode cX9_init 92 = .ok (.newarray .int, 2) := by decide +kernel
theorem dX9_init_94 : decode cX9_init 94 = .ok (.putfield 44, 3) := by decide +kernel
theorem dX9_init_97 : decode cX9_init 97 = .ok (.aload_n 0, 1) := by decide +kernel
theorem dX9_init_98 : decode cX9_init 98 = .ok (.bipush 64, 2) := by decide +kernel
theorem dX9_init_100 : decode cX9_init 100 = .ok (.newarray .int, 2) := by decide +kernel
theorem dX9_init_102 : decode cX9_init 102 = .ok (.putfield 47, 3) := by decide +kernel
theorem dX9_init_105 : decode cX9_init 105 = .ok (.aload_n 0, 1) := by decide +kernel
theorem dX9_init_106 : decode cX9_init 106 = .ok (.bipush 64, 2) := by decide +kernel
theorem dX9_init_108 : decode cX9_init 108 = .ok (.newarray .int, 2) := by decide +kernel
theorem dX9_init_110 : decode cX9_init 110 = .ok (.putfield 50, 3) := by decide +kernel
theorem dX9_init_113 : decode cX9_init 113 = .ok (.aload_n 0, 1) := by decide +kernel
theorem dX9_init_114 : decode cX9_init 114 = .ok (.sipush 256, 3) := by decide +kernel
theorem dX9_init_117 : decode cX9_init 117 = .ok (.newarray .int, 2) := by decide +kernel
theorem dX9_init_119 : decode cX9_init 119 = .ok (.putfield 53, 3) := by decide +kernel
theorem dX9_init_122 : decode cX9_init 122 = .ok (.aload_n 0, 1) := by decide +kernel
theorem dX9_init_123 : decode cX9_init 123 = .ok (.sipush 4096, 3) := by decide +kernel
theorem dX9_init_126 : decode cX9_init 126 = .ok (.newarray .int, 2) := by decide +kernel
theorem dX9_init_128 : decode cX9_init 128 = .ok (.putfield 56, 3) := by decide +kernel
theorem dX9_init_131 : decode cX9_init 131 = .ok (.aload_n 0, 1) := by decide +kernel
theorem dX9_init_132 : decode cX9_init 132 = .ok (.sipush 200, 3) := by decide +kernel
theorem dX9_init_135 : decode cX9_init 135 = .ok (.newarray .int, 2) := by decide +kernel
theorem dX9_init_137 : decode cX9_init 137 = .ok (.putfield 59, 3) := by decide +kernel
theorem dX9_init_140 : decode cX9_init 140 = .ok (.return_, 1) := by decide +kernel
theorem dX9_thrown_0 : decode cX9_thrown 0 = .ok (.aload_n 0, 1) := by decide +kernel
theorem dX9_thrown_1 : decode cX9_thrown 1 = .ok (.getfield 62, 3) := by decide +kernel
theorem dX9_thrown_4 : decode cX9_thrown 4 = .ok (.ireturn, 1) := by decide +kernel
theorem dX9_fail_0 : decode cX9_fail 0 = .ok (.aload_n 0, 1) := by decide +kernel
theorem dX9_fail_1 : decode cX9_fail 1 = .ok (.iload_n 1, 1) := by decide +kernel
theorem dX9_fail_2 : decode cX9_fail 2 = .ok (.putfield 62, 3) := by decide +kernel
theorem dX9_fail_5 : decode cX9_fail 5 = .ok (.iconst 0, 1) := by decide +kernel
theorem dX9_fail_6 : decode cX9_fail 6 = .ok (.ireturn, 1) := by decide +kernel
theorem dX9_has_0 : decode cX9_has 0 = .ok (.aload_n 0, 1) := by decide +kernel
theorem dX9_has_1 : decode cX9_has 1 = .ok (.bipush 64, 2) := by decide +kernel
theorem dX9_has_3 : decode cX9_has 3 = .ok (.iload_n 1, 1) := by decide +kernel
theorem dX9_has_4 : decode cX9_has 4 = .ok (.imul, 1) := by decide +kernel
theorem dX9_has_5 : decode cX9_has 5 = .ok (.iload_n 2, 1) := by decide +kernel
theorem dX9_has_6 : decode cX9_has 6 = .ok (.bipush 6, 2) := by decide +kernel
theorem dX9_has_8 : decode cX9_has 8 = .ok (.ishr, 1) := by decide +kernel
theorem dX9_has_9 : decode cX9_has 9 = .ok (.iadd, 1) := by decide +kernel
theorem dX9_has_10 : decode cX9_has 10 = .ok (.laload, 1) := by decide +kernel
theorem dX9_has_11 : decode cX9_has 11 = .ok (.iload_n 2, 1) := by decide +kernel
theorem dX9_has_12 : decode cX9_has 12 = .ok (.bipush 63, 2) := by decide +kernel
theorem dX9_has_14 : decode cX9_has 14 = .ok (.iand, 1) := by decide +kernel
theorem dX9_has_15 : decode cX9_has 15 = .ok (.lshr, 1) := by decide +kernel
theorem dX9_has_16 : decode cX9_has 16 = .ok (.lconst 1, 1) := by decide +kernel
theorem dX9_has_17 : decode cX9_has 17 = .ok (.land, 1) := by decide +kernel
theorem dX9_has_18 : decode cX9_has 18 = .ok (.lconst 1, 1) := by decide +kernel
theorem dX9_has_19 : decode cX9_has 19 = .ok (.lcmp, 1) := by decide +kernel
theorem dX9_has_20 : decode cX9_has 20 = .ok (.ifCond .ne 7, 3) := by decide +kernel
theorem dX9_has_23 : decode cX9_has 23 = .ok (.iconst 1, 1) := by decide +kernel
theorem dX9_has_24 : decode cX9_has 24 = .ok (.goto 4, 3) := by decide +kernel
theorem dX9_has_27 : decode cX9_has 27 = .ok (.iconst 0, 1) := by decide +kernel
theorem dX9_has_28 : decode cX9_has 28 = .ok (.ireturn, 1) := by decide +kernel
theorem dX9_put_0 : decode cX9_put 0 = .ok (.aload_n 0, 1) := by decide +kernel
theorem dX9_put_1 : decode cX9_put 1 = .ok (.bipush 64, 2) := by decide +kernel
theorem dX9_put_3 : decode cX9_put 3 = .ok (.iload_n 1, 1) := by decide +kernel
theorem dX9_put_4 : decode cX9_put 4 = .ok (.imul, 1) := by decide +kernel
theorem dX9_put_5 : decode cX9_put 5 = .ok (.iload_n 2, 1) := by decide +kernel
theorem dX9_put_6 : decode cX9_put 6 = .ok (.bipush 6, 2) := by decide +kernel
theorem dX9_put_8 : decode cX9_put 8 = .ok (.ishr, 1) := by decide +kernel
theorem dX9_put_9 : decode cX9_put 9 = .ok (.iadd, 1) := by decide +kernel
theorem dX9_put_10 : decode cX9_put 10 = .ok (.dup2, 1) := by decide +kernel
theorem dX9_put_11 : decode cX9_put 11 = .ok (.laload, 1) := by decide +kernel
theorem dX9_put_12 : decode cX9_put 12 = .ok (.lconst 1, 1) := by decide +kernel
theorem dX9_put_13 : decode cX9_put 13 = .ok (.iload_n 2, 1) := by decide +kernel
theorem dX9_put_14 : decode cX9_put 14 = .ok (.bipush 63, 2) := by decide +kernel
theorem dX9_put_16 : decode cX9_put 16 = .ok (.iand, 1) := by decide +kernel
theorem dX9_put_17 : decode cX9_put 17 = .ok (.lshl, 1) := by decide +kernel
theorem dX9_put_18 : decode cX9_put 18 = .ok (.lor, 1) := by decide +kernel
theorem dX9_put_19 : decode cX9_put 19 = .ok (.lastore, 1) := by decide +kernel
theorem dX9_put_20 : decode cX9_put 20 = .ok (.return_, 1) := by decide +kernel
theorem dX9_clear_0 : decode cX9_clear 0 = .ok (.iconst 0, 1) := by decide +kernel
theorem dX9_clear_1 : decode cX9_clear 1 = .ok (.istore_n 2, 1) := by decide +kernel
theorem dX9_clear_2 : decode cX9_clear 2 = .ok (.iload_n 2, 1) := by decide +kernel
theorem dX9_clear_3 : decode cX9_clear 3 = .ok (.bipush 64, 2) := by decide +kernel
theorem dX9_clear_5 : decode cX9_clear 5 = .ok (.if_icmp .ge 18, 3) := by decide +kernel
theorem dX9_clear_8 : decode cX9_clear 8 = .ok (.aload_n 0, 1) := by decide +kernel
theorem dX9_clear_9 : decode cX9_clear 9 = .ok (.bipush 64, 2) := by decide +kernel
theorem dX9_clear_11 : decode cX9_clear 11 = .ok (.iload_n 1, 1) := by decide +kernel
theorem dX9_clear_12 : decode cX9_clear 12 = .ok (.imul, 1) := by decide +kernel
theorem dX9_clear_13 : decode cX9_clear 13 = .ok (.iload_n 2, 1) := by decide +kernel
theorem dX9_clear_14 : decode cX9_clear 14 = .ok (.iadd, 1) := by decide +kernel
theorem dX9_clear_15 : decode cX9_clear 15 = .ok (.lconst 0, 1) := by decide +kernel
theorem dX9_clear_16 : decode cX9_clear 16 = .ok (.lastore, 1) := by decide +kernel
theorem dX9_clear_17 : decode cX9_clear 17 = .ok (.iinc 2 1, 3) := by decide +kernel
theorem dX9_clear_20 : decode cX9_clear 20 = .ok (.goto (-18), 3) := by decide +kernel
theorem dX9_clear_23 : decode cX9_clear 23 = .ok (.return_, 1) := by decide +kernel
theorem dX9_many_0 : decode cX9_many 0 = .ok (.iconst 0, 1) := by decide +kernel
theorem dX9_many_1 : decode cX9_many 1 = .ok (.istore_n 2, 1) := by decide +kernel
theorem dX9_many_2 : decode cX9_many 2 = .ok (.iconst 0, 1) := by decide +kernel
theorem dX9_many_3 : decode cX9_many 3 = .ok (.istore_n 3, 1) := by decide +kernel
theorem dX9_many_4 : decode cX9_many 4 = .ok (.iload_n 3, 1) := by decide +kernel
theorem dX9_many_5 : decode cX9_many 5 = .ok (.sipush 4096, 3) := by decide +kernel
theorem dX9_many_8 : decode cX9_many 8 = .ok (.if_icmp .ge 26, 3) := by decide +kernel
theorem dX9_many_11 : decode cX9_many 11 = .ok (.iload_n 2, 1) := by decide +kernel
theorem dX9_many_12 : decode cX9_many 12 = .ok (.aload_n 0, 1) := by decide +kernel
theorem dX9_many_13 : decode cX9_many 13 = .ok (.iload_n 1, 1) := by decide +kernel
theorem dX9_many_14 : decode cX9_many 14 = .ok (.iload_n 3, 1) := by decide +kernel
theorem dX9_many_15 : decode cX9_many 15 = .ok (.invokestatic 65, 3) := by decide +kernel
theorem dX9_many_18 : decode cX9_many 18 = .ok (.ifCond .eq 7, 3) := by decide +kernel
theorem dX9_many_21 : decode cX9_many 21 = .ok (.iconst 1, 1) := by decide +kernel
theorem dX9_many_22 : decode cX9_many 22 = .ok (.goto 4, 3) := by decide +kernel
theorem dX9_many_25 : decode cX9_many 25 = .ok (.iconst 0, 1) := by decide +kernel
theorem dX9_many_26 : decode cX9_many 26 = .ok (.iadd, 1) := by decide +kernel
theorem dX9_many_27 : decode cX9_many 27 = .ok (.istore_n 2, 1) := by decide +kernel
theorem dX9_many_28 : decode cX9_many 28 = .ok (.iinc 3 1, 3) := by decide +kernel
theorem dX9_many_31 : decode cX9_many 31 = .ok (.goto (-27), 3) := by decide +kernel
theorem dX9_many_34 : decode cX9_many 34 = .ok (.iload_n 2, 1) := by decide +kernel
theorem dX9_many_35 : decode cX9_many 35 = .ok (.ireturn, 1) := by decide +kernel
theorem dX9_countSubsets_0 : decode cX9_countSubsets 0 = .ok (.iconst 0, 1) := by decide +kernel
theorem dX9_countSubsets_1 : decode cX9_countSubsets 1 = .ok (.istore_n 3, 1) := by decide +kernel
theorem dX9_countSubsets_2 : decode cX9_countSubsets 2 = .ok (.iload_n 3, 1) := by decide +kernel
theorem dX9_countSubsets_3 : decode cX9_countSubsets 3 = .ok (.sipush 4096, 3) := by decide +kernel
theorem dX9_countSubsets_6 : decode cX9_countSubsets 6 = .ok (.if_icmp .ge 26, 3) := by decide +kernel
theorem dX9_countSubsets_9 : decode cX9_countSubsets 9 = .ok (.aload_n 2, 1) := by decide +kernel
theorem dX9_countSubsets_10 : decode cX9_countSubsets 10 = .ok (.iload_n 3, 1) := by decide +kernel
theorem dX9_countSubsets_11 : decode cX9_countSubsets 11 = .ok (.aload_n 0, 1) := by decide +kernel
theorem dX9_countSubsets_12 : decode cX9_countSubsets 12 = .ok (.iload_n 1, 1) := by decide +kernel
theorem dX9_countSubsets_13 : decode cX9_countSubsets 13 = .ok (.iload_n 3, 1) := by decide +kernel
theorem dX9_countSubsets_14 : decode cX9_countSubsets 14 = .ok (.invokestatic 65, 3) := by decide +kernel
theorem dX9_countSubsets_17 : decode cX9_countSubsets 17 = .ok (.ifCond .eq 7, 3) := by decide +kernel
theorem dX9_countSubsets_20 : decode cX9_countSubsets 20 = .ok (.lconst 1, 1) := by decide +kernel
theorem dX9_countSubsets_21 : decode cX9_countSubsets 21 = .ok (.goto 4, 3) := by decide +kernel
theorem dX9_countSubsets_24 : decode cX9_countSubsets 24 = .ok (.lconst 0, 1) := by decide +kernel
theorem dX9_countSubsets_25 : decode cX9_countSubsets 25 = .ok (.lastore, 1) := by decide +kernel
theorem dX9_countSubsets_26 : decode cX9_countSubsets 26 = .ok (.iinc 3 1, 3) := by decide +kernel
theorem dX9_countSubsets_29 : decode cX9_countSubsets 29 = .ok (.goto (-27), 3) := by decide +kernel
theorem dX9_countSubsets_32 : decode cX9_countSubsets 32 = .ok (.iconst 0, 1) := by decide +kernel
theorem dX9_countSubsets_33 : decode cX9_countSubsets 33 = .ok (.istore_n 3, 1) := by decide +kernel
theorem dX9_countSubsets_34 : decode cX9_countSubsets 34 = .ok (.iload_n 3, 1) := by decide +kernel
theorem dX9_countSubsets_35 : decode cX9_countSubsets 35 = .ok (.bipush 12, 2) := by decide +kernel
theorem dX9_countSubsets_37 : decode cX9_countSubsets 37 = .ok (.if_icmp .ge 51, 3) := by decide +kernel
theorem dX9_countSubsets_40 : decode cX9_countSubsets 40 = .ok (.iconst 0, 1) := by decide +kernel
theorem dX9_countSubsets_41 : decode cX9_countSubsets 41 = .ok (.istore 4, 2) := by decide +kernel
theorem dX9_countSubsets_43 : decode cX9_countSubsets 43 = .ok (.iload 4, 2) := by decide +kernel
theorem dX9_countSubsets_45 : decode cX9_countSubsets 45 = .ok (.sipush 4096, 3) := by decide +kernel
theorem dX9_countSubsets_48 : decode cX9_countSubsets 48 = .ok (.if_icmp .ge 34, 3) := by decide +kernel
theorem dX9_countSubsets_51 : decode cX9_countSubsets 51 = .ok (.iload 4, 2) := by decide +kernel
theorem dX9_countSubsets_53 : decode cX9_countSubsets 53 = .ok (.iload_n 3, 1) := by decide +kernel
theorem dX9_countSubsets_54 : decode cX9_countSubsets 54 = .ok (.ishr, 1) := by decide +kernel
theorem dX9_countSubsets_55 : decode cX9_countSubsets 55 = .ok (.iconst 1, 1) := by decide +kernel
theorem dX9_countSubsets_56 : decode cX9_countSubsets 56 = .ok (.iand, 1) := by decide +kernel
theorem dX9_countSubsets_57 : decode cX9_countSubsets 57 = .ok (.iconst 1, 1) := by decide +kernel
theorem dX9_countSubsets_58 : decode cX9_countSubsets 58 = .ok (.if_icmp .ne 18, 3) := by decide +kernel
theorem dX9_countSubsets_61 : decode cX9_countSubsets 61 = .ok (.aload_n 2, 1) := by decide +kernel
theorem dX9_countSubsets_62 : decode cX9_countSubsets 62 = .ok (.iload 4, 2) := by decide +kernel
theorem dX9_countSubsets_64 : decode cX9_countSubsets 64 = .ok (.dup2, 1) := by decide +kernel
theorem dX9_countSubsets_65 : decode cX9_countSubsets 65 = .ok (.laload, 1) := by decide +kernel
theorem dX9_countSubsets_66 : decode cX9_countSubsets 66 = .ok (.aload_n 2, 1) := by decide +kernel
theorem dX9_countSubsets_67 : decode cX9_countSubsets 67 = .ok (.iload 4, 2) := by decide +kernel
theorem dX9_countSubsets_69 : decode cX9_countSubsets 69 = .ok (.iconst 1, 1) := by decide +kernel
theorem dX9_countSubsets_70 : decode cX9_countSubsets 70 = .ok (.iload_n 3, 1) := by decide +kernel
theorem dX9_countSubsets_71 : decode cX9_countSubsets 71 = .ok (.ishl, 1) := by decide +kernel
theorem dX9_countSubsets_72 : decode cX9_countSubsets 72 = .ok (.isub, 1) := by decide +kernel
theorem dX9_countSubsets_73 : decode cX9_countSubsets 73 = .ok (.laload, 1) := by decide +kernel
theorem dX9_countSubsets_74 : decode cX9_countSubsets 74 = .ok (.ladd, 1) := by decide +kernel
theorem dX9_countSubsets_75 : decode cX9_countSubsets 75 = .ok (.lastore, 1) := by decide +kernel
theorem dX9_countSubsets_76 : decode cX9_countSubsets 76 = .ok (.iinc 4 1, 3) := by decide +kernel
theorem dX9_countSubsets_79 : decode cX9_countSubsets 79 = .ok (.goto (-36), 3) := by decide +kernel
theorem dX9_countSubsets_82 : decode cX9_countSubsets 82 = .ok (.iinc 3 1, 3) := by decide +kernel
theorem dX9_countSubsets_85 : decode cX9_countSubsets 85 = .ok (.goto (-51), 3) := by decide +kernel
theorem dX9_countSubsets_88 : decode cX9_countSubsets 88 = .ok (.return_, 1) := by decide +kernel
theorem dX9_countSupersets_0 : decode cX9_countSupersets 0 = .ok (.iconst 0, 1) := by decide +kernel
theorem dX9_countSupersets_1 : decode cX9_countSupersets 1 = .ok (.istore_n 3, 1) := by decide +kernel
theorem dX9_countSupersets_2 : decode cX9_countSupersets 2 = .ok (.iload_n 3, 1) := by decide +kernel
theorem dX9_countSupersets_3 : decode cX9_countSupersets 3 = .ok (.sipush 4096, 3) := by decide +kernel
theorem dX9_countSupersets_6 : decode cX9_countSupersets 6 = .ok (.if_icmp .ge 26, 3) := by decide +kernel
theorem dX9_countSupersets_9 : decode cX9_countSupersets 9 = .ok (.aload_n 2, 1) := by decide +kernel
theorem dX9_countSupersets_10 : decode cX9_countSupersets 10 = .ok (.iload_n 3, 1) := by decide +kernel
theorem dX9_countSupersets_11 : decode cX9_countSupersets 11 = .ok (.aload_n 0, 1) := by decide +kernel
theorem dX9_countSupersets_12 : decode cX9_countSupersets 12 = .ok (.iload_n 1, 1) := by decide +kernel
theorem dX9_countSupersets_13 : decode cX9_countSupersets 13 = .ok (.iload_n 3, 1) := by decide +kernel
theorem dX9_countSupersets_14 : decode cX9_countSupersets 14 = .ok (.invokestatic 65, 3) := by decide +kernel
theorem dX9_countSupersets_17 : decode cX9_countSupersets 17 = .ok (.ifCond .eq 7, 3) := by decide +kernel
theorem dX9_countSupersets_20 : decode cX9_countSupersets 20 = .ok (.lconst 1, 1) := by decide +kernel
theorem dX9_countSupersets_21 : decode cX9_countSupersets 21 = .ok (.goto 4, 3) := by decide +kernel
theorem dX9_countSupersets_24 : decode cX9_countSupersets 24 = .ok (.lconst 0, 1) := by decide +kernel
theorem dX9_countSupersets_25 : decode cX9_countSupersets 25 = .ok (.lastore, 1) := by decide +kernel
theorem dX9_countSupersets_26 : decode cX9_countSupersets 26 = .ok (.iinc 3 1, 3) := by decide +kernel
theorem dX9_countSupersets_29 : decode cX9_countSupersets 29 = .ok (.goto (-27), 3) := by decide +kernel
theorem dX9_countSupersets_32 : decode cX9_countSupersets 32 = .ok (.iconst 0, 1) := by decide +kernel
theorem dX9_countSupersets_33 : decode cX9_countSupersets 33 = .ok (.istore_n 3, 1) := by decide +kernel
theorem dX9_countSupersets_34 : decode cX9_countSupersets 34 = .ok (.iload_n 3, 1) := by decide +kernel
theorem dX9_countSupersets_35 : decode cX9_countSupersets 35 = .ok (.bipush 12, 2) := by decide +kernel
theorem dX9_countSupersets_37 : decode cX9_countSupersets 37 = .ok (.if_icmp .ge 50, 3) := by decide +kernel
theorem dX9_countSupersets_40 : decode cX9_countSupersets 40 = .ok (.iconst 0, 1) := by decide +kernel
theorem dX9_countSupersets_41 : decode cX9_countSupersets 41 = .ok (.istore 4, 2) := by decide +kernel
theorem dX9_countSupersets_43 : decode cX9_countSupersets 43 = .ok (.iload 4, 2) := by decide +kernel
theorem dX9_countSupersets_45 : decode cX9_countSupersets 45 = .ok (.sipush 4096, 3) := by decide +kernel
theorem dX9_countSupersets_48 : decode cX9_countSupersets 48 = .ok (.if_icmp .ge 33, 3) := by decide +kernel
theorem dX9_countSupersets_51 : decode cX9_countSupersets 51 = .ok (.iload 4, 2) := by decide +kernel
theorem dX9_countSupersets_53 : decode cX9_countSupersets 53 = .ok (.iload_n 3, 1) := by decide +kernel
theorem dX9_countSupersets_54 : decode cX9_countSupersets 54 = .ok (.ishr, 1) := by decide +kernel
theorem dX9_countSupersets_55 : decode cX9_countSupersets 55 = .ok (.iconst 1, 1) := by decide +kernel
theorem dX9_countSupersets_56 : decode cX9_countSupersets 56 = .ok (.iand, 1) := by decide +kernel
theorem dX9_countSupersets_57 : decode cX9_countSupersets 57 = .ok (.ifCond .ne 18, 3) := by decide +kernel
theorem dX9_countSupersets_60 : decode cX9_countSupersets 60 = .ok (.aload_n 2, 1) := by decide +kernel
theorem dX9_countSupersets_61 : decode cX9_countSupersets 61 = .ok (.iload 4, 2) := by decide +kernel
theorem dX9_countSupersets_63 : decode cX9_countSupersets 63 = .ok (.dup2, 1) := by decide +kernel
theorem dX9_countSupersets_64 : decode cX9_countSupersets 64 = .ok (.laload, 1) := by decide +kernel
theorem dX9_countSupersets_65 : decode cX9_countSupersets 65 = .ok (.aload_n 2, 1) := by decide +kernel
theorem dX9_countSupersets_66 : decode cX9_countSupersets 66 = .ok (.iload 4, 2) := by decide +kernel
theorem dX9_countSupersets_68 : decode cX9_countSupersets 68 = .ok (.iconst 1, 1) := by decide +kernel
theorem dX9_countSupersets_69 : decode cX9_countSupersets 69 = .ok (.iload_n 3, 1) := by decide +kernel
theorem dX9_countSupersets_70 : decode cX9_countSupersets 70 = .ok (.ishl, 1) := by decide +kernel
theorem dX9_countSupersets_71 : decode cX9_countSupersets 71 = .ok (.iadd, 1) := by decide +kernel
theorem dX9_countSupersets_72 : decode cX9_countSupersets 72 = .ok (.laload, 1) := by decide +kernel
theorem dX9_countSupersets_73 : decode cX9_countSupersets 73 = .ok (.ladd, 1) := by decide +kernel
theorem dX9_countSupersets_74 : decode cX9_countSupersets 74 = .ok (.lastore, 1) := by decide +kernel
theorem dX9_countSupersets_75 : decode cX9_countSupersets 75 = .ok (.iinc 4 1, 3) := by decide +kernel
theorem dX9_countSupersets_78 : decode cX9_countSupersets 78 = .ok (.goto (-35), 3) := by decide +kernel
theorem dX9_countSupersets_81 : decode cX9_countSupersets 81 = .ok (.iinc 3 1, 3) := by decide +kernel
theorem dX9_countSupersets_84 : decode cX9_countSupersets 84 = .ok (.goto (-50), 3) := by decide +kernel
theorem dX9_countSupersets_87 : decode cX9_countSupersets 87 = .ok (.return_, 1) := by decide +kernel
theorem dX9_operate_0 : decode cX9_operate 0 = .ok (.aload_n 0, 1) := by decide +kernel
theorem dX9_operate_1 : decode cX9_operate 1 = .ok (.getfield 41, 3) := by decide +kernel
theorem dX9_operate_4 : decode cX9_operate 4 = .ok (.bipush 108, 2) := by decide +kernel
theorem dX9_operate_6 : decode cX9_operate 6 = .ok (.invokestatic 69, 3) := by decide +kernel
theorem dX9_operate_9 : decode cX9_operate 9 = .ok (.iload_n 1, 1) := by decide +kernel
theorem dX9_operate_10 : decode cX9_operate 10 = .ok (.tableswitch 94 4 12 #[50, 68, 77, 59, 94, 94, 94, 94, 86], 50) := by decide +kernel
theorem dX9_operate_60 : decode cX9_operate 60 = .ok (.aload_n 0, 1) := by decide +kernel
theorem dX9_operate_61 : decode cX9_operate 61 = .ok (.iload_n 2, 1) := by decide +kernel
theorem dX9_operate_62 : decode cX9_operate 62 = .ok (.iload_n 3, 1) := by decide +kernel
theorem dX9_operate_63 : decode cX9_operate 63 = .ok (.invokevirtual 73, 3) := by decide +kernel
theorem dX9_operate_66 : decode cX9_operate 66 = .ok (.goto 45, 3) := by decide +kernel
theorem dX9_operate_69 : decode cX9_operate 69 = .ok (.aload_n 0, 1) := by decide +kernel
theorem dX9_operate_70 : decode cX9_operate 70 = .ok (.iload_n 2, 1) := by decide +kernel
theorem dX9_operate_71 : decode cX9_operate 71 = .ok (.iload_n 3, 1) := by decide +kernel
theorem dX9_operate_72 : decode cX9_operate 72 = .ok (.invokevirtual 77, 3) := by decide +kernel
theorem dX9_operate_75 : decode cX9_operate 75 = .ok (.goto 36, 3) := by decide +kernel
theorem dX9_operate_78 : decode cX9_operate 78 = .ok (.aload_n 0, 1) := by decide +kernel
theorem dX9_operate_79 : decode cX9_operate 79 = .ok (.iload_n 2, 1) := by decide +kernel
theorem dX9_operate_80 : decode cX9_operate 80 = .ok (.iload_n 3, 1) := by decide +kernel
theorem dX9_operate_81 : decode cX9_operate 81 = .ok (.invokevirtual 80, 3) := by decide +kernel
theorem dX9_operate_84 : decode cX9_operate 84 = .ok (.goto 27, 3) := by decide +kernel
theorem dX9_operate_87 : decode cX9_operate 87 = .ok (.aload_n 0, 1) := by decide +kernel
theorem dX9_operate_88 : decode cX9_operate 88 = .ok (.iload_n 2, 1) := by decide +kernel
theorem dX9_operate_89 : decode cX9_operate 89 = .ok (.iload_n 3, 1) := by decide +kernel
theorem dX9_operate_90 : decode cX9_operate 90 = .ok (.invokevirtual 83, 3) := by decide +kernel
theorem dX9_operate_93 : decode cX9_operate 93 = .ok (.goto 18, 3) := by decide +kernel
theorem dX9_operate_96 : decode cX9_operate 96 = .ok (.aload_n 0, 1) := by decide +kernel
theorem dX9_operate_97 : decode cX9_operate 97 = .ok (.iload_n 2, 1) := by decide +kernel
theorem dX9_operate_98 : decode cX9_operate 98 = .ok (.invokevirtual 86, 3) := by decide +kernel
theorem dX9_operate_101 : decode cX9_operate 101 = .ok (.goto 10, 3) := by decide +kernel
theorem dX9_operate_104 : decode cX9_operate 104 = .ok (.aload_n 0, 1) := by decide +kernel
theorem dX9_operate_105 : decode cX9_operate 105 = .ok (.iload_n 1, 1) := by decide +kernel
theorem dX9_operate_106 : decode cX9_operate 106 = .ok (.iload_n 2, 1) := by decide +kernel
theorem dX9_operate_107 : decode cX9_operate 107 = .ok (.iload_n 3, 1) := by decide +kernel
theorem dX9_operate_108 : decode cX9_operate 108 = .ok (.invokevirtual 90, 3) := by decide +kernel
theorem dX9_operate_111 : decode cX9_operate 111 = .ok (.iconst 0, 1) := by decide +kernel
theorem dX9_operate_112 : decode cX9_operate 112 = .ok (.istore 4, 2) := by decide +kernel
theorem dX9_operate_114 : decode cX9_operate 114 = .ok (.iload 4, 2) := by decide +kernel
theorem dX9_operate_116 : decode cX9_operate 116 = .ok (.bipush 64, 2) := by decide +kernel
theorem dX9_operate_118 : decode cX9_operate 118 = .ok (.if_icmp .ge 32, 3) := by decide +kernel
theorem dX9_operate_121 : decode cX9_operate 121 = .ok (.aload_n 0, 1) := by decide +kernel
theorem dX9_operate_122 : decode cX9_operate 122 = .ok (.getfield 41, 3) := by decide +kernel
theorem dX9_operate_125 : decode cX9_operate 125 = .ok (.bipush 64, 2) := by decide +kernel
theorem dX9_operate_127 : decode cX9_operate 127 = .ok (.iload_n 2, 1) := by decide +kernel
theorem dX9_operate_128 : decode cX9_operate 128 = .ok (.imul, 1) := by decide +kernel
theorem dX9_operate_129 : decode cX9_operate 129 = .ok (.iload 4, 2) := by decide +kernel
theorem dX9_operate_131 : decode cX9_operate 131 = .ok (.iadd, 1) := by decide +kernel
theorem dX9_operate_132 : decode cX9_operate 132 = .ok (.aload_n 0, 1) := by decide +kernel
theorem dX9_operate_133 : decode cX9_operate 133 = .ok (.getfield 41, 3) := by decide +kernel
theorem dX9_operate_136 : decode cX9_operate 136 = .ok (.sipush 6912, 3) := by decide +kernel
theorem dX9_operate_139 : decode cX9_operate 139 = .ok (.iload 4, 2) := by decide +kernel
theorem dX9_operate_141 : decode cX9_operate 141 = .ok (.iadd, 1) := by decide +kernel
theorem dX9_operate_142 : decode cX9_operate 142 = .ok (.laload, 1) := by decide +kernel
theorem dX9_operate_143 : decode cX9_operate 143 = .ok (.lastore, 1) := by decide +kernel
theorem dX9_operate_144 : decode cX9_operate 144 = .ok (.iinc 4 1, 3) := by decide +kernel
theorem dX9_operate_147 : decode cX9_operate 147 = .ok (.goto (-33), 3) := by decide +kernel
theorem dX9_operate_150 : decode cX9_operate 150 = .ok (.return_, 1) := by decide +kernel
theorem dX9_joinRows_0 : decode cX9_joinRows 0 = .ok (.aload_n 0, 1) := by decide +kernel
theorem dX9_joinRows_1 : decode cX9_joinRows 1 = .ok (.getfield 41, 3) := by decide +kernel
theorem dX9_joinRows_4 : decode cX9_joinRows 4 = .ok (.iload_n 1, 1) := by decide +kernel
theorem dX9_joinRows_5 : decode cX9_joinRows 5 = .ok (.aload_n 0, 1) := by decide +kernel
theorem dX9_joinRows_6 : decode cX9_joinRows 6 = .ok (.getfield 35, 3) := by decide +kernel
theorem dX9_joinRows_9 : decode cX9_joinRows 9 = .ok (.invokestatic 94, 3) := by decide +kernel
theorem dX9_joinRows_12 : decode cX9_joinRows 12 = .ok (.aload_n 0, 1) := by decide +kernel
theorem dX9_joinRows_13 : decode cX9_joinRows 13 = .ok (.getfield 41, 3) := by decide +kernel
theorem dX9_joinRows_16 : decode cX9_joinRows 16 = .ok (.iload_n 2, 1) := by decide +kernel
theorem dX9_joinRows_17 : decode cX9_joinRows 17 = .ok (.aload_n 0, 1) := by decide +kernel
theorem dX9_joinRows_18 : decode cX9_joinRows 18 = .ok (.getfield 38, 3) := by decide +kernel
theorem dX9_joinRows_21 : decode cX9_joinRows 21 = .ok (.invokestatic 94, 3) := by decide +kernel
theorem dX9_joinRows_24 : decode cX9_joinRows 24 = .ok (.iconst 0, 1) := by decide +kernel
theorem dX9_joinRows_25 : decode cX9_joinRows 25 = .ok (.istore_n 3, 1) := by decide +kernel
theorem dX9_joinRows_26 : decode cX9_joinRows 26 = .ok (.iload_n 3, 1) := by decide +kernel
theorem dX9_joinRows_27 : decode cX9_joinRows 27 = .ok (.sipush 4096, 3) := by decide +kernel
theorem dX9_joinRows_30 : decode cX9_joinRows 30 = .ok (.if_icmp .ge 24, 3) := by decide +kernel
theorem dX9_joinRows_33 : decode cX9_joinRows 33 = .ok (.aload_n 0, 1) := by decide +kernel
theorem dX9_joinRows_34 : decode cX9_joinRows 34 = .ok (.getfield 35, 3) := by decide +kernel
theorem dX9_joinRows_37 : decode cX9_joinRows 37 = .ok (.iload_n 3, 1) := by decide +kernel
theorem dX9_joinRows_38 : decode cX9_joinRows 38 = .ok (.dup2, 1) := by decide +kernel
theorem dX9_joinRows_39 : decode cX9_joinRows 39 = .ok (.laload, 1) := by decide +kernel
theorem dX9_joinRows_40 : decode cX9_joinRows 40 = .ok (.aload_n 0, 1) := by decide +kernel
theorem dX9_joinRows_41 : decode cX9_joinRows 41 = .ok (.getfield 38, 3) := by decide +kernel
theorem dX9_joinRows_44 : decode cX9_joinRows 44 = .ok (.iload_n 3, 1) := by decide +kernel
theorem dX9_joinRows_45 : decode cX9_joinRows 45 = .ok (.laload, 1) := by decide +kernel
theorem dX9_joinRows_46 : decode cX9_joinRows 46 = .ok (.lmul, 1) := by decide +kernel
theorem dX9_joinRows_47 : decode cX9_joinRows 47 = .ok (.lastore, 1) := by decide +kernel
theorem dX9_joinRows_48 : decode cX9_joinRows 48 = .ok (.iinc 3 1, 3) := by decide +kernel
theorem dX9_joinRows_51 : decode cX9_joinRows 51 = .ok (.goto (-25), 3) := by decide +kernel
theorem dX9_joinRows_54 : decode cX9_joinRows 54 = .ok (.iconst 0, 1) := by decide +kernel
theorem dX9_joinRows_55 : decode cX9_joinRows 55 = .ok (.istore_n 3, 1) := by decide +kernel
theorem dX9_joinRows_56 : decode cX9_joinRows 56 = .ok (.iload_n 3, 1) := by decide +kernel
theorem dX9_joinRows_57 : decode cX9_joinRows 57 = .ok (.bipush 12, 2) := by decide +kernel
theorem dX9_joinRows_59 : decode cX9_joinRows 59 = .ok (.if_icmp .ge 56, 3) := by decide +kernel
theorem dX9_joinRows_62 : decode cX9_joinRows 62 = .ok (.sipush 4095, 3) := by decide +kernel
theorem dX9_joinRows_65 : decode cX9_joinRows 65 = .ok (.istore 4, 2) := by decide +kernel
theorem dX9_joinRows_67 : decode cX9_joinRows 67 = .ok (.iload 4, 2) := by decide +kernel
theorem dX9_joinRows_69 : decode cX9_joinRows 69 = .ok (.ifCond .lt 40, 3) := by decide +kernel
theorem dX9_joinRows_72 : decode cX9_joinRows 72 = .ok (.iload 4, 2) := by decide +kernel
theorem dX9_joinRows_74 : decode cX9_joinRows 74 = .ok (.iload_n 3, 1) := by decide +kernel
theorem dX9_joinRows_75 : decode cX9_joinRows 75 = .ok (.ishr, 1) := by decide +kernel
theorem dX9_joinRows_76 : decode cX9_joinRows 76 = .ok (.iconst 1, 1) := by decide +kernel
theorem dX9_joinRows_77 : decode cX9_joinRows 77 = .ok (.iand, 1) := by decide +kernel
theorem dX9_joinRows_78 : decode cX9_joinRows 78 = .ok (.iconst 1, 1) := by decide +kernel
theorem dX9_joinRows_79 : decode cX9_joinRows 79 = .ok (.if_icmp .ne 24, 3) := by decide +kernel
theorem dX9_joinRows_82 : decode cX9_joinRows 82 = .ok (.aload_n 0, 1) := by decide +kernel
theorem dX9_joinRows_83 : decode cX9_joinRows 83 = .ok (.getfield 35, 3) := by decide +kernel
theorem dX9_joinRows_86 : decode cX9_joinRows 86 = .ok (.iload 4, 2) := by decide +kernel
theorem dX9_joinRows_88 : decode cX9_joinRows 88 = .ok (.dup2, 1) := by decide +kernel
theorem dX9_joinRows_89 : decode cX9_joinRows 89 = .ok (.laload, 1) := by decide +kernel
theorem dX9_joinRows_90 : decode cX9_joinRows 90 = .ok (.aload_n 0, 1) := by decide +kernel
theorem dX9_joinRows_91 : decode cX9_joinRows 91 = .ok (.getfield 35, 3) := by decide +kernel
theorem dX9_joinRows_94 : decode cX9_joinRows 94 = .ok (.iload 4, 2) := by decide +kernel
theorem dX9_joinRows_96 : decode cX9_joinRows 96 = .ok (.iconst 1, 1) := by decide +kernel
theorem dX9_joinRows_97 : decode cX9_joinRows 97 = .ok (.iload_n 3, 1) := by decide +kernel
theorem dX9_joinRows_98 : decode cX9_joinRows 98 = .ok (.ishl, 1) := by decide +kernel
theorem dX9_joinRows_99 : decode cX9_joinRows 99 = .ok (.isub, 1) := by decide +kernel
theorem dX9_joinRows_100 : decode cX9_joinRows 100 = .ok (.laload, 1) := by decide +kernel
theorem dX9_joinRows_101 : decode cX9_joinRows 101 = .ok (.lsub, 1) := by decide +kernel
theorem dX9_joinRows_102 : decode cX9_joinRows 102 = .ok (.lastore, 1) := by decide +kernel
theorem dX9_joinRows_103 : decode cX9_joinRows 103 = .ok (.iinc 4 (-1), 3) := by decide +kernel
theorem dX9_joinRows_106 : decode cX9_joinRows 106 = .ok (.goto (-39), 3) := by decide +kernel
theorem dX9_joinRows_109 : decode cX9_joinRows 109 = .ok (.iinc 3 1, 3) := by decide +kernel
theorem dX9_joinRows_112 : decode cX9_joinRows 112 = .ok (.goto (-56), 3) := by decide +kernel
theorem dX9_joinRows_115 : decode cX9_joinRows 115 = .ok (.iconst 0, 1) := by decide +kernel
theorem dX9_joinRows_116 : decode cX9_joinRows 116 = .ok (.istore_n 3, 1) := by decide +kernel
theorem dX9_joinRows_117 : decode cX9_joinRows 117 = .ok (.iload_n 3, 1) := by decide +kernel
theorem dX9_joinRows_118 : decode cX9_joinRows 118 = .ok (.sipush 4096, 3) := by decide +kernel
theorem dX9_joinRows_121 : decode cX9_joinRows 121 = .ok (.if_icmp .ge 30, 3) := by decide +kernel
theorem dX9_joinRows_124 : decode cX9_joinRows 124 = .ok (.aload_n 0, 1) := by decide +kernel
theorem dX9_joinRows_125 : decode cX9_joinRows 125 = .ok (.getfield 35, 3) := by decide +kernel
theorem dX9_joinRows_128 : decode cX9_joinRows 128 = .ok (.iload_n 3, 1) := by decide +kernel
theorem dX9_joinRows_129 : decode cX9_joinRows 129 = .ok (.laload, 1) := by decide +kernel
theorem dX9_joinRows_130 : decode cX9_joinRows 130 = .ok (.lconst 0, 1) := by decide +kernel
theorem dX9_joinRows_131 : decode cX9_joinRows 131 = .ok (.lcmp, 1) := by decide +kernel
theorem dX9_joinRows_132 : decode cX9_joinRows 132 = .ok (.ifCond .le 13, 3) := by decide +kernel
theorem dX9_joinRows_135 : decode cX9_joinRows 135 = .ok (.aload_n 0, 1) := by decide +kernel
theorem dX9_joinRows_136 : decode cX9_joinRows 136 = .ok (.getfield 41, 3) := by decide +kernel
theorem dX9_joinRows_139 : decode cX9_joinRows 139 = .ok (.bipush 108, 2) := by decide +kernel
theorem dX9_joinRows_141 : decode cX9_joinRows 141 = .ok (.iload_n 3, 1) := by decide +kernel
theorem dX9_joinRows_142 : decode cX9_joinRows 142 = .ok (.invokestatic 98, 3) := by decide +kernel
theorem dX9_joinRows_145 : decode cX9_joinRows 145 = .ok (.iinc 3 1, 3) := by decide +kernel
theorem dX9_joinRows_148 : decode cX9_joinRows 148 = .ok (.goto (-31), 3) := by decide +kernel
theorem dX9_joinRows_151 : decode cX9_joinRows 151 = .ok (.return_, 1) := by decide +kernel
theorem dX9_meetRows_0 : decode cX9_meetRows 0 = .ok (.aload_n 0, 1) := by decide +kernel
theorem dX9_meetRows_1 : decode cX9_meetRows 1 = .ok (.getfield 41, 3) := by decide +kernel
theorem dX9_meetRows_4 : decode cX9_meetRows 4 = .ok (.iload_n 1, 1) := by decide +kernel
theorem dX9_meetRows_5 : decode cX9_meetRows 5 = .ok (.aload_n 0, 1) := by decide +kernel
theorem dX9_meetRows_6 : decode cX9_meetRows 6 = .ok (.getfield 35, 3) := by decide +kernel
theorem dX9_meetRows_9 : decode cX9_meetRows 9 = .ok (.invokestatic 102, 3) := by decide +kernel
theorem dX9_meetRows_12 : decode cX9_meetRows 12 = .ok (.aload_n 0, 1) := by decide +kernel
theorem dX9_meetRows_13 : decode cX9_meetRows 13 = .ok (.getfield 41, 3) := by decide +kernel
theorem dX9_meetRows_16 : decode cX9_meetRows 16 = .ok (.iload_n 2, 1) := by decide +kernel
theorem dX9_meetRows_17 : decode cX9_meetRows 17 = .ok (.aload_n 0, 1) := by decide +kernel
theorem dX9_meetRows_18 : decode cX9_meetRows 18 = .ok (.getfield 38, 3) := by decide +kernel
theorem dX9_meetRows_21 : decode cX9_meetRows 21 = .ok (.invokestatic 102, 3) := by decide +kernel
theorem dX9_meetRows_24 : decode cX9_meetRows 24 = .ok (.iconst 0, 1) := by decide +kernel
theorem dX9_meetRows_25 : decode cX9_meetRows 25 = .ok (.istore_n 3, 1) := by decide +kernel
theorem dX9_meetRows_26 : decode cX9_meetRows 26 = .ok (.iload_n 3, 1) := by decide +kernel
theorem dX9_meetRows_27 : decode cX9_meetRows 27 = .ok (.sipush 4096, 3) := by decide +kernel
theorem dX9_meetRows_30 : decode cX9_meetRows 30 = .ok (.if_icmp .ge 24, 3) := by decide +kernel
theorem dX9_meetRows_33 : decode cX9_meetRows 33 = .ok (.aload_n 0, 1) := by decide +kernel
theorem dX9_meetRows_34 : decode cX9_meetRows 34 = .ok (.getfield 35, 3) := by decide +kernel
theorem dX9_meetRows_37 : decode cX9_meetRows 37 = .ok (.iload_n 3, 1) := by decide +kernel
theorem dX9_meetRows_38 : decode cX9_meetRows 38 = .ok (.dup2, 1) := by decide +kernel
theorem dX9_meetRows_39 : decode cX9_meetRows 39 = .ok (.laload, 1) := by decide +kernel
theorem dX9_meetRows_40 : decode cX9_meetRows 40 = .ok (.aload_n 0, 1) := by decide +kernel
theorem dX9_meetRows_41 : decode cX9_meetRows 41 = .ok (.getfield 38, 3) := by decide +kernel
theorem dX9_meetRows_44 : decode cX9_meetRows 44 = .ok (.iload_n 3, 1) := by decide +kernel
theorem dX9_meetRows_45 : decode cX9_meetRows 45 = .ok (.laload, 1) := by decide +kernel
theorem dX9_meetRows_46 : decode cX9_meetRows 46 = .ok (.lmul, 1) := by decide +kernel
theorem dX9_meetRows_47 : decode cX9_meetRows 47 = .ok (.lastore, 1) := by decide +kernel
theorem dX9_meetRows_48 : decode cX9_meetRows 48 = .ok (.iinc 3 1, 3) := by decide +kernel
theorem dX9_meetRows_51 : decode cX9_meetRows 51 = .ok (.goto (-25), 3) := by decide +kernel
theorem dX9_meetRows_54 : decode cX9_meetRows 54 = .ok (.iconst 0, 1) := by decide +kernel
theorem dX9_meetRows_55 : decode cX9_meetRows 55 = .ok (.istore_n 3, 1) := by decide +kernel
theorem dX9_meetRows_56 : decode cX9_meetRows 56 = .ok (.iload_n 3, 1) := by decide +kernel
theorem dX9_meetRows_57 : decode cX9_meetRows 57 = .ok (.bipush 12, 2) := by decide +kernel
theorem dX9_meetRows_59 : decode cX9_meetRows 59 = .ok (.if_icmp .ge 56, 3) := by decide +kernel
theorem dX9_meetRows_62 : decode cX9_meetRows 62 = .ok (.iconst 0, 1) := by decide +kernel
theorem dX9_meetRows_63 : decode cX9_meetRows 63 = .ok (.istore 4, 2) := by decide +kernel
theorem dX9_meetRows_65 : decode cX9_meetRows 65 = .ok (.iload 4, 2) := by decide +kernel
theorem dX9_meetRows_67 : decode cX9_meetRows 67 = .ok (.sipush 4096, 3) := by decide +kernel
theorem dX9_meetRows_70 : decode cX9_meetRows 70 = .ok (.if_icmp .ge 39, 3) := by decide +kernel
theorem dX9_meetRows_73 : decode cX9_meetRows 73 = .ok (.iload 4, 2) := by decide +kernel
theorem dX9_meetRows_75 : decode cX9_meetRows 75 = .ok (.iload_n 3, 1) := by decide +kernel
theorem dX9_meetRows_76 : decode cX9_meetRows 76 = .ok (.ishr, 1) := by decide +kernel
theorem dX9_meetRows_77 : decode cX9_meetRows 77 = .ok (.iconst 1, 1) := by decide +kernel
theorem dX9_meetRows_78 : decode cX9_meetRows 78 = .ok (.iand, 1) := by decide +kernel
theorem dX9_meetRows_79 : decode cX9_meetRows 79 = .ok (.ifCond .ne 24, 3) := by decide +kernel
theorem dX9_meetRows_82 : decode cX9_meetRows 82 = .ok (.aload_n 0, 1) := by decide +kernel
theorem dX9_meetRows_83 : decode cX9_meetRows 83 = .ok (.getfield 35, 3) := by decide +kernel
theorem dX9_meetRows_86 : decode cX9_meetRows 86 = .ok (.iload 4, 2) := by decide +kernel
theorem dX9_meetRows_88 : decode cX9_meetRows 88 = .ok (.dup2, 1) := by decide +kernel
theorem dX9_meetRows_89 : decode cX9_meetRows 89 = .ok (.laload, 1) := by decide +kernel
theorem dX9_meetRows_90 : decode cX9_meetRows 90 = .ok (.aload_n 0, 1) := by decide +kernel
theorem dX9_meetRows_91 : decode cX9_meetRows 91 = .ok (.getfield 35, 3) := by decide +kernel
theorem dX9_meetRows_94 : decode cX9_meetRows 94 = .ok (.iload 4, 2) := by decide +kernel
theorem dX9_meetRows_96 : decode cX9_meetRows 96 = .ok (.iconst 1, 1) := by decide +kernel
theorem dX9_meetRows_97 : decode cX9_meetRows 97 = .ok (.iload_n 3, 1) := by decide +kernel
theorem dX9_meetRows_98 : decode cX9_meetRows 98 = .ok (.ishl, 1) := by decide +kernel
theorem dX9_meetRows_99 : decode cX9_meetRows 99 = .ok (.iadd, 1) := by decide +kernel
theorem dX9_meetRows_100 : decode cX9_meetRows 100 = .ok (.laload, 1) := by decide +kernel
theorem dX9_meetRows_101 : decode cX9_meetRows 101 = .ok (.lsub, 1) := by decide +kernel
theorem dX9_meetRows_102 : decode cX9_meetRows 102 = .ok (.lastore, 1) := by decide +kernel
theorem dX9_meetRows_103 : decode cX9_meetRows 103 = .ok (.iinc 4 1, 3) := by decide +kernel
theorem dX9_meetRows_106 : decode cX9_meetRows 106 = .ok (.goto (-41), 3) := by decide +kernel
theorem dX9_meetRows_109 : decode cX9_meetRows 109 = .ok (.iinc 3 1, 3) := by decide +kernel
theorem dX9_meetRows_112 : decode cX9_meetRows 112 = .ok (.goto (-56), 3) := by decide +kernel
theorem dX9_meetRows_115 : decode cX9_meetRows 115 = .ok (.iconst 0, 1) := by decide +kernel
theorem dX9_meetRows_116 : decode cX9_meetRows 116 = .ok (.istore_n 3, 1) := by decide +kernel
theorem dX9_meetRows_117 : decode cX9_meetRows 117 = .ok (.iload_n 3, 1) := by decide +kernel
theorem dX9_meetRows_118 : decode cX9_meetRows 118 = .ok (.sipush 4096, 3) := by decide +kernel
theorem dX9_meetRows_121 : decode cX9_meetRows 121 = .ok (.if_icmp .ge 30, 3) := by decide +kernel
theorem dX9_meetRows_124 : decode cX9_meetRows 124 = .ok (.aload_n 0, 1) := by decide +kernel
theorem dX9_meetRows_125 : decode cX9_meetRows 125 = .ok (.getfield 35, 3) := by decide +kernel
theorem dX9_meetRows_128 : decode cX9_meetRows 128 = .ok (.iload_n 3, 1) := by decide +kernel
theorem dX9_meetRows_129 : decode cX9_meetRows 129 = .ok (.laload, 1) := by decide +kernel
theorem dX9_meetRows_130 : decode cX9_meetRows 130 = .ok (.lconst 0, 1) := by decide +kernel
theorem dX9_meetRows_131 : decode cX9_meetRows 131 = .ok (.lcmp, 1) := by decide +kernel
theorem dX9_meetRows_132 : decode cX9_meetRows 132 = .ok (.ifCond .le 13, 3) := by decide +kernel
theorem dX9_meetRows_135 : decode cX9_meetRows 135 = .ok (.aload_n 0, 1) := by decide +kernel
theorem dX9_meetRows_136 : decode cX9_meetRows 136 = .ok (.getfield 41, 3) := by decide +kernel
theorem dX9_meetRows_139 : decode cX9_meetRows 139 = .ok (.bipush 108, 2) := by decide +kernel
theorem dX9_meetRows_141 : decode cX9_meetRows 141 = .ok (.iload_n 3, 1) := by decide +kernel
theorem dX9_meetRows_142 : decode cX9_meetRows 142 = .ok (.invokestatic 98, 3) := by decide +kernel
theorem dX9_meetRows_145 : decode cX9_meetRows 145 = .ok (.iinc 3 1, 3) := by decide +kernel
theorem dX9_meetRows_148 : decode cX9_meetRows 148 = .ok (.goto (-31), 3) := by decide +kernel
theorem dX9_meetRows_151 : decode cX9_meetRows 151 = .ok (.return_, 1) := by decide +kernel
theorem dX9_divideRows_0 : decode cX9_divideRows 0 = .ok (.iconst 0, 1) := by decide +kernel
theorem dX9_divideRows_1 : decode cX9_divideRows 1 = .ok (.istore_n 3, 1) := by decide +kernel
theorem dX9_divideRows_2 : decode cX9_divideRows 2 = .ok (.iload_n 3, 1) := by decide +kernel
theorem dX9_divideRows_3 : decode cX9_divideRows 3 = .ok (.sipush 4096, 3) := by decide +kernel
theorem dX9_divideRows_6 : decode cX9_divideRows 6 = .ok (.if_icmp .ge 91, 3) := by decide +kernel
theorem dX9_divideRows_9 : decode cX9_divideRows 9 = .ok (.iconst 1, 1) := by decide +kernel
theorem dX9_divideRows_10 : decode cX9_divideRows 10 = .ok (.istore 4, 2) := by decide +kernel
theorem dX9_divideRows_12 : decode cX9_divideRows 12 = .ok (.iconst 0, 1) := by decide +kernel
theorem dX9_divideRows_13 : decode cX9_divideRows 13 = .ok (.istore 5, 2) := by decide +kernel
theorem dX9_divideRows_15 : decode cX9_divideRows 15 = .ok (.iload 5, 2) := by decide +kernel
theorem dX9_divideRows_17 : decode cX9_divideRows 17 = .ok (.sipush 4096, 3) := by decide +kernel
theorem dX9_divideRows_20 : decode cX9_divideRows 20 = .ok (.if_icmp .ge 56, 3) := by decide +kernel
theorem dX9_divideRows_23 : decode cX9_divideRows 23 = .ok (.iload 4, 2) := by decide +kernel
theorem dX9_divideRows_25 : decode cX9_divideRows 25 = .ok (.ifCond .eq 51, 3) := by decide +kernel
theorem dX9_divideRows_28 : decode cX9_divideRows 28 = .ok (.aload_n 0, 1) := by decide +kernel
theorem dX9_divideRows_29 : decode cX9_divideRows 29 = .ok (.getfield 41, 3) := by decide +kernel
theorem dX9_divideRows_32 : decode cX9_divideRows 32 = .ok (.iload_n 2, 1) := by decide +kernel
theorem dX9_divideRows_33 : decode cX9_divideRows 33 = .ok (.iload 5, 2) := by decide +kernel
theorem dX9_divideRows_35 : decode cX9_divideRows 35 = .ok (.invokestatic 65, 3) := by decide +kernel
theorem dX9_divideRows_38 : decode cX9_divideRows 38 = .ok (.ifCond .eq 25, 3) := by decide +kernel
theorem dX9_divideRows_41 : decode cX9_divideRows 41 = .ok (.iload_n 3, 1) := by decide +kernel
theorem dX9_divideRows_42 : decode cX9_divideRows 42 = .ok (.iload 5, 2) := by decide +kernel
theorem dX9_divideRows_44 : decode cX9_divideRows 44 = .ok (.iand, 1) := by decide +kernel
theorem dX9_divideRows_45 : decode cX9_divideRows 45 = .ok (.ifCond .ne 22, 3) := by decide +kernel
theorem dX9_divideRows_48 : decode cX9_divideRows 48 = .ok (.aload_n 0, 1) := by decide +kernel
theorem dX9_divideRows_49 : decode cX9_divideRows 49 = .ok (.getfield 41, 3) := by decide +kernel
theorem dX9_divideRows_52 : decode cX9_divideRows 52 = .ok (.iload_n 1, 1) := by decide +kernel
theorem dX9_divideRows_53 : decode cX9_divideRows 53 = .ok (.iload_n 3, 1) := by decide +kernel
theorem dX9_divideRows_54 : decode cX9_divideRows 54 = .ok (.iload 5, 2) := by decide +kernel
theorem dX9_divideRows_56 : decode cX9_divideRows 56 = .ok (.ior, 1) := by decide +kernel
theorem dX9_divideRows_57 : decode cX9_divideRows 57 = .ok (.invokestatic 65, 3) := by decide +kernel
theorem dX9_divideRows_60 : decode cX9_divideRows 60 = .ok (.ifCond .eq 7, 3) := by decide +kernel
theorem dX9_divideRows_63 : decode cX9_divideRows 63 = .ok (.iconst 1, 1) := by decide +kernel
theorem dX9_divideRows_64 : decode cX9_divideRows 64 = .ok (.goto 4, 3) := by decide +kernel
theorem dX9_divideRows_67 : decode cX9_divideRows 67 = .ok (.iconst 0, 1) := by decide +kernel
theorem dX9_divideRows_68 : decode cX9_divideRows 68 = .ok (.istore 4, 2) := by decide +kernel
theorem dX9_divideRows_70 : decode cX9_divideRows 70 = .ok (.iinc 5 1, 3) := by decide +kernel
theorem dX9_divideRows_73 : decode cX9_divideRows 73 = .ok (.goto (-58), 3) := by decide +kernel
theorem dX9_divideRows_76 : decode cX9_divideRows 76 = .ok (.iload 4, 2) := by decide +kernel
theorem dX9_divideRows_78 : decode cX9_divideRows 78 = .ok (.ifCond .eq 13, 3) := by decide +kernel
theorem dX9_divideRows_81 : decode cX9_divideRows 81 = .ok (.aload_n 0, 1) := by decide +kernel
theorem dX9_divideRows_82 : decode cX9_divideRows 82 = .ok (.getfield 41, 3) := by decide +kernel
theorem dX9_divideRows_85 : decode cX9_divideRows 85 = .ok (.bipush 108, 2) := by decide +kernel
theorem dX9_divideRows_87 : decode cX9_divideRows 87 = .ok (.iload_n 3, 1) := by decide +kernel
theorem dX9_divideRows_88 : decode cX9_divideRows 88 = .ok (.invokestatic 98, 3) := by decide +kernel
theorem dX9_divideRows_91 : decode cX9_divideRows 91 = .ok (.iinc 3 1, 3) := by decide +kernel
theorem dX9_divideRows_94 : decode cX9_divideRows 94 = .ok (.goto (-92), 3) := by decide +kernel
theorem dX9_divideRows_97 : decode cX9_divideRows 97 = .ok (.return_, 1) := by decide +kernel
theorem dX9_restRows_0 : decode cX9_restRows 0 = .ok (.aload_n 0, 1) := by decide +kernel
theorem dX9_restRows_1 : decode cX9_restRows 1 = .ok (.iload_n 1, 1) := by decide +kernel
theorem dX9_restRows_2 : decode cX9_restRows 2 = .ok (.iload_n 2, 1) := by decide +kernel
theorem dX9_restRows_3 : decode cX9_restRows 3 = .ok (.invokevirtual 80, 3) := by decide +kernel
theorem dX9_restRows_6 : decode cX9_restRows 6 = .ok (.iconst 0, 1) := by decide +kernel
theorem dX9_restRows_7 : decode cX9_restRows 7 = .ok (.istore_n 3, 1) := by decide +kernel
theorem dX9_restRows_8 : decode cX9_restRows 8 = .ok (.iload_n 3, 1) := by decide +kernel
theorem dX9_restRows_9 : decode cX9_restRows 9 = .ok (.bipush 64, 2) := by decide +kernel
theorem dX9_restRows_11 : decode cX9_restRows 11 = .ok (.if_icmp .ge 40, 3) := by decide +kernel
theorem dX9_restRows_14 : decode cX9_restRows 14 = .ok (.aload_n 0, 1) := by decide +kernel
theorem dX9_restRows_15 : decode cX9_restRows 15 = .ok (.getfield 41, 3) := by decide +kernel
theorem dX9_restRows_18 : decode cX9_restRows 18 = .ok (.sipush 6976, 3) := by decide +kernel
theorem dX9_restRows_21 : decode cX9_restRows 21 = .ok (.iload_n 3, 1) := by decide +kernel
theorem dX9_restRows_22 : decode cX9_restRows 22 = .ok (.iadd, 1) := by decide +kernel
theorem dX9_restRows_23 : decode cX9_restRows 23 = .ok (.aload_n 0, 1) := by decide +kernel
theorem dX9_restRows_24 : decode cX9_restRows 24 = .ok (.getfield 41, 3) := by decide +kernel
theorem dX9_restRows_27 : decode cX9_restRows 27 = .ok (.sipush 6912, 3) := by decide +kernel
theorem dX9_restRows_30 : decode cX9_restRows 30 = .ok (.iload_n 3, 1) := by decide +kernel
theorem dX9_restRows_31 : decode cX9_restRows 31 = .ok (.iadd, 1) := by decide +kernel
theorem dX9_restRows_32 : decode cX9_restRows 32 = .ok (.laload, 1) := by decide +kernel
theorem dX9_restRows_33 : decode cX9_restRows 33 = .ok (.lastore, 1) := by decide +kernel
theorem dX9_restRows_34 : decode cX9_restRows 34 = .ok (.aload_n 0, 1) := by decide +kernel
theorem dX9_restRows_35 : decode cX9_restRows 35 = .ok (.getfield 41, 3) := by decide +kernel
theorem dX9_restRows_38 : decode cX9_restRows 38 = .ok (.sipush 6912, 3) := by decide +kernel
theorem dX9_restRows_41 : decode cX9_restRows 41 = .ok (.iload_n 3, 1) := by decide +kernel
theorem dX9_restRows_42 : decode cX9_restRows 42 = .ok (.iadd, 1) := by decide +kernel
theorem dX9_restRows_43 : decode cX9_restRows 43 = .ok (.lconst 0, 1) := by decide +kernel
theorem dX9_restRows_44 : decode cX9_restRows 44 = .ok (.lastore, 1) := by decide +kernel
theorem dX9_restRows_45 : decode cX9_restRows 45 = .ok (.iinc 3 1, 3) := by decide +kernel
theorem dX9_restRows_48 : decode cX9_restRows 48 = .ok (.goto (-40), 3) := by decide +kernel
theorem dX9_restRows_51 : decode cX9_restRows 51 = .ok (.aload_n 0, 1) := by decide +kernel
theorem dX9_restRows_52 : decode cX9_restRows 52 = .ok (.bipush 109, 2) := by decide +kernel
theorem dX9_restRows_54 : decode cX9_restRows 54 = .ok (.iload_n 2, 1) := by decide +kernel
theorem dX9_restRows_55 : decode cX9_restRows 55 = .ok (.invokevirtual 73, 3) := by decide +kernel
theorem dX9_restRows_58 : decode cX9_restRows 58 = .ok (.iconst 0, 1) := by decide +kernel
theorem dX9_restRows_59 : decode cX9_restRows 59 = .ok (.istore_n 3, 1) := by decide +kernel
theorem dX9_restRows_60 : decode cX9_restRows 60 = .ok (.iload_n 3, 1) := by decide +kernel
theorem dX9_restRows_61 : decode cX9_restRows 61 = .ok (.bipush 64, 2) := by decide +kernel
theorem dX9_restRows_63 : decode cX9_restRows 63 = .ok (.if_icmp .ge 45, 3) := by decide +kernel
theorem dX9_restRows_66 : decode cX9_restRows 66 = .ok (.aload_n 0, 1) := by decide +kernel
theorem dX9_restRows_67 : decode cX9_restRows 67 = .ok (.getfield 41, 3) := by decide +kernel
theorem dX9_restRows_70 : decode cX9_restRows 70 = .ok (.sipush 6912, 3) := by decide +kernel
theorem dX9_restRows_73 : decode cX9_restRows 73 = .ok (.iload_n 3, 1) := by decide +kernel
theorem dX9_restRows_74 : decode cX9_restRows 74 = .ok (.iadd, 1) := by decide +kernel
theorem dX9_restRows_75 : decode cX9_restRows 75 = .ok (.aload_n 0, 1) := by decide +kernel
theorem dX9_restRows_76 : decode cX9_restRows 76 = .ok (.getfield 41, 3) := by decide +kernel
theorem dX9_restRows_79 : decode cX9_restRows 79 = .ok (.bipush 64, 2) := by decide +kernel
theorem dX9_restRows_81 : decode cX9_restRows 81 = .ok (.iload_n 1, 1) := by decide +kernel
theorem dX9_restRows_82 : decode cX9_restRows 82 = .ok (.imul, 1) := by decide +kernel
theorem dX9_restRows_83 : decode cX9_restRows 83 = .ok (.iload_n 3, 1) := by decide +kernel
theorem dX9_restRows_84 : decode cX9_restRows 84 = .ok (.iadd, 1) := by decide +kernel
theorem dX9_restRows_85 : decode cX9_restRows 85 = .ok (.laload, 1) := by decide +kernel
theorem dX9_restRows_86 : decode cX9_restRows 86 = .ok (.aload_n 0, 1) := by decide +kernel
theorem dX9_restRows_87 : decode cX9_restRows 87 = .ok (.getfield 41, 3) := by decide +kernel
theorem dX9_restRows_90 : decode cX9_restRows 90 = .ok (.sipush 6912, 3) := by decide +kernel
theorem dX9_restRows_93 : decode cX9_restRows 93 = .ok (.iload_n 3, 1) := by decide +kernel
theorem dX9_restRows_94 : decode cX9_restRows 94 = .ok (.iadd, 1) := by decide +kernel
theorem dX9_restRows_95 : decode cX9_restRows 95 = .ok (.laload, 1) := by decide +kernel
theorem dX9_restRows_96 : decode cX9_restRows 96 = .ok (.ldc2_w 105, 3) := by decide +kernel
theorem dX9_restRows_99 : decode cX9_restRows 99 = .ok (.lxor, 1) := by decide +kernel
theorem dX9_restRows_100 : decode cX9_restRows 100 = .ok (.land, 1) := by decide +kernel
theorem dX9_restRows_101 : decode cX9_restRows 101 = .ok (.lastore, 1) := by decide +kernel
theorem dX9_restRows_102 : decode cX9_restRows 102 = .ok (.iinc 3 1, 3) := by decide +kernel
theorem dX9_restRows_105 : decode cX9_restRows 105 = .ok (.goto (-45), 3) := by decide +kernel
theorem dX9_restRows_108 : decode cX9_restRows 108 = .ok (.return_, 1) := by decide +kernel
theorem dX9_hit_0 : decode cX9_hit 0 = .ok (.aload_n 0, 1) := by decide +kernel
theorem dX9_hit_1 : decode cX9_hit 1 = .ok (.getfield 41, 3) := by decide +kernel
theorem dX9_hit_4 : decode cX9_hit 4 = .ok (.iload_n 1, 1) := by decide +kernel
theorem dX9_hit_5 : decode cX9_hit 5 = .ok (.aload_n 0, 1) := by decide +kernel
theorem dX9_hit_6 : decode cX9_hit 6 = .ok (.getfield 35, 3) := by decide +kernel
theorem dX9_hit_9 : decode cX9_hit 9 = .ok (.invokestatic 94, 3) := by decide +kernel
theorem dX9_hit_12 : decode cX9_hit 12 = .ok (.aload_n 0, 1) := by decide +kernel
theorem dX9_hit_13 : decode cX9_hit 13 = .ok (.getfield 41, 3) := by decide +kernel
theorem dX9_hit_16 : decode cX9_hit 16 = .ok (.bipush 109, 2) := by decide +kernel
theorem dX9_hit_18 : decode cX9_hit 18 = .ok (.invokestatic 69, 3) := by decide +kernel
theorem dX9_hit_21 : decode cX9_hit 21 = .ok (.iconst 0, 1) := by decide +kernel
theorem dX9_hit_22 : decode cX9_hit 22 = .ok (.istore_n 2, 1) := by decide +kernel
theorem dX9_hit_23 : decode cX9_hit 23 = .ok (.iload_n 2, 1) := by decide +kernel
theorem dX9_hit_24 : decode cX9_hit 24 = .ok (.sipush 4096, 3) := by decide +kernel
theorem dX9_hit_27 : decode cX9_hit 27 = .ok (.if_icmp .ge 34, 3) := by decide +kernel
theorem dX9_hit_30 : decode cX9_hit 30 = .ok (.aload_n 0, 1) := by decide +kernel
theorem dX9_hit_31 : decode cX9_hit 31 = .ok (.getfield 35, 3) := by decide +kernel
theorem dX9_hit_34 : decode cX9_hit 34 = .ok (.sipush 4095, 3) := by decide +kernel
theorem dX9_hit_37 : decode cX9_hit 37 = .ok (.iload_n 2, 1) := by decide +kernel
theorem dX9_hit_38 : decode cX9_hit 38 = .ok (.isub, 1) := by decide +kernel
theorem dX9_hit_39 : decode cX9_hit 39 = .ok (.laload, 1) := by decide +kernel
theorem dX9_hit_40 : decode cX9_hit 40 = .ok (.lconst 0, 1) := by decide +kernel
theorem dX9_hit_41 : decode cX9_hit 41 = .ok (.lcmp, 1) := by decide +kernel
theorem dX9_hit_42 : decode cX9_hit 42 = .ok (.ifCond .ne 13, 3) := by decide +kernel
theorem dX9_hit_45 : decode cX9_hit 45 = .ok (.aload_n 0, 1) := by decide +kernel
theorem dX9_hit_46 : decode cX9_hit 46 = .ok (.getfield 41, 3) := by decide +kernel
theorem dX9_hit_49 : decode cX9_hit 49 = .ok (.bipush 109, 2) := by decide +kernel
theorem dX9_hit_51 : decode cX9_hit 51 = .ok (.iload_n 2, 1) := by decide +kernel
theorem dX9_hit_52 : decode cX9_hit 52 = .ok (.invokestatic 98, 3) := by decide +kernel
theorem dX9_hit_55 : decode cX9_hit 55 = .ok (.iinc 2 1, 3) := by decide +kernel
theorem dX9_hit_58 : decode cX9_hit 58 = .ok (.goto (-35), 3) := by decide +kernel
theorem dX9_hit_61 : decode cX9_hit 61 = .ok (.aload_n 0, 1) := by decide +kernel
theorem dX9_hit_62 : decode cX9_hit 62 = .ok (.getfield 41, 3) := by decide +kernel
theorem dX9_hit_65 : decode cX9_hit 65 = .ok (.bipush 109, 2) := by decide +kernel
theorem dX9_hit_67 : decode cX9_hit 67 = .ok (.aload_n 0, 1) := by decide +kernel
theorem dX9_hit_68 : decode cX9_hit 68 = .ok (.getfield 35, 3) := by decide +kernel
theorem dX9_hit_71 : decode cX9_hit 71 = .ok (.invokestatic 94, 3) := by decide +kernel
theorem dX9_hit_74 : decode cX9_hit 74 = .ok (.iconst 0, 1) := by decide +kernel
theorem dX9_hit_75 : decode cX9_hit 75 = .ok (.istore_n 2, 1) := by decide +kernel
theorem dX9_hit_76 : decode cX9_hit 76 = .ok (.iload_n 2, 1) := by decide +kernel
theorem dX9_hit_77 : decode cX9_hit 77 = .ok (.sipush 4096, 3) := by decide +kernel
theorem dX9_hit_80 : decode cX9_hit 80 = .ok (.if_icmp .ge 43, 3) := by decide +kernel
theorem dX9_hit_83 : decode cX9_hit 83 = .ok (.aload_n 0, 1) := by decide +kernel
theorem dX9_hit_84 : decode cX9_hit 84 = .ok (.getfield 41, 3) := by decide +kernel
theorem dX9_hit_87 : decode cX9_hit 87 = .ok (.bipush 109, 2) := by decide +kernel
theorem dX9_hit_89 : decode cX9_hit 89 = .ok (.iload_n 2, 1) := by decide +kernel
theorem dX9_hit_90 : decode cX9_hit 90 = .ok (.invokestatic 65, 3) := by decide +kernel
theorem dX9_hit_93 : decode cX9_hit 93 = .ok (.ifCond .eq 24, 3) := by decide +kernel
theorem dX9_hit_96 : decode cX9_hit 96 = .ok (.aload_n 0, 1) := by decide +kernel
theorem dX9_hit_97 : decode cX9_hit 97 = .ok (.getfield 35, 3) := by decide +kernel
theorem dX9_hit_100 : decode cX9_hit 100 = .ok (.iload_n 2, 1) := by decide +kernel
theorem dX9_hit_101 : decode cX9_hit 101 = .ok (.laload, 1) := by decide +kernel
theorem dX9_hit_102 : decode cX9_hit 102 = .ok (.lconst 1, 1) := by decide +kernel
theorem dX9_hit_103 : decode cX9_hit 103 = .ok (.lcmp, 1) := by decide +kernel
theorem dX9_hit_104 : decode cX9_hit 104 = .ok (.ifCond .ne 13, 3) := by decide +kernel
theorem dX9_hit_107 : decode cX9_hit 107 = .ok (.aload_n 0, 1) := by decide +kernel
theorem dX9_hit_108 : decode cX9_hit 108 = .ok (.getfield 41, 3) := by decide +kernel
theorem dX9_hit_111 : decode cX9_hit 111 = .ok (.bipush 108, 2) := by decide +kernel
theorem dX9_hit_113 : decode cX9_hit 113 = .ok (.iload_n 2, 1) := by decide +kernel
theorem dX9_hit_114 : decode cX9_hit 114 = .ok (.invokestatic 98, 3) := by decide +kernel
theorem dX9_hit_117 : decode cX9_hit 117 = .ok (.iinc 2 1, 3) := by decide +kernel
theorem dX9_hit_120 : decode cX9_hit 120 = .ok (.goto (-44), 3) := by decide +kernel
theorem dX9_hit_123 : decode cX9_hit 123 = .ok (.return_, 1) := by decide +kernel
theorem dX9_filter_0 : decode cX9_filter 0 = .ok (.iload_n 1, 1) := by decide +kernel
theorem dX9_filter_1 : decode cX9_filter 1 = .ok (.bipush 8, 2) := by decide +kernel
theorem dX9_filter_3 : decode cX9_filter 3 = .ok (.if_icmp .ne 15, 3) := by decide +kernel
theorem dX9_filter_6 : decode cX9_filter 6 = .ok (.aload_n 0, 1) := by decide +kernel
theorem dX9_filter_7 : decode cX9_filter 7 = .ok (.getfield 41, 3) := by decide +kernel
theorem dX9_filter_10 : decode cX9_filter 10 = .ok (.iload_n 3, 1) := by decide +kernel
theorem dX9_filter_11 : decode cX9_filter 11 = .ok (.aload_n 0, 1) := by decide +kernel
theorem dX9_filter_12 : decode cX9_filter 12 = .ok (.getfield 38, 3) := by decide +kernel
theorem dX9_filter_15 : decode cX9_filter 15 = .ok (.invokestatic 94, 3) := by decide +kernel
theorem dX9_filter_18 : decode cX9_filter 18 = .ok (.iload_n 1, 1) := by decide +kernel
theorem dX9_filter_19 : decode cX9_filter 19 = .ok (.bipush 9, 2) := by decide +kernel
theorem dX9_filter_21 : decode cX9_filter 21 = .ok (.if_icmp .ne 15, 3) := by decide +kernel
theorem dX9_filter_24 : decode cX9_filter 24 = .ok (.aload_n 0, 1) := by decide +kernel
theorem dX9_filter_25 : decode cX9_filter 25 = .ok (.getfield 41, 3) := by decide +kernel
theorem dX9_filter_28 : decode cX9_filter 28 = .ok (.iload_n 3, 1) := by decide +kernel
theorem dX9_filter_29 : decode cX9_filter 29 = .ok (.aload_n 0, 1) := by decide +kernel
theorem dX9_filter_30 : decode cX9_filter 30 = .ok (.getfield 38, 3) := by decide +kernel
theorem dX9_filter_33 : decode cX9_filter 33 = .ok (.invokestatic 102, 3) := by decide +kernel
theorem dX9_filter_36 : decode cX9_filter 36 = .ok (.iload_n 1, 1) := by decide +kernel
theorem dX9_filter_37 : decode cX9_filter 37 = .ok (.bipush 11, 2) := by decide +kernel
theorem dX9_filter_39 : decode cX9_filter 39 = .ok (.if_icmp .ne 15, 3) := by decide +kernel
theorem dX9_filter_42 : decode cX9_filter 42 = .ok (.aload_n 0, 1) := by decide +kernel
theorem dX9_filter_43 : decode cX9_filter 43 = .ok (.getfield 41, 3) := by decide +kernel
theorem dX9_filter_46 : decode cX9_filter 46 = .ok (.iload_n 2, 1) := by decide +kernel
theorem dX9_filter_47 : decode cX9_filter 47 = .ok (.aload_n 0, 1) := by decide +kernel
theorem dX9_filter_48 : decode cX9_filter 48 = .ok (.getfield 35, 3) := by decide +kernel
theorem dX9_filter_51 : decode cX9_filter 51 = .ok (.invokestatic 94, 3) := by decide +kernel
theorem dX9_filter_54 : decode cX9_filter 54 = .ok (.iload_n 1, 1) := by decide +kernel
theorem dX9_filter_55 : decode cX9_filter 55 = .ok (.bipush 10, 2) := by decide +kernel
theorem dX9_filter_57 : decode cX9_filter 57 = .ok (.if_icmp .eq 9, 3) := by decide +kernel
theorem dX9_filter_60 : decode cX9_filter 60 = .ok (.iload_n 1, 1) := by decide +kernel
theorem dX9_filter_61 : decode cX9_filter 61 = .ok (.bipush 13, 2) := by decide +kernel
theorem dX9_filter_63 : decode cX9_filter 63 = .ok (.if_icmp .ne 15, 3) := by decide +kernel
theorem dX9_filter_66 : decode cX9_filter 66 = .ok (.aload_n 0, 1) := by decide +kernel
theorem dX9_filter_67 : decode cX9_filter 67 = .ok (.getfield 41, 3) := by decide +kernel
theorem dX9_filter_70 : decode cX9_filter 70 = .ok (.iload_n 2, 1) := by decide +kernel
theorem dX9_filter_71 : decode cX9_filter 71 = .ok (.aload_n 0, 1) := by decide +kernel
theorem dX9_filter_72 : decode cX9_filter 72 = .ok (.getfield 35, 3) := by decide +kernel
theorem dX9_filter_75 : decode cX9_filter 75 = .ok (.invokestatic 102, 3) := by decide +kernel
theorem dX9_filter_78 : decode cX9_filter 78 = .ok (.iconst 0, 1) := by decide +kernel
theorem dX9_filter_79 : decode cX9_filter 79 = .ok (.istore 4, 2) := by decide +kernel
theorem dX9_filter_81 : decode cX9_filter 81 = .ok (.iload 4, 2) := by decide +kernel
theorem dX9_filter_83 : decode cX9_filter 83 = .ok (.sipush 4096, 3) := by decide +kernel
theorem dX9_filter_86 : decode cX9_filter 86 = .ok (.if_icmp .ge 50, 3) := by decide +kernel
theorem dX9_filter_89 : decode cX9_filter 89 = .ok (.aload_n 0, 1) := by decide +kernel
theorem dX9_filter_90 : decode cX9_filter 90 = .ok (.iload_n 1, 1) := by decide +kernel
theorem dX9_filter_91 : decode cX9_filter 91 = .ok (.iload 4, 2) := by decide +kernel
theorem dX9_filter_93 : decode cX9_filter 93 = .ok (.aload_n 0, 1) := by decide +kernel
theorem dX9_filter_94 : decode cX9_filter 94 = .ok (.getfield 41, 3) := by decide +kernel
theorem dX9_filter_97 : decode cX9_filter 97 = .ok (.iload_n 2, 1) := by decide +kernel
theorem dX9_filter_98 : decode cX9_filter 98 = .ok (.iload 4, 2) := by decide +kernel
theorem dX9_filter_100 : decode cX9_filter 100 = .ok (.invokestatic 65, 3) := by decide +kernel
theorem dX9_filter_103 : decode cX9_filter 103 = .ok (.aload_n 0, 1) := by decide +kernel
theorem dX9_filter_104 : decode cX9_filter 104 = .ok (.getfield 41, 3) := by decide +kernel
theorem dX9_filter_107 : decode cX9_filter 107 = .ok (.iload_n 3, 1) := by decide +kernel
theorem dX9_filter_108 : decode cX9_filter 108 = .ok (.iload 4, 2) := by decide +kernel
theorem dX9_filter_110 : decode cX9_filter 110 = .ok (.invokestatic 65, 3) := by decide +kernel
theorem dX9_filter_113 : decode cX9_filter 113 = .ok (.invokevirtual 107, 3) := by decide +kernel
theorem dX9_filter_116 : decode cX9_filter 116 = .ok (.ifCond .eq 14, 3) := by decide +kernel
theorem dX9_filter_119 : decode cX9_filter 119 = .ok (.aload_n 0, 1) := by decide +kernel
theorem dX9_filter_120 : decode cX9_filter 120 = .ok (.getfield 41, 3) := by decide +kernel
theorem dX9_filter_123 : decode cX9_filter 123 = .ok (.bipush 108, 2) := by decide +kernel
theorem dX9_filter_125 : decode cX9_filter 125 = .ok (.iload 4, 2) := by decide +kernel
theorem dX9_filter_127 : decode cX9_filter 127 = .ok (.invokestatic 98, 3) := by decide +kernel
theorem dX9_filter_130 : decode cX9_filter 130 = .ok (.iinc 4 1, 3) := by decide +kernel
theorem dX9_filter_133 : decode cX9_filter 133 = .ok (.goto (-52), 3) := by decide +kernel
theorem dX9_filter_136 : decode cX9_filter 136 = .ok (.return_, 1) := by decide +kernel
theorem dX9_isKept_0 : decode cX9_isKept 0 = .ok (.iload_n 1, 1) := by decide +kernel
theorem dX9_isKept_1 : decode cX9_isKept 1 = .ok (.tableswitch 150 1 13 #[67, 82, 97, 150, 150, 150, 150, 129, 129, 150, 150, 150, 112], 67) := by decide +kernel
theorem dX9_isKept_68 : decode cX9_isKept 68 = .ok (.iload_n 3, 1) := by decide +kernel
theorem dX9_isKept_69 : decode cX9_isKept 69 = .ok (.ifCond .ne 8, 3) := by decide +kernel
theorem dX9_isKept_72 : decode cX9_isKept 72 = .ok (.iload 4, 2) := by decide +kernel
theorem dX9_isKept_74 : decode cX9_isKept 74 = .ok (.ifCond .eq 7, 3) := by decide +kernel
theorem dX9_isKept_77 : decode cX9_isKept 77 = .ok (.iconst 1, 1) := by decide +kernel
theorem dX9_isKept_78 : decode cX9_isKept 78 = .ok (.goto 4, 3) := by decide +kernel
theorem dX9_isKept_81 : decode cX9_isKept 81 = .ok (.iconst 0, 1) := by decide +kernel
theorem dX9_isKept_82 : decode cX9_isKept 82 = .ok (.ireturn, 1) := by decide +kernel
theorem dX9_isKept_83 : decode cX9_isKept 83 = .ok (.iload_n 3, 1) := by decide +kernel
theorem dX9_isKept_84 : decode cX9_isKept 84 = .ok (.ifCond .eq 12, 3) := by decide +kernel
theorem dX9_isKept_87 : decode cX9_isKept 87 = .ok (.iload 4, 2) := by decide +kernel
theorem dX9_isKept_89 : decode cX9_isKept 89 = .ok (.ifCond .ne 7, 3) := by decide +kernel
theorem dX9_isKept_92 : decode cX9_isKept 92 = .ok (.iconst 1, 1) := by decide +kernel
theorem dX9_isKept_93 : decode cX9_isKept 93 = .ok (.goto 4, 3) := by decide +kernel
theorem dX9_isKept_96 : decode cX9_isKept 96 = .ok (.iconst 0, 1) := by decide +kernel
theorem dX9_isKept_97 : decode cX9_isKept 97 = .ok (.ireturn, 1) := by decide +kernel
theorem dX9_isKept_98 : decode cX9_isKept 98 = .ok (.iload_n 3, 1) := by decide +kernel
theorem dX9_isKept_99 : decode cX9_isKept 99 = .ok (.ifCond .eq 12, 3) := by decide +kernel
theorem dX9_isKept_102 : decode cX9_isKept 102 = .ok (.iload 4, 2) := by decide +kernel
theorem dX9_isKept_104 : decode cX9_isKept 104 = .ok (.ifCond .eq 7, 3) := by decide +kernel
theorem dX9_isKept_107 : decode cX9_isKept 107 = .ok (.iconst 1, 1) := by decide +kernel
theorem dX9_isKept_108 : decode cX9_isKept 108 = .ok (.goto 4, 3) := by decide +kernel
theorem dX9_isKept_111 : decode cX9_isKept 111 = .ok (.iconst 0, 1) := by decide +kernel
theorem dX9_isKept_112 : decode cX9_isKept 112 = .ok (.ireturn, 1) := by decide +kernel
theorem dX9_isKept_113 : decode cX9_isKept 113 = .ok (.aload_n 0, 1) := by decide +kernel
theorem dX9_isKept_114 : decode cX9_isKept 114 = .ok (.getfield 35, 3) := by decide +kernel
theorem dX9_isKept_117 : decode cX9_isKept 117 = .ok (.iload_n 2, 1) := by decide +kernel
theorem dX9_isKept_118 : decode cX9_isKept 118 = .ok (.laload, 1) := by decide +kernel
theorem dX9_isKept_119 : decode cX9_isKept 119 = .ok (.lconst 0, 1) := by decide +kernel
theorem dX9_isKept_120 : decode cX9_isKept 120 = .ok (.lcmp, 1) := by decide +kernel
theorem dX9_isKept_121 : decode cX9_isKept 121 = .ok (.ifCond .le 7, 3) := by decide +kernel
theorem dX9_isKept_124 : decode cX9_isKept 124 = .ok (.iconst 1, 1) := by decide +kernel
theorem dX9_isKept_125 : decode cX9_isKept 125 = .ok (.goto 4, 3) := by decide +kernel
theorem dX9_isKept_128 : decode cX9_isKept 128 = .ok (.iconst 0, 1) := by decide +kernel
theorem dX9_isKept_129 : decode cX9_isKept 129 = .ok (.ireturn, 1) := by decide +kernel
theorem dX9_isKept_130 : decode cX9_isKept 130 = .ok (.iload_n 3, 1) := by decide +kernel
theorem dX9_isKept_131 : decode cX9_isKept 131 = .ok (.ifCond .eq 18, 3) := by decide +kernel
theorem dX9_isKept_134 : decode cX9_isKept 134 = .ok (.aload_n 0, 1) := by decide +kernel
theorem dX9_isKept_135 : decode cX9_isKept 135 = .ok (.getfield 38, 3) := by decide +kernel
theorem dX9_isKept_138 : decode cX9_isKept 138 = .ok (.iload_n 2, 1) := by decide +kernel
theorem dX9_isKept_139 : decode cX9_isKept 139 = .ok (.laload, 1) := by decide +kernel
theorem dX9_isKept_140 : decode cX9_isKept 140 = .ok (.lconst 0, 1) := by decide +kernel
theorem dX9_isKept_141 : decode cX9_isKept 141 = .ok (.lcmp, 1) := by decide +kernel
theorem dX9_isKept_142 : decode cX9_isKept 142 = .ok (.ifCond .le 7, 3) := by decide +kernel
theorem dX9_isKept_145 : decode cX9_isKept 145 = .ok (.iconst 1, 1) := by decide +kernel
theorem dX9_isKept_146 : decode cX9_isKept 146 = .ok (.goto 4, 3) := by decide +kernel
theorem dX9_isKept_149 : decode cX9_isKept 149 = .ok (.iconst 0, 1) := by decide +kernel
theorem dX9_isKept_150 : decode cX9_isKept 150 = .ok (.ireturn, 1) := by decide +kernel
theorem dX9_isKept_151 : decode cX9_isKept 151 = .ok (.iload_n 3, 1) := by decide +kernel
theorem dX9_isKept_152 : decode cX9_isKept 152 = .ok (.ifCond .eq 18, 3) := by decide +kernel
theorem dX9_isKept_155 : decode cX9_isKept 155 = .ok (.aload_n 0, 1) := by decide +kernel
theorem dX9_isKept_156 : decode cX9_isKept 156 = .ok (.getfield 35, 3) := by decide +kernel
theorem dX9_isKept_159 : decode cX9_isKept 159 = .ok (.iload_n 2, 1) := by decide +kernel
theorem dX9_isKept_160 : decode cX9_isKept 160 = .ok (.laload, 1) := by decide +kernel
theorem dX9_isKept_161 : decode cX9_isKept 161 = .ok (.lconst 1, 1) := by decide +kernel
theorem dX9_isKept_162 : decode cX9_isKept 162 = .ok (.lcmp, 1) := by decide +kernel
theorem dX9_isKept_163 : decode cX9_isKept 163 = .ok (.ifCond .ne 7, 3) := by decide +kernel
theorem dX9_isKept_166 : decode cX9_isKept 166 = .ok (.iconst 1, 1) := by decide +kernel
theorem dX9_isKept_167 : decode cX9_isKept 167 = .ok (.goto 4, 3) := by decide +kernel
theorem dX9_isKept_170 : decode cX9_isKept 170 = .ok (.iconst 0, 1) := by decide +kernel
theorem dX9_isKept_171 : decode cX9_isKept 171 = .ok (.ireturn, 1) := by decide +kernel
theorem dX9_clearNodes_0 : decode cX9_clearNodes 0 = .ok (.aload_n 0, 1) := by decide +kernel
theorem dX9_clearNodes_1 : decode cX9_clearNodes 1 = .ok (.iconst 0, 1) := by decide +kernel
theorem dX9_clearNodes_2 : decode cX9_clearNodes 2 = .ok (.putfield 111, 3) := by decide +kernel
theorem dX9_clearNodes_5 : decode cX9_clearNodes 5 = .ok (.iconst 0, 1) := by decide +kernel
theorem dX9_clearNodes_6 : decode cX9_clearNodes 6 = .ok (.istore_n 1, 1) := by decide +kernel
theorem dX9_clearNodes_7 : decode cX9_clearNodes 7 = .ok (.iload_n 1, 1) := by decide +kernel
theorem dX9_clearNodes_8 : decode cX9_clearNodes 8 = .ok (.aload_n 0, 1) := by decide +kernel
theorem dX9_clearNodes_9 : decode cX9_clearNodes 9 = .ok (.getfield 53, 3) := by decide +kernel
theorem dX9_clearNodes_12 : decode cX9_clearNodes 12 = .ok (.arraylength, 1) := by decide +kernel
theorem dX9_clearNodes_13 : decode cX9_clearNodes 13 = .ok (.if_icmp .ge 16, 3) := by decide +kernel
theorem dX9_clearNodes_16 : decode cX9_clearNodes 16 = .ok (.aload_n 0, 1) := by decide +kernel
theorem dX9_clearNodes_17 : decode cX9_clearNodes 17 = .ok (.getfield 53, 3) := by decide +kernel
theorem dX9_clearNodes_20 : decode cX9_clearNodes 20 = .ok (.iload_n 1, 1) := by decide +kernel
theorem dX9_clearNodes_21 : decode cX9_clearNodes 21 = .ok (.iconst (-1), 1) := by decide +kernel
theorem dX9_clearNodes_22 : decode cX9_clearNodes 22 = .ok (.iastore, 1) := by decide +kernel
theorem dX9_clearNodes_23 : decode cX9_clearNodes 23 = .ok (.iinc 1 1, 3) := by decide +kernel
theorem dX9_clearNodes_26 : decode cX9_clearNodes 26 = .ok (.goto (-19), 3) := by decide +kernel
theorem dX9_clearNodes_29 : decode cX9_clearNodes 29 = .ok (.return_, 1) := by decide +kernel
theorem dX9_nodeOf_0 : decode cX9_nodeOf 0 = .ok (.iload_n 3, 1) := by decide +kernel
theorem dX9_nodeOf_1 : decode cX9_nodeOf 1 = .ok (.ifCond .ne 5, 3) := by decide +kernel
theorem dX9_nodeOf_4 : decode cX9_nodeOf 4 = .ok (.iload_n 2, 1) := by decide +kernel
theorem dX9_nodeOf_5 : decode cX9_nodeOf 5 = .ok (.ireturn, 1) := by decide +kernel
theorem dX9_nodeOf_6 : decode cX9_nodeOf 6 = .ok (.iload_n 1, 1) := by decide +kernel
theorem dX9_nodeOf_7 : decode cX9_nodeOf 7 = .ok (.ldc 114, 2) := by decide +kernel
theorem dX9_nodeOf_9 : decode cX9_nodeOf 9 = .ok (.imul, 1) := by decide +kernel
theorem dX9_nodeOf_10 : decode cX9_nodeOf 10 = .ok (.iload_n 2, 1) := by decide +kernel
theorem dX9_nodeOf_11 : decode cX9_nodeOf 11 = .ok (.sipush 8191, 3) := by decide +kernel
theorem dX9_nodeOf_14 : decode cX9_nodeOf 14 = .ok (.imul, 1) := by decide +kernel
theorem dX9_nodeOf_15 : decode cX9_nodeOf 15 = .ok (.iadd, 1) := by decide +kernel
theorem dX9_nodeOf_16 : decode cX9_nodeOf 16 = .ok (.iload_n 3, 1) := by decide +kernel
theorem dX9_nodeOf_17 : decode cX9_nodeOf 17 = .ok (.bipush 31, 2) := by decide +kernel
theorem dX9_nodeOf_19 : decode cX9_nodeOf 19 = .ok (.imul, 1) := by decide +kernel
theorem dX9_nodeOf_20 : decode cX9_nodeOf 20 = .ok (.iadd, 1) := by decide +kernel
theorem dX9_nodeOf_21 : decode cX9_nodeOf 21 = .ok (.ldc 115, 2) := by decide +kernel
theorem dX9_nodeOf_23 : decode cX9_nodeOf 23 = .ok (.imul, 1) := by decide +kernel
theorem dX9_nodeOf_24 : decode cX9_nodeOf 24 = .ok (.iconst 3, 1) := by decide +kernel
theorem dX9_nodeOf_25 : decode cX9_nodeOf 25 = .ok (.iushr, 1) := by decide +kernel
theorem dX9_nodeOf_26 : decode cX9_nodeOf 26 = .ok (.aload_n 0, 1) := by decide +kernel
theorem dX9_nodeOf_27 : decode cX9_nodeOf 27 = .ok (.getfield 53, 3) := by decide +kernel
theorem dX9_nodeOf_30 : decode cX9_nodeOf 30 = .ok (.arraylength, 1) := by decide +kernel
theorem dX9_nodeOf_31 : decode cX9_nodeOf 31 = .ok (.iconst 1, 1) := by decide +kernel
theorem dX9_nodeOf_32 : decode cX9_nodeOf 32 = .ok (.isub, 1) := by decide +kernel
theorem dX9_nodeOf_33 : decode cX9_nodeOf 33 = .ok (.iand, 1) := by decide +kernel
theorem dX9_nodeOf_34 : decode cX9_nodeOf 34 = .ok (.istore 4, 2) := by decide +kernel
theorem dX9_nodeOf_36 : decode cX9_nodeOf 36 = .ok (.aload_n 0, 1) := by decide +kernel
theorem dX9_nodeOf_37 : decode cX9_nodeOf 37 = .ok (.getfield 53, 3) := by decide +kernel
theorem dX9_nodeOf_40 : decode cX9_nodeOf 40 = .ok (.iload 4, 2) := by decide +kernel
theorem dX9_nodeOf_42 : decode cX9_nodeOf 42 = .ok (.iaload, 1) := by decide +kernel
theorem dX9_nodeOf_43 : decode cX9_nodeOf 43 = .ok (.ifCond .lt 68, 3) := by decide +kernel
theorem dX9_nodeOf_46 : decode cX9_nodeOf 46 = .ok (.aload_n 0, 1) := by decide +kernel
theorem dX9_nodeOf_47 : decode cX9_nodeOf 47 = .ok (.getfield 44, 3) := by decide +kernel
theorem dX9_nodeOf_50 : decode cX9_nodeOf 50 = .ok (.aload_n 0, 1) := by decide +kernel
theorem dX9_nodeOf_51 : decode cX9_nodeOf 51 = .ok (.getfield 53, 3) := by decide +kernel
theorem dX9_nodeOf_54 : decode cX9_nodeOf 54 = .ok (.iload 4, 2) := by decide +kernel
theorem dX9_nodeOf_56 : decode cX9_nodeOf 56 = .ok (.iaload, 1) := by decide +kernel
theorem dX9_nodeOf_57 : decode cX9_nodeOf 57 = .ok (.iaload, 1) := by decide +kernel
theorem dX9_nodeOf_58 : decode cX9_nodeOf 58 = .ok (.iload_n 1, 1) := by decide +kernel
theorem dX9_nodeOf_59 : decode cX9_nodeOf 59 = .ok (.if_icmp .ne 35, 3) := by decide +kernel
theorem dX9_nodeOf_62 : decode cX9_nodeOf 62 = .ok (.aload_n 0, 1) := by decide +kernel
theorem dX9_nodeOf_63 : decode cX9_nodeOf 63 = .ok (.getfield 47, 3) := by decide +kernel
theorem dX9_nodeOf_66 : decode cX9_nodeOf 66 = .ok (.aload_n 0, 1) := by decide +kernel
theorem dX9_nodeOf_67 : decode cX9_nodeOf 67 = .ok (.getfield 53, 3) := by decide +kernel
theorem dX9_nodeOf_70 : decode cX9_nodeOf 70 = .ok (.iload 4, 2) := by decide +kernel
theorem dX9_nodeOf_72 : decode cX9_nodeOf 72 = .ok (.iaload, 1) := by decide +kernel
theorem dX9_nodeOf_73 : decode cX9_nodeOf 73 = .ok (.iaload, 1) := by decide +kernel
theorem dX9_nodeOf_74 : decode cX9_nodeOf 74 = .ok (.iload_n 2, 1) := by decide +kernel
theorem dX9_nodeOf_75 : decode cX9_nodeOf 75 = .ok (.if_icmp .ne 19, 3) := by decide +kernel
theorem dX9_nodeOf_78 : decode cX9_nodeOf 78 = .ok (.aload_n 0, 1) := by decide +kernel
theorem dX9_nodeOf_79 : decode cX9_nodeOf 79 = .ok (.getfield 50, 3) := by decide +kernel
theorem dX9_nodeOf_82 : decode cX9_nodeOf 82 = .ok (.aload_n 0, 1) := by decide +kernel
theorem dX9_nodeOf_83 : decode cX9_nodeOf 83 = .ok (.getfield 53, 3) := by decide +kernel
theorem dX9_nodeOf_86 : decode cX9_nodeOf 86 = .ok (.iload 4, 2) := by decide +kernel
theorem dX9_nodeOf_88 : decode cX9_nodeOf 88 = .ok (.iaload, 1) := by decide +kernel
theorem dX9_nodeOf_89 : decode cX9_nodeOf 89 = .ok (.iaload, 1) := by decide +kernel
theorem dX9_nodeOf_90 : decode cX9_nodeOf 90 = .ok (.iload_n 3, 1) := by decide +kernel
theorem dX9_nodeOf_91 : decode cX9_nodeOf 91 = .ok (.if_icmp .eq 20, 3) := by decide +kernel
theorem dX9_nodeOf_94 : decode cX9_nodeOf 94 = .ok (.iload 4, 2) := by decide +kernel
theorem dX9_nodeOf_96 : decode cX9_nodeOf 96 = .ok (.iconst 1, 1) := by decide +kernel
theorem dX9_nodeOf_97 : decode cX9_nodeOf 97 = .ok (.iadd, 1) := by decide +kernel
theorem dX9_nodeOf_98 : decode cX9_nodeOf 98 = .ok (.aload_n 0, 1) := by decide +kernel
theorem dX9_nodeOf_99 : decode cX9_nodeOf 99 = .ok (.getfield 53, 3) := by decide +kernel
theorem dX9_nodeOf_102 : decode cX9_nodeOf 102 = .ok (.arraylength, 1) := by decide +kernel
theorem dX9_nodeOf_103 : decode cX9_nodeOf 103 = .ok (.iconst 1, 1) := by decide +kernel
theorem dX9_nodeOf_104 : decode cX9_nodeOf 104 = .ok (.isub, 1) := by decide +kernel
theorem dX9_nodeOf_105 : decode cX9_nodeOf 105 = .ok (.iand, 1) := by decide +kernel
theorem dX9_nodeOf_106 : decode cX9_nodeOf 106 = .ok (.istore 4, 2) := by decide +kernel
theorem dX9_nodeOf_108 : decode cX9_nodeOf 108 = .ok (.goto (-72), 3) := by decide +kernel
theorem dX9_nodeOf_111 : decode cX9_nodeOf 111 = .ok (.aload_n 0, 1) := by decide +kernel
theorem dX9_nodeOf_112 : decode cX9_nodeOf 112 = .ok (.getfield 53, 3) := by decide +kernel
theorem dX9_nodeOf_115 : decode cX9_nodeOf 115 = .ok (.iload 4, 2) := by decide +kernel
theorem dX9_nodeOf_117 : decode cX9_nodeOf 117 = .ok (.iaload, 1) := by decide +kernel
theorem dX9_nodeOf_118 : decode cX9_nodeOf 118 = .ok (.ifCond .lt 13, 3) := by decide +kernel
theorem dX9_nodeOf_121 : decode cX9_nodeOf 121 = .ok (.aload_n 0, 1) := by decide +kernel
theorem dX9_nodeOf_122 : decode cX9_nodeOf 122 = .ok (.getfield 53, 3) := by decide +kernel
theorem dX9_nodeOf_125 : decode cX9_nodeOf 125 = .ok (.iload 4, 2) := by decide +kernel
theorem dX9_nodeOf_127 : decode cX9_nodeOf 127 = .ok (.iaload, 1) := by decide +kernel
theorem dX9_nodeOf_128 : decode cX9_nodeOf 128 = .ok (.iconst 2, 1) := by decide +kernel
theorem dX9_nodeOf_129 : decode cX9_nodeOf 129 = .ok (.iadd, 1) := by decide +kernel
theorem dX9_nodeOf_130 : decode cX9_nodeOf 130 = .ok (.ireturn, 1) := by decide +kernel
theorem dX9_nodeOf_131 : decode cX9_nodeOf 131 = .ok (.aload_n 0, 1) := by decide +kernel
theorem dX9_nodeOf_132 : decode cX9_nodeOf 132 = .ok (.getfield 111, 3) := by decide +kernel
theorem dX9_nodeOf_135 : decode cX9_nodeOf 135 = .ok (.aload_n 0, 1) := by decide +kernel
theorem dX9_nodeOf_136 : decode cX9_nodeOf 136 = .ok (.getfield 44, 3) := by decide +kernel
theorem dX9_nodeOf_139 : decode cX9_nodeOf 139 = .ok (.arraylength, 1) := by decide +kernel
theorem dX9_nodeOf_140 : decode cX9_nodeOf 140 = .ok (.if_icmp .ne 15, 3) := by decide +kernel
theorem dX9_nodeOf_143 : decode cX9_nodeOf 143 = .ok (.aload_n 0, 1) := by decide +kernel
theorem dX9_nodeOf_144 : decode cX9_nodeOf 144 = .ok (.invokevirtual 116, 3) := by decide +kernel
theorem dX9_nodeOf_147 : decode cX9_nodeOf 147 = .ok (.aload_n 0, 1) := by decide +kernel
theorem dX9_nodeOf_148 : decode cX9_nodeOf 148 = .ok (.iload_n 1, 1) := by decide +kernel
theorem dX9_nodeOf_149 : decode cX9_nodeOf 149 = .ok (.iload_n 2, 1) := by decide +kernel
theorem dX9_nodeOf_150 : decode cX9_nodeOf 150 = .ok (.iload_n 3, 1) := by decide +kernel
theorem dX9_nodeOf_151 : decode cX9_nodeOf 151 = .ok (.invokevirtual 119, 3) := by decide +kernel
theorem dX9_nodeOf_154 : decode cX9_nodeOf 154 = .ok (.ireturn, 1) := by decide +kernel
theorem dX9_nodeOf_155 : decode cX9_nodeOf 155 = .ok (.aload_n 0, 1) := by decide +kernel
theorem dX9_nodeOf_156 : decode cX9_nodeOf 156 = .ok (.getfield 53, 3) := by decide +kernel
theorem dX9_nodeOf_159 : decode cX9_nodeOf 159 = .ok (.iload 4, 2) := by decide +kernel
theorem dX9_nodeOf_161 : decode cX9_nodeOf 161 = .ok (.aload_n 0, 1) := by decide +kernel
theorem dX9_nodeOf_162 : decode cX9_nodeOf 162 = .ok (.getfield 111, 3) := by decide +kernel
theorem dX9_nodeOf_165 : decode cX9_nodeOf 165 = .ok (.iastore, 1) := by decide +kernel
theorem dX9_nodeOf_166 : decode cX9_nodeOf 166 = .ok (.aload_n 0, 1) := by decide +kernel
theorem dX9_nodeOf_167 : decode cX9_nodeOf 167 = .ok (.getfield 44, 3) := by decide +kernel
theorem dX9_nodeOf_170 : decode cX9_nodeOf 170 = .ok (.aload_n 0, 1) := by decide +kernel
theorem dX9_nodeOf_171 : decode cX9_nodeOf 171 = .ok (.getfield 111, 3) := by decide +kernel
theorem dX9_nodeOf_174 : decode cX9_nodeOf 174 = .ok (.iload_n 1, 1) := by decide +kernel
theorem dX9_nodeOf_175 : decode cX9_nodeOf 175 = .ok (.iastore, 1) := by decide +kernel
theorem dX9_nodeOf_176 : decode cX9_nodeOf 176 = .ok (.aload_n 0, 1) := by decide +kernel
theorem dX9_nodeOf_177 : decode cX9_nodeOf 177 = .ok (.getfield 47, 3) := by decide +kernel
theorem dX9_nodeOf_180 : decode cX9_nodeOf 180 = .ok (.aload_n 0, 1) := by decide +kernel
theorem dX9_nodeOf_181 : decode cX9_nodeOf 181 = .ok (.getfield 111, 3) := by decide +kernel
theorem dX9_nodeOf_184 : decode cX9_nodeOf 184 = .ok (.iload_n 2, 1) := by decide +kernel
theorem dX9_nodeOf_185 : decode cX9_nodeOf 185 = .ok (.iastore, 1) := by decide +kernel
theorem dX9_nodeOf_186 : decode cX9_nodeOf 186 = .ok (.aload_n 0, 1) := by decide +kernel
theorem dX9_nodeOf_187 : decode cX9_nodeOf 187 = .ok (.getfield 50, 3) := by decide +kernel
theorem dX9_nodeOf_190 : decode cX9_nodeOf 190 = .ok (.aload_n 0, 1) := by decide +kernel
theorem dX9_nodeOf_191 : decode cX9_nodeOf 191 = .ok (.getfield 111, 3) := by decide +kernel
theorem dX9_nodeOf_194 : decode cX9_nodeOf 194 = .ok (.iload_n 3, 1) := by decide +kernel
theorem dX9_nodeOf_195 : decode cX9_nodeOf 195 = .ok (.iastore, 1) := by decide +kernel
theorem dX9_nodeOf_196 : decode cX9_nodeOf 196 = .ok (.aload_n 0, 1) := by decide +kernel
theorem dX9_nodeOf_197 : decode cX9_nodeOf 197 = .ok (.dup, 1) := by decide +kernel
theorem dX9_nodeOf_198 : decode cX9_nodeOf 198 = .ok (.getfield 111, 3) := by decide +kernel
theorem dX9_nodeOf_201 : decode cX9_nodeOf 201 = .ok (.iconst 1, 1) := by decide +kernel
theorem dX9_nodeOf_202 : decode cX9_nodeOf 202 = .ok (.iadd, 1) := by decide +kernel
theorem dX9_nodeOf_203 : decode cX9_nodeOf 203 = .ok (.putfield 111, 3) := by decide +kernel
theorem dX9_nodeOf_206 : decode cX9_nodeOf 206 = .ok (.aload_n 0, 1) := by decide +kernel
theorem dX9_nodeOf_207 : decode cX9_nodeOf 207 = .ok (.getfield 111, 3) := by decide +kernel
theorem dX9_nodeOf_210 : decode cX9_nodeOf 210 = .ok (.iconst 1, 1) := by decide +kernel
theorem dX9_nodeOf_211 : decode cX9_nodeOf 211 = .ok (.iadd, 1) := by decide +kernel
theorem dX9_nodeOf_212 : decode cX9_nodeOf 212 = .ok (.ireturn, 1) := by decide +kernel
theorem dX9_longer_0 : decode cX9_longer 0 = .ok (.iconst 2, 1) := by decide +kernel
theorem dX9_longer_1 : decode cX9_longer 1 = .ok (.aload_n 0, 1) := by decide +kernel
theorem dX9_longer_2 : decode cX9_longer 2 = .ok (.arraylength, 1) := by decide +kernel
theorem dX9_longer_3 : decode cX9_longer 3 = .ok (.imul, 1) := by decide +kernel
theorem dX9_longer_4 : decode cX9_longer 4 = .ok (.newarray .int, 2) := by decide +kernel
theorem dX9_longer_6 : decode cX9_longer 6 = .ok (.astore_n 1, 1) := by decide +kernel
theorem dX9_longer_7 : decode cX9_longer 7 = .ok (.iconst 0, 1) := by decide +kernel
theorem dX9_longer_8 : decode cX9_longer 8 = .ok (.istore_n 2, 1) := by decide +kernel
theorem dX9_longer_9 : decode cX9_longer 9 = .ok (.iload_n 2, 1) := by decide +kernel
theorem dX9_longer_10 : decode cX9_longer 10 = .ok (.aload_n 0, 1) := by decide +kernel
theorem dX9_longer_11 : decode cX9_longer 11 = .ok (.arraylength, 1) := by decide +kernel
theorem dX9_longer_12 : decode cX9_longer 12 = .ok (.if_icmp .ge 15, 3) := by decide +kernel
theorem dX9_longer_15 : decode cX9_longer 15 = .ok (.aload_n 1, 1) := by decide +kernel
theorem dX9_longer_16 : decode cX9_longer 16 = .ok (.iload_n 2, 1) := by decide +kernel
theorem dX9_longer_17 : decode cX9_longer 17 = .ok (.aload_n 0, 1) := by decide +kernel
theorem dX9_longer_18 : decode cX9_longer 18 = .ok (.iload_n 2, 1) := by decide +kernel
theorem dX9_longer_19 : decode cX9_longer 19 = .ok (.iaload, 1) := by decide +kernel
theorem dX9_longer_20 : decode cX9_longer 20 = .ok (.iastore, 1) := by decide +kernel
theorem dX9_longer_21 : decode cX9_longer 21 = .ok (.iinc 2 1, 3) := by decide +kernel
theorem dX9_longer_24 : decode cX9_longer 24 = .ok (.goto (-15), 3) := by decide +kernel
theorem dX9_longer_27 : decode cX9_longer 27 = .ok (.aload_n 1, 1) := by decide +kernel
theorem dX9_longer_28 : decode cX9_longer 28 = .ok (.areturn, 1) := by decide +kernel
theorem dX9_grow_0 : decode cX9_grow 0 = .ok (.aload_n 0, 1) := by decide +kernel
theorem dX9_grow_1 : decode cX9_grow 1 = .ok (.aload_n 0, 1) := by decide +kernel
theorem dX9_grow_2 : decode cX9_grow 2 = .ok (.getfield 44, 3) := by decide +kernel
theorem dX9_grow_5 : decode cX9_grow 5 = .ok (.invokestatic 123, 3) := by decide +kernel
theorem dX9_grow_8 : decode cX9_grow 8 = .ok (.putfield 44, 3) := by decide +kernel
theorem dX9_grow_11 : decode cX9_grow 11 = .ok (.aload_n 0, 1) := by decide +kernel
theorem dX9_grow_12 : decode cX9_grow 12 = .ok (.aload_n 0, 1) := by decide +kernel
theorem dX9_grow_13 : decode cX9_grow 13 = .ok (.getfield 47, 3) := by decide +kernel
theorem dX9_grow_16 : decode cX9_grow 16 = .ok (.invokestatic 123, 3) := by decide +kernel
theorem dX9_grow_19 : decode cX9_grow 19 = .ok (.putfield 47, 3) := by decide +kernel
theorem dX9_grow_22 : decode cX9_grow 22 = .ok (.aload_n 0, 1) := by decide +kernel
theorem dX9_grow_23 : decode cX9_grow 23 = .ok (.aload_n 0, 1) := by decide +kernel
theorem dX9_grow_24 : decode cX9_grow 24 = .ok (.getfield 50, 3) := by decide +kernel
theorem dX9_grow_27 : decode cX9_grow 27 = .ok (.invokestatic 123, 3) := by decide +kernel
theorem dX9_grow_30 : decode cX9_grow 30 = .ok (.putfield 50, 3) := by decide +kernel
theorem dX9_grow_33 : decode cX9_grow 33 = .ok (.aload_n 0, 1) := by decide +kernel
theorem dX9_grow_34 : decode cX9_grow 34 = .ok (.iconst 2, 1) := by decide +kernel
theorem dX9_grow_35 : decode cX9_grow 35 = .ok (.aload_n 0, 1) := by decide +kernel
theorem dX9_grow_36 : decode cX9_grow 36 = .ok (.getfield 53, 3) := by decide +kernel
theorem dX9_grow_39 : decode cX9_grow 39 = .ok (.arraylength, 1) := by decide +kernel
theorem dX9_grow_40 : decode cX9_grow 40 = .ok (.imul, 1) := by decide +kernel
theorem dX9_grow_41 : decode cX9_grow 41 = .ok (.newarray .int, 2) := by decide +kernel
theorem dX9_grow_43 : decode cX9_grow 43 = .ok (.putfield 53, 3) := by decide +kernel
theorem dX9_grow_46 : decode cX9_grow 46 = .ok (.aload_n 0, 1) := by decide +kernel
theorem dX9_grow_47 : decode cX9_grow 47 = .ok (.getfield 111, 3) := by decide +kernel
theorem dX9_grow_50 : decode cX9_grow 50 = .ok (.istore_n 1, 1) := by decide +kernel
theorem dX9_grow_51 : decode cX9_grow 51 = .ok (.aload_n 0, 1) := by decide +kernel
theorem dX9_grow_52 : decode cX9_grow 52 = .ok (.invokevirtual 127, 3) := by decide +kernel
theorem dX9_grow_55 : decode cX9_grow 55 = .ok (.iconst 0, 1) := by decide +kernel
theorem dX9_grow_56 : decode cX9_grow 56 = .ok (.istore_n 2, 1) := by decide +kernel
theorem dX9_grow_57 : decode cX9_grow 57 = .ok (.iload_n 2, 1) := by decide +kernel
theorem dX9_grow_58 : decode cX9_grow 58 = .ok (.iload_n 1, 1) := by decide +kernel
theorem dX9_grow_59 : decode cX9_grow 59 = .ok (.if_icmp .ge 38, 3) := by decide +kernel
theorem dX9_grow_62 : decode cX9_grow 62 = .ok (.aload_n 0, 1) := by decide +kernel
theorem dX9_grow_63 : decode cX9_grow 63 = .ok (.aload_n 0, 1) := by decide +kernel
theorem dX9_grow_64 : decode cX9_grow 64 = .ok (.getfield 44, 3) := by decide +kernel
theorem dX9_grow_67 : decode cX9_grow 67 = .ok (.iload_n 2, 1) := by decide +kernel
theorem dX9_grow_68 : decode cX9_grow 68 = .ok (.iaload, 1) := by decide +kernel
theorem dX9_grow_69 : decode cX9_grow 69 = .ok (.aload_n 0, 1) := by decide +kernel
theorem dX9_grow_70 : decode cX9_grow 70 = .ok (.getfield 47, 3) := by decide +kernel
theorem dX9_grow_73 : decode cX9_grow 73 = .ok (.iload_n 2, 1) := by decide +kernel
theorem dX9_grow_74 : decode cX9_grow 74 = .ok (.iaload, 1) := by decide +kernel
theorem dX9_grow_75 : decode cX9_grow 75 = .ok (.aload_n 0, 1) := by decide +kernel
theorem dX9_grow_76 : decode cX9_grow 76 = .ok (.getfield 50, 3) := by decide +kernel
theorem dX9_grow_79 : decode cX9_grow 79 = .ok (.iload_n 2, 1) := by decide +kernel
theorem dX9_grow_80 : decode cX9_grow 80 = .ok (.iaload, 1) := by decide +kernel
theorem dX9_grow_81 : decode cX9_grow 81 = .ok (.invokevirtual 119, 3) := by decide +kernel
theorem dX9_grow_84 : decode cX9_grow 84 = .ok (.iload_n 2, 1) := by decide +kernel
theorem dX9_grow_85 : decode cX9_grow 85 = .ok (.iconst 2, 1) := by decide +kernel
theorem dX9_grow_86 : decode cX9_grow 86 = .ok (.iadd, 1) := by decide +kernel
theorem dX9_grow_87 : decode cX9_grow 87 = .ok (.if_icmp .eq 4, 3) := by decide +kernel
theorem dX9_grow_90 : decode cX9_grow 90 = .ok (.return_, 1) := by decide +kernel
theorem dX9_grow_91 : decode cX9_grow 91 = .ok (.iinc 2 1, 3) := by decide +kernel
theorem dX9_grow_94 : decode cX9_grow 94 = .ok (.goto (-37), 3) := by decide +kernel
theorem dX9_grow_97 : decode cX9_grow 97 = .ok (.return_, 1) := by decide +kernel
theorem dX9_number_0 : decode cX9_number 0 = .ok (.iconst 0, 1) := by decide +kernel
theorem dX9_number_1 : decode cX9_number 1 = .ok (.istore_n 2, 1) := by decide +kernel
theorem dX9_number_2 : decode cX9_number 2 = .ok (.iload_n 2, 1) := by decide +kernel
theorem dX9_number_3 : decode cX9_number 3 = .ok (.sipush 4096, 3) := by decide +kernel
theorem dX9_number_6 : decode cX9_number 6 = .ok (.if_icmp .ge 32, 3) := by decide +kernel
theorem dX9_number_9 : decode cX9_number 9 = .ok (.aload_n 0, 1) := by decide +kernel
theorem dX9_number_10 : decode cX9_number 10 = .ok (.getfield 56, 3) := by decide +kernel
theorem dX9_number_13 : decode cX9_number 13 = .ok (.iload_n 2, 1) := by decide +kernel
theorem dX9_number_14 : decode cX9_number 14 = .ok (.aload_n 0, 1) := by decide +kernel
theorem dX9_number_15 : decode cX9_number 15 = .ok (.getfield 24, 3) := by decide +kernel
theorem dX9_number_18 : decode cX9_number 18 = .ok (.iload_n 1, 1) := by decide +kernel
theorem dX9_number_19 : decode cX9_number 19 = .ok (.iload_n 2, 1) := by decide +kernel
theorem dX9_number_20 : decode cX9_number 20 = .ok (.invokestatic 65, 3) := by decide +kernel
theorem dX9_number_23 : decode cX9_number 23 = .ok (.ifCond .eq 7, 3) := by decide +kernel
theorem dX9_number_26 : decode cX9_number 26 = .ok (.iconst 1, 1) := by decide +kernel
theorem dX9_number_27 : decode cX9_number 27 = .ok (.goto 4, 3) := by decide +kernel
theorem dX9_number_30 : decode cX9_number 30 = .ok (.iconst 0, 1) := by decide +kernel
theorem dX9_number_31 : decode cX9_number 31 = .ok (.iastore, 1) := by decide +kernel
theorem dX9_number_32 : decode cX9_number 32 = .ok (.iinc 2 1, 3) := by decide +kernel
theorem dX9_number_35 : decode cX9_number 35 = .ok (.goto (-33), 3) := by decide +kernel
theorem dX9_number_38 : decode cX9_number 38 = .ok (.bipush 11, 2) := by decide +kernel
theorem dX9_number_40 : decode cX9_number 40 = .ok (.istore_n 2, 1) := by decide +kernel
theorem dX9_number_41 : decode cX9_number 41 = .ok (.iload_n 2, 1) := by decide +kernel
theorem dX9_number_42 : decode cX9_number 42 = .ok (.ifCond .lt 51, 3) := by decide +kernel
theorem dX9_number_45 : decode cX9_number 45 = .ok (.iconst 0, 1) := by decide +kernel
theorem dX9_number_46 : decode cX9_number 46 = .ok (.istore_n 3, 1) := by decide +kernel
theorem dX9_number_47 : decode cX9_number 47 = .ok (.iload_n 3, 1) := by decide +kernel
theorem dX9_number_48 : decode cX9_number 48 = .ok (.iconst 1, 1) := by decide +kernel
theorem dX9_number_49 : decode cX9_number 49 = .ok (.iload_n 2, 1) := by decide +kernel
theorem dX9_number_50 : decode cX9_number 50 = .ok (.ishl, 1) := by decide +kernel
theorem dX9_number_51 : decode cX9_number 51 = .ok (.if_icmp .ge 36, 3) := by decide +kernel
theorem dX9_number_54 : decode cX9_number 54 = .ok (.aload_n 0, 1) := by decide +kernel
theorem dX9_number_55 : decode cX9_number 55 = .ok (.getfield 56, 3) := by decide +kernel
theorem dX9_number_58 : decode cX9_number 58 = .ok (.iload_n 3, 1) := by decide +kernel
theorem dX9_number_59 : decode cX9_number 59 = .ok (.aload_n 0, 1) := by decide +kernel
theorem dX9_number_60 : decode cX9_number 60 = .ok (.iload_n 2, 1) := by decide +kernel
theorem dX9_number_61 : decode cX9_number 61 = .ok (.aload_n 0, 1) := by decide +kernel
theorem dX9_number_62 : decode cX9_number 62 = .ok (.getfield 56, 3) := by decide +kernel
theorem dX9_number_65 : decode cX9_number 65 = .ok (.iload_n 3, 1) := by decide +kernel
theorem dX9_number_66 : decode cX9_number 66 = .ok (.iaload, 1) := by decide +kernel
theorem dX9_number_67 : decode cX9_number 67 = .ok (.aload_n 0, 1) := by decide +kernel
theorem dX9_number_68 : decode cX9_number 68 = .ok (.getfield 56, 3) := by decide +kernel
theorem dX9_number_71 : decode cX9_number 71 = .ok (.iload_n 3, 1) := by decide +kernel
theorem dX9_number_72 : decode cX9_number 72 = .ok (.iconst 1, 1) := by decide +kernel
theorem dX9_number_73 : decode cX9_number 73 = .ok (.iload_n 2, 1) := by decide +kernel
theorem dX9_number_74 : decode cX9_number 74 = .ok (.ishl, 1) := by decide +kernel
theorem dX9_number_75 : decode cX9_number 75 = .ok (.iadd, 1) := by decide +kernel
theorem dX9_number_76 : decode cX9_number 76 = .ok (.iaload, 1) := by decide +kernel
theorem dX9_number_77 : decode cX9_number 77 = .ok (.invokevirtual 119, 3) := by decide +kernel
theorem dX9_number_80 : decode cX9_number 80 = .ok (.iastore, 1) := by decide +kernel
theorem dX9_number_81 : decode cX9_number 81 = .ok (.iinc 3 1, 3) := by decide +kernel
theorem dX9_number_84 : decode cX9_number 84 = .ok (.goto (-37), 3) := by decide +kernel
theorem dX9_number_87 : decode cX9_number 87 = .ok (.iinc 2 (-1), 3) := by decide +kernel
theorem dX9_number_90 : decode cX9_number 90 = .ok (.goto (-49), 3) := by decide +kernel
theorem dX9_number_93 : decode cX9_number 93 = .ok (.return_, 1) := by decide +kernel
theorem dX9_countNodes_0 : decode cX9_countNodes 0 = .ok (.aload_n 0, 1) := by decide +kernel
theorem dX9_countNodes_1 : decode cX9_countNodes 1 = .ok (.invokevirtual 127, 3) := by decide +kernel
theorem dX9_countNodes_4 : decode cX9_countNodes 4 = .ok (.aload_n 0, 1) := by decide +kernel
theorem dX9_countNodes_5 : decode cX9_countNodes 5 = .ok (.iload_n 1, 1) := by decide +kernel
theorem dX9_countNodes_6 : decode cX9_countNodes 6 = .ok (.invokevirtual 130, 3) := by decide +kernel
theorem dX9_countNodes_9 : decode cX9_countNodes 9 = .ok (.aload_n 0, 1) := by decide +kernel
theorem dX9_countNodes_10 : decode cX9_countNodes 10 = .ok (.getfield 111, 3) := by decide +kernel
theorem dX9_countNodes_13 : decode cX9_countNodes 13 = .ok (.ireturn, 1) := by decide +kernel
theorem dX9_countAllNodes_0 : decode cX9_countAllNodes 0 = .ok (.aload_n 0, 1) := by decide +kernel
theorem dX9_countAllNodes_1 : decode cX9_countAllNodes 1 = .ok (.invokevirtual 127, 3) := by decide +kernel
theorem dX9_countAllNodes_4 : decode cX9_countAllNodes 4 = .ok (.iconst 0, 1) := by decide +kernel
theorem dX9_countAllNodes_5 : decode cX9_countAllNodes 5 = .ok (.istore_n 1, 1) := by decide +kernel
theorem dX9_countAllNodes_6 : decode cX9_countAllNodes 6 = .ok (.iload_n 1, 1) := by decide +kernel
theorem dX9_countAllNodes_7 : decode cX9_countAllNodes 7 = .ok (.aload_n 0, 1) := by decide +kernel
theorem dX9_countAllNodes_8 : decode cX9_countAllNodes 8 = .ok (.getfield 133, 3) := by decide +kernel
theorem dX9_countAllNodes_11 : decode cX9_countAllNodes 11 = .ok (.if_icmp .ge 23, 3) := by decide +kernel
theorem dX9_countAllNodes_14 : decode cX9_countAllNodes 14 = .ok (.aload_n 0, 1) := by decide +kernel
theorem dX9_countAllNodes_15 : decode cX9_countAllNodes 15 = .ok (.getfield 20, 3) := by decide +kernel
theorem dX9_countAllNodes_18 : decode cX9_countAllNodes 18 = .ok (.iload_n 1, 1) := by decide +kernel
theorem dX9_countAllNodes_19 : decode cX9_countAllNodes 19 = .ok (.baload, 1) := by decide +kernel
theorem dX9_countAllNodes_20 : decode cX9_countAllNodes 20 = .ok (.ifCond .ne 8, 3) := by decide +kernel
theorem dX9_countAllNodes_23 : decode cX9_countAllNodes 23 = .ok (.aload_n 0, 1) := by decide +kernel
theorem dX9_countAllNodes_24 : decode cX9_countAllNodes 24 = .ok (.iload_n 1, 1) := by decide +kernel
theorem dX9_countAllNodes_25 : decode cX9_countAllNodes 25 = .ok (.invokevirtual 130, 3) := by decide +kernel
theorem dX9_countAllNodes_28 : decode cX9_countAllNodes 28 = .ok (.iinc 1 1, 3) := by decide +kernel
theorem dX9_countAllNodes_31 : decode cX9_countAllNodes 31 = .ok (.goto (-25), 3) := by decide +kernel
theorem dX9_countAllNodes_34 : decode cX9_countAllNodes 34 = .ok (.aload_n 0, 1) := by decide +kernel
theorem dX9_countAllNodes_35 : decode cX9_countAllNodes 35 = .ok (.getfield 111, 3) := by decide +kernel
theorem dX9_countAllNodes_38 : decode cX9_countAllNodes 38 = .ok (.ireturn, 1) := by decide +kernel
theorem dX9_feed_0 : decode cX9_feed 0 = .ok (.aload_n 0, 1) := by decide +kernel
theorem dX9_feed_1 : decode cX9_feed 1 = .ok (.iconst 0, 1) := by decide +kernel
theorem dX9_feed_2 : decode cX9_feed 2 = .ok (.putfield 62, 3) := by decide +kernel
theorem dX9_feed_5 : decode cX9_feed 5 = .ok (.aload_n 0, 1) := by decide +kernel
theorem dX9_feed_6 : decode cX9_feed 6 = .ok (.getfield 136, 3) := by decide +kernel
theorem dX9_feed_9 : decode cX9_feed 9 = .ok (.bipush 20, 2) := by decide +kernel
theorem dX9_feed_11 : decode cX9_feed 11 = .ok (.iadd, 1) := by decide +kernel
theorem dX9_feed_12 : decode cX9_feed 12 = .ok (.sipush 200, 3) := by decide +kernel
theorem dX9_feed_15 : decode cX9_feed 15 = .ok (.if_icmp .le 9, 3) := by decide +kernel
theorem dX9_feed_18 : decode cX9_feed 18 = .ok (.aload_n 0, 1) := by decide +kernel
theorem dX9_feed_19 : decode cX9_feed 19 = .ok (.iconst 1, 1) := by decide +kernel
theorem dX9_feed_20 : decode cX9_feed 20 = .ok (.invokevirtual 139, 3) := by decide +kernel
theorem dX9_feed_23 : decode cX9_feed 23 = .ok (.ireturn, 1) := by decide +kernel
theorem dX9_feed_24 : decode cX9_feed 24 = .ok (.aload_n 0, 1) := by decide +kernel
theorem dX9_feed_25 : decode cX9_feed 25 = .ok (.iload_n 1, 1) := by decide +kernel
theorem dX9_feed_26 : decode cX9_feed 26 = .ok (.invokevirtual 143, 3) := by decide +kernel
theorem dX9_feed_29 : decode cX9_feed 29 = .ok (.aload_n 0, 1) := by decide +kernel
theorem dX9_feed_30 : decode cX9_feed 30 = .ok (.iload_n 2, 1) := by decide +kernel
theorem dX9_feed_31 : decode cX9_feed 31 = .ok (.invokevirtual 143, 3) := by decide +kernel
theorem dX9_feed_34 : decode cX9_feed 34 = .ok (.aload_n 0, 1) := by decide +kernel
theorem dX9_feed_35 : decode cX9_feed 35 = .ok (.iload_n 3, 1) := by decide +kernel
theorem dX9_feed_36 : decode cX9_feed 36 = .ok (.invokevirtual 143, 3) := by decide +kernel
theorem dX9_feed_39 : decode cX9_feed 39 = .ok (.aload_n 0, 1) := by decide +kernel
theorem dX9_feed_40 : decode cX9_feed 40 = .ok (.iload 4, 2) := by decide +kernel
theorem dX9_feed_42 : decode cX9_feed 42 = .ok (.invokevirtual 143, 3) := by decide +kernel
theorem dX9_feed_45 : decode cX9_feed 45 = .ok (.aload_n 0, 1) := by decide +kernel
theorem dX9_feed_46 : decode cX9_feed 46 = .ok (.iload 5, 2) := by decide +kernel
theorem dX9_feed_48 : decode cX9_feed 48 = .ok (.invokevirtual 143, 3) := by decide +kernel
theorem dX9_feed_51 : decode cX9_feed 51 = .ok (.aload_n 0, 1) := by decide +kernel
theorem dX9_feed_52 : decode cX9_feed 52 = .ok (.getfield 136, 3) := by decide +kernel
theorem dX9_feed_55 : decode cX9_feed 55 = .ok (.ireturn, 1) := by decide +kernel
theorem dX9_four_0 : decode cX9_four 0 = .ok (.bipush 24, 2) := by decide +kernel
theorem dX9_four_2 : decode cX9_four 2 = .ok (.istore_n 2, 1) := by decide +kernel
theorem dX9_four_3 : decode cX9_four 3 = .ok (.iload_n 2, 1) := by decide +kernel
theorem dX9_four_4 : decode cX9_four 4 = .ok (.ifCond .lt 32, 3) := by decide +kernel
theorem dX9_four_7 : decode cX9_four 7 = .ok (.aload_n 0, 1) := by decide +kernel
theorem dX9_four_8 : decode cX9_four 8 = .ok (.getfield 9, 3) := by decide +kernel
theorem dX9_four_11 : decode cX9_four 11 = .ok (.aload_n 0, 1) := by decide +kernel
theorem dX9_four_12 : decode cX9_four 12 = .ok (.getfield 136, 3) := by decide +kernel
theorem dX9_four_15 : decode cX9_four 15 = .ok (.iload_n 1, 1) := by decide +kernel
theorem dX9_four_16 : decode cX9_four 16 = .ok (.iload_n 2, 1) := by decide +kernel
theorem dX9_four_17 : decode cX9_four 17 = .ok (.ishr, 1) := by decide +kernel
theorem dX9_four_18 : decode cX9_four 18 = .ok (.i2b, 1) := by decide +kernel
theorem dX9_four_19 : decode cX9_four 19 = .ok (.bastore, 1) := by decide +kernel
theorem dX9_four_20 : decode cX9_four 20 = .ok (.aload_n 0, 1) := by decide +kernel
theorem dX9_four_21 : decode cX9_four 21 = .ok (.dup, 1) := by decide +kernel
theorem dX9_four_22 : decode cX9_four 22 = .ok (.getfield 136, 3) := by decide +kernel
theorem dX9_four_25 : decode cX9_four 25 = .ok (.iconst 1, 1) := by decide +kernel
theorem dX9_four_26 : decode cX9_four 26 = .ok (.iadd, 1) := by decide +kernel
theorem dX9_four_27 : decode cX9_four 27 = .ok (.putfield 136, 3) := by decide +kernel
theorem dX9_four_30 : decode cX9_four 30 = .ok (.iinc 2 (-8), 3) := by decide +kernel
theorem dX9_four_33 : decode cX9_four 33 = .ok (.goto (-30), 3) := by decide +kernel
theorem dX9_four_36 : decode cX9_four 36 = .ok (.return_, 1) := by decide +kernel
theorem dX9_trim_0 : decode cX9_trim 0 = .ok (.aload_n 0, 1) := by decide +kernel
theorem dX9_trim_1 : decode cX9_trim 1 = .ok (.iconst 0, 1) := by decide +kernel
theorem dX9_trim_2 : decode cX9_trim 2 = .ok (.putfield 62, 3) := by decide +kernel
theorem dX9_trim_5 : decode cX9_trim 5 = .ok (.iload_n 1, 1) := by decide +kernel
theorem dX9_trim_6 : decode cX9_trim 6 = .ok (.ifCond .lt 11, 3) := by decide +kernel
theorem dX9_trim_9 : decode cX9_trim 9 = .ok (.iload_n 1, 1) := by decide +kernel
theorem dX9_trim_10 : decode cX9_trim 10 = .ok (.aload_n 0, 1) := by decide +kernel
theorem dX9_trim_11 : decode cX9_trim 11 = .ok (.getfield 136, 3) := by decide +kernel
theorem dX9_trim_14 : decode cX9_trim 14 = .ok (.if_icmp .le 9, 3) := by decide +kernel
theorem dX9_trim_17 : decode cX9_trim 17 = .ok (.aload_n 0, 1) := by decide +kernel
theorem dX9_trim_18 : decode cX9_trim 18 = .ok (.iconst 1, 1) := by decide +kernel
theorem dX9_trim_19 : decode cX9_trim 19 = .ok (.invokevirtual 139, 3) := by decide +kernel
theorem dX9_trim_22 : decode cX9_trim 22 = .ok (.ireturn, 1) := by decide +kernel
theorem dX9_trim_23 : decode cX9_trim 23 = .ok (.aload_n 0, 1) := by decide +kernel
theorem dX9_trim_24 : decode cX9_trim 24 = .ok (.iload_n 1, 1) := by decide +kernel
theorem dX9_trim_25 : decode cX9_trim 25 = .ok (.putfield 136, 3) := by decide +kernel
theorem dX9_trim_28 : decode cX9_trim 28 = .ok (.iload_n 1, 1) := by decide +kernel
theorem dX9_trim_29 : decode cX9_trim 29 = .ok (.ireturn, 1) := by decide +kernel
theorem dX9_wrong_0 : decode cX9_wrong 0 = .ok (.aload_n 0, 1) := by decide +kernel
theorem dX9_wrong_1 : decode cX9_wrong 1 = .ok (.getfield 146, 3) := by decide +kernel
theorem dX9_wrong_4 : decode cX9_wrong 4 = .ok (.ifCond .ge 8, 3) := by decide +kernel
theorem dX9_wrong_7 : decode cX9_wrong 7 = .ok (.aload_n 0, 1) := by decide +kernel
theorem dX9_wrong_8 : decode cX9_wrong 8 = .ok (.iload_n 1, 1) := by decide +kernel
theorem dX9_wrong_9 : decode cX9_wrong 9 = .ok (.putfield 146, 3) := by decide +kernel
theorem dX9_wrong_12 : decode cX9_wrong 12 = .ok (.return_, 1) := by decide +kernel
theorem dX9_look_0 : decode cX9_look 0 = .ok (.aload_n 0, 1) := by decide +kernel
theorem dX9_look_1 : decode cX9_look 1 = .ok (.getfield 149, 3) := by decide +kernel
theorem dX9_look_4 : decode cX9_look 4 = .ok (.aload_n 0, 1) := by decide +kernel
theorem dX9_look_5 : decode cX9_look 5 = .ok (.getfield 136, 3) := by decide +kernel
theorem dX9_look_8 : decode cX9_look 8 = .ok (.if_icmp .ge 30, 3) := by decide +kernel
theorem dX9_look_11 : decode cX9_look 11 = .ok (.aload_n 0, 1) := by decide +kernel
theorem dX9_look_12 : decode cX9_look 12 = .ok (.getfield 9, 3) := by decide +kernel
theorem dX9_look_15 : decode cX9_look 15 = .ok (.aload_n 0, 1) := by decide +kernel
theorem dX9_look_16 : decode cX9_look 16 = .ok (.getfield 149, 3) := by decide +kernel
theorem dX9_look_19 : decode cX9_look 19 = .ok (.baload, 1) := by decide +kernel
theorem dX9_look_20 : decode cX9_look 20 = .ok (.bipush 32, 2) := by decide +kernel
theorem dX9_look_22 : decode cX9_look 22 = .ok (.if_icmp .ne 16, 3) := by decide +kernel
theorem dX9_look_25 : decode cX9_look 25 = .ok (.aload_n 0, 1) := by decide +kernel
theorem dX9_look_26 : decode cX9_look 26 = .ok (.dup, 1) := by decide +kernel
theorem dX9_look_27 : decode cX9_look 27 = .ok (.getfield 149, 3) := by decide +kernel
theorem dX9_look_30 : decode cX9_look 30 = .ok (.iconst 1, 1) := by decide +kernel
theorem dX9_look_31 : decode cX9_look 31 = .ok (.iadd, 1) := by decide +kernel
theorem dX9_look_32 : decode cX9_look 32 = .ok (.putfield 149, 3) := by decide +kernel
theorem dX9_look_35 : decode cX9_look 35 = .ok (.goto (-35), 3) := by decide +kernel
theorem dX9_look_38 : decode cX9_look 38 = .ok (.aload_n 0, 1) := by decide +kernel
theorem dX9_look_39 : decode cX9_look 39 = .ok (.getfield 149, 3) := by decide +kernel
theorem dX9_look_42 : decode cX9_look 42 = .ok (.aload_n 0, 1) := by decide +kernel
theorem dX9_look_43 : decode cX9_look 43 = .ok (.getfield 136, 3) := by decide +kernel
theorem dX9_look_46 : decode cX9_look 46 = .ok (.if_icmp .ge 19, 3) := by decide +kernel
theorem dX9_look_49 : decode cX9_look 49 = .ok (.aload_n 0, 1) := by decide +kernel
theorem dX9_look_50 : decode cX9_look 50 = .ok (.getfield 9, 3) := by decide +kernel
theorem dX9_look_53 : decode cX9_look 53 = .ok (.aload_n 0, 1) := by decide +kernel
theorem dX9_look_54 : decode cX9_look 54 = .ok (.getfield 149, 3) := by decide +kernel
theorem dX9_look_57 : decode cX9_look 57 = .ok (.baload, 1) := by decide +kernel
theorem dX9_look_58 : decode cX9_look 58 = .ok (.sipush 255, 3) := by decide +kernel
theorem dX9_look_61 : decode cX9_look 61 = .ok (.iand, 1) := by decide +kernel
theorem dX9_look_62 : decode cX9_look 62 = .ok (.goto 4, 3) := by decide +kernel
theorem dX9_look_65 : decode cX9_look 65 = .ok (.iconst (-1), 1) := by decide +kernel
theorem dX9_look_66 : decode cX9_look 66 = .ok (.ireturn, 1) := by decide +kernel
theorem dX9_add_0 : decode cX9_add 0 = .ok (.aload_n 0, 1) := by decide +kernel
theorem dX9_add_1 : decode cX9_add 1 = .ok (.getfield 59, 3) := by decide +kernel
theorem dX9_add_4 : decode cX9_add 4 = .ok (.aload_n 0, 1) := by decide +kernel
theorem dX9_add_5 : decode cX9_add 5 = .ok (.getfield 152, 3) := by decide +kernel
theorem dX9_add_8 : decode cX9_add 8 = .ok (.iload_n 1, 1) := by decide +kernel
theorem dX9_add_9 : decode cX9_add 9 = .ok (.iastore, 1) := by decide +kernel
theorem dX9_add_10 : decode cX9_add 10 = .ok (.aload_n 0, 1) := by decide +kernel
theorem dX9_add_11 : decode cX9_add 11 = .ok (.dup, 1) := by decide +kernel
theorem dX9_add_12 : decode cX9_add 12 = .ok (.getfield 152, 3) := by decide +kernel
theorem dX9_add_15 : decode cX9_add 15 = .ok (.iconst 1, 1) := by decide +kernel
theorem dX9_add_16 : decode cX9_add 16 = .ok (.iadd, 1) := by decide +kernel
theorem dX9_add_17 : decode cX9_add 17 = .ok (.putfield 152, 3) := by decide +kernel
theorem dX9_add_20 : decode cX9_add 20 = .ok (.return_, 1) := by decide +kernel
theorem dX9_sum_0 : decode cX9_sum 0 = .ok (.aload_n 0, 1) := by decide +kernel
theorem dX9_sum_1 : decode cX9_sum 1 = .ok (.invokevirtual 155, 3) := by decide +kernel
theorem dX9_sum_4 : decode cX9_sum 4 = .ok (.aload_n 0, 1) := by decide +kernel
theorem dX9_sum_5 : decode cX9_sum 5 = .ok (.invokevirtual 158, 3) := by decide +kernel
theorem dX9_sum_8 : decode cX9_sum 8 = .ok (.istore_n 1, 1) := by decide +kernel
theorem dX9_sum_9 : decode cX9_sum 9 = .ok (.aload_n 0, 1) := by decide +kernel
theorem dX9_sum_10 : decode cX9_sum 10 = .ok (.getfield 146, 3) := by decide +kernel
theorem dX9_sum_13 : decode cX9_sum 13 = .ok (.ifCond .ge 68, 3) := by decide +kernel
theorem dX9_sum_16 : decode cX9_sum 16 = .ok (.iload_n 1, 1) := by decide +kernel
theorem dX9_sum_17 : decode cX9_sum 17 = .ok (.bipush 43, 2) := by decide +kernel
theorem dX9_sum_19 : decode cX9_sum 19 = .ok (.if_icmp .eq 15, 3) := by decide +kernel
theorem dX9_sum_22 : decode cX9_sum 22 = .ok (.iload_n 1, 1) := by decide +kernel
theorem dX9_sum_23 : decode cX9_sum 23 = .ok (.bipush 45, 2) := by decide +kernel
theorem dX9_sum_25 : decode cX9_sum 25 = .ok (.if_icmp .eq 9, 3) := by decide +kernel
theorem dX9_sum_28 : decode cX9_sum 28 = .ok (.iload_n 1, 1) := by decide +kernel
theorem dX9_sum_29 : decode cX9_sum 29 = .ok (.bipush 38, 2) := by decide +kernel
theorem dX9_sum_31 : decode cX9_sum 31 = .ok (.if_icmp .ne 50, 3) := by decide +kernel
theorem dX9_sum_34 : decode cX9_sum 34 = .ok (.aload_n 0, 1) := by decide +kernel
theorem dX9_sum_35 : decode cX9_sum 35 = .ok (.dup, 1) := by decide +kernel
theorem dX9_sum_36 : decode cX9_sum 36 = .ok (.getfield 149, 3) := by decide +kernel
theorem dX9_sum_39 : decode cX9_sum 39 = .ok (.iconst 1, 1) := by decide +kernel
theorem dX9_sum_40 : decode cX9_sum 40 = .ok (.iadd, 1) := by decide +kernel
theorem dX9_sum_41 : decode cX9_sum 41 = .ok (.putfield 149, 3) := by decide +kernel
theorem dX9_sum_44 : decode cX9_sum 44 = .ok (.aload_n 0, 1) := by decide +kernel
theorem dX9_sum_45 : decode cX9_sum 45 = .ok (.invokevirtual 155, 3) := by decide +kernel
theorem dX9_sum_48 : decode cX9_sum 48 = .ok (.aload_n 0, 1) := by decide +kernel
theorem dX9_sum_49 : decode cX9_sum 49 = .ok (.iload_n 1, 1) := by decide +kernel
theorem dX9_sum_50 : decode cX9_sum 50 = .ok (.bipush 43, 2) := by decide +kernel
theorem dX9_sum_52 : decode cX9_sum 52 = .ok (.if_icmp .ne 7, 3) := by decide +kernel
theorem dX9_sum_55 : decode cX9_sum 55 = .ok (.iconst 1, 1) := by decide +kernel
theorem dX9_sum_56 : decode cX9_sum 56 = .ok (.goto 14, 3) := by decide +kernel
theorem dX9_sum_59 : decode cX9_sum 59 = .ok (.iload_n 1, 1) := by decide +kernel
theorem dX9_sum_60 : decode cX9_sum 60 = .ok (.bipush 45, 2) := by decide +kernel
theorem dX9_sum_62 : decode cX9_sum 62 = .ok (.if_icmp .ne 7, 3) := by decide +kernel
theorem dX9_sum_65 : decode cX9_sum 65 = .ok (.iconst 2, 1) := by decide +kernel
theorem dX9_sum_66 : decode cX9_sum 66 = .ok (.goto 4, 3) := by decide +kernel
theorem dX9_sum_69 : decode cX9_sum 69 = .ok (.iconst 3, 1) := by decide +kernel
theorem dX9_sum_70 : decode cX9_sum 70 = .ok (.invokevirtual 162, 3) := by decide +kernel
theorem dX9_sum_73 : decode cX9_sum 73 = .ok (.aload_n 0, 1) := by decide +kernel
theorem dX9_sum_74 : decode cX9_sum 74 = .ok (.invokevirtual 158, 3) := by decide +kernel
theorem dX9_sum_77 : decode cX9_sum 77 = .ok (.istore_n 1, 1) := by decide +kernel
theorem dX9_sum_78 : decode cX9_sum 78 = .ok (.goto (-69), 3) := by decide +kernel
theorem dX9_sum_81 : decode cX9_sum 81 = .ok (.return_, 1) := by decide +kernel
theorem dX9_product_0 : decode cX9_product 0 = .ok (.aload_n 0, 1) := by decide +kernel
theorem dX9_product_1 : decode cX9_product 1 = .ok (.invokevirtual 165, 3) := by decide +kernel
theorem dX9_product_4 : decode cX9_product 4 = .ok (.aload_n 0, 1) := by decide +kernel
theorem dX9_product_5 : decode cX9_product 5 = .ok (.invokevirtual 158, 3) := by decide +kernel
theorem dX9_product_8 : decode cX9_product 8 = .ok (.istore_n 1, 1) := by decide +kernel
theorem dX9_product_9 : decode cX9_product 9 = .ok (.aload_n 0, 1) := by decide +kernel
theorem dX9_product_10 : decode cX9_product 10 = .ok (.getfield 146, 3) := by decide +kernel
theorem dX9_product_13 : decode cX9_product 13 = .ok (.ifCond .ge 69, 3) := by decide +kernel
theorem dX9_product_16 : decode cX9_product 16 = .ok (.iload_n 1, 1) := by decide +kernel
theorem dX9_product_17 : decode cX9_product 17 = .ok (.bipush 42, 2) := by decide +kernel
theorem dX9_product_19 : decode cX9_product 19 = .ok (.if_icmp .eq 15, 3) := by decide +kernel
theorem dX9_product_22 : decode cX9_product 22 = .ok (.iload_n 1, 1) := by decide +kernel
theorem dX9_product_23 : decode cX9_product 23 = .ok (.bipush 47, 2) := by decide +kernel
theorem dX9_product_25 : decode cX9_product 25 = .ok (.if_icmp .eq 9, 3) := by decide +kernel
theorem dX9_product_28 : decode cX9_product 28 = .ok (.iload_n 1, 1) := by decide +kernel
theorem dX9_product_29 : decode cX9_product 29 = .ok (.bipush 37, 2) := by decide +kernel
theorem dX9_product_31 : decode cX9_product 31 = .ok (.if_icmp .ne 51, 3) := by decide +kernel
theorem dX9_product_34 : decode cX9_product 34 = .ok (.aload_n 0, 1) := by decide +kernel
theorem dX9_product_35 : decode cX9_product 35 = .ok (.dup, 1) := by decide +kernel
theorem dX9_product_36 : decode cX9_product 36 = .ok (.getfield 149, 3) := by decide +kernel
theorem dX9_product_39 : decode cX9_product 39 = .ok (.iconst 1, 1) := by decide +kernel
theorem dX9_product_40 : decode cX9_product 40 = .ok (.iadd, 1) := by decide +kernel
theorem dX9_product_41 : decode cX9_product 41 = .ok (.putfield 149, 3) := by decide +kernel
theorem dX9_product_44 : decode cX9_product 44 = .ok (.aload_n 0, 1) := by decide +kernel
theorem dX9_product_45 : decode cX9_product 45 = .ok (.invokevirtual 165, 3) := by decide +kernel
theorem dX9_product_48 : decode cX9_product 48 = .ok (.aload_n 0, 1) := by decide +kernel
theorem dX9_product_49 : decode cX9_product 49 = .ok (.iload_n 1, 1) := by decide +kernel
theorem dX9_product_50 : decode cX9_product 50 = .ok (.bipush 42, 2) := by decide +kernel
theorem dX9_product_52 : decode cX9_product 52 = .ok (.if_icmp .ne 7, 3) := by decide +kernel
theorem dX9_product_55 : decode cX9_product 55 = .ok (.iconst 4, 1) := by decide +kernel
theorem dX9_product_56 : decode cX9_product 56 = .ok (.goto 15, 3) := by decide +kernel
theorem dX9_product_59 : decode cX9_product 59 = .ok (.iload_n 1, 1) := by decide +kernel
theorem dX9_product_60 : decode cX9_product 60 = .ok (.bipush 47, 2) := by decide +kernel
theorem dX9_product_62 : decode cX9_product 62 = .ok (.if_icmp .ne 7, 3) := by decide +kernel
theorem dX9_product_65 : decode cX9_product 65 = .ok (.iconst 5, 1) := by decide +kernel
theorem dX9_product_66 : decode cX9_product 66 = .ok (.goto 5, 3) := by decide +kernel
theorem dX9_product_69 : decode cX9_product 69 = .ok (.bipush 6, 2) := by decide +kernel
theorem dX9_product_71 : decode cX9_product 71 = .ok (.invokevirtual 162, 3) := by decide +kernel
theorem dX9_product_74 : decode cX9_product 74 = .ok (.aload_n 0, 1) := by decide +kernel
theorem dX9_product_75 : decode cX9_product 75 = .ok (.invokevirtual 158, 3) := by decide +kernel
theorem dX9_product_78 : decode cX9_product 78 = .ok (.istore_n 1, 1) := by decide +kernel
theorem dX9_product_79 : decode cX9_product 79 = .ok (.goto (-70), 3) := by decide +kernel
theorem dX9_product_82 : decode cX9_product 82 = .ok (.return_, 1) := by decide +kernel
theorem dX9_isLetter_0 : decode cX9_isLetter 0 = .ok (.iload_n 0, 1) := by decide +kernel
theorem dX9_isLetter_1 : decode cX9_isLetter 1 = .ok (.bipush 97, 2) := by decide +kernel
theorem dX9_isLetter_3 : decode cX9_isLetter 3 = .ok (.if_icmp .lt 13, 3) := by decide +kernel
theorem dX9_isLetter_6 : decode cX9_isLetter 6 = .ok (.iload_n 0, 1) := by decide +kernel
theorem dX9_isLetter_7 : decode cX9_isLetter 7 = .ok (.bipush 122, 2) := by decide +kernel
theorem dX9_isLetter_9 : decode cX9_isLetter 9 = .ok (.if_icmp .gt 7, 3) := by decide +kernel
theorem dX9_isLetter_12 : decode cX9_isLetter 12 = .ok (.iconst 1, 1) := by decide +kernel
theorem dX9_isLetter_13 : decode cX9_isLetter 13 = .ok (.goto 4, 3) := by decide +kernel
theorem dX9_isLetter_16 : decode cX9_isLetter 16 = .ok (.iconst 0, 1) := by decide +kernel
theorem dX9_isLetter_17 : decode cX9_isLetter 17 = .ok (.ireturn, 1) := by decide +kernel
theorem dX9_isDigit_0 : decode cX9_isDigit 0 = .ok (.iload_n 0, 1) := by decide +kernel
theorem dX9_isDigit_1 : decode cX9_isDigit 1 = .ok (.bipush 48, 2) := by decide +kernel
theorem dX9_isDigit_3 : decode cX9_isDigit 3 = .ok (.if_icmp .lt 13, 3) := by decide +kernel
theorem dX9_isDigit_6 : decode cX9_isDigit 6 = .ok (.iload_n 0, 1) := by decide +kernel
theorem dX9_isDigit_7 : decode cX9_isDigit 7 = .ok (.bipush 57, 2) := by decide +kernel
theorem dX9_isDigit_9 : decode cX9_isDigit 9 = .ok (.if_icmp .gt 7, 3) := by decide +kernel
theorem dX9_isDigit_12 : decode cX9_isDigit 12 = .ok (.iconst 1, 1) := by decide +kernel
theorem dX9_isDigit_13 : decode cX9_isDigit 13 = .ok (.goto 4, 3) := by decide +kernel
theorem dX9_isDigit_16 : decode cX9_isDigit 16 = .ok (.iconst 0, 1) := by decide +kernel
theorem dX9_isDigit_17 : decode cX9_isDigit 17 = .ok (.ireturn, 1) := by decide +kernel
theorem dX9_factor_0 : decode cX9_factor 0 = .ok (.aload_n 0, 1) := by decide +kernel
theorem dX9_factor_1 : decode cX9_factor 1 = .ok (.getfield 146, 3) := by decide +kernel
theorem dX9_factor_4 : decode cX9_factor 4 = .ok (.ifCond .lt 4, 3) := by decide +kernel
theorem dX9_factor_7 : decode cX9_factor 7 = .ok (.return_, 1) := by decide +kernel
theorem dX9_factor_8 : decode cX9_factor 8 = .ok (.aload_n 0, 1) := by decide +kernel
theorem dX9_factor_9 : decode cX9_factor 9 = .ok (.invokevirtual 158, 3) := by decide +kernel
theorem dX9_factor_12 : decode cX9_factor 12 = .ok (.istore_n 1, 1) := by decide +kernel
theorem dX9_factor_13 : decode cX9_factor 13 = .ok (.aload_n 0, 1) := by decide +kernel
theorem dX9_factor_14 : decode cX9_factor 14 = .ok (.getfield 149, 3) := by decide +kernel
theorem dX9_factor_17 : decode cX9_factor 17 = .ok (.istore_n 2, 1) := by decide +kernel
theorem dX9_factor_18 : decode cX9_factor 18 = .ok (.iload_n 1, 1) := by decide +kernel
theorem dX9_factor_19 : decode cX9_factor 19 = .ok (.bipush 40, 2) := by decide +kernel
theorem dX9_factor_21 : decode cX9_factor 21 = .ok (.if_icmp .ne 10, 3) := by decide +kernel
theorem dX9_factor_24 : decode cX9_factor 24 = .ok (.aload_n 0, 1) := by decide +kernel
theorem dX9_factor_25 : decode cX9_factor 25 = .ok (.invokevirtual 168, 3) := by decide +kernel
theorem dX9_factor_28 : decode cX9_factor 28 = .ok (.goto 96, 3) := by decide +kernel
theorem dX9_factor_31 : decode cX9_factor 31 = .ok (.iload_n 1, 1) := by decide +kernel
theorem dX9_factor_32 : decode cX9_factor 32 = .ok (.invokestatic 171, 3) := by decide +kernel
theorem dX9_factor_35 : decode cX9_factor 35 = .ok (.ifCond .eq 10, 3) := by decide +kernel
theorem dX9_factor_38 : decode cX9_factor 38 = .ok (.aload_n 0, 1) := by decide +kernel
theorem dX9_factor_39 : decode cX9_factor 39 = .ok (.invokevirtual 175, 3) := by decide +kernel
theorem dX9_factor_42 : decode cX9_factor 42 = .ok (.goto 82, 3) := by decide +kernel
theorem dX9_factor_45 : decode cX9_factor 45 = .ok (.iload_n 1, 1) := by decide +kernel
theorem dX9_factor_46 : decode cX9_factor 46 = .ok (.bipush 35, 2) := by decide +kernel
theorem dX9_factor_48 : decode cX9_factor 48 = .ok (.if_icmp .ne 20, 3) := by decide +kernel
theorem dX9_factor_51 : decode cX9_factor 51 = .ok (.aload_n 0, 1) := by decide +kernel
theorem dX9_factor_52 : decode cX9_factor 52 = .ok (.dup, 1) := by decide +kernel
theorem dX9_factor_53 : decode cX9_factor 53 = .ok (.getfield 149, 3) := by decide +kernel
theorem dX9_factor_56 : decode cX9_factor 56 = .ok (.iconst 1, 1) := by decide +kernel
theorem dX9_factor_57 : decode cX9_factor 57 = .ok (.iadd, 1) := by decide +kernel
theorem dX9_factor_58 : decode cX9_factor 58 = .ok (.putfield 149, 3) := by decide +kernel
theorem dX9_factor_61 : decode cX9_factor 61 = .ok (.aload_n 0, 1) := by decide +kernel
theorem dX9_factor_62 : decode cX9_factor 62 = .ok (.invokevirtual 178, 3) := by decide +kernel
theorem dX9_factor_65 : decode cX9_factor 65 = .ok (.goto 59, 3) := by decide +kernel
theorem dX9_factor_68 : decode cX9_factor 68 = .ok (.iload_n 1, 1) := by decide +kernel
theorem dX9_factor_69 : decode cX9_factor 69 = .ok (.invokestatic 181, 3) := by decide +kernel
theorem dX9_factor_72 : decode cX9_factor 72 = .ok (.ifCond .eq 44, 3) := by decide +kernel
theorem dX9_factor_75 : decode cX9_factor 75 = .ok (.aload_n 0, 1) := by decide +kernel
theorem dX9_factor_76 : decode cX9_factor 76 = .ok (.invokevirtual 184, 3) := by decide +kernel
theorem dX9_factor_79 : decode cX9_factor 79 = .ok (.istore_n 3, 1) := by decide +kernel
theorem dX9_factor_80 : decode cX9_factor 80 = .ok (.iload_n 3, 1) := by decide +kernel
theorem dX9_factor_81 : decode cX9_factor 81 = .ok (.iconst 1, 1) := by decide +kernel
theorem dX9_factor_82 : decode cX9_factor 82 = .ok (.if_icmp .ne 9, 3) := by decide +kernel
theorem dX9_factor_85 : decode cX9_factor 85 = .ok (.iload_n 1, 1) := by decide +kernel
theorem dX9_factor_86 : decode cX9_factor 86 = .ok (.bipush 49, 2) := by decide +kernel
theorem dX9_factor_88 : decode cX9_factor 88 = .ok (.if_icmp .le 8, 3) := by decide +kernel
theorem dX9_factor_91 : decode cX9_factor 91 = .ok (.aload_n 0, 1) := by decide +kernel
theorem dX9_factor_92 : decode cX9_factor 92 = .ok (.iload_n 2, 1) := by decide +kernel
theorem dX9_factor_93 : decode cX9_factor 93 = .ok (.invokevirtual 187, 3) := by decide +kernel
theorem dX9_factor_96 : decode cX9_factor 96 = .ok (.aload_n 0, 1) := by decide +kernel
theorem dX9_factor_97 : decode cX9_factor 97 = .ok (.iload_n 1, 1) := by decide +kernel
theorem dX9_factor_98 : decode cX9_factor 98 = .ok (.bipush 48, 2) := by decide +kernel
theorem dX9_factor_100 : decode cX9_factor 100 = .ok (.if_icmp .ne 8, 3) := by decide +kernel
theorem dX9_factor_103 : decode cX9_factor 103 = .ok (.bipush 99, 2) := by decide +kernel
theorem dX9_factor_105 : decode cX9_factor 105 = .ok (.goto 5, 3) := by decide +kernel
theorem dX9_factor_108 : decode cX9_factor 108 = .ok (.bipush 100, 2) := by decide +kernel
theorem dX9_factor_110 : decode cX9_factor 110 = .ok (.invokevirtual 162, 3) := by decide +kernel
theorem dX9_factor_113 : decode cX9_factor 113 = .ok (.goto 11, 3) := by decide +kernel
theorem dX9_factor_116 : decode cX9_factor 116 = .ok (.aload_n 0, 1) := by decide +kernel
theorem dX9_factor_117 : decode cX9_factor 117 = .ok (.aload_n 0, 1) := by decide +kernel
theorem dX9_factor_118 : decode cX9_factor 118 = .ok (.getfield 149, 3) := by decide +kernel
theorem dX9_factor_121 : decode cX9_factor 121 = .ok (.invokevirtual 187, 3) := by decide +kernel
theorem dX9_factor_124 : decode cX9_factor 124 = .ok (.return_, 1) := by decide +kernel
theorem dX9_digits_0 : decode cX9_digits 0 = .ok (.aload_n 0, 1) := by decide +kernel
theorem dX9_digits_1 : decode cX9_digits 1 = .ok (.getfield 149, 3) := by decide +kernel
theorem dX9_digits_4 : decode cX9_digits 4 = .ok (.istore_n 1, 1) := by decide +kernel
theorem dX9_digits_5 : decode cX9_digits 5 = .ok (.aload_n 0, 1) := by decide +kernel
theorem dX9_digits_6 : decode cX9_digits 6 = .ok (.getfield 149, 3) := by decide +kernel
theorem dX9_digits_9 : decode cX9_digits 9 = .ok (.aload_n 0, 1) := by decide +kernel
theorem dX9_digits_10 : decode cX9_digits 10 = .ok (.getfield 136, 3) := by decide +kernel
theorem dX9_digits_13 : decode cX9_digits 13 = .ok (.if_icmp .ge 31, 3) := by decide +kernel
theorem dX9_digits_16 : decode cX9_digits 16 = .ok (.aload_n 0, 1) := by decide +kernel
theorem dX9_digits_17 : decode cX9_digits 17 = .ok (.getfield 9, 3) := by decide +kernel
theorem dX9_digits_20 : decode cX9_digits 20 = .ok (.aload_n 0, 1) := by decide +kernel
theorem dX9_digits_21 : decode cX9_digits 21 = .ok (.getfield 149, 3) := by decide +kernel
theorem dX9_digits_24 : decode cX9_digits 24 = .ok (.baload, 1) := by decide +kernel
theorem dX9_digits_25 : decode cX9_digits 25 = .ok (.invokestatic 181, 3) := by decide +kernel
theorem dX9_digits_28 : decode cX9_digits 28 = .ok (.ifCond .eq 16, 3) := by decide +kernel
theorem dX9_digits_31 : decode cX9_digits 31 = .ok (.aload_n 0, 1) := by decide +kernel
theorem dX9_digits_32 : decode cX9_digits 32 = .ok (.dup, 1) := by decide +kernel
theorem dX9_digits_33 : decode cX9_digits 33 = .ok (.getfield 149, 3) := by decide +kernel
theorem dX9_digits_36 : decode cX9_digits 36 = .ok (.iconst 1, 1) := by decide +kernel
theorem dX9_digits_37 : decode cX9_digits 37 = .ok (.iadd, 1) := by decide +kernel
theorem dX9_digits_38 : decode cX9_digits 38 = .ok (.putfield 149, 3) := by decide +kernel
theorem dX9_digits_41 : decode cX9_digits 41 = .ok (.goto (-36), 3) := by decide +kernel
theorem dX9_digits_44 : decode cX9_digits 44 = .ok (.aload_n 0, 1) := by decide +kernel
theorem dX9_digits_45 : decode cX9_digits 45 = .ok (.getfield 149, 3) := by decide +kernel
theorem dX9_digits_48 : decode cX9_digits 48 = .ok (.iload_n 1, 1) := by decide +kernel
theorem dX9_digits_49 : decode cX9_digits 49 = .ok (.isub, 1) := by decide +kernel
theorem dX9_digits_50 : decode cX9_digits 50 = .ok (.ireturn, 1) := by decide +kernel
theorem dX9_reference_0 : decode cX9_reference 0 = .ok (.aload_n 0, 1) := by decide +kernel
theorem dX9_reference_1 : decode cX9_reference 1 = .ok (.invokevirtual 158, 3) := by decide +kernel
theorem dX9_reference_4 : decode cX9_reference 4 = .ok (.istore_n 1, 1) := by decide +kernel
theorem dX9_reference_5 : decode cX9_reference 5 = .ok (.aload_n 0, 1) := by decide +kernel
theorem dX9_reference_6 : decode cX9_reference 6 = .ok (.getfield 149, 3) := by decide +kernel
theorem dX9_reference_9 : decode cX9_reference 9 = .ok (.istore_n 2, 1) := by decide +kernel
theorem dX9_reference_10 : decode cX9_reference 10 = .ok (.aload_n 0, 1) := by decide +kernel
theorem dX9_reference_11 : decode cX9_reference 11 = .ok (.invokevirtual 184, 3) := by decide +kernel
theorem dX9_reference_14 : decode cX9_reference 14 = .ok (.istore_n 3, 1) := by decide +kernel
theorem dX9_reference_15 : decode cX9_reference 15 = .ok (.iload_n 3, 1) := by decide +kernel
theorem dX9_reference_16 : decode cX9_reference 16 = .ok (.ifCond .eq 9, 3) := by decide +kernel
theorem dX9_reference_19 : decode cX9_reference 19 = .ok (.iload_n 3, 1) := by decide +kernel
theorem dX9_reference_20 : decode cX9_reference 20 = .ok (.bipush 9, 2) := by decide +kernel
theorem dX9_reference_22 : decode cX9_reference 22 = .ok (.if_icmp .le 9, 3) := by decide +kernel
theorem dX9_reference_25 : decode cX9_reference 25 = .ok (.aload_n 0, 1) := by decide +kernel
theorem dX9_reference_26 : decode cX9_reference 26 = .ok (.iload_n 2, 1) := by decide +kernel
theorem dX9_reference_27 : decode cX9_reference 27 = .ok (.invokevirtual 187, 3) := by decide +kernel
theorem dX9_reference_30 : decode cX9_reference 30 = .ok (.return_, 1) := by decide +kernel
theorem dX9_reference_31 : decode cX9_reference 31 = .ok (.iconst 0, 1) := by decide +kernel
theorem dX9_reference_32 : decode cX9_reference 32 = .ok (.istore 4, 2) := by decide +kernel
theorem dX9_reference_34 : decode cX9_reference 34 = .ok (.iload_n 2, 1) := by decide +kernel
theorem dX9_reference_35 : decode cX9_reference 35 = .ok (.istore 5, 2) := by decide +kernel
theorem dX9_reference_37 : decode cX9_reference 37 = .ok (.iload 5, 2) := by decide +kernel
theorem dX9_reference_39 : decode cX9_reference 39 = .ok (.aload_n 0, 1) := by decide +kernel
theorem dX9_reference_40 : decode cX9_reference 40 = .ok (.getfield 149, 3) := by decide +kernel
theorem dX9_reference_43 : decode cX9_reference 43 = .ok (.if_icmp .ge 27, 3) := by decide +kernel
theorem dX9_reference_46 : decode cX9_reference 46 = .ok (.bipush 10, 2) := by decide +kernel
theorem dX9_reference_48 : decode cX9_reference 48 = .ok (.iload 4, 2) := by decide +kernel
theorem dX9_reference_50 : decode cX9_reference 50 = .ok (.imul, 1) := by decide +kernel
theorem dX9_reference_51 : decode cX9_reference 51 = .ok (.aload_n 0, 1) := by decide +kernel
theorem dX9_reference_52 : decode cX9_reference 52 = .ok (.getfield 9, 3) := by decide +kernel
theorem dX9_reference_55 : decode cX9_reference 55 = .ok (.iload 5, 2) := by decide +kernel
theorem dX9_reference_57 : decode cX9_reference 57 = .ok (.baload, 1) := by decide +kernel
theorem dX9_reference_58 : decode cX9_reference 58 = .ok (.iadd, 1) := by decide +kernel
theorem dX9_reference_59 : decode cX9_reference 59 = .ok (.bipush 48, 2) := by decide +kernel
theorem dX9_reference_61 : decode cX9_reference 61 = .ok (.isub, 1) := by decide +kernel
theorem dX9_reference_62 : decode cX9_reference 62 = .ok (.istore 4, 2) := by decide +kernel
theorem dX9_reference_64 : decode cX9_reference 64 = .ok (.iinc 5 1, 3) := by decide +kernel
theorem dX9_reference_67 : decode cX9_reference 67 = .ok (.goto (-30), 3) := by decide +kernel
theorem dX9_reference_70 : decode cX9_reference 70 = .ok (.iload 4, 2) := by decide +kernel
theorem dX9_reference_72 : decode cX9_reference 72 = .ok (.aload_n 0, 1) := by decide +kernel
theorem dX9_reference_73 : decode cX9_reference 73 = .ok (.getfield 133, 3) := by decide +kernel
theorem dX9_reference_76 : decode cX9_reference 76 = .ok (.if_icmp .ge 17, 3) := by decide +kernel
theorem dX9_reference_79 : decode cX9_reference 79 = .ok (.aload_n 0, 1) := by decide +kernel
theorem dX9_reference_80 : decode cX9_reference 80 = .ok (.getfield 20, 3) := by decide +kernel
theorem dX9_reference_83 : decode cX9_reference 83 = .ok (.iload 4, 2) := by decide +kernel
theorem dX9_reference_85 : decode cX9_reference 85 = .ok (.baload, 1) := by decide +kernel
theorem dX9_reference_86 : decode cX9_reference 86 = .ok (.ifCond .ne 7, 3) := by decide +kernel
theorem dX9_reference_89 : decode cX9_reference 89 = .ok (.iload_n 1, 1) := by decide +kernel
theorem dX9_reference_90 : decode cX9_reference 90 = .ok (.ifCond .ge 8, 3) := by decide +kernel
theorem dX9_reference_93 : decode cX9_reference 93 = .ok (.aload_n 0, 1) := by decide +kernel
theorem dX9_reference_94 : decode cX9_reference 94 = .ok (.iload_n 2, 1) := by decide +kernel
theorem dX9_reference_95 : decode cX9_reference 95 = .ok (.invokevirtual 187, 3) := by decide +kernel
theorem dX9_reference_98 : decode cX9_reference 98 = .ok (.aload_n 0, 1) := by decide +kernel
theorem dX9_reference_99 : decode cX9_reference 99 = .ok (.sipush 10000, 3) := by decide +kernel
theorem dX9_reference_102 : decode cX9_reference 102 = .ok (.iload 4, 2) := by decide +kernel
theorem dX9_reference_104 : decode cX9_reference 104 = .ok (.iadd, 1) := by decide +kernel
theorem dX9_reference_105 : decode cX9_reference 105 = .ok (.invokevirtual 162, 3) := by decide +kernel
theorem dX9_reference_108 : decode cX9_reference 108 = .ok (.return_, 1) := by decide +kernel
theorem dX9_group_0 : decode cX9_group 0 = .ok (.aload_n 0, 1) := by decide +kernel
theorem dX9_group_1 : decode cX9_group 1 = .ok (.invokevirtual 158, 3) := by decide +kernel
theorem dX9_group_4 : decode cX9_group 4 = .ok (.bipush 40, 2) := by decide +kernel
theorem dX9_group_6 : decode cX9_group 6 = .ok (.if_icmp .ne 12, 3) := by decide +kernel
theorem dX9_group_9 : decode cX9_group 9 = .ok (.aload_n 0, 1) := by decide +kernel
theorem dX9_group_10 : decode cX9_group 10 = .ok (.getfield 190, 3) := by decide +kernel
theorem dX9_group_13 : decode cX9_group 13 = .ok (.bipush 20, 2) := by decide +kernel
theorem dX9_group_15 : decode cX9_group 15 = .ok (.if_icmp .ne 12, 3) := by decide +kernel
theorem dX9_group_18 : decode cX9_group 18 = .ok (.aload_n 0, 1) := by decide +kernel
theorem dX9_group_19 : decode cX9_group 19 = .ok (.aload_n 0, 1) := by decide +kernel
theorem dX9_group_20 : decode cX9_group 20 = .ok (.getfield 149, 3) := by decide +kernel
theorem dX9_group_23 : decode cX9_group 23 = .ok (.invokevirtual 187, 3) := by decide +kernel
theorem dX9_group_26 : decode cX9_group 26 = .ok (.return_, 1) := by decide +kernel
theorem dX9_group_27 : decode cX9_group 27 = .ok (.aload_n 0, 1) := by decide +kernel
theorem dX9_group_28 : decode cX9_group 28 = .ok (.dup, 1) := by decide +kernel
theorem dX9_group_29 : decode cX9_group 29 = .ok (.getfield 149, 3) := by decide +kernel
theorem dX9_group_32 : decode cX9_group 32 = .ok (.iconst 1, 1) := by decide +kernel
theorem dX9_group_33 : decode cX9_group 33 = .ok (.iadd, 1) := by decide +kernel
theorem dX9_group_34 : decode cX9_group 34 = .ok (.putfield 149, 3) := by decide +kernel
theorem dX9_group_37 : decode cX9_group 37 = .ok (.aload_n 0, 1) := by decide +kernel
theorem dX9_group_38 : decode cX9_group 38 = .ok (.dup, 1) := by decide +kernel
theorem dX9_group_39 : decode cX9_group 39 = .ok (.getfield 190, 3) := by decide +kernel
theorem dX9_group_42 : decode cX9_group 42 = .ok (.iconst 1, 1) := by decide +kernel
theorem dX9_group_43 : decode cX9_group 43 = .ok (.iadd, 1) := by decide +kernel
theorem dX9_group_44 : decode cX9_group 44 = .ok (.putfield 190, 3) := by decide +kernel
theorem dX9_group_47 : decode cX9_group 47 = .ok (.aload_n 0, 1) := by decide +kernel
theorem dX9_group_48 : decode cX9_group 48 = .ok (.invokevirtual 193, 3) := by decide +kernel
theorem dX9_group_51 : decode cX9_group 51 = .ok (.aload_n 0, 1) := by decide +kernel
theorem dX9_group_52 : decode cX9_group 52 = .ok (.getfield 146, 3) := by decide +kernel
theorem dX9_group_55 : decode cX9_group 55 = .ok (.ifCond .ge 20, 3) := by decide +kernel
theorem dX9_group_58 : decode cX9_group 58 = .ok (.aload_n 0, 1) := by decide +kernel
theorem dX9_group_59 : decode cX9_group 59 = .ok (.invokevirtual 158, 3) := by decide +kernel
theorem dX9_group_62 : decode cX9_group 62 = .ok (.bipush 41, 2) := by decide +kernel
theorem dX9_group_64 : decode cX9_group 64 = .ok (.if_icmp .eq 11, 3) := by decide +kernel
theorem dX9_group_67 : decode cX9_group 67 = .ok (.aload_n 0, 1) := by decide +kernel
theorem dX9_group_68 : decode cX9_group 68 = .ok (.aload_n 0, 1) := by decide +kernel
theorem dX9_group_69 : decode cX9_group 69 = .ok (.getfield 149, 3) := by decide +kernel
theorem dX9_group_72 : decode cX9_group 72 = .ok (.invokevirtual 187, 3) := by decide +kernel
theorem dX9_group_75 : decode cX9_group 75 = .ok (.aload_n 0, 1) := by decide +kernel
theorem dX9_group_76 : decode cX9_group 76 = .ok (.dup, 1) := by decide +kernel
theorem dX9_group_77 : decode cX9_group 77 = .ok (.getfield 149, 3) := by decide +kernel
theorem dX9_group_80 : decode cX9_group 80 = .ok (.iconst 1, 1) := by decide +kernel
theorem dX9_group_81 : decode cX9_group 81 = .ok (.iadd, 1) := by decide +kernel
theorem dX9_group_82 : decode cX9_group 82 = .ok (.putfield 149, 3) := by decide +kernel
theorem dX9_group_85 : decode cX9_group 85 = .ok (.aload_n 0, 1) := by decide +kernel
theorem dX9_group_86 : decode cX9_group 86 = .ok (.dup, 1) := by decide +kernel
theorem dX9_group_87 : decode cX9_group 87 = .ok (.getfield 190, 3) := by decide +kernel
theorem dX9_group_90 : decode cX9_group 90 = .ok (.iconst 1, 1) := by decide +kernel
theorem dX9_group_91 : decode cX9_group 91 = .ok (.isub, 1) := by decide +kernel
theorem dX9_group_92 : decode cX9_group 92 = .ok (.putfield 190, 3) := by decide +kernel
theorem dX9_group_95 : decode cX9_group 95 = .ok (.return_, 1) := by decide +kernel
theorem dX9_isWord_0 : decode cX9_isWord 0 = .ok (.aload_n 0, 1) := by decide +kernel
theorem dX9_isWord_1 : decode cX9_isWord 1 = .ok (.getfield 149, 3) := by decide +kernel
theorem dX9_isWord_4 : decode cX9_isWord 4 = .ok (.iload_n 1, 1) := by decide +kernel
theorem dX9_isWord_5 : decode cX9_isWord 5 = .ok (.isub, 1) := by decide +kernel
theorem dX9_isWord_6 : decode cX9_isWord 6 = .ok (.iconst 3, 1) := by decide +kernel
theorem dX9_isWord_7 : decode cX9_isWord 7 = .ok (.if_icmp .ne 42, 3) := by decide +kernel
theorem dX9_isWord_10 : decode cX9_isWord 10 = .ok (.aload_n 0, 1) := by decide +kernel
theorem dX9_isWord_11 : decode cX9_isWord 11 = .ok (.getfield 9, 3) := by decide +kernel
theorem dX9_isWord_14 : decode cX9_isWord 14 = .ok (.iload_n 1, 1) := by decide +kernel
theorem dX9_isWord_15 : decode cX9_isWord 15 = .ok (.baload, 1) := by decide +kernel
theorem dX9_isWord_16 : decode cX9_isWord 16 = .ok (.iload_n 2, 1) := by decide +kernel
theorem dX9_isWord_17 : decode cX9_isWord 17 = .ok (.if_icmp .ne 32, 3) := by decide +kernel
theorem dX9_isWord_20 : decode cX9_isWord 20 = .ok (.aload_n 0, 1) := by decide +kernel
theorem dX9_isWord_21 : decode cX9_isWord 21 = .ok (.getfield 9, 3) := by decide +kernel
theorem dX9_isWord_24 : decode cX9_isWord 24 = .ok (.iload_n 1, 1) := by decide +kernel
theorem dX9_isWord_25 : decode cX9_isWord 25 = .ok (.iconst 1, 1) := by decide +kernel
theorem dX9_isWord_26 : decode cX9_isWord 26 = .ok (.iadd, 1) := by decide +kernel
theorem dX9_isWord_27 : decode cX9_isWord 27 = .ok (.baload, 1) := by decide +kernel
theorem dX9_isWord_28 : decode cX9_isWord 28 = .ok (.iload_n 3, 1) := by decide +kernel
theorem dX9_isWord_29 : decode cX9_isWord 29 = .ok (.if_icmp .ne 20, 3) := by decide +kernel
theorem dX9_isWord_32 : decode cX9_isWord 32 = .ok (.aload_n 0, 1) := by decide +kernel
theorem dX9_isWord_33 : decode cX9_isWord 33 = .ok (.getfield 9, 3) := by decide +kernel
theorem dX9_isWord_36 : decode cX9_isWord 36 = .ok (.iload_n 1, 1) := by decide +kernel
theorem dX9_isWord_37 : decode cX9_isWord 37 = .ok (.iconst 2, 1) := by decide +kernel
