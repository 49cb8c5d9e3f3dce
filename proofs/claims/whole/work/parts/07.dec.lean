theorem dX1_next_0 : decode cX1_next 0 = .ok (.sipush 1000, 3) := by decide +kernel
theorem dX1_next_3 : decode cX1_next 3 = .ok (.iload_n 1, 1) := by decide +kernel
theorem dX1_next_4 : decode cX1_next 4 = .ok (.isub, 1) := by decide +kernel
theorem dX1_next_5 : decode cX1_next 5 = .ok (.i2l, 1) := by decide +kernel
theorem dX1_next_6 : decode cX1_next 6 = .ok (.lstore_n 2, 1) := by decide +kernel
theorem dX1_next_7 : decode cX1_next 7 = .ok (.lload_n 2, 1) := by decide +kernel
theorem dX1_next_8 : decode cX1_next 8 = .ok (.lload_n 2, 1) := by decide +kernel
theorem dX1_next_9 : decode cX1_next 9 = .ok (.lmul, 1) := by decide +kernel
theorem dX1_next_10 : decode cX1_next 10 = .ok (.aload_n 0, 1) := by decide +kernel
theorem dX1_next_11 : decode cX1_next 11 = .ok (.getfield 15, 3) := by decide +kernel
theorem dX1_next_14 : decode cX1_next 14 = .ok (.iconst 0, 1) := by decide +kernel
theorem dX1_next_15 : decode cX1_next 15 = .ok (.iaload, 1) := by decide +kernel
theorem dX1_next_16 : decode cX1_next 16 = .ok (.i2l, 1) := by decide +kernel
theorem dX1_next_17 : decode cX1_next 17 = .ok (.lmul, 1) := by decide +kernel
theorem dX1_next_18 : decode cX1_next 18 = .ok (.lload_n 2, 1) := by decide +kernel
theorem dX1_next_19 : decode cX1_next 19 = .ok (.iload_n 1, 1) := by decide +kernel
theorem dX1_next_20 : decode cX1_next 20 = .ok (.i2l, 1) := by decide +kernel
theorem dX1_next_21 : decode cX1_next 21 = .ok (.lmul, 1) := by decide +kernel
theorem dX1_next_22 : decode cX1_next 22 = .ok (.aload_n 0, 1) := by decide +kernel
theorem dX1_next_23 : decode cX1_next 23 = .ok (.getfield 15, 3) := by decide +kernel
theorem dX1_next_26 : decode cX1_next 26 = .ok (.iconst 1, 1) := by decide +kernel
theorem dX1_next_27 : decode cX1_next 27 = .ok (.iaload, 1) := by decide +kernel
theorem dX1_next_28 : decode cX1_next 28 = .ok (.aload_n 0, 1) := by decide +kernel
theorem dX1_next_29 : decode cX1_next 29 = .ok (.getfield 15, 3) := by decide +kernel
theorem dX1_next_32 : decode cX1_next 32 = .ok (.iconst 2, 1) := by decide +kernel
theorem dX1_next_33 : decode cX1_next 33 = .ok (.iaload, 1) := by decide +kernel
theorem dX1_next_34 : decode cX1_next 34 = .ok (.iadd, 1) := by decide +kernel
theorem dX1_next_35 : decode cX1_next 35 = .ok (.i2l, 1) := by decide +kernel
theorem dX1_next_36 : decode cX1_next 36 = .ok (.lmul, 1) := by decide +kernel
theorem dX1_next_37 : decode cX1_next 37 = .ok (.ladd, 1) := by decide +kernel
theorem dX1_next_38 : decode cX1_next 38 = .ok (.iload_n 1, 1) := by decide +kernel
theorem dX1_next_39 : decode cX1_next 39 = .ok (.i2l, 1) := by decide +kernel
theorem dX1_next_40 : decode cX1_next 40 = .ok (.iload_n 1, 1) := by decide +kernel
theorem dX1_next_41 : decode cX1_next 41 = .ok (.i2l, 1) := by decide +kernel
theorem dX1_next_42 : decode cX1_next 42 = .ok (.lmul, 1) := by decide +kernel
theorem dX1_next_43 : decode cX1_next 43 = .ok (.aload_n 0, 1) := by decide +kernel
theorem dX1_next_44 : decode cX1_next 44 = .ok (.getfield 15, 3) := by decide +kernel
theorem dX1_next_47 : decode cX1_next 47 = .ok (.iconst 3, 1) := by decide +kernel
theorem dX1_next_48 : decode cX1_next 48 = .ok (.iaload, 1) := by decide +kernel
theorem dX1_next_49 : decode cX1_next 49 = .ok (.i2l, 1) := by decide +kernel
theorem dX1_next_50 : decode cX1_next 50 = .ok (.lmul, 1) := by decide +kernel
theorem dX1_next_51 : decode cX1_next 51 = .ok (.ladd, 1) := by decide +kernel
theorem dX1_next_52 : decode cX1_next 52 = .ok (.lstore 4, 2) := by decide +kernel
theorem dX1_next_54 : decode cX1_next 54 = .ok (.lload 4, 2) := by decide +kernel
theorem dX1_next_56 : decode cX1_next 56 = .ok (.ldc2_w 57, 3) := by decide +kernel
theorem dX1_next_59 : decode cX1_next 59 = .ok (.ldiv, 1) := by decide +kernel
theorem dX1_next_60 : decode cX1_next 60 = .ok (.l2i, 1) := by decide +kernel
theorem dX1_next_61 : decode cX1_next 61 = .ok (.istore 6, 2) := by decide +kernel
theorem dX1_next_63 : decode cX1_next 63 = .ok (.bipush 100, 2) := by decide +kernel
theorem dX1_next_65 : decode cX1_next 65 = .ok (.aload_n 0, 1) := by decide +kernel
theorem dX1_next_66 : decode cX1_next 66 = .ok (.getfield 45, 3) := by decide +kernel
theorem dX1_next_69 : decode cX1_next 69 = .ok (.isub, 1) := by decide +kernel
theorem dX1_next_70 : decode cX1_next 70 = .ok (.iload 6, 2) := by decide +kernel
theorem dX1_next_72 : decode cX1_next 72 = .ok (.imul, 1) := by decide +kernel
theorem dX1_next_73 : decode cX1_next 73 = .ok (.aload_n 0, 1) := by decide +kernel
theorem dX1_next_74 : decode cX1_next 74 = .ok (.getfield 45, 3) := by decide +kernel
theorem dX1_next_77 : decode cX1_next 77 = .ok (.sipush 1000, 3) := by decide +kernel
theorem dX1_next_80 : decode cX1_next 80 = .ok (.imul, 1) := by decide +kernel
theorem dX1_next_81 : decode cX1_next 81 = .ok (.aload_n 0, 1) := by decide +kernel
theorem dX1_next_82 : decode cX1_next 82 = .ok (.getfield 49, 3) := by decide +kernel
theorem dX1_next_85 : decode cX1_next 85 = .ok (.imul, 1) := by decide +kernel
theorem dX1_next_86 : decode cX1_next 86 = .ok (.iadd, 1) := by decide +kernel
theorem dX1_next_87 : decode cX1_next 87 = .ok (.bipush 100, 2) := by decide +kernel
theorem dX1_next_89 : decode cX1_next 89 = .ok (.idiv, 1) := by decide +kernel
theorem dX1_next_90 : decode cX1_next 90 = .ok (.ireturn, 1) := by decide +kernel
theorem dX8_within_0 : decode cX8_within 0 = .ok (.iload_n 0, 1) := by decide +kernel
theorem dX8_within_1 : decode cX8_within 1 = .ok (.iload_n 1, 1) := by decide +kernel
theorem dX8_within_2 : decode cX8_within 2 = .ok (.if_icmp .lt 12, 3) := by decide +kernel
theorem dX8_within_5 : decode cX8_within 5 = .ok (.iload_n 0, 1) := by decide +kernel
theorem dX8_within_6 : decode cX8_within 6 = .ok (.iload_n 2, 1) := by decide +kernel
theorem dX8_within_7 : decode cX8_within 7 = .ok (.if_icmp .gt 7, 3) := by decide +kernel
theorem dX8_within_10 : decode cX8_within 10 = .ok (.iconst 1, 1) := by decide +kernel
theorem dX8_within_11 : decode cX8_within 11 = .ok (.goto 4, 3) := by decide +kernel
theorem dX8_within_14 : decode cX8_within 14 = .ok (.iconst 0, 1) := by decide +kernel
theorem dX8_within_15 : decode cX8_within 15 = .ok (.ireturn, 1) := by decide +kernel
theorem dX8_isShare_0 : decode cX8_isShare 0 = .ok (.iload_n 0, 1) := by decide +kernel
theorem dX8_isShare_1 : decode cX8_isShare 1 = .ok (.iconst 0, 1) := by decide +kernel
theorem dX8_isShare_2 : decode cX8_isShare 2 = .ok (.sipush 1000, 3) := by decide +kernel
theorem dX8_isShare_5 : decode cX8_isShare 5 = .ok (.invokestatic 73, 3) := by decide +kernel
theorem dX8_isShare_8 : decode cX8_isShare 8 = .ok (.ireturn, 1) := by decide +kernel
theorem dX8_bit_0 : decode cX8_bit 0 = .ok (.iload_n 0, 1) := by decide +kernel
theorem dX8_bit_1 : decode cX8_bit 1 = .ok (.iload_n 1, 1) := by decide +kernel
theorem dX8_bit_2 : decode cX8_bit 2 = .ok (.ishr, 1) := by decide +kernel
theorem dX8_bit_3 : decode cX8_bit 3 = .ok (.iconst 1, 1) := by decide +kernel
theorem dX8_bit_4 : decode cX8_bit 4 = .ok (.iand, 1) := by decide +kernel
theorem dX8_bit_5 : decode cX8_bit 5 = .ok (.ireturn, 1) := by decide +kernel
theorem dX8_hangs_0 : decode cX8_hangs 0 = .ok (.iconst 0, 1) := by decide +kernel
theorem dX8_hangs_1 : decode cX8_hangs 1 = .ok (.istore_n 3, 1) := by decide +kernel
theorem dX8_hangs_2 : decode cX8_hangs 2 = .ok (.iload_n 3, 1) := by decide +kernel
theorem dX8_hangs_3 : decode cX8_hangs 3 = .ok (.iload_n 1, 1) := by decide +kernel
theorem dX8_hangs_4 : decode cX8_hangs 4 = .ok (.if_icmp .ge 26, 3) := by decide +kernel
theorem dX8_hangs_7 : decode cX8_hangs 7 = .ok (.iload_n 0, 1) := by decide +kernel
theorem dX8_hangs_8 : decode cX8_hangs 8 = .ok (.iload_n 3, 1) := by decide +kernel
theorem dX8_hangs_9 : decode cX8_hangs 9 = .ok (.invokestatic 134, 3) := by decide +kernel
theorem dX8_hangs_12 : decode cX8_hangs 12 = .ok (.iload_n 0, 1) := by decide +kernel
theorem dX8_hangs_13 : decode cX8_hangs 13 = .ok (.iload_n 3, 1) := by decide +kernel
theorem dX8_hangs_14 : decode cX8_hangs 14 = .ok (.iload_n 2, 1) := by decide +kernel
theorem dX8_hangs_15 : decode cX8_hangs 15 = .ok (.ixor, 1) := by decide +kernel
theorem dX8_hangs_16 : decode cX8_hangs 16 = .ok (.invokestatic 134, 3) := by decide +kernel
theorem dX8_hangs_19 : decode cX8_hangs 19 = .ok (.if_icmp .eq 5, 3) := by decide +kernel
theorem dX8_hangs_22 : decode cX8_hangs 22 = .ok (.iconst 1, 1) := by decide +kernel
theorem dX8_hangs_23 : decode cX8_hangs 23 = .ok (.ireturn, 1) := by decide +kernel
theorem dX8_hangs_24 : decode cX8_hangs 24 = .ok (.iinc 3 1, 3) := by decide +kernel
theorem dX8_hangs_27 : decode cX8_hangs 27 = .ok (.goto (-25), 3) := by decide +kernel
theorem dX8_hangs_30 : decode cX8_hangs 30 = .ok (.iconst 0, 1) := by decide +kernel
theorem dX8_hangs_31 : decode cX8_hangs 31 = .ok (.ireturn, 1) := by decide +kernel
theorem dX9_means_0 : decode cX9_means 0 = .ok (.iload_n 0, 1) := by decide +kernel
theorem dX9_means_1 : decode cX9_means 1 = .ok (.iconst 2, 1) := by decide +kernel
theorem dX9_means_2 : decode cX9_means 2 = .ok (.iload_n 1, 1) := by decide +kernel
theorem dX9_means_3 : decode cX9_means 3 = .ok (.imul, 1) := by decide +kernel
theorem dX9_means_4 : decode cX9_means 4 = .ok (.iload_n 2, 1) := by decide +kernel
theorem dX9_means_5 : decode cX9_means 5 = .ok (.iadd, 1) := by decide +kernel
theorem dX9_means_6 : decode cX9_means 6 = .ok (.ishr, 1) := by decide +kernel
theorem dX9_means_7 : decode cX9_means 7 = .ok (.iconst 1, 1) := by decide +kernel
theorem dX9_means_8 : decode cX9_means 8 = .ok (.iand, 1) := by decide +kernel
theorem dX9_means_9 : decode cX9_means 9 = .ok (.ireturn, 1) := by decide +kernel
theorem dX9_calls_0 : decode cX9_calls 0 = .ok (.iload_n 0, 1) := by decide +kernel
theorem dX9_calls_1 : decode cX9_calls 1 = .ok (.iconst 4, 1) := by decide +kernel
theorem dX9_calls_2 : decode cX9_calls 2 = .ok (.iload_n 1, 1) := by decide +kernel
theorem dX9_calls_3 : decode cX9_calls 3 = .ok (.imul, 1) := by decide +kernel
theorem dX9_calls_4 : decode cX9_calls 4 = .ok (.iconst 2, 1) := by decide +kernel
theorem dX9_calls_5 : decode cX9_calls 5 = .ok (.iload_n 2, 1) := by decide +kernel
theorem dX9_calls_6 : decode cX9_calls 6 = .ok (.imul, 1) := by decide +kernel
theorem dX9_calls_7 : decode cX9_calls 7 = .ok (.iadd, 1) := by decide +kernel
theorem dX9_calls_8 : decode cX9_calls 8 = .ok (.iload_n 3, 1) := by decide +kernel
theorem dX9_calls_9 : decode cX9_calls 9 = .ok (.iadd, 1) := by decide +kernel
theorem dX9_calls_10 : decode cX9_calls 10 = .ok (.ishr, 1) := by decide +kernel
theorem dX9_calls_11 : decode cX9_calls 11 = .ok (.iconst 1, 1) := by decide +kernel
theorem dX9_calls_12 : decode cX9_calls 12 = .ok (.iand, 1) := by decide +kernel
theorem dX9_calls_13 : decode cX9_calls 13 = .ok (.ireturn, 1) := by decide +kernel
theorem dX9_shareOf_0 : decode cX9_shareOf 0 = .ok (.iload_n 0, 1) := by decide +kernel
theorem dX9_shareOf_1 : decode cX9_shareOf 1 = .ok (.iconst 1, 1) := by decide +kernel
theorem dX9_shareOf_2 : decode cX9_shareOf 2 = .ok (.if_icmp .ne 7, 3) := by decide +kernel
theorem dX9_shareOf_5 : decode cX9_shareOf 5 = .ok (.iload_n 1, 1) := by decide +kernel
theorem dX9_shareOf_6 : decode cX9_shareOf 6 = .ok (.goto 8, 3) := by decide +kernel
theorem dX9_shareOf_9 : decode cX9_shareOf 9 = .ok (.sipush 1000, 3) := by decide +kernel
theorem dX9_shareOf_12 : decode cX9_shareOf 12 = .ok (.iload_n 1, 1) := by decide +kernel
theorem dX9_shareOf_13 : decode cX9_shareOf 13 = .ok (.isub, 1) := by decide +kernel
theorem dX9_shareOf_14 : decode cX9_shareOf 14 = .ok (.ireturn, 1) := by decide +kernel
theorem dX9_calledGood_0 : decode cX9_calledGood 0 = .ok (.iload_n 1, 1) := by decide +kernel
theorem dX9_calledGood_1 : decode cX9_calledGood 1 = .ok (.iload_n 3, 1) := by decide +kernel
theorem dX9_calledGood_2 : decode cX9_calledGood 2 = .ok (.iload 4, 2) := by decide +kernel
theorem dX9_calledGood_4 : decode cX9_calledGood 4 = .ok (.invokestatic 127, 3) := by decide +kernel
theorem dX9_calledGood_7 : decode cX9_calledGood 7 = .ok (.iconst 1, 1) := by decide +kernel
theorem dX9_calledGood_8 : decode cX9_calledGood 8 = .ok (.if_icmp .ne 15, 3) := by decide +kernel
theorem dX9_calledGood_11 : decode cX9_calledGood 11 = .ok (.bipush 100, 2) := by decide +kernel
theorem dX9_calledGood_13 : decode cX9_calledGood 13 = .ok (.aload_n 0, 1) := by decide +kernel
theorem dX9_calledGood_14 : decode cX9_calledGood 14 = .ok (.getfield 7, 3) := by decide +kernel
theorem dX9_calledGood_17 : decode cX9_calledGood 17 = .ok (.iconst 2, 1) := by decide +kernel
theorem dX9_calledGood_18 : decode cX9_calledGood 18 = .ok (.iaload, 1) := by decide +kernel
theorem dX9_calledGood_19 : decode cX9_calledGood 19 = .ok (.isub, 1) := by decide +kernel
theorem dX9_calledGood_20 : decode cX9_calledGood 20 = .ok (.goto 4, 3) := by decide +kernel
theorem dX9_calledGood_23 : decode cX9_calledGood 23 = .ok (.iconst 0, 1) := by decide +kernel
theorem dX9_calledGood_24 : decode cX9_calledGood 24 = .ok (.istore 5, 2) := by decide +kernel
theorem dX9_calledGood_26 : decode cX9_calledGood 26 = .ok (.iconst 0, 1) := by decide +kernel
theorem dX9_calledGood_27 : decode cX9_calledGood 27 = .ok (.istore 6, 2) := by decide +kernel
theorem dX9_calledGood_29 : decode cX9_calledGood 29 = .ok (.iconst 0, 1) := by decide +kernel
theorem dX9_calledGood_30 : decode cX9_calledGood 30 = .ok (.istore 7, 2) := by decide +kernel
theorem dX9_calledGood_32 : decode cX9_calledGood 32 = .ok (.iload 7, 2) := by decide +kernel
theorem dX9_calledGood_34 : decode cX9_calledGood 34 = .ok (.iconst 2, 1) := by decide +kernel
theorem dX9_calledGood_35 : decode cX9_calledGood 35 = .ok (.if_icmp .ge 66, 3) := by decide +kernel
theorem dX9_calledGood_38 : decode cX9_calledGood 38 = .ok (.iload 7, 2) := by decide +kernel
theorem dX9_calledGood_40 : decode cX9_calledGood 40 = .ok (.iconst 1, 1) := by decide +kernel
theorem dX9_calledGood_41 : decode cX9_calledGood 41 = .ok (.if_icmp .ne 8, 3) := by decide +kernel
theorem dX9_calledGood_44 : decode cX9_calledGood 44 = .ok (.iload 5, 2) := by decide +kernel
theorem dX9_calledGood_46 : decode cX9_calledGood 46 = .ok (.goto 8, 3) := by decide +kernel
theorem dX9_calledGood_49 : decode cX9_calledGood 49 = .ok (.bipush 100, 2) := by decide +kernel
theorem dX9_calledGood_51 : decode cX9_calledGood 51 = .ok (.iload 5, 2) := by decide +kernel
theorem dX9_calledGood_53 : decode cX9_calledGood 53 = .ok (.isub, 1) := by decide +kernel
theorem dX9_calledGood_54 : decode cX9_calledGood 54 = .ok (.istore 8, 2) := by decide +kernel
theorem dX9_calledGood_56 : decode cX9_calledGood 56 = .ok (.iload 6, 2) := by decide +kernel
theorem dX9_calledGood_58 : decode cX9_calledGood 58 = .ok (.iload 8, 2) := by decide +kernel
theorem dX9_calledGood_60 : decode cX9_calledGood 60 = .ok (.iload_n 2, 1) := by decide +kernel
theorem dX9_calledGood_61 : decode cX9_calledGood 61 = .ok (.iload_n 3, 1) := by decide +kernel
theorem dX9_calledGood_62 : decode cX9_calledGood 62 = .ok (.iload 4, 2) := by decide +kernel
theorem dX9_calledGood_64 : decode cX9_calledGood 64 = .ok (.iload 7, 2) := by decide +kernel
theorem dX9_calledGood_66 : decode cX9_calledGood 66 = .ok (.invokestatic 131, 3) := by decide +kernel
theorem dX9_calledGood_69 : decode cX9_calledGood 69 = .ok (.iconst 1, 1) := by decide +kernel
theorem dX9_calledGood_70 : decode cX9_calledGood 70 = .ok (.if_icmp .ne 15, 3) := by decide +kernel
theorem dX9_calledGood_73 : decode cX9_calledGood 73 = .ok (.bipush 100, 2) := by decide +kernel
theorem dX9_calledGood_75 : decode cX9_calledGood 75 = .ok (.aload_n 0, 1) := by decide +kernel
theorem dX9_calledGood_76 : decode cX9_calledGood 76 = .ok (.getfield 7, 3) := by decide +kernel
theorem dX9_calledGood_79 : decode cX9_calledGood 79 = .ok (.iconst 3, 1) := by decide +kernel
theorem dX9_calledGood_80 : decode cX9_calledGood 80 = .ok (.iaload, 1) := by decide +kernel
theorem dX9_calledGood_81 : decode cX9_calledGood 81 = .ok (.isub, 1) := by decide +kernel
theorem dX9_calledGood_82 : decode cX9_calledGood 82 = .ok (.goto 9, 3) := by decide +kernel
theorem dX9_calledGood_85 : decode cX9_calledGood 85 = .ok (.aload_n 0, 1) := by decide +kernel
theorem dX9_calledGood_86 : decode cX9_calledGood 86 = .ok (.getfield 7, 3) := by decide +kernel
theorem dX9_calledGood_89 : decode cX9_calledGood 89 = .ok (.iconst 3, 1) := by decide +kernel
theorem dX9_calledGood_90 : decode cX9_calledGood 90 = .ok (.iaload, 1) := by decide +kernel
theorem dX9_calledGood_91 : decode cX9_calledGood 91 = .ok (.imul, 1) := by decide +kernel
theorem dX9_calledGood_92 : decode cX9_calledGood 92 = .ok (.iadd, 1) := by decide +kernel
theorem dX9_calledGood_93 : decode cX9_calledGood 93 = .ok (.istore 6, 2) := by decide +kernel
theorem dX9_calledGood_95 : decode cX9_calledGood 95 = .ok (.iinc 7 1, 3) := by decide +kernel
theorem dX9_calledGood_98 : decode cX9_calledGood 98 = .ok (.goto (-66), 3) := by decide +kernel
theorem dX9_calledGood_101 : decode cX9_calledGood 101 = .ok (.iload 6, 2) := by decide +kernel
theorem dX9_calledGood_103 : decode cX9_calledGood 103 = .ok (.ireturn, 1) := by decide +kernel
theorem dX9_stepOf_0 : decode cX9_stepOf 0 = .ok (.lconst 0, 1) := by decide +kernel
theorem dX9_stepOf_1 : decode cX9_stepOf 1 = .ok (.lstore_n 3, 1) := by decide +kernel
theorem dX9_stepOf_2 : decode cX9_stepOf 2 = .ok (.iconst 0, 1) := by decide +kernel
theorem dX9_stepOf_3 : decode cX9_stepOf 3 = .ok (.istore 5, 2) := by decide +kernel
theorem dX9_stepOf_5 : decode cX9_stepOf 5 = .ok (.iload 5, 2) := by decide +kernel
theorem dX9_stepOf_7 : decode cX9_stepOf 7 = .ok (.iconst 2, 1) := by decide +kernel
theorem dX9_stepOf_8 : decode cX9_stepOf 8 = .ok (.if_icmp .ge 60, 3) := by decide +kernel
theorem dX9_stepOf_11 : decode cX9_stepOf 11 = .ok (.iconst 0, 1) := by decide +kernel
theorem dX9_stepOf_12 : decode cX9_stepOf 12 = .ok (.istore 6, 2) := by decide +kernel
theorem dX9_stepOf_14 : decode cX9_stepOf 14 = .ok (.iload 6, 2) := by decide +kernel
theorem dX9_stepOf_16 : decode cX9_stepOf 16 = .ok (.iconst 2, 1) := by decide +kernel
theorem dX9_stepOf_17 : decode cX9_stepOf 17 = .ok (.if_icmp .ge 45, 3) := by decide +kernel
theorem dX9_stepOf_20 : decode cX9_stepOf 20 = .ok (.lload_n 3, 1) := by decide +kernel
theorem dX9_stepOf_21 : decode cX9_stepOf 21 = .ok (.iload 5, 2) := by decide +kernel
theorem dX9_stepOf_23 : decode cX9_stepOf 23 = .ok (.iload_n 2, 1) := by decide +kernel
theorem dX9_stepOf_24 : decode cX9_stepOf 24 = .ok (.invokestatic 135, 3) := by decide +kernel
theorem dX9_stepOf_27 : decode cX9_stepOf 27 = .ok (.i2l, 1) := by decide +kernel
theorem dX9_stepOf_28 : decode cX9_stepOf 28 = .ok (.iload 6, 2) := by decide +kernel
theorem dX9_stepOf_30 : decode cX9_stepOf 30 = .ok (.iload_n 2, 1) := by decide +kernel
theorem dX9_stepOf_31 : decode cX9_stepOf 31 = .ok (.invokestatic 135, 3) := by decide +kernel
theorem dX9_stepOf_34 : decode cX9_stepOf 34 = .ok (.i2l, 1) := by decide +kernel
theorem dX9_stepOf_35 : decode cX9_stepOf 35 = .ok (.lmul, 1) := by decide +kernel
theorem dX9_stepOf_36 : decode cX9_stepOf 36 = .ok (.aload_n 0, 1) := by decide +kernel
theorem dX9_stepOf_37 : decode cX9_stepOf 37 = .ok (.iload_n 1, 1) := by decide +kernel
theorem dX9_stepOf_38 : decode cX9_stepOf 38 = .ok (.bipush 16, 2) := by decide +kernel
theorem dX9_stepOf_40 : decode cX9_stepOf 40 = .ok (.irem, 1) := by decide +kernel
theorem dX9_stepOf_41 : decode cX9_stepOf 41 = .ok (.iload_n 1, 1) := by decide +kernel
theorem dX9_stepOf_42 : decode cX9_stepOf 42 = .ok (.bipush 16, 2) := by decide +kernel
theorem dX9_stepOf_44 : decode cX9_stepOf 44 = .ok (.idiv, 1) := by decide +kernel
theorem dX9_stepOf_45 : decode cX9_stepOf 45 = .ok (.iload 5, 2) := by decide +kernel
theorem dX9_stepOf_47 : decode cX9_stepOf 47 = .ok (.iload 6, 2) := by decide +kernel
theorem dX9_stepOf_49 : decode cX9_stepOf 49 = .ok (.invokevirtual 138, 3) := by decide +kernel
theorem dX9_stepOf_52 : decode cX9_stepOf 52 = .ok (.i2l, 1) := by decide +kernel
theorem dX9_stepOf_53 : decode cX9_stepOf 53 = .ok (.lmul, 1) := by decide +kernel
theorem dX9_stepOf_54 : decode cX9_stepOf 54 = .ok (.ladd, 1) := by decide +kernel
theorem dX9_stepOf_55 : decode cX9_stepOf 55 = .ok (.lstore_n 3, 1) := by decide +kernel
theorem dX9_stepOf_56 : decode cX9_stepOf 56 = .ok (.iinc 6 1, 3) := by decide +kernel
theorem dX9_stepOf_59 : decode cX9_stepOf 59 = .ok (.goto (-45), 3) := by decide +kernel
theorem dX9_stepOf_62 : decode cX9_stepOf 62 = .ok (.iinc 5 1, 3) := by decide +kernel
theorem dX9_stepOf_65 : decode cX9_stepOf 65 = .ok (.goto (-60), 3) := by decide +kernel
theorem dX9_stepOf_68 : decode cX9_stepOf 68 = .ok (.lload_n 3, 1) := by decide +kernel
theorem dX9_stepOf_69 : decode cX9_stepOf 69 = .ok (.ldc2_w 141, 3) := by decide +kernel
theorem dX9_stepOf_72 : decode cX9_stepOf 72 = .ok (.ldiv, 1) := by decide +kernel
theorem dX9_stepOf_73 : decode cX9_stepOf 73 = .ok (.l2i, 1) := by decide +kernel
theorem dX9_stepOf_74 : decode cX9_stepOf 74 = .ok (.istore 5, 2) := by decide +kernel
theorem dX9_stepOf_76 : decode cX9_stepOf 76 = .ok (.bipush 100, 2) := by decide +kernel
theorem dX9_stepOf_78 : decode cX9_stepOf 78 = .ok (.aload_n 0, 1) := by decide +kernel
theorem dX9_stepOf_79 : decode cX9_stepOf 79 = .ok (.getfield 7, 3) := by decide +kernel
theorem dX9_stepOf_82 : decode cX9_stepOf 82 = .ok (.iconst 4, 1) := by decide +kernel
theorem dX9_stepOf_83 : decode cX9_stepOf 83 = .ok (.iaload, 1) := by decide +kernel
theorem dX9_stepOf_84 : decode cX9_stepOf 84 = .ok (.isub, 1) := by decide +kernel
theorem dX9_stepOf_85 : decode cX9_stepOf 85 = .ok (.iload 5, 2) := by decide +kernel
theorem dX9_stepOf_87 : decode cX9_stepOf 87 = .ok (.imul, 1) := by decide +kernel
theorem dX9_stepOf_88 : decode cX9_stepOf 88 = .ok (.aload_n 0, 1) := by decide +kernel
theorem dX9_stepOf_89 : decode cX9_stepOf 89 = .ok (.getfield 7, 3) := by decide +kernel
theorem dX9_stepOf_92 : decode cX9_stepOf 92 = .ok (.iconst 4, 1) := by decide +kernel
theorem dX9_stepOf_93 : decode cX9_stepOf 93 = .ok (.iaload, 1) := by decide +kernel
theorem dX9_stepOf_94 : decode cX9_stepOf 94 = .ok (.sipush 1000, 3) := by decide +kernel
theorem dX9_stepOf_97 : decode cX9_stepOf 97 = .ok (.imul, 1) := by decide +kernel
theorem dX9_stepOf_98 : decode cX9_stepOf 98 = .ok (.aload_n 0, 1) := by decide +kernel
theorem dX9_stepOf_99 : decode cX9_stepOf 99 = .ok (.getfield 7, 3) := by decide +kernel
theorem dX9_stepOf_102 : decode cX9_stepOf 102 = .ok (.iconst 5, 1) := by decide +kernel
theorem dX9_stepOf_103 : decode cX9_stepOf 103 = .ok (.iaload, 1) := by decide +kernel
theorem dX9_stepOf_104 : decode cX9_stepOf 104 = .ok (.imul, 1) := by decide +kernel
theorem dX9_stepOf_105 : decode cX9_stepOf 105 = .ok (.iadd, 1) := by decide +kernel
theorem dX9_stepOf_106 : decode cX9_stepOf 106 = .ok (.bipush 100, 2) := by decide +kernel
theorem dX9_stepOf_108 : decode cX9_stepOf 108 = .ok (.idiv, 1) := by decide +kernel
theorem dX9_stepOf_109 : decode cX9_stepOf 109 = .ok (.ireturn, 1) := by decide +kernel
theorem dX9_goFrom_0 : decode cX9_goFrom 0 = .ok (.iconst 0, 1) := by decide +kernel
theorem dX9_goFrom_1 : decode cX9_goFrom 1 = .ok (.istore_n 3, 1) := by decide +kernel
theorem dX9_goFrom_2 : decode cX9_goFrom 2 = .ok (.iload_n 3, 1) := by decide +kernel
theorem dX9_goFrom_3 : decode cX9_goFrom 3 = .ok (.sipush 1000, 3) := by decide +kernel
theorem dX9_goFrom_6 : decode cX9_goFrom 6 = .ok (.if_icmp .gt 16, 3) := by decide +kernel
theorem dX9_goFrom_9 : decode cX9_goFrom 9 = .ok (.aload_n 0, 1) := by decide +kernel
theorem dX9_goFrom_10 : decode cX9_goFrom 10 = .ok (.getfield 23, 3) := by decide +kernel
theorem dX9_goFrom_13 : decode cX9_goFrom 13 = .ok (.iload_n 3, 1) := by decide +kernel
theorem dX9_goFrom_14 : decode cX9_goFrom 14 = .ok (.iconst (-1), 1) := by decide +kernel
theorem dX9_goFrom_15 : decode cX9_goFrom 15 = .ok (.iastore, 1) := by decide +kernel
theorem dX9_goFrom_16 : decode cX9_goFrom 16 = .ok (.iinc 3 1, 3) := by decide +kernel
theorem dX9_goFrom_19 : decode cX9_goFrom 19 = .ok (.goto (-17), 3) := by decide +kernel
theorem dX9_goFrom_22 : decode cX9_goFrom 22 = .ok (.iload_n 2, 1) := by decide +kernel
theorem dX9_goFrom_23 : decode cX9_goFrom 23 = .ok (.istore_n 3, 1) := by decide +kernel
theorem dX9_goFrom_24 : decode cX9_goFrom 24 = .ok (.iconst 0, 1) := by decide +kernel
theorem dX9_goFrom_25 : decode cX9_goFrom 25 = .ok (.istore 4, 2) := by decide +kernel
theorem dX9_goFrom_27 : decode cX9_goFrom 27 = .ok (.aload_n 0, 1) := by decide +kernel
theorem dX9_goFrom_28 : decode cX9_goFrom 28 = .ok (.getfield 23, 3) := by decide +kernel
theorem dX9_goFrom_31 : decode cX9_goFrom 31 = .ok (.iload_n 3, 1) := by decide +kernel
theorem dX9_goFrom_32 : decode cX9_goFrom 32 = .ok (.iaload, 1) := by decide +kernel
theorem dX9_goFrom_33 : decode cX9_goFrom 33 = .ok (.ifCond .ge 24, 3) := by decide +kernel
theorem dX9_goFrom_36 : decode cX9_goFrom 36 = .ok (.aload_n 0, 1) := by decide +kernel
theorem dX9_goFrom_37 : decode cX9_goFrom 37 = .ok (.getfield 23, 3) := by decide +kernel
theorem dX9_goFrom_40 : decode cX9_goFrom 40 = .ok (.iload_n 3, 1) := by decide +kernel
theorem dX9_goFrom_41 : decode cX9_goFrom 41 = .ok (.iload 4, 2) := by decide +kernel
theorem dX9_goFrom_43 : decode cX9_goFrom 43 = .ok (.iastore, 1) := by decide +kernel
theorem dX9_goFrom_44 : decode cX9_goFrom 44 = .ok (.iinc 4 1, 3) := by decide +kernel
theorem dX9_goFrom_47 : decode cX9_goFrom 47 = .ok (.aload_n 0, 1) := by decide +kernel
theorem dX9_goFrom_48 : decode cX9_goFrom 48 = .ok (.iload_n 1, 1) := by decide +kernel
theorem dX9_goFrom_49 : decode cX9_goFrom 49 = .ok (.iload_n 3, 1) := by decide +kernel
theorem dX9_goFrom_50 : decode cX9_goFrom 50 = .ok (.invokevirtual 146, 3) := by decide +kernel
theorem dX9_goFrom_53 : decode cX9_goFrom 53 = .ok (.istore_n 3, 1) := by decide +kernel
theorem dX9_goFrom_54 : decode cX9_goFrom 54 = .ok (.goto (-27), 3) := by decide +kernel
theorem dX9_goFrom_57 : decode cX9_goFrom 57 = .ok (.aload_n 0, 1) := by decide +kernel
theorem dX9_goFrom_58 : decode cX9_goFrom 58 = .ok (.aload_n 0, 1) := by decide +kernel
theorem dX9_goFrom_59 : decode cX9_goFrom 59 = .ok (.getfield 23, 3) := by decide +kernel
theorem dX9_goFrom_62 : decode cX9_goFrom 62 = .ok (.iload_n 3, 1) := by decide +kernel
theorem dX9_goFrom_63 : decode cX9_goFrom 63 = .ok (.iaload, 1) := by decide +kernel
theorem dX9_goFrom_64 : decode cX9_goFrom 64 = .ok (.putfield 149, 3) := by decide +kernel
theorem dX9_goFrom_67 : decode cX9_goFrom 67 = .ok (.aload_n 0, 1) := by decide +kernel
theorem dX9_goFrom_68 : decode cX9_goFrom 68 = .ok (.iload 4, 2) := by decide +kernel
theorem dX9_goFrom_70 : decode cX9_goFrom 70 = .ok (.aload_n 0, 1) := by decide +kernel
theorem dX9_goFrom_71 : decode cX9_goFrom 71 = .ok (.getfield 149, 3) := by decide +kernel
theorem dX9_goFrom_74 : decode cX9_goFrom 74 = .ok (.isub, 1) := by decide +kernel
theorem dX9_goFrom_75 : decode cX9_goFrom 75 = .ok (.putfield 152, 3) := by decide +kernel
theorem dX9_goFrom_78 : decode cX9_goFrom 78 = .ok (.aload_n 0, 1) := by decide +kernel
theorem dX9_goFrom_79 : decode cX9_goFrom 79 = .ok (.aload_n 0, 1) := by decide +kernel
theorem dX9_goFrom_80 : decode cX9_goFrom 80 = .ok (.getfield 152, 3) := by decide +kernel
theorem dX9_goFrom_83 : decode cX9_goFrom 83 = .ok (.iconst 1, 1) := by decide +kernel
theorem dX9_goFrom_84 : decode cX9_goFrom 84 = .ok (.if_icmp .ne 7, 3) := by decide +kernel
theorem dX9_goFrom_87 : decode cX9_goFrom 87 = .ok (.iload_n 3, 1) := by decide +kernel
theorem dX9_goFrom_88 : decode cX9_goFrom 88 = .ok (.goto 4, 3) := by decide +kernel
theorem dX9_goFrom_91 : decode cX9_goFrom 91 = .ok (.iconst (-1), 1) := by decide +kernel
theorem dX9_goFrom_92 : decode cX9_goFrom 92 = .ok (.putfield 155, 3) := by decide +kernel
theorem dX9_goFrom_95 : decode cX9_goFrom 95 = .ok (.return_, 1) := by decide +kernel
theorem dX9_gcd_0 : decode cX9_gcd 0 = .ok (.lload_n 0, 1) := by decide +kernel
theorem dX9_gcd_1 : decode cX9_gcd 1 = .ok (.lconst 0, 1) := by decide +kernel
theorem dX9_gcd_2 : decode cX9_gcd 2 = .ok (.lcmp, 1) := by decide +kernel
theorem dX9_gcd_3 : decode cX9_gcd 3 = .ok (.ifCond .ge 9, 3) := by decide +kernel
theorem dX9_gcd_6 : decode cX9_gcd 6 = .ok (.lconst 0, 1) := by decide +kernel
theorem dX9_gcd_7 : decode cX9_gcd 7 = .ok (.lload_n 0, 1) := by decide +kernel
theorem dX9_gcd_8 : decode cX9_gcd 8 = .ok (.lsub, 1) := by decide +kernel
theorem dX9_gcd_9 : decode cX9_gcd 9 = .ok (.goto 4, 3) := by decide +kernel
theorem dX9_gcd_12 : decode cX9_gcd 12 = .ok (.lload_n 0, 1) := by decide +kernel
theorem dX9_gcd_13 : decode cX9_gcd 13 = .ok (.lstore 4, 2) := by decide +kernel
theorem dX9_gcd_15 : decode cX9_gcd 15 = .ok (.lload_n 2, 1) := by decide +kernel
theorem dX9_gcd_16 : decode cX9_gcd 16 = .ok (.lstore 6, 2) := by decide +kernel
theorem dX9_gcd_18 : decode cX9_gcd 18 = .ok (.lload 6, 2) := by decide +kernel
theorem dX9_gcd_20 : decode cX9_gcd 20 = .ok (.lconst 0, 1) := by decide +kernel
theorem dX9_gcd_21 : decode cX9_gcd 21 = .ok (.lcmp, 1) := by decide +kernel
theorem dX9_gcd_22 : decode cX9_gcd 22 = .ok (.ifCond .eq 21, 3) := by decide +kernel
theorem dX9_gcd_25 : decode cX9_gcd 25 = .ok (.lload 4, 2) := by decide +kernel
theorem dX9_gcd_27 : decode cX9_gcd 27 = .ok (.lload 6, 2) := by decide +kernel
theorem dX9_gcd_29 : decode cX9_gcd 29 = .ok (.lrem, 1) := by decide +kernel
theorem dX9_gcd_30 : decode cX9_gcd 30 = .ok (.lstore 8, 2) := by decide +kernel
theorem dX9_gcd_32 : decode cX9_gcd 32 = .ok (.lload 6, 2) := by decide +kernel
theorem dX9_gcd_34 : decode cX9_gcd 34 = .ok (.lstore 4, 2) := by decide +kernel
theorem dX9_gcd_36 : decode cX9_gcd 36 = .ok (.lload 8, 2) := by decide +kernel
theorem dX9_gcd_38 : decode cX9_gcd 38 = .ok (.lstore 6, 2) := by decide +kernel
theorem dX9_gcd_40 : decode cX9_gcd 40 = .ok (.goto (-22), 3) := by decide +kernel
theorem dX9_gcd_43 : decode cX9_gcd 43 = .ok (.lload 4, 2) := by decide +kernel
theorem dX9_gcd_45 : decode cX9_gcd 45 = .ok (.lreturn, 1) := by decide +kernel
