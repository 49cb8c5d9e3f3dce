theorem dX0_init_0 : decode cX0_init 0 = .ok (.aload_n 0, 1) := by decide +kernel
theorem dX0_init_1 : decode cX0_init 1 = .ok (.invokespecial 3, 3) := by decide +kernel
theorem dX0_init_4 : decode cX0_init 4 = .ok (.return_, 1) := by decide +kernel
theorem dX0_live_0 : decode cX0_live 0 = .ok (.aload_n 1, 1) := by decide +kernel
theorem dX0_live_1 : decode cX0_live 1 = .ok (.iload_n 2, 1) := by decide +kernel
theorem dX0_live_2 : decode cX0_live 2 = .ok (.iconst 1, 1) := by decide +kernel
theorem dX0_live_3 : decode cX0_live 3 = .ok (.iload_n 3, 1) := by decide +kernel
theorem dX0_live_4 : decode cX0_live 4 = .ok (.invokevirtual 9, 3) := by decide +kernel
theorem dX0_live_7 : decode cX0_live 7 = .ok (.lstore 4, 2) := by decide +kernel
theorem dX0_live_9 : decode cX0_live 9 = .ok (.aload_n 1, 1) := by decide +kernel
theorem dX0_live_10 : decode cX0_live 10 = .ok (.iload_n 2, 1) := by decide +kernel
theorem dX0_live_11 : decode cX0_live 11 = .ok (.iconst 0, 1) := by decide +kernel
theorem dX0_live_12 : decode cX0_live 12 = .ok (.iload_n 3, 1) := by decide +kernel
theorem dX0_live_13 : decode cX0_live 13 = .ok (.invokevirtual 9, 3) := by decide +kernel
theorem dX0_live_16 : decode cX0_live 16 = .ok (.lstore 6, 2) := by decide +kernel
theorem dX0_live_18 : decode cX0_live 18 = .ok (.aload_n 0, 1) := by decide +kernel
theorem dX0_live_19 : decode cX0_live 19 = .ok (.lload 6, 2) := by decide +kernel
theorem dX0_live_21 : decode cX0_live 21 = .ok (.putfield 15, 3) := by decide +kernel
theorem dX0_live_24 : decode cX0_live 24 = .ok (.aload_n 0, 1) := by decide +kernel
theorem dX0_live_25 : decode cX0_live 25 = .ok (.ldc2_w 21, 3) := by decide +kernel
theorem dX0_live_28 : decode cX0_live 28 = .ok (.lload 4, 2) := by decide +kernel
theorem dX0_live_30 : decode cX0_live 30 = .ok (.lsub, 1) := by decide +kernel
theorem dX0_live_31 : decode cX0_live 31 = .ok (.lload 6, 2) := by decide +kernel
theorem dX0_live_33 : decode cX0_live 33 = .ok (.ladd, 1) := by decide +kernel
theorem dX0_live_34 : decode cX0_live 34 = .ok (.putfield 23, 3) := by decide +kernel
theorem dX0_live_37 : decode cX0_live 37 = .ok (.aload_n 0, 1) := by decide +kernel
theorem dX0_live_38 : decode cX0_live 38 = .ok (.getfield 23, 3) := by decide +kernel
theorem dX0_live_41 : decode cX0_live 41 = .ok (.lconst 0, 1) := by decide +kernel
theorem dX0_live_42 : decode cX0_live 42 = .ok (.lcmp, 1) := by decide +kernel
theorem dX0_live_43 : decode cX0_live 43 = .ok (.ifCond .gt 13, 3) := by decide +kernel
theorem dX0_live_46 : decode cX0_live 46 = .ok (.aload_n 0, 1) := by decide +kernel
theorem dX0_live_47 : decode cX0_live 47 = .ok (.lconst 0, 1) := by decide +kernel
theorem dX0_live_48 : decode cX0_live 48 = .ok (.putfield 15, 3) := by decide +kernel
theorem dX0_live_51 : decode cX0_live 51 = .ok (.aload_n 0, 1) := by decide +kernel
theorem dX0_live_52 : decode cX0_live 52 = .ok (.lconst 1, 1) := by decide +kernel
theorem dX0_live_53 : decode cX0_live 53 = .ok (.putfield 23, 3) := by decide +kernel
theorem dX0_live_56 : decode cX0_live 56 = .ok (.aload_n 0, 1) := by decide +kernel
theorem dX0_live_57 : decode cX0_live 57 = .ok (.aload_n 0, 1) := by decide +kernel
theorem dX0_live_58 : decode cX0_live 58 = .ok (.getfield 15, 3) := by decide +kernel
theorem dX0_live_61 : decode cX0_live 61 = .ok (.iconst 1, 1) := by decide +kernel
theorem dX0_live_62 : decode cX0_live 62 = .ok (.aload_n 1, 1) := by decide +kernel
theorem dX0_live_63 : decode cX0_live 63 = .ok (.iload_n 2, 1) := by decide +kernel
theorem dX0_live_64 : decode cX0_live 64 = .ok (.iload_n 3, 1) := by decide +kernel
theorem dX0_live_65 : decode cX0_live 65 = .ok (.invokestatic 26, 3) := by decide +kernel
theorem dX0_live_68 : decode cX0_live 68 = .ok (.lmul, 1) := by decide +kernel
theorem dX0_live_69 : decode cX0_live 69 = .ok (.aload_n 0, 1) := by decide +kernel
theorem dX0_live_70 : decode cX0_live 70 = .ok (.getfield 23, 3) := by decide +kernel
theorem dX0_live_73 : decode cX0_live 73 = .ok (.aload_n 0, 1) := by decide +kernel
theorem dX0_live_74 : decode cX0_live 74 = .ok (.getfield 15, 3) := by decide +kernel
theorem dX0_live_77 : decode cX0_live 77 = .ok (.lsub, 1) := by decide +kernel
theorem dX0_live_78 : decode cX0_live 78 = .ok (.iconst 0, 1) := by decide +kernel
theorem dX0_live_79 : decode cX0_live 79 = .ok (.aload_n 1, 1) := by decide +kernel
theorem dX0_live_80 : decode cX0_live 80 = .ok (.iload_n 2, 1) := by decide +kernel
theorem dX0_live_81 : decode cX0_live 81 = .ok (.iload_n 3, 1) := by decide +kernel
theorem dX0_live_82 : decode cX0_live 82 = .ok (.invokestatic 26, 3) := by decide +kernel
theorem dX0_live_85 : decode cX0_live 85 = .ok (.lmul, 1) := by decide +kernel
theorem dX0_live_86 : decode cX0_live 86 = .ok (.ladd, 1) := by decide +kernel
theorem dX0_live_87 : decode cX0_live 87 = .ok (.putfield 30, 3) := by decide +kernel
theorem dX0_live_90 : decode cX0_live 90 = .ok (.aload_n 0, 1) := by decide +kernel
theorem dX0_live_91 : decode cX0_live 91 = .ok (.aload_n 0, 1) := by decide +kernel
theorem dX0_live_92 : decode cX0_live 92 = .ok (.getfield 30, 3) := by decide +kernel
theorem dX0_live_95 : decode cX0_live 95 = .ok (.aload_n 0, 1) := by decide +kernel
theorem dX0_live_96 : decode cX0_live 96 = .ok (.getfield 23, 3) := by decide +kernel
theorem dX0_live_99 : decode cX0_live 99 = .ok (.invokestatic 33, 3) := by decide +kernel
theorem dX0_live_102 : decode cX0_live 102 = .ok (.putfield 39, 3) := by decide +kernel
theorem dX0_live_105 : decode cX0_live 105 = .ok (.aload_n 0, 1) := by decide +kernel
theorem dX0_live_106 : decode cX0_live 106 = .ok (.aload_n 0, 1) := by decide +kernel
theorem dX0_live_107 : decode cX0_live 107 = .ok (.getfield 30, 3) := by decide +kernel
theorem dX0_live_110 : decode cX0_live 110 = .ok (.aload_n 0, 1) := by decide +kernel
theorem dX0_live_111 : decode cX0_live 111 = .ok (.getfield 39, 3) := by decide +kernel
theorem dX0_live_114 : decode cX0_live 114 = .ok (.aload_n 0, 1) := by decide +kernel
theorem dX0_live_115 : decode cX0_live 115 = .ok (.getfield 23, 3) := by decide +kernel
theorem dX0_live_118 : decode cX0_live 118 = .ok (.lmul, 1) := by decide +kernel
theorem dX0_live_119 : decode cX0_live 119 = .ok (.lsub, 1) := by decide +kernel
theorem dX0_live_120 : decode cX0_live 120 = .ok (.putfield 42, 3) := by decide +kernel
theorem dX0_live_123 : decode cX0_live 123 = .ok (.return_, 1) := by decide +kernel
theorem dX0_worthBeing_0 : decode cX0_worthBeing 0 = .ok (.sipush 1000, 3) := by decide +kernel
theorem dX0_worthBeing_3 : decode cX0_worthBeing 3 = .ok (.iload_n 3, 1) := by decide +kernel
theorem dX0_worthBeing_4 : decode cX0_worthBeing 4 = .ok (.isub, 1) := by decide +kernel
theorem dX0_worthBeing_5 : decode cX0_worthBeing 5 = .ok (.istore 4, 2) := by decide +kernel
theorem dX0_worthBeing_7 : decode cX0_worthBeing 7 = .ok (.aload_n 1, 1) := by decide +kernel
theorem dX0_worthBeing_8 : decode cX0_worthBeing 8 = .ok (.getfield 45, 3) := by decide +kernel
theorem dX0_worthBeing_11 : decode cX0_worthBeing 11 = .ok (.iload_n 0, 1) := by decide +kernel
theorem dX0_worthBeing_12 : decode cX0_worthBeing 12 = .ok (.invokestatic 49, 3) := by decide +kernel
theorem dX0_worthBeing_15 : decode cX0_worthBeing 15 = .ok (.iload 4, 2) := by decide +kernel
theorem dX0_worthBeing_17 : decode cX0_worthBeing 17 = .ok (.imul, 1) := by decide +kernel
theorem dX0_worthBeing_18 : decode cX0_worthBeing 18 = .ok (.aload_n 1, 1) := by decide +kernel
theorem dX0_worthBeing_19 : decode cX0_worthBeing 19 = .ok (.getfield 45, 3) := by decide +kernel
theorem dX0_worthBeing_22 : decode cX0_worthBeing 22 = .ok (.iconst 2, 1) := by decide +kernel
theorem dX0_worthBeing_23 : decode cX0_worthBeing 23 = .ok (.iload_n 0, 1) := by decide +kernel
theorem dX0_worthBeing_24 : decode cX0_worthBeing 24 = .ok (.iadd, 1) := by decide +kernel
theorem dX0_worthBeing_25 : decode cX0_worthBeing 25 = .ok (.invokestatic 49, 3) := by decide +kernel
theorem dX0_worthBeing_28 : decode cX0_worthBeing 28 = .ok (.iload_n 3, 1) := by decide +kernel
theorem dX0_worthBeing_29 : decode cX0_worthBeing 29 = .ok (.imul, 1) := by decide +kernel
theorem dX0_worthBeing_30 : decode cX0_worthBeing 30 = .ok (.iadd, 1) := by decide +kernel
theorem dX0_worthBeing_31 : decode cX0_worthBeing 31 = .ok (.istore 5, 2) := by decide +kernel
theorem dX0_worthBeing_33 : decode cX0_worthBeing 33 = .ok (.iload_n 2, 1) := by decide +kernel
theorem dX0_worthBeing_34 : decode cX0_worthBeing 34 = .ok (.iconst 2, 1) := by decide +kernel
theorem dX0_worthBeing_35 : decode cX0_worthBeing 35 = .ok (.iload_n 0, 1) := by decide +kernel
theorem dX0_worthBeing_36 : decode cX0_worthBeing 36 = .ok (.imul, 1) := by decide +kernel
theorem dX0_worthBeing_37 : decode cX0_worthBeing 37 = .ok (.invokestatic 49, 3) := by decide +kernel
theorem dX0_worthBeing_40 : decode cX0_worthBeing 40 = .ok (.iload 4, 2) := by decide +kernel
theorem dX0_worthBeing_42 : decode cX0_worthBeing 42 = .ok (.imul, 1) := by decide +kernel
theorem dX0_worthBeing_43 : decode cX0_worthBeing 43 = .ok (.iload_n 2, 1) := by decide +kernel
theorem dX0_worthBeing_44 : decode cX0_worthBeing 44 = .ok (.iconst 2, 1) := by decide +kernel
theorem dX0_worthBeing_45 : decode cX0_worthBeing 45 = .ok (.iload_n 0, 1) := by decide +kernel
theorem dX0_worthBeing_46 : decode cX0_worthBeing 46 = .ok (.imul, 1) := by decide +kernel
theorem dX0_worthBeing_47 : decode cX0_worthBeing 47 = .ok (.iconst 1, 1) := by decide +kernel
theorem dX0_worthBeing_48 : decode cX0_worthBeing 48 = .ok (.iadd, 1) := by decide +kernel
theorem dX0_worthBeing_49 : decode cX0_worthBeing 49 = .ok (.invokestatic 49, 3) := by decide +kernel
theorem dX0_worthBeing_52 : decode cX0_worthBeing 52 = .ok (.iload_n 3, 1) := by decide +kernel
theorem dX0_worthBeing_53 : decode cX0_worthBeing 53 = .ok (.imul, 1) := by decide +kernel
theorem dX0_worthBeing_54 : decode cX0_worthBeing 54 = .ok (.iadd, 1) := by decide +kernel
theorem dX0_worthBeing_55 : decode cX0_worthBeing 55 = .ok (.istore 6, 2) := by decide +kernel
theorem dX0_worthBeing_57 : decode cX0_worthBeing 57 = .ok (.aload_n 1, 1) := by decide +kernel
theorem dX0_worthBeing_58 : decode cX0_worthBeing 58 = .ok (.getfield 53, 3) := by decide +kernel
theorem dX0_worthBeing_61 : decode cX0_worthBeing 61 = .ok (.i2l, 1) := by decide +kernel
theorem dX0_worthBeing_62 : decode cX0_worthBeing 62 = .ok (.iload 5, 2) := by decide +kernel
theorem dX0_worthBeing_64 : decode cX0_worthBeing 64 = .ok (.i2l, 1) := by decide +kernel
theorem dX0_worthBeing_65 : decode cX0_worthBeing 65 = .ok (.lmul, 1) := by decide +kernel
theorem dX0_worthBeing_66 : decode cX0_worthBeing 66 = .ok (.aload_n 1, 1) := by decide +kernel
theorem dX0_worthBeing_67 : decode cX0_worthBeing 67 = .ok (.getfield 56, 3) := by decide +kernel
theorem dX0_worthBeing_70 : decode cX0_worthBeing 70 = .ok (.i2l, 1) := by decide +kernel
theorem dX0_worthBeing_71 : decode cX0_worthBeing 71 = .ok (.iload 6, 2) := by decide +kernel
theorem dX0_worthBeing_73 : decode cX0_worthBeing 73 = .ok (.i2l, 1) := by decide +kernel
theorem dX0_worthBeing_74 : decode cX0_worthBeing 74 = .ok (.lmul, 1) := by decide +kernel
theorem dX0_worthBeing_75 : decode cX0_worthBeing 75 = .ok (.lsub, 1) := by decide +kernel
theorem dX0_worthBeing_76 : decode cX0_worthBeing 76 = .ok (.lreturn, 1) := by decide +kernel
theorem dX0_hasUpper_0 : decode cX0_hasUpper 0 = .ok (.aload_n 0, 1) := by decide +kernel
theorem dX0_hasUpper_1 : decode cX0_hasUpper 1 = .ok (.getfield 30, 3) := by decide +kernel
theorem dX0_hasUpper_4 : decode cX0_hasUpper 4 = .ok (.aload_n 1, 1) := by decide +kernel
theorem dX0_hasUpper_5 : decode cX0_hasUpper 5 = .ok (.getfield 59, 3) := by decide +kernel
theorem dX0_hasUpper_8 : decode cX0_hasUpper 8 = .ok (.i2l, 1) := by decide +kernel
theorem dX0_hasUpper_9 : decode cX0_hasUpper 9 = .ok (.lmul, 1) := by decide +kernel
theorem dX0_hasUpper_10 : decode cX0_hasUpper 10 = .ok (.lreturn, 1) := by decide +kernel
theorem dX0_hasLower_0 : decode cX0_hasLower 0 = .ok (.aload_n 0, 1) := by decide +kernel
theorem dX0_hasLower_1 : decode cX0_hasLower 1 = .ok (.getfield 23, 3) := by decide +kernel
theorem dX0_hasLower_4 : decode cX0_hasLower 4 = .ok (.ldc2_w 62, 3) := by decide +kernel
theorem dX0_hasLower_7 : decode cX0_hasLower 7 = .ok (.lmul, 1) := by decide +kernel
theorem dX0_hasLower_8 : decode cX0_hasLower 8 = .ok (.lreturn, 1) := by decide +kernel
theorem dX1_init_0 : decode cX1_init 0 = .ok (.aload_n 0, 1) := by decide +kernel
theorem dX1_init_1 : decode cX1_init 1 = .ok (.invokespecial 3, 3) := by decide +kernel
theorem dX1_init_4 : decode cX1_init 4 = .ok (.aload_n 0, 1) := by decide +kernel
theorem dX1_init_5 : decode cX1_init 5 = .ok (.bipush 8, 2) := by decide +kernel
theorem dX1_init_7 : decode cX1_init 7 = .ok (.newarray .int, 2) := by decide +kernel
theorem dX1_init_9 : decode cX1_init 9 = .ok (.putfield 9, 3) := by decide +kernel
theorem dX1_init_12 : decode cX1_init 12 = .ok (.aload_n 0, 1) := by decide +kernel
theorem dX1_init_13 : decode cX1_init 13 = .ok (.iconst 4, 1) := by decide +kernel
theorem dX1_init_14 : decode cX1_init 14 = .ok (.newarray .int, 2) := by decide +kernel
theorem dX1_init_16 : decode cX1_init 16 = .ok (.putfield 15, 3) := by decide +kernel
theorem dX1_init_19 : decode cX1_init 19 = .ok (.return_, 1) := by decide +kernel
theorem dX1_live_0 : decode cX1_live 0 = .ok (.aload_n 0, 1) := by decide +kernel
theorem dX1_live_1 : decode cX1_live 1 = .ok (.iload_n 2, 1) := by decide +kernel
theorem dX1_live_2 : decode cX1_live 2 = .ok (.invokestatic 18, 3) := by decide +kernel
theorem dX1_live_5 : decode cX1_live 5 = .ok (.putfield 22, 3) := by decide +kernel
theorem dX1_live_8 : decode cX1_live 8 = .ok (.aload_n 0, 1) := by decide +kernel
theorem dX1_live_9 : decode cX1_live 9 = .ok (.bipush 100, 2) := by decide +kernel
theorem dX1_live_11 : decode cX1_live 11 = .ok (.aload_n 1, 1) := by decide +kernel
theorem dX1_live_12 : decode cX1_live 12 = .ok (.getfield 26, 3) := by decide +kernel
theorem dX1_live_15 : decode cX1_live 15 = .ok (.isub, 1) := by decide +kernel
theorem dX1_live_16 : decode cX1_live 16 = .ok (.putfield 31, 3) := by decide +kernel
theorem dX1_live_19 : decode cX1_live 19 = .ok (.aload_n 0, 1) := by decide +kernel
theorem dX1_live_20 : decode cX1_live 20 = .ok (.aload_n 1, 1) := by decide +kernel
theorem dX1_live_21 : decode cX1_live 21 = .ok (.getfield 34, 3) := by decide +kernel
theorem dX1_live_24 : decode cX1_live 24 = .ok (.putfield 37, 3) := by decide +kernel
theorem dX1_live_27 : decode cX1_live 27 = .ok (.aload_n 0, 1) := by decide +kernel
theorem dX1_live_28 : decode cX1_live 28 = .ok (.aload_n 1, 1) := by decide +kernel
theorem dX1_live_29 : decode cX1_live 29 = .ok (.getfield 38, 3) := by decide +kernel
theorem dX1_live_32 : decode cX1_live 32 = .ok (.putfield 41, 3) := by decide +kernel
theorem dX1_live_35 : decode cX1_live 35 = .ok (.aload_n 0, 1) := by decide +kernel
theorem dX1_live_36 : decode cX1_live 36 = .ok (.aload_n 1, 1) := by decide +kernel
theorem dX1_live_37 : decode cX1_live 37 = .ok (.getfield 42, 3) := by decide +kernel
theorem dX1_live_40 : decode cX1_live 40 = .ok (.putfield 45, 3) := by decide +kernel
theorem dX1_live_43 : decode cX1_live 43 = .ok (.aload_n 0, 1) := by decide +kernel
theorem dX1_live_44 : decode cX1_live 44 = .ok (.aload_n 1, 1) := by decide +kernel
theorem dX1_live_45 : decode cX1_live 45 = .ok (.getfield 46, 3) := by decide +kernel
theorem dX1_live_48 : decode cX1_live 48 = .ok (.putfield 49, 3) := by decide +kernel
theorem dX1_live_51 : decode cX1_live 51 = .ok (.iload_n 2, 1) := by decide +kernel
theorem dX1_live_52 : decode cX1_live 52 = .ok (.invokestatic 50, 3) := by decide +kernel
theorem dX1_live_55 : decode cX1_live 55 = .ok (.istore 4, 2) := by decide +kernel
theorem dX1_live_57 : decode cX1_live 57 = .ok (.iconst 0, 1) := by decide +kernel
theorem dX1_live_58 : decode cX1_live 58 = .ok (.istore 5, 2) := by decide +kernel
theorem dX1_live_60 : decode cX1_live 60 = .ok (.iload 5, 2) := by decide +kernel
theorem dX1_live_62 : decode cX1_live 62 = .ok (.bipush 8, 2) := by decide +kernel
theorem dX1_live_64 : decode cX1_live 64 = .ok (.if_icmp .ge 117, 3) := by decide +kernel
theorem dX1_live_67 : decode cX1_live 67 = .ok (.iload 4, 2) := by decide +kernel
theorem dX1_live_69 : decode cX1_live 69 = .ok (.iload 5, 2) := by decide +kernel
theorem dX1_live_71 : decode cX1_live 71 = .ok (.invokestatic 53, 3) := by decide +kernel
theorem dX1_live_74 : decode cX1_live 74 = .ok (.iconst 1, 1) := by decide +kernel
theorem dX1_live_75 : decode cX1_live 75 = .ok (.if_icmp .ne 10, 3) := by decide +kernel
theorem dX1_live_78 : decode cX1_live 78 = .ok (.bipush 100, 2) := by decide +kernel
theorem dX1_live_80 : decode cX1_live 80 = .ok (.iload_n 3, 1) := by decide +kernel
theorem dX1_live_81 : decode cX1_live 81 = .ok (.isub, 1) := by decide +kernel
theorem dX1_live_82 : decode cX1_live 82 = .ok (.goto 4, 3) := by decide +kernel
theorem dX1_live_85 : decode cX1_live 85 = .ok (.iload_n 3, 1) := by decide +kernel
theorem dX1_live_86 : decode cX1_live 86 = .ok (.istore 6, 2) := by decide +kernel
theorem dX1_live_88 : decode cX1_live 88 = .ok (.iload 4, 2) := by decide +kernel
theorem dX1_live_90 : decode cX1_live 90 = .ok (.iload 5, 2) := by decide +kernel
theorem dX1_live_92 : decode cX1_live 92 = .ok (.iconst 1, 1) := by decide +kernel
theorem dX1_live_93 : decode cX1_live 93 = .ok (.iadd, 1) := by decide +kernel
theorem dX1_live_94 : decode cX1_live 94 = .ok (.invokestatic 53, 3) := by decide +kernel
theorem dX1_live_97 : decode cX1_live 97 = .ok (.iconst 1, 1) := by decide +kernel
theorem dX1_live_98 : decode cX1_live 98 = .ok (.if_icmp .ne 10, 3) := by decide +kernel
theorem dX1_live_101 : decode cX1_live 101 = .ok (.bipush 100, 2) := by decide +kernel
theorem dX1_live_103 : decode cX1_live 103 = .ok (.iload_n 3, 1) := by decide +kernel
theorem dX1_live_104 : decode cX1_live 104 = .ok (.isub, 1) := by decide +kernel
theorem dX1_live_105 : decode cX1_live 105 = .ok (.goto 4, 3) := by decide +kernel
theorem dX1_live_108 : decode cX1_live 108 = .ok (.iload_n 3, 1) := by decide +kernel
theorem dX1_live_109 : decode cX1_live 109 = .ok (.istore 7, 2) := by decide +kernel
theorem dX1_live_111 : decode cX1_live 111 = .ok (.aload_n 0, 1) := by decide +kernel
theorem dX1_live_112 : decode cX1_live 112 = .ok (.getfield 9, 3) := by decide +kernel
theorem dX1_live_115 : decode cX1_live 115 = .ok (.iload 5, 2) := by decide +kernel
theorem dX1_live_117 : decode cX1_live 117 = .ok (.bipush 100, 2) := by decide +kernel
theorem dX1_live_119 : decode cX1_live 119 = .ok (.iload 6, 2) := by decide +kernel
theorem dX1_live_121 : decode cX1_live 121 = .ok (.imul, 1) := by decide +kernel
theorem dX1_live_122 : decode cX1_live 122 = .ok (.iastore, 1) := by decide +kernel
theorem dX1_live_123 : decode cX1_live 123 = .ok (.aload_n 0, 1) := by decide +kernel
theorem dX1_live_124 : decode cX1_live 124 = .ok (.getfield 9, 3) := by decide +kernel
theorem dX1_live_127 : decode cX1_live 127 = .ok (.iload 5, 2) := by decide +kernel
theorem dX1_live_129 : decode cX1_live 129 = .ok (.iconst 1, 1) := by decide +kernel
theorem dX1_live_130 : decode cX1_live 130 = .ok (.iadd, 1) := by decide +kernel
theorem dX1_live_131 : decode cX1_live 131 = .ok (.aload_n 0, 1) := by decide +kernel
theorem dX1_live_132 : decode cX1_live 132 = .ok (.getfield 31, 3) := by decide +kernel
theorem dX1_live_135 : decode cX1_live 135 = .ok (.iload 7, 2) := by decide +kernel
theorem dX1_live_137 : decode cX1_live 137 = .ok (.imul, 1) := by decide +kernel
theorem dX1_live_138 : decode cX1_live 138 = .ok (.aload_n 1, 1) := by decide +kernel
theorem dX1_live_139 : decode cX1_live 139 = .ok (.getfield 26, 3) := by decide +kernel
theorem dX1_live_142 : decode cX1_live 142 = .ok (.iload 6, 2) := by decide +kernel
theorem dX1_live_144 : decode cX1_live 144 = .ok (.imul, 1) := by decide +kernel
theorem dX1_live_145 : decode cX1_live 145 = .ok (.iadd, 1) := by decide +kernel
theorem dX1_live_146 : decode cX1_live 146 = .ok (.iastore, 1) := by decide +kernel
theorem dX1_live_147 : decode cX1_live 147 = .ok (.aload_n 0, 1) := by decide +kernel
theorem dX1_live_148 : decode cX1_live 148 = .ok (.getfield 15, 3) := by decide +kernel
theorem dX1_live_151 : decode cX1_live 151 = .ok (.iload 5, 2) := by decide +kernel
theorem dX1_live_153 : decode cX1_live 153 = .ok (.iconst 1, 1) := by decide +kernel
theorem dX1_live_154 : decode cX1_live 154 = .ok (.ishr, 1) := by decide +kernel
theorem dX1_live_155 : decode cX1_live 155 = .ok (.aload_n 0, 1) := by decide +kernel
theorem dX1_live_156 : decode cX1_live 156 = .ok (.getfield 9, 3) := by decide +kernel
theorem dX1_live_159 : decode cX1_live 159 = .ok (.iload 5, 2) := by decide +kernel
theorem dX1_live_161 : decode cX1_live 161 = .ok (.aload_n 0, 1) := by decide +kernel
theorem dX1_live_162 : decode cX1_live 162 = .ok (.getfield 22, 3) := by decide +kernel
theorem dX1_live_165 : decode cX1_live 165 = .ok (.iload 5, 2) := by decide +kernel
theorem dX1_live_167 : decode cX1_live 167 = .ok (.iconst 1, 1) := by decide +kernel
theorem dX1_live_168 : decode cX1_live 168 = .ok (.ishr, 1) := by decide +kernel
theorem dX1_live_169 : decode cX1_live 169 = .ok (.invokestatic 53, 3) := by decide +kernel
theorem dX1_live_172 : decode cX1_live 172 = .ok (.iadd, 1) := by decide +kernel
theorem dX1_live_173 : decode cX1_live 173 = .ok (.iaload, 1) := by decide +kernel
theorem dX1_live_174 : decode cX1_live 174 = .ok (.iastore, 1) := by decide +kernel
theorem dX1_live_175 : decode cX1_live 175 = .ok (.iinc 5 2, 3) := by decide +kernel
theorem dX1_live_178 : decode cX1_live 178 = .ok (.goto (-118), 3) := by decide +kernel
theorem dX1_live_181 : decode cX1_live 181 = .ok (.return_, 1) := by decide +kernel
theorem dX1_calledGood_0 : decode cX1_calledGood 0 = .ok (.iconst 4, 1) := by decide +kernel
theorem dX1_calledGood_1 : decode cX1_calledGood 1 = .ok (.iload_n 2, 1) := by decide +kernel
theorem dX1_calledGood_2 : decode cX1_calledGood 2 = .ok (.iconst 1, 1) := by decide +kernel
theorem dX1_calledGood_3 : decode cX1_calledGood 3 = .ok (.iand, 1) := by decide +kernel
theorem dX1_calledGood_4 : decode cX1_calledGood 4 = .ok (.imul, 1) := by decide +kernel
theorem dX1_calledGood_5 : decode cX1_calledGood 5 = .ok (.istore 4, 2) := by decide +kernel
theorem dX1_calledGood_7 : decode cX1_calledGood 7 = .ok (.sipush 1000, 3) := by decide +kernel
theorem dX1_calledGood_10 : decode cX1_calledGood 10 = .ok (.iload_n 3, 1) := by decide +kernel
theorem dX1_calledGood_11 : decode cX1_calledGood 11 = .ok (.isub, 1) := by decide +kernel
theorem dX1_calledGood_12 : decode cX1_calledGood 12 = .ok (.i2l, 1) := by decide +kernel
theorem dX1_calledGood_13 : decode cX1_calledGood 13 = .ok (.aload_n 0, 1) := by decide +kernel
theorem dX1_calledGood_14 : decode cX1_calledGood 14 = .ok (.getfield 9, 3) := by decide +kernel
theorem dX1_calledGood_17 : decode cX1_calledGood 17 = .ok (.iload 4, 2) := by decide +kernel
theorem dX1_calledGood_19 : decode cX1_calledGood 19 = .ok (.iload_n 1, 1) := by decide +kernel
theorem dX1_calledGood_20 : decode cX1_calledGood 20 = .ok (.iload 4, 2) := by decide +kernel
theorem dX1_calledGood_22 : decode cX1_calledGood 22 = .ok (.iconst 1, 1) := by decide +kernel
theorem dX1_calledGood_23 : decode cX1_calledGood 23 = .ok (.ishr, 1) := by decide +kernel
theorem dX1_calledGood_24 : decode cX1_calledGood 24 = .ok (.invokestatic 53, 3) := by decide +kernel
theorem dX1_calledGood_27 : decode cX1_calledGood 27 = .ok (.iadd, 1) := by decide +kernel
theorem dX1_calledGood_28 : decode cX1_calledGood 28 = .ok (.iaload, 1) := by decide +kernel
theorem dX1_calledGood_29 : decode cX1_calledGood 29 = .ok (.i2l, 1) := by decide +kernel
theorem dX1_calledGood_30 : decode cX1_calledGood 30 = .ok (.lmul, 1) := by decide +kernel
theorem dX1_calledGood_31 : decode cX1_calledGood 31 = .ok (.iload_n 3, 1) := by decide +kernel
theorem dX1_calledGood_32 : decode cX1_calledGood 32 = .ok (.i2l, 1) := by decide +kernel
theorem dX1_calledGood_33 : decode cX1_calledGood 33 = .ok (.aload_n 0, 1) := by decide +kernel
theorem dX1_calledGood_34 : decode cX1_calledGood 34 = .ok (.getfield 9, 3) := by decide +kernel
theorem dX1_calledGood_37 : decode cX1_calledGood 37 = .ok (.iload 4, 2) := by decide +kernel
theorem dX1_calledGood_39 : decode cX1_calledGood 39 = .ok (.iconst 2, 1) := by decide +kernel
theorem dX1_calledGood_40 : decode cX1_calledGood 40 = .ok (.iadd, 1) := by decide +kernel
theorem dX1_calledGood_41 : decode cX1_calledGood 41 = .ok (.iload_n 1, 1) := by decide +kernel
theorem dX1_calledGood_42 : decode cX1_calledGood 42 = .ok (.iload 4, 2) := by decide +kernel
theorem dX1_calledGood_44 : decode cX1_calledGood 44 = .ok (.iconst 1, 1) := by decide +kernel
theorem dX1_calledGood_45 : decode cX1_calledGood 45 = .ok (.ishr, 1) := by decide +kernel
theorem dX1_calledGood_46 : decode cX1_calledGood 46 = .ok (.iconst 1, 1) := by decide +kernel
theorem dX1_calledGood_47 : decode cX1_calledGood 47 = .ok (.iadd, 1) := by decide +kernel
theorem dX1_calledGood_48 : decode cX1_calledGood 48 = .ok (.invokestatic 53, 3) := by decide +kernel
theorem dX1_calledGood_51 : decode cX1_calledGood 51 = .ok (.iadd, 1) := by decide +kernel
theorem dX1_calledGood_52 : decode cX1_calledGood 52 = .ok (.iaload, 1) := by decide +kernel
theorem dX1_calledGood_53 : decode cX1_calledGood 53 = .ok (.i2l, 1) := by decide +kernel
theorem dX1_calledGood_54 : decode cX1_calledGood 54 = .ok (.lmul, 1) := by decide +kernel
theorem dX1_calledGood_55 : decode cX1_calledGood 55 = .ok (.ladd, 1) := by decide +kernel
theorem dX1_calledGood_56 : decode cX1_calledGood 56 = .ok (.lreturn, 1) := by decide +kernel
theorem dX1_next_0 : decode cX1_next 0 = .ok (.sipush 1000, 3) := by decide +kernel
theorem dX1_next_3 : decode cX1_next 3 = .ok (.iload_n 1, 1) := by decide +kernel
theorem dX1_next_4 : decode cX1_next 4 = .ok (.isub, 1) := by decide +kernel
theorem dX1_next_5 : decode cX1_next 5 = .ok (.i2l, 1) := by decide +kernel
theorem dX1_next_6 : decode cX1_next 6 = .ok (.lstore_n 2, 1) := by decide +kernel
theorem dX1_next_7 : decode cX1_next 7 = .ok (.lload_n 2, 1) := by decide +kernel
theorem dX1_next_8 : decode cX1_next 8 = .ok (.lload_n 2, 1) := by decide +kernel
theorem dX1_next_9 : decode cX1_next 9 = .ok (.lmul, 1) := by decide +kernel
theorem dX1_next_10 : decode cX1_next 10 = .ok (.aload_n 0, 1) := by decide +kernel
theorem dX1_next_11 : decode cX1_next 11 = .ok (.getfield 15, 3) := by decide +kernel
theorem dX1_next_14 : decode cX1_next 14 = .ok (.iconst 0, 1) := by decide +kernel
theorem dX1_next_15 : decode cX1_next 15 = .ok (.iaload, 1) := by decide +kernel
theorem dX1_next_16 : decode cX1_next 16 = .ok (.i2l, 1) := by decide +kernel
theorem dX1_next_17 : decode cX1_next 17 = .ok (.lmul, 1) := by decide +kernel
theorem dX1_next_18 : decode cX1_next 18 = .ok (.lload_n 2, 1) := by decide +kernel
theorem dX1_next_19 : decode cX1_next 19 = .ok (.iload_n 1, 1) := by decide +kernel
theorem dX1_next_20 : decode cX1_next 20 = .ok (.i2l, 1) := by decide +kernel
theorem dX1_next_21 : decode cX1_next 21 = .ok (.lmul, 1) := by decide +kernel
theorem dX1_next_22 : decode cX1_next 22 = .ok (.aload_n 0, 1) := by decide +kernel
theorem dX1_next_23 : decode cX1_next 23 = .ok (.getfield 15, 3) := by decide +kernel
theorem dX1_next_26 : decode cX1_next 26 = .ok (.iconst 1, 1) := by decide +kernel
theorem dX1_next_27 : decode cX1_next 27 = .ok (.iaload, 1) := by decide +kernel
theorem dX1_next_28 : decode cX1_next 28 = .ok (.aload_n 0, 1) := by decide +kernel
theorem dX1_next_29 : decode cX1_next 29 = .ok (.getfield 15, 3) := by decide +kernel
theorem dX1_next_32 : decode cX1_next 32 = .ok (.iconst 2, 1) := by decide +kernel
theorem dX1_next_33 : decode cX1_next 33 = .ok (.iaload, 1) := by decide +kernel
theorem dX1_next_34 : decode cX1_next 34 = .ok (.iadd, 1) := by decide +kernel
theorem dX1_next_35 : decode cX1_next 35 = .ok (.i2l, 1) := by decide +kernel
theorem dX1_next_36 : decode cX1_next 36 = .ok (.lmul, 1) := by decide +kernel
theorem dX1_next_37 : decode cX1_next 37 = .ok (.ladd, 1) := by decide +kernel
theorem dX1_next_38 : decode cX1_next 38 = .ok (.iload_n 1, 1) := by decide +kernel
theorem dX1_next_39 : decode cX1_next 39 = .ok (.i2l, 1) := by decide +kernel
theorem dX1_next_40 : decode cX1_next 40 = .ok (.iload_n 1, 1) := by decide +kernel
theorem dX1_next_41 : decode cX1_next 41 = .ok (.i2l, 1) := by decide +kernel
theorem dX1_next_42 : decode cX1_next 42 = .ok (.lmul, 1) := by decide +kernel
theorem dX1_next_43 : decode cX1_next 43 = .ok (.aload_n 0, 1) := by decide +kernel
theorem dX1_next_44 : decode cX1_next 44 = .ok (.getfield 15, 3) := by decide +kernel
theorem dX1_next_47 : decode cX1_next 47 = .ok (.iconst 3, 1) := by decide +kernel
theorem dX1_next_48 : decode cX1_next 48 = .ok (.iaload, 1) := by decide +kernel
theorem dX1_next_49 : decode cX1_next 49 = .ok (.i2l, 1) := by decide +kernel
theorem dX1_next_50 : decode cX1_next 50 = .ok (.lmul, 1) := by decide +kernel
theorem dX1_next_51 : decode cX1_next 51 = .ok (.ladd, 1) := by decide +kernel
theorem dX1_next_52 : decode cX1_next 52 = .ok (.lstore 4, 2) := by decide +kernel
theorem dX1_next_54 : decode cX1_next 54 = .ok (.lload 4, 2) := by decide +kernel
theorem dX1_next_56 : decode cX1_next 56 = .ok (.ldc2_w 57, 3) := by decide +kernel
theorem dX1_next_59 : decode cX1_next 59 = .ok (.ldiv, 1) := by decide +kernel
theorem dX1_next_60 : decode cX1_next 60 = .ok (.l2i, 1) := by decide +kernel
theorem dX1_next_61 : decode cX1_next 61 = .ok (.istore 6, 2) := by decide +kernel
theorem dX1_next_63 : decode cX1_next 63 = .ok (.bipush 100, 2) := by decide +kernel
theorem dX1_next_65 : decode cX1_next 65 = .ok (.aload_n 0, 1) := by decide +kernel
theorem dX1_next_66 : decode cX1_next 66 = .ok (.getfield 45, 3) := by decide +kernel
theorem dX1_next_69 : decode cX1_next 69 = .ok (.isub, 1) := by decide +kernel
theorem dX1_next_70 : decode cX1_next 70 = .ok (.iload 6, 2) := by decide +kernel
theorem dX1_next_72 : decode cX1_next 72 = .ok (.imul, 1) := by decide +kernel
theorem dX1_next_73 : decode cX1_next 73 = .ok (.aload_n 0, 1) := by decide +kernel
theorem dX1_next_74 : decode cX1_next 74 = .ok (.getfield 45, 3) := by decide +kernel
theorem dX1_next_77 : decode cX1_next 77 = .ok (.sipush 1000, 3) := by decide +kernel
theorem dX1_next_80 : decode cX1_next 80 = .ok (.imul, 1) := by decide +kernel
theorem dX1_next_81 : decode cX1_next 81 = .ok (.aload_n 0, 1) := by decide +kernel
theorem dX1_next_82 : decode cX1_next 82 = .ok (.getfield 49, 3) := by decide +kernel
theorem dX1_next_85 : decode cX1_next 85 = .ok (.imul, 1) := by decide +kernel
theorem dX1_next_86 : decode cX1_next 86 = .ok (.iadd, 1) := by decide +kernel
theorem dX1_next_87 : decode cX1_next 87 = .ok (.bipush 100, 2) := by decide +kernel
theorem dX1_next_89 : decode cX1_next 89 = .ok (.idiv, 1) := by decide +kernel
theorem dX1_next_90 : decode cX1_next 90 = .ok (.ireturn, 1) := by decide +kernel
theorem dX1_aid_0 : decode cX1_aid 0 = .ok (.sipush 1000, 3) := by decide +kernel
theorem dX1_aid_3 : decode cX1_aid 3 = .ok (.iload_n 1, 1) := by decide +kernel
theorem dX1_aid_4 : decode cX1_aid 4 = .ok (.isub, 1) := by decide +kernel
theorem dX1_aid_5 : decode cX1_aid 5 = .ok (.istore_n 2, 1) := by decide +kernel
theorem dX1_aid_6 : decode cX1_aid 6 = .ok (.aload_n 0, 1) := by decide +kernel
theorem dX1_aid_7 : decode cX1_aid 7 = .ok (.getfield 22, 3) := by decide +kernel
theorem dX1_aid_10 : decode cX1_aid 10 = .ok (.iconst 0, 1) := by decide +kernel
theorem dX1_aid_11 : decode cX1_aid 11 = .ok (.invokestatic 53, 3) := by decide +kernel
theorem dX1_aid_14 : decode cX1_aid 14 = .ok (.iload_n 2, 1) := by decide +kernel
theorem dX1_aid_15 : decode cX1_aid 15 = .ok (.imul, 1) := by decide +kernel
theorem dX1_aid_16 : decode cX1_aid 16 = .ok (.iload_n 2, 1) := by decide +kernel
theorem dX1_aid_17 : decode cX1_aid 17 = .ok (.imul, 1) := by decide +kernel
theorem dX1_aid_18 : decode cX1_aid 18 = .ok (.aload_n 0, 1) := by decide +kernel
theorem dX1_aid_19 : decode cX1_aid 19 = .ok (.getfield 22, 3) := by decide +kernel
theorem dX1_aid_22 : decode cX1_aid 22 = .ok (.iconst 1, 1) := by decide +kernel
theorem dX1_aid_23 : decode cX1_aid 23 = .ok (.invokestatic 53, 3) := by decide +kernel
theorem dX1_aid_26 : decode cX1_aid 26 = .ok (.aload_n 0, 1) := by decide +kernel
theorem dX1_aid_27 : decode cX1_aid 27 = .ok (.getfield 22, 3) := by decide +kernel
theorem dX1_aid_30 : decode cX1_aid 30 = .ok (.iconst 2, 1) := by decide +kernel
theorem dX1_aid_31 : decode cX1_aid 31 = .ok (.invokestatic 53, 3) := by decide +kernel
theorem dX1_aid_34 : decode cX1_aid 34 = .ok (.iadd, 1) := by decide +kernel
theorem dX1_aid_35 : decode cX1_aid 35 = .ok (.iload_n 2, 1) := by decide +kernel
theorem dX1_aid_36 : decode cX1_aid 36 = .ok (.imul, 1) := by decide +kernel
theorem dX1_aid_37 : decode cX1_aid 37 = .ok (.iload_n 1, 1) := by decide +kernel
theorem dX1_aid_38 : decode cX1_aid 38 = .ok (.imul, 1) := by decide +kernel
theorem dX1_aid_39 : decode cX1_aid 39 = .ok (.iadd, 1) := by decide +kernel
theorem dX1_aid_40 : decode cX1_aid 40 = .ok (.aload_n 0, 1) := by decide +kernel
theorem dX1_aid_41 : decode cX1_aid 41 = .ok (.getfield 22, 3) := by decide +kernel
theorem dX1_aid_44 : decode cX1_aid 44 = .ok (.iconst 3, 1) := by decide +kernel
theorem dX1_aid_45 : decode cX1_aid 45 = .ok (.invokestatic 53, 3) := by decide +kernel
theorem dX1_aid_48 : decode cX1_aid 48 = .ok (.iload_n 1, 1) := by decide +kernel
theorem dX1_aid_49 : decode cX1_aid 49 = .ok (.imul, 1) := by decide +kernel
theorem dX1_aid_50 : decode cX1_aid 50 = .ok (.iload_n 1, 1) := by decide +kernel
theorem dX1_aid_51 : decode cX1_aid 51 = .ok (.imul, 1) := by decide +kernel
theorem dX1_aid_52 : decode cX1_aid 52 = .ok (.iadd, 1) := by decide +kernel
theorem dX1_aid_53 : decode cX1_aid 53 = .ok (.istore_n 3, 1) := by decide +kernel
theorem dX1_aid_54 : decode cX1_aid 54 = .ok (.iload_n 3, 1) := by decide +kernel
theorem dX1_aid_55 : decode cX1_aid 55 = .ok (.i2l, 1) := by decide +kernel
theorem dX1_aid_56 : decode cX1_aid 56 = .ok (.aload_n 0, 1) := by decide +kernel
theorem dX1_aid_57 : decode cX1_aid 57 = .ok (.getfield 31, 3) := by decide +kernel
theorem dX1_aid_60 : decode cX1_aid 60 = .ok (.i2l, 1) := by decide +kernel
theorem dX1_aid_61 : decode cX1_aid 61 = .ok (.lmul, 1) := by decide +kernel
theorem dX1_aid_62 : decode cX1_aid 62 = .ok (.ldc2_w 59, 3) := by decide +kernel
theorem dX1_aid_65 : decode cX1_aid 65 = .ok (.ldiv, 1) := by decide +kernel
theorem dX1_aid_66 : decode cX1_aid 66 = .ok (.l2i, 1) := by decide +kernel
theorem dX1_aid_67 : decode cX1_aid 67 = .ok (.ireturn, 1) := by decide +kernel
theorem dX2_init_0 : decode cX2_init 0 = .ok (.aload_n 0, 1) := by decide +kernel
theorem dX2_init_1 : decode cX2_init 1 = .ok (.invokespecial 3, 3) := by decide +kernel
theorem dX2_init_4 : decode cX2_init 4 = .ok (.aload_n 0, 1) := by decide +kernel
theorem dX2_init_5 : decode cX2_init 5 = .ok (.aload_n 1, 1) := by decide +kernel
theorem dX2_init_6 : decode cX2_init 6 = .ok (.putfield 9, 3) := by decide +kernel
theorem dX2_init_9 : decode cX2_init 9 = .ok (.aload_n 0, 1) := by decide +kernel
theorem dX2_init_10 : decode cX2_init 10 = .ok (.aload_n 2, 1) := by decide +kernel
theorem dX2_init_11 : decode cX2_init 11 = .ok (.putfield 15, 3) := by decide +kernel
theorem dX2_init_14 : decode cX2_init 14 = .ok (.aload_n 0, 1) := by decide +kernel
theorem dX2_init_15 : decode cX2_init 15 = .ok (.aload_n 3, 1) := by decide +kernel
theorem dX2_init_16 : decode cX2_init 16 = .ok (.putfield 19, 3) := by decide +kernel
theorem dX2_init_19 : decode cX2_init 19 = .ok (.aload_n 0, 1) := by decide +kernel
theorem dX2_init_20 : decode cX2_init 20 = .ok (.aload 4, 2) := by decide +kernel
theorem dX2_init_22 : decode cX2_init 22 = .ok (.putfield 23, 3) := by decide +kernel
theorem dX2_init_25 : decode cX2_init 25 = .ok (.return_, 1) := by decide +kernel
theorem dX2_measure_0 : decode cX2_measure 0 = .ok (.aload_n 0, 1) := by decide +kernel
theorem dX2_measure_1 : decode cX2_measure 1 = .ok (.getfield 23, 3) := by decide +kernel
theorem dX2_measure_4 : decode cX2_measure 4 = .ok (.aload_n 0, 1) := by decide +kernel
theorem dX2_measure_5 : decode cX2_measure 5 = .ok (.getfield 15, 3) := by decide +kernel
theorem dX2_measure_8 : decode cX2_measure 8 = .ok (.aload_n 0, 1) := by decide +kernel
theorem dX2_measure_9 : decode cX2_measure 9 = .ok (.getfield 15, 3) := by decide +kernel
theorem dX2_measure_12 : decode cX2_measure 12 = .ok (.getfield 27, 3) := by decide +kernel
theorem dX2_measure_15 : decode cX2_measure 15 = .ok (.iload_n 1, 1) := by decide +kernel
theorem dX2_measure_16 : decode cX2_measure 16 = .ok (.invokevirtual 33, 3) := by decide +kernel
theorem dX2_measure_19 : decode cX2_measure 19 = .ok (.aload_n 0, 1) := by decide +kernel
theorem dX2_measure_20 : decode cX2_measure 20 = .ok (.aload_n 0, 1) := by decide +kernel
theorem dX2_measure_21 : decode cX2_measure 21 = .ok (.getfield 23, 3) := by decide +kernel
theorem dX2_measure_24 : decode cX2_measure 24 = .ok (.getfield 39, 3) := by decide +kernel
theorem dX2_measure_27 : decode cX2_measure 27 = .ok (.putfield 43, 3) := by decide +kernel
theorem dX2_measure_30 : decode cX2_measure 30 = .ok (.aload_n 0, 1) := by decide +kernel
theorem dX2_measure_31 : decode cX2_measure 31 = .ok (.aload_n 0, 1) := by decide +kernel
theorem dX2_measure_32 : decode cX2_measure 32 = .ok (.getfield 23, 3) := by decide +kernel
theorem dX2_measure_35 : decode cX2_measure 35 = .ok (.getfield 44, 3) := by decide +kernel
theorem dX2_measure_38 : decode cX2_measure 38 = .ok (.putfield 47, 3) := by decide +kernel
theorem dX2_measure_41 : decode cX2_measure 41 = .ok (.aload_n 0, 1) := by decide +kernel
theorem dX2_measure_42 : decode cX2_measure 42 = .ok (.aload_n 0, 1) := by decide +kernel
theorem dX2_measure_43 : decode cX2_measure 43 = .ok (.getfield 23, 3) := by decide +kernel
theorem dX2_measure_46 : decode cX2_measure 46 = .ok (.getfield 48, 3) := by decide +kernel
theorem dX2_measure_49 : decode cX2_measure 49 = .ok (.putfield 51, 3) := by decide +kernel
theorem dX2_measure_52 : decode cX2_measure 52 = .ok (.return_, 1) := by decide +kernel
theorem dX2_compare_0 : decode cX2_compare 0 = .ok (.aload_n 0, 1) := by decide +kernel
theorem dX2_compare_1 : decode cX2_compare 1 = .ok (.getfield 23, 3) := by decide +kernel
theorem dX2_compare_4 : decode cX2_compare 4 = .ok (.aload_n 0, 1) := by decide +kernel
theorem dX2_compare_5 : decode cX2_compare 5 = .ok (.getfield 15, 3) := by decide +kernel
theorem dX2_compare_8 : decode cX2_compare 8 = .ok (.iload_n 1, 1) := by decide +kernel
theorem dX2_compare_9 : decode cX2_compare 9 = .ok (.iload_n 2, 1) := by decide +kernel
theorem dX2_compare_10 : decode cX2_compare 10 = .ok (.invokevirtual 33, 3) := by decide +kernel
theorem dX2_compare_13 : decode cX2_compare 13 = .ok (.aload_n 0, 1) := by decide +kernel
theorem dX2_compare_14 : decode cX2_compare 14 = .ok (.getfield 23, 3) := by decide +kernel
theorem dX2_compare_17 : decode cX2_compare 17 = .ok (.getfield 39, 3) := by decide +kernel
theorem dX2_compare_20 : decode cX2_compare 20 = .ok (.aload_n 0, 1) := by decide +kernel
theorem dX2_compare_21 : decode cX2_compare 21 = .ok (.getfield 43, 3) := by decide +kernel
theorem dX2_compare_24 : decode cX2_compare 24 = .ok (.lcmp, 1) := by decide +kernel
theorem dX2_compare_25 : decode cX2_compare 25 = .ok (.ifCond .eq 24, 3) := by decide +kernel
theorem dX2_compare_28 : decode cX2_compare 28 = .ok (.aload_n 0, 1) := by decide +kernel
theorem dX2_compare_29 : decode cX2_compare 29 = .ok (.getfield 23, 3) := by decide +kernel
theorem dX2_compare_32 : decode cX2_compare 32 = .ok (.getfield 39, 3) := by decide +kernel
theorem dX2_compare_35 : decode cX2_compare 35 = .ok (.aload_n 0, 1) := by decide +kernel
theorem dX2_compare_36 : decode cX2_compare 36 = .ok (.getfield 43, 3) := by decide +kernel
theorem dX2_compare_39 : decode cX2_compare 39 = .ok (.lcmp, 1) := by decide +kernel
theorem dX2_compare_40 : decode cX2_compare 40 = .ok (.ifCond .ge 7, 3) := by decide +kernel
theorem dX2_compare_43 : decode cX2_compare 43 = .ok (.iconst (-1), 1) := by decide +kernel
theorem dX2_compare_44 : decode cX2_compare 44 = .ok (.goto 4, 3) := by decide +kernel
theorem dX2_compare_47 : decode cX2_compare 47 = .ok (.iconst 1, 1) := by decide +kernel
theorem dX2_compare_48 : decode cX2_compare 48 = .ok (.ireturn, 1) := by decide +kernel
theorem dX2_compare_49 : decode cX2_compare 49 = .ok (.aload_n 0, 1) := by decide +kernel
theorem dX2_compare_50 : decode cX2_compare 50 = .ok (.getfield 23, 3) := by decide +kernel
theorem dX2_compare_53 : decode cX2_compare 53 = .ok (.getfield 44, 3) := by decide +kernel
theorem dX2_compare_56 : decode cX2_compare 56 = .ok (.aload_n 0, 1) := by decide +kernel
theorem dX2_compare_57 : decode cX2_compare 57 = .ok (.getfield 51, 3) := by decide +kernel
theorem dX2_compare_60 : decode cX2_compare 60 = .ok (.lmul, 1) := by decide +kernel
theorem dX2_compare_61 : decode cX2_compare 61 = .ok (.aload_n 0, 1) := by decide +kernel
theorem dX2_compare_62 : decode cX2_compare 62 = .ok (.getfield 47, 3) := by decide +kernel
theorem dX2_compare_65 : decode cX2_compare 65 = .ok (.aload_n 0, 1) := by decide +kernel
theorem dX2_compare_66 : decode cX2_compare 66 = .ok (.getfield 23, 3) := by decide +kernel
theorem dX2_compare_69 : decode cX2_compare 69 = .ok (.getfield 48, 3) := by decide +kernel
theorem dX2_compare_72 : decode cX2_compare 72 = .ok (.lmul, 1) := by decide +kernel
theorem dX2_compare_73 : decode cX2_compare 73 = .ok (.invokestatic 52, 3) := by decide +kernel
theorem dX2_compare_76 : decode cX2_compare 76 = .ok (.ireturn, 1) := by decide +kernel
theorem dX2_verdict_0 : decode cX2_verdict 0 = .ok (.aload_n 0, 1) := by decide +kernel
theorem dX2_verdict_1 : decode cX2_verdict 1 = .ok (.getfield 15, 3) := by decide +kernel
theorem dX2_verdict_4 : decode cX2_verdict 4 = .ok (.aload_n 0, 1) := by decide +kernel
theorem dX2_verdict_5 : decode cX2_verdict 5 = .ok (.getfield 9, 3) := by decide +kernel
theorem dX2_verdict_8 : decode cX2_verdict 8 = .ok (.iload_n 1, 1) := by decide +kernel
theorem dX2_verdict_9 : decode cX2_verdict 9 = .ok (.iload_n 2, 1) := by decide +kernel
theorem dX2_verdict_10 : decode cX2_verdict 10 = .ok (.invokevirtual 58, 3) := by decide +kernel
theorem dX2_verdict_13 : decode cX2_verdict 13 = .ok (.aload_n 0, 1) := by decide +kernel
theorem dX2_verdict_14 : decode cX2_verdict 14 = .ok (.getfield 19, 3) := by decide +kernel
theorem dX2_verdict_17 : decode cX2_verdict 17 = .ok (.aload_n 0, 1) := by decide +kernel
theorem dX2_verdict_18 : decode cX2_verdict 18 = .ok (.getfield 15, 3) := by decide +kernel
theorem dX2_verdict_21 : decode cX2_verdict 21 = .ok (.sipush 500, 3) := by decide +kernel
theorem dX2_verdict_24 : decode cX2_verdict 24 = .ok (.invokevirtual 61, 3) := by decide +kernel
theorem dX2_verdict_27 : decode cX2_verdict 27 = .ok (.aload_n 0, 1) := by decide +kernel
theorem dX2_verdict_28 : decode cX2_verdict 28 = .ok (.getfield 19, 3) := by decide +kernel
theorem dX2_verdict_31 : decode cX2_verdict 31 = .ok (.invokevirtual 67, 3) := by decide +kernel
theorem dX2_verdict_34 : decode cX2_verdict 34 = .ok (.istore_n 3, 1) := by decide +kernel
theorem dX2_verdict_35 : decode cX2_verdict 35 = .ok (.iload_n 3, 1) := by decide +kernel
theorem dX2_verdict_36 : decode cX2_verdict 36 = .ok (.iconst (-1), 1) := by decide +kernel
theorem dX2_verdict_37 : decode cX2_verdict 37 = .ok (.if_icmp .ne 5, 3) := by decide +kernel
theorem dX2_verdict_40 : decode cX2_verdict 40 = .ok (.iconst 0, 1) := by decide +kernel
theorem dX2_verdict_41 : decode cX2_verdict 41 = .ok (.ireturn, 1) := by decide +kernel
theorem dX2_verdict_42 : decode cX2_verdict 42 = .ok (.aload_n 0, 1) := by decide +kernel
theorem dX2_verdict_43 : decode cX2_verdict 43 = .ok (.iload_n 3, 1) := by decide +kernel
theorem dX2_verdict_44 : decode cX2_verdict 44 = .ok (.invokevirtual 71, 3) := by decide +kernel
theorem dX2_verdict_47 : decode cX2_verdict 47 = .ok (.iconst 0, 1) := by decide +kernel
theorem dX2_verdict_48 : decode cX2_verdict 48 = .ok (.istore 4, 2) := by decide +kernel
theorem dX2_verdict_50 : decode cX2_verdict 50 = .ok (.iload 4, 2) := by decide +kernel
theorem dX2_verdict_52 : decode cX2_verdict 52 = .ok (.bipush 16, 2) := by decide +kernel
theorem dX2_verdict_54 : decode cX2_verdict 54 = .ok (.if_icmp .ge 37, 3) := by decide +kernel
theorem dX2_verdict_57 : decode cX2_verdict 57 = .ok (.iload 4, 2) := by decide +kernel
theorem dX2_verdict_59 : decode cX2_verdict 59 = .ok (.aload_n 0, 1) := by decide +kernel
theorem dX2_verdict_60 : decode cX2_verdict 60 = .ok (.getfield 15, 3) := by decide +kernel
theorem dX2_verdict_63 : decode cX2_verdict 63 = .ok (.getfield 27, 3) := by decide +kernel
theorem dX2_verdict_66 : decode cX2_verdict 66 = .ok (.if_icmp .eq 19, 3) := by decide +kernel
theorem dX2_verdict_69 : decode cX2_verdict 69 = .ok (.aload_n 0, 1) := by decide +kernel
theorem dX2_verdict_70 : decode cX2_verdict 70 = .ok (.iload 4, 2) := by decide +kernel
theorem dX2_verdict_72 : decode cX2_verdict 72 = .ok (.iload_n 3, 1) := by decide +kernel
theorem dX2_verdict_73 : decode cX2_verdict 73 = .ok (.invokevirtual 75, 3) := by decide +kernel
theorem dX2_verdict_76 : decode cX2_verdict 76 = .ok (.ifCond .le 9, 3) := by decide +kernel
theorem dX2_verdict_79 : decode cX2_verdict 79 = .ok (.bipush (-2), 2) := by decide +kernel
theorem dX2_verdict_81 : decode cX2_verdict 81 = .ok (.iload 4, 2) := by decide +kernel
theorem dX2_verdict_83 : decode cX2_verdict 83 = .ok (.isub, 1) := by decide +kernel
theorem dX2_verdict_84 : decode cX2_verdict 84 = .ok (.ireturn, 1) := by decide +kernel
theorem dX2_verdict_85 : decode cX2_verdict 85 = .ok (.iinc 4 1, 3) := by decide +kernel
theorem dX2_verdict_88 : decode cX2_verdict 88 = .ok (.goto (-38), 3) := by decide +kernel
theorem dX2_verdict_91 : decode cX2_verdict 91 = .ok (.iconst 1, 1) := by decide +kernel
theorem dX2_verdict_92 : decode cX2_verdict 92 = .ok (.ireturn, 1) := by decide +kernel
theorem dX2_aidAtRest_0 : decode cX2_aidAtRest 0 = .ok (.aload_n 0, 1) := by decide +kernel
theorem dX2_aidAtRest_1 : decode cX2_aidAtRest 1 = .ok (.getfield 15, 3) := by decide +kernel
theorem dX2_aidAtRest_4 : decode cX2_aidAtRest 4 = .ok (.aload_n 0, 1) := by decide +kernel
theorem dX2_aidAtRest_5 : decode cX2_aidAtRest 5 = .ok (.getfield 19, 3) := by decide +kernel
theorem dX2_aidAtRest_8 : decode cX2_aidAtRest 8 = .ok (.invokevirtual 67, 3) := by decide +kernel
theorem dX2_aidAtRest_11 : decode cX2_aidAtRest 11 = .ok (.invokevirtual 78, 3) := by decide +kernel
theorem dX2_aidAtRest_14 : decode cX2_aidAtRest 14 = .ok (.ireturn, 1) := by decide +kernel
theorem dX2_greatestEye_0 : decode cX2_greatestEye 0 = .ok (.iconst 0, 1) := by decide +kernel
theorem dX2_greatestEye_1 : decode cX2_greatestEye 1 = .ok (.istore_n 2, 1) := by decide +kernel
theorem dX2_greatestEye_2 : decode cX2_greatestEye 2 = .ok (.iload_n 2, 1) := by decide +kernel
theorem dX2_greatestEye_3 : decode cX2_greatestEye 3 = .ok (.bipush 50, 2) := by decide +kernel
theorem dX2_greatestEye_5 : decode cX2_greatestEye 5 = .ok (.if_icmp .gt 19, 3) := by decide +kernel
theorem dX2_greatestEye_8 : decode cX2_greatestEye 8 = .ok (.aload_n 0, 1) := by decide +kernel
theorem dX2_greatestEye_9 : decode cX2_greatestEye 9 = .ok (.iload_n 1, 1) := by decide +kernel
theorem dX2_greatestEye_10 : decode cX2_greatestEye 10 = .ok (.iload_n 2, 1) := by decide +kernel
theorem dX2_greatestEye_11 : decode cX2_greatestEye 11 = .ok (.invokevirtual 82, 3) := by decide +kernel
theorem dX2_greatestEye_14 : decode cX2_greatestEye 14 = .ok (.iconst 1, 1) := by decide +kernel
theorem dX2_greatestEye_15 : decode cX2_greatestEye 15 = .ok (.if_icmp .ne 9, 3) := by decide +kernel
theorem dX2_greatestEye_18 : decode cX2_greatestEye 18 = .ok (.iinc 2 1, 3) := by decide +kernel
theorem dX2_greatestEye_21 : decode cX2_greatestEye 21 = .ok (.goto (-19), 3) := by decide +kernel
theorem dX2_greatestEye_24 : decode cX2_greatestEye 24 = .ok (.iload_n 2, 1) := by decide +kernel
theorem dX2_greatestEye_25 : decode cX2_greatestEye 25 = .ok (.iconst 1, 1) := by decide +kernel
theorem dX2_greatestEye_26 : decode cX2_greatestEye 26 = .ok (.isub, 1) := by decide +kernel
theorem dX2_greatestEye_27 : decode cX2_greatestEye 27 = .ok (.ireturn, 1) := by decide +kernel
theorem dX3_init_0 : decode cX3_init 0 = .ok (.aload_n 0, 1) := by decide +kernel
theorem dX3_init_1 : decode cX3_init 1 = .ok (.invokespecial 3, 3) := by decide +kernel
theorem dX3_init_4 : decode cX3_init 4 = .ok (.aload_n 0, 1) := by decide +kernel
theorem dX3_init_5 : decode cX3_init 5 = .ok (.bipush 120, 2) := by decide +kernel
theorem dX3_init_7 : decode cX3_init 7 = .ok (.newarray .int, 2) := by decide +kernel
theorem dX3_init_9 : decode cX3_init 9 = .ok (.putfield 11, 3) := by decide +kernel
theorem dX3_init_12 : decode cX3_init 12 = .ok (.aload_n 0, 1) := by decide +kernel
theorem dX3_init_13 : decode cX3_init 13 = .ok (.new 15, 3) := by decide +kernel
theorem dX3_init_16 : decode cX3_init 16 = .ok (.dup, 1) := by decide +kernel
theorem dX3_init_17 : decode cX3_init 17 = .ok (.invokespecial 17, 3) := by decide +kernel
theorem dX3_init_20 : decode cX3_init 20 = .ok (.putfield 18, 3) := by decide +kernel
theorem dX3_init_23 : decode cX3_init 23 = .ok (.aload_n 0, 1) := by decide +kernel
theorem dX3_init_24 : decode cX3_init 24 = .ok (.iconst 0, 1) := by decide +kernel
theorem dX3_init_25 : decode cX3_init 25 = .ok (.putfield 22, 3) := by decide +kernel
theorem dX3_init_28 : decode cX3_init 28 = .ok (.aload_n 0, 1) := by decide +kernel
theorem dX3_init_29 : decode cX3_init 29 = .ok (.iconst (-1), 1) := by decide +kernel
theorem dX3_init_30 : decode cX3_init 30 = .ok (.putfield 26, 3) := by decide +kernel
theorem dX3_init_33 : decode cX3_init 33 = .ok (.aload_n 0, 1) := by decide +kernel
theorem dX3_init_34 : decode cX3_init 34 = .ok (.iconst 0, 1) := by decide +kernel
theorem dX3_init_35 : decode cX3_init 35 = .ok (.putfield 29, 3) := by decide +kernel
theorem dX3_init_38 : decode cX3_init 38 = .ok (.aload_n 0, 1) := by decide +kernel
theorem dX3_init_39 : decode cX3_init 39 = .ok (.iconst 0, 1) := by decide +kernel
theorem dX3_init_40 : decode cX3_init 40 = .ok (.putfield 32, 3) := by decide +kernel
theorem dX3_init_43 : decode cX3_init 43 = .ok (.aload_n 0, 1) := by decide +kernel
theorem dX3_init_44 : decode cX3_init 44 = .ok (.iconst 0, 1) := by decide +kernel
theorem dX3_init_45 : decode cX3_init 45 = .ok (.putfield 35, 3) := by decide +kernel
theorem dX3_init_48 : decode cX3_init 48 = .ok (.return_, 1) := by decide +kernel
theorem dX3_append_0 : decode cX3_append 0 = .ok (.iload_n 1, 1) := by decide +kernel
theorem dX3_append_1 : decode cX3_append 1 = .ok (.bipush 120, 2) := by decide +kernel
theorem dX3_append_3 : decode cX3_append 3 = .ok (.aload_n 0, 1) := by decide +kernel
theorem dX3_append_4 : decode cX3_append 4 = .ok (.getfield 22, 3) := by decide +kernel
theorem dX3_append_7 : decode cX3_append 7 = .ok (.isub, 1) := by decide +kernel
theorem dX3_append_8 : decode cX3_append 8 = .ok (.if_icmp .le 7, 3) := by decide +kernel
theorem dX3_append_11 : decode cX3_append 11 = .ok (.sipush (-1004), 3) := by decide +kernel
theorem dX3_append_14 : decode cX3_append 14 = .ok (.ireturn, 1) := by decide +kernel
theorem dX3_append_15 : decode cX3_append 15 = .ok (.iload_n 1, 1) := by decide +kernel
theorem dX3_append_16 : decode cX3_append 16 = .ok (.iconst 1, 1) := by decide +kernel
theorem dX3_append_17 : decode cX3_append 17 = .ok (.isub, 1) := by decide +kernel
theorem dX3_append_18 : decode cX3_append 18 = .ok (.istore 4, 2) := by decide +kernel
theorem dX3_append_20 : decode cX3_append 20 = .ok (.iload 4, 2) := by decide +kernel
theorem dX3_append_22 : decode cX3_append 22 = .ok (.ifCond .lt 40, 3) := by decide +kernel
theorem dX3_append_25 : decode cX3_append 25 = .ok (.aload_n 0, 1) := by decide +kernel
theorem dX3_append_26 : decode cX3_append 26 = .ok (.getfield 11, 3) := by decide +kernel
theorem dX3_append_29 : decode cX3_append 29 = .ok (.aload_n 0, 1) := by decide +kernel
theorem dX3_append_30 : decode cX3_append 30 = .ok (.getfield 22, 3) := by decide +kernel
theorem dX3_append_33 : decode cX3_append 33 = .ok (.lload_n 2, 1) := by decide +kernel
theorem dX3_append_34 : decode cX3_append 34 = .ok (.bipush 8, 2) := by decide +kernel
theorem dX3_append_36 : decode cX3_append 36 = .ok (.iload 4, 2) := by decide +kernel
theorem dX3_append_38 : decode cX3_append 38 = .ok (.imul, 1) := by decide +kernel
theorem dX3_append_39 : decode cX3_append 39 = .ok (.lshr, 1) := by decide +kernel
theorem dX3_append_40 : decode cX3_append 40 = .ok (.l2i, 1) := by decide +kernel
theorem dX3_append_41 : decode cX3_append 41 = .ok (.sipush 255, 3) := by decide +kernel
theorem dX3_append_44 : decode cX3_append 44 = .ok (.iand, 1) := by decide +kernel
theorem dX3_append_45 : decode cX3_append 45 = .ok (.iastore, 1) := by decide +kernel
theorem dX3_append_46 : decode cX3_append 46 = .ok (.aload_n 0, 1) := by decide +kernel
theorem dX3_append_47 : decode cX3_append 47 = .ok (.dup, 1) := by decide +kernel
theorem dX3_append_48 : decode cX3_append 48 = .ok (.getfield 22, 3) := by decide +kernel
theorem dX3_append_51 : decode cX3_append 51 = .ok (.iconst 1, 1) := by decide +kernel
theorem dX3_append_52 : decode cX3_append 52 = .ok (.iadd, 1) := by decide +kernel
theorem dX3_append_53 : decode cX3_append 53 = .ok (.putfield 22, 3) := by decide +kernel
theorem dX3_append_56 : decode cX3_append 56 = .ok (.iinc 4 (-1), 3) := by decide +kernel
theorem dX3_append_59 : decode cX3_append 59 = .ok (.goto (-39), 3) := by decide +kernel
theorem dX3_append_62 : decode cX3_append 62 = .ok (.aload_n 0, 1) := by decide +kernel
theorem dX3_append_63 : decode cX3_append 63 = .ok (.getfield 22, 3) := by decide +kernel
theorem dX3_append_66 : decode cX3_append 66 = .ok (.ireturn, 1) := by decide +kernel
theorem dX3_parse_0 : decode cX3_parse 0 = .ok (.aload_n 0, 1) := by decide +kernel
theorem dX3_parse_1 : decode cX3_parse 1 = .ok (.getfield 18, 3) := by decide +kernel
theorem dX3_parse_4 : decode cX3_parse 4 = .ok (.invokevirtual 38, 3) := by decide +kernel
theorem dX3_parse_7 : decode cX3_parse 7 = .ok (.aload_n 0, 1) := by decide +kernel
theorem dX3_parse_8 : decode cX3_parse 8 = .ok (.iconst 0, 1) := by decide +kernel
theorem dX3_parse_9 : decode cX3_parse 9 = .ok (.putfield 29, 3) := by decide +kernel
theorem dX3_parse_12 : decode cX3_parse 12 = .ok (.aload_n 0, 1) := by decide +kernel
theorem dX3_parse_13 : decode cX3_parse 13 = .ok (.iconst (-1), 1) := by decide +kernel
theorem dX3_parse_14 : decode cX3_parse 14 = .ok (.putfield 26, 3) := by decide +kernel
theorem dX3_parse_17 : decode cX3_parse 17 = .ok (.aload_n 0, 1) := by decide +kernel
theorem dX3_parse_18 : decode cX3_parse 18 = .ok (.iconst 0, 1) := by decide +kernel
theorem dX3_parse_19 : decode cX3_parse 19 = .ok (.putfield 32, 3) := by decide +kernel
theorem dX3_parse_22 : decode cX3_parse 22 = .ok (.aload_n 0, 1) := by decide +kernel
theorem dX3_parse_23 : decode cX3_parse 23 = .ok (.iconst 0, 1) := by decide +kernel
theorem dX3_parse_24 : decode cX3_parse 24 = .ok (.putfield 35, 3) := by decide +kernel
theorem dX3_parse_27 : decode cX3_parse 27 = .ok (.aload_n 0, 1) := by decide +kernel
theorem dX3_parse_28 : decode cX3_parse 28 = .ok (.invokevirtual 41, 3) := by decide +kernel
theorem dX3_parse_31 : decode cX3_parse 31 = .ok (.iconst 0, 1) := by decide +kernel
theorem dX3_parse_32 : decode cX3_parse 32 = .ok (.istore_n 1, 1) := by decide +kernel
theorem dX3_parse_33 : decode cX3_parse 33 = .ok (.iload_n 1, 1) := by decide +kernel
theorem dX3_parse_34 : decode cX3_parse 34 = .ok (.bipush 7, 2) := by decide +kernel
theorem dX3_parse_36 : decode cX3_parse 36 = .ok (.if_icmp .gt 35, 3) := by decide +kernel
theorem dX3_parse_39 : decode cX3_parse 39 = .ok (.aload_n 0, 1) := by decide +kernel
theorem dX3_parse_40 : decode cX3_parse 40 = .ok (.getfield 29, 3) := by decide +kernel
theorem dX3_parse_43 : decode cX3_parse 43 = .ok (.ifCond .ne 28, 3) := by decide +kernel
theorem dX3_parse_46 : decode cX3_parse 46 = .ok (.aload_n 0, 1) := by decide +kernel
theorem dX3_parse_47 : decode cX3_parse 47 = .ok (.getfield 32, 3) := by decide +kernel
theorem dX3_parse_50 : decode cX3_parse 50 = .ok (.aload_n 0, 1) := by decide +kernel
theorem dX3_parse_51 : decode cX3_parse 51 = .ok (.getfield 22, 3) := by decide +kernel
theorem dX3_parse_54 : decode cX3_parse 54 = .ok (.if_icmp .ge 17, 3) := by decide +kernel
theorem dX3_parse_57 : decode cX3_parse 57 = .ok (.aload_n 0, 1) := by decide +kernel
theorem dX3_parse_58 : decode cX3_parse 58 = .ok (.invokevirtual 44, 3) := by decide +kernel
theorem dX3_parse_61 : decode cX3_parse 61 = .ok (.aload_n 0, 1) := by decide +kernel
theorem dX3_parse_62 : decode cX3_parse 62 = .ok (.invokevirtual 41, 3) := by decide +kernel
theorem dX3_parse_65 : decode cX3_parse 65 = .ok (.iinc 1 1, 3) := by decide +kernel
theorem dX3_parse_68 : decode cX3_parse 68 = .ok (.goto (-35), 3) := by decide +kernel
theorem dX3_parse_71 : decode cX3_parse 71 = .ok (.aload_n 0, 1) := by decide +kernel
theorem dX3_parse_72 : decode cX3_parse 72 = .ok (.iconst 0, 1) := by decide +kernel
theorem dX3_parse_73 : decode cX3_parse 73 = .ok (.putfield 22, 3) := by decide +kernel
theorem dX3_parse_76 : decode cX3_parse 76 = .ok (.aload_n 0, 1) := by decide +kernel
theorem dX3_parse_77 : decode cX3_parse 77 = .ok (.getfield 29, 3) := by decide +kernel
theorem dX3_parse_80 : decode cX3_parse 80 = .ok (.ifCond .ne 13, 3) := by decide +kernel
theorem dX3_parse_83 : decode cX3_parse 83 = .ok (.aload_n 0, 1) := by decide +kernel
theorem dX3_parse_84 : decode cX3_parse 84 = .ok (.getfield 35, 3) := by decide +kernel
theorem dX3_parse_87 : decode cX3_parse 87 = .ok (.invokestatic 47, 3) := by decide +kernel
theorem dX3_parse_90 : decode cX3_parse 90 = .ok (.goto 10, 3) := by decide +kernel
theorem dX3_parse_93 : decode cX3_parse 93 = .ok (.bipush (-10), 2) := by decide +kernel
theorem dX3_parse_95 : decode cX3_parse 95 = .ok (.aload_n 0, 1) := by decide +kernel
theorem dX3_parse_96 : decode cX3_parse 96 = .ok (.getfield 29, 3) := by decide +kernel
theorem dX3_parse_99 : decode cX3_parse 99 = .ok (.isub, 1) := by decide +kernel
theorem dX3_parse_100 : decode cX3_parse 100 = .ok (.ireturn, 1) := by decide +kernel
theorem dX3_takeClause_0 : decode cX3_takeClause 0 = .ok (.aload_n 0, 1) := by decide +kernel
theorem dX3_takeClause_1 : decode cX3_takeClause 1 = .ok (.getfield 32, 3) := by decide +kernel
theorem dX3_takeClause_4 : decode cX3_takeClause 4 = .ok (.istore_n 1, 1) := by decide +kernel
theorem dX3_takeClause_5 : decode cX3_takeClause 5 = .ok (.aload_n 0, 1) := by decide +kernel
theorem dX3_takeClause_6 : decode cX3_takeClause 6 = .ok (.invokevirtual 53, 3) := by decide +kernel
theorem dX3_takeClause_9 : decode cX3_takeClause 9 = .ok (.istore_n 2, 1) := by decide +kernel
theorem dX3_takeClause_10 : decode cX3_takeClause 10 = .ok (.iload_n 2, 1) := by decide +kernel
theorem dX3_takeClause_11 : decode cX3_takeClause 11 = .ok (.iconst (-1), 1) := by decide +kernel
theorem dX3_takeClause_12 : decode cX3_takeClause 12 = .ok (.if_icmp .ne 12, 3) := by decide +kernel
theorem dX3_takeClause_15 : decode cX3_takeClause 15 = .ok (.aload_n 0, 1) := by decide +kernel
theorem dX3_takeClause_16 : decode cX3_takeClause 16 = .ok (.iconst 1, 1) := by decide +kernel
theorem dX3_takeClause_17 : decode cX3_takeClause 17 = .ok (.iload_n 1, 1) := by decide +kernel
theorem dX3_takeClause_18 : decode cX3_takeClause 18 = .ok (.invokevirtual 57, 3) := by decide +kernel
theorem dX3_takeClause_21 : decode cX3_takeClause 21 = .ok (.goto 45, 3) := by decide +kernel
theorem dX3_takeClause_24 : decode cX3_takeClause 24 = .ok (.aload_n 0, 1) := by decide +kernel
theorem dX3_takeClause_25 : decode cX3_takeClause 25 = .ok (.getfield 35, 3) := by decide +kernel
theorem dX3_takeClause_28 : decode cX3_takeClause 28 = .ok (.iload_n 2, 1) := by decide +kernel
theorem dX3_takeClause_29 : decode cX3_takeClause 29 = .ok (.invokestatic 61, 3) := by decide +kernel
theorem dX3_takeClause_32 : decode cX3_takeClause 32 = .ok (.iconst 1, 1) := by decide +kernel
theorem dX3_takeClause_33 : decode cX3_takeClause 33 = .ok (.if_icmp .ne 12, 3) := by decide +kernel
theorem dX3_takeClause_36 : decode cX3_takeClause 36 = .ok (.aload_n 0, 1) := by decide +kernel
theorem dX3_takeClause_37 : decode cX3_takeClause 37 = .ok (.iconst 3, 1) := by decide +kernel
theorem dX3_takeClause_38 : decode cX3_takeClause 38 = .ok (.iload_n 1, 1) := by decide +kernel
theorem dX3_takeClause_39 : decode cX3_takeClause 39 = .ok (.invokevirtual 57, 3) := by decide +kernel
theorem dX3_takeClause_42 : decode cX3_takeClause 42 = .ok (.goto 24, 3) := by decide +kernel
theorem dX3_takeClause_45 : decode cX3_takeClause 45 = .ok (.aload_n 0, 1) := by decide +kernel
theorem dX3_takeClause_46 : decode cX3_takeClause 46 = .ok (.dup, 1) := by decide +kernel
theorem dX3_takeClause_47 : decode cX3_takeClause 47 = .ok (.getfield 35, 3) := by decide +kernel
theorem dX3_takeClause_50 : decode cX3_takeClause 50 = .ok (.iconst 1, 1) := by decide +kernel
theorem dX3_takeClause_51 : decode cX3_takeClause 51 = .ok (.iload_n 2, 1) := by decide +kernel
theorem dX3_takeClause_52 : decode cX3_takeClause 52 = .ok (.ishl, 1) := by decide +kernel
theorem dX3_takeClause_53 : decode cX3_takeClause 53 = .ok (.ior, 1) := by decide +kernel
theorem dX3_takeClause_54 : decode cX3_takeClause 54 = .ok (.putfield 35, 3) := by decide +kernel
theorem dX3_takeClause_57 : decode cX3_takeClause 57 = .ok (.aload_n 0, 1) := by decide +kernel
theorem dX3_takeClause_58 : decode cX3_takeClause 58 = .ok (.iload_n 2, 1) := by decide +kernel
theorem dX3_takeClause_59 : decode cX3_takeClause 59 = .ok (.invokevirtual 65, 3) := by decide +kernel
theorem dX3_takeClause_62 : decode cX3_takeClause 62 = .ok (.aload_n 0, 1) := by decide +kernel
theorem dX3_takeClause_63 : decode cX3_takeClause 63 = .ok (.invokevirtual 69, 3) := by decide +kernel
theorem dX3_takeClause_66 : decode cX3_takeClause 66 = .ok (.return_, 1) := by decide +kernel
theorem dX3_takeClauseWord_0 : decode cX3_takeClauseWord 0 = .ok (.aload_n 0, 1) := by decide +kernel
theorem dX3_takeClauseWord_1 : decode cX3_takeClauseWord 1 = .ok (.ldc 72, 2) := by decide +kernel
theorem dX3_takeClauseWord_3 : decode cX3_takeClauseWord 3 = .ok (.invokevirtual 74, 3) := by decide +kernel
theorem dX3_takeClauseWord_6 : decode cX3_takeClauseWord 6 = .ok (.ifCond .eq 5, 3) := by decide +kernel
theorem dX3_takeClauseWord_9 : decode cX3_takeClauseWord 9 = .ok (.iconst 0, 1) := by decide +kernel
theorem dX3_takeClauseWord_10 : decode cX3_takeClauseWord 10 = .ok (.ireturn, 1) := by decide +kernel
theorem dX3_takeClauseWord_11 : decode cX3_takeClauseWord 11 = .ok (.aload_n 0, 1) := by decide +kernel
theorem dX3_takeClauseWord_12 : decode cX3_takeClauseWord 12 = .ok (.ldc 78, 2) := by decide +kernel
theorem dX3_takeClauseWord_14 : decode cX3_takeClauseWord 14 = .ok (.invokevirtual 74, 3) := by decide +kernel
theorem dX3_takeClauseWord_17 : decode cX3_takeClauseWord 17 = .ok (.ifCond .eq 5, 3) := by decide +kernel
theorem dX3_takeClauseWord_20 : decode cX3_takeClauseWord 20 = .ok (.iconst 1, 1) := by decide +kernel
theorem dX3_takeClauseWord_21 : decode cX3_takeClauseWord 21 = .ok (.ireturn, 1) := by decide +kernel
theorem dX3_takeClauseWord_22 : decode cX3_takeClauseWord 22 = .ok (.aload_n 0, 1) := by decide +kernel
theorem dX3_takeClauseWord_23 : decode cX3_takeClauseWord 23 = .ok (.ldc 80, 2) := by decide +kernel
theorem dX3_takeClauseWord_25 : decode cX3_takeClauseWord 25 = .ok (.invokevirtual 74, 3) := by decide +kernel
theorem dX3_takeClauseWord_28 : decode cX3_takeClauseWord 28 = .ok (.ifCond .eq 5, 3) := by decide +kernel
theorem dX3_takeClauseWord_31 : decode cX3_takeClauseWord 31 = .ok (.iconst 2, 1) := by decide +kernel
theorem dX3_takeClauseWord_32 : decode cX3_takeClauseWord 32 = .ok (.ireturn, 1) := by decide +kernel
theorem dX3_takeClauseWord_33 : decode cX3_takeClauseWord 33 = .ok (.aload_n 0, 1) := by decide +kernel
theorem dX3_takeClauseWord_34 : decode cX3_takeClauseWord 34 = .ok (.ldc 82, 2) := by decide +kernel
theorem dX3_takeClauseWord_36 : decode cX3_takeClauseWord 36 = .ok (.invokevirtual 74, 3) := by decide +kernel
theorem dX3_takeClauseWord_39 : decode cX3_takeClauseWord 39 = .ok (.ifCond .eq 5, 3) := by decide +kernel
theorem dX3_takeClauseWord_42 : decode cX3_takeClauseWord 42 = .ok (.iconst 3, 1) := by decide +kernel
theorem dX3_takeClauseWord_43 : decode cX3_takeClauseWord 43 = .ok (.ireturn, 1) := by decide +kernel
theorem dX3_takeClauseWord_44 : decode cX3_takeClauseWord 44 = .ok (.aload_n 0, 1) := by decide +kernel
theorem dX3_takeClauseWord_45 : decode cX3_takeClauseWord 45 = .ok (.ldc 84, 2) := by decide +kernel
theorem dX3_takeClauseWord_47 : decode cX3_takeClauseWord 47 = .ok (.invokevirtual 74, 3) := by decide +kernel
theorem dX3_takeClauseWord_50 : decode cX3_takeClauseWord 50 = .ok (.ifCond .eq 5, 3) := by decide +kernel
theorem dX3_takeClauseWord_53 : decode cX3_takeClauseWord 53 = .ok (.iconst 4, 1) := by decide +kernel
theorem dX3_takeClauseWord_54 : decode cX3_takeClauseWord 54 = .ok (.ireturn, 1) := by decide +kernel
theorem dX3_takeClauseWord_55 : decode cX3_takeClauseWord 55 = .ok (.aload_n 0, 1) := by decide +kernel
theorem dX3_takeClauseWord_56 : decode cX3_takeClauseWord 56 = .ok (.ldc 86, 2) := by decide +kernel
theorem dX3_takeClauseWord_58 : decode cX3_takeClauseWord 58 = .ok (.invokevirtual 74, 3) := by decide +kernel
theorem dX3_takeClauseWord_61 : decode cX3_takeClauseWord 61 = .ok (.ifCond .eq 5, 3) := by decide +kernel
theorem dX3_takeClauseWord_64 : decode cX3_takeClauseWord 64 = .ok (.iconst 5, 1) := by decide +kernel
theorem dX3_takeClauseWord_65 : decode cX3_takeClauseWord 65 = .ok (.ireturn, 1) := by decide +kernel
theorem dX3_takeClauseWord_66 : decode cX3_takeClauseWord 66 = .ok (.aload_n 0, 1) := by decide +kernel
theorem dX3_takeClauseWord_67 : decode cX3_takeClauseWord 67 = .ok (.ldc 88, 2) := by decide +kernel
theorem dX3_takeClauseWord_69 : decode cX3_takeClauseWord 69 = .ok (.invokevirtual 74, 3) := by decide +kernel
theorem dX3_takeClauseWord_72 : decode cX3_takeClauseWord 72 = .ok (.ifCond .eq 6, 3) := by decide +kernel
theorem dX3_takeClauseWord_75 : decode cX3_takeClauseWord 75 = .ok (.bipush 6, 2) := by decide +kernel
theorem dX3_takeClauseWord_77 : decode cX3_takeClauseWord 77 = .ok (.ireturn, 1) := by decide +kernel
theorem dX3_takeClauseWord_78 : decode cX3_takeClauseWord 78 = .ok (.iconst (-1), 1) := by decide +kernel
theorem dX3_takeClauseWord_79 : decode cX3_takeClauseWord 79 = .ok (.ireturn, 1) := by decide +kernel
theorem dX3_takeBody_0 : decode cX3_takeBody 0 = .ok (.iload_n 1, 1) := by decide +kernel
theorem dX3_takeBody_1 : decode cX3_takeBody 1 = .ok (.tableswitch 166 0 5 #[39, 55, 71, 87, 103, 147], 39) := by decide +kernel
theorem dX3_takeBody_40 : decode cX3_takeBody 40 = .ok (.aload_n 0, 1) := by decide +kernel
theorem dX3_takeBody_41 : decode cX3_takeBody 41 = .ok (.getfield 18, 3) := by decide +kernel
theorem dX3_takeBody_44 : decode cX3_takeBody 44 = .ok (.aload_n 0, 1) := by decide +kernel
theorem dX3_takeBody_45 : decode cX3_takeBody 45 = .ok (.bipush 99, 2) := by decide +kernel
theorem dX3_takeBody_47 : decode cX3_takeBody 47 = .ok (.invokevirtual 90, 3) := by decide +kernel
theorem dX3_takeBody_50 : decode cX3_takeBody 50 = .ok (.putfield 93, 3) := by decide +kernel
theorem dX3_takeBody_53 : decode cX3_takeBody 53 = .ok (.goto 131, 3) := by decide +kernel
theorem dX3_takeBody_56 : decode cX3_takeBody 56 = .ok (.aload_n 0, 1) := by decide +kernel
theorem dX3_takeBody_57 : decode cX3_takeBody 57 = .ok (.getfield 18, 3) := by decide +kernel
theorem dX3_takeBody_60 : decode cX3_takeBody 60 = .ok (.aload_n 0, 1) := by decide +kernel
theorem dX3_takeBody_61 : decode cX3_takeBody 61 = .ok (.bipush 99, 2) := by decide +kernel
theorem dX3_takeBody_63 : decode cX3_takeBody 63 = .ok (.invokevirtual 90, 3) := by decide +kernel
theorem dX3_takeBody_66 : decode cX3_takeBody 66 = .ok (.putfield 95, 3) := by decide +kernel
theorem dX3_takeBody_69 : decode cX3_takeBody 69 = .ok (.goto 115, 3) := by decide +kernel
theorem dX3_takeBody_72 : decode cX3_takeBody 72 = .ok (.aload_n 0, 1) := by decide +kernel
theorem dX3_takeBody_73 : decode cX3_takeBody 73 = .ok (.getfield 18, 3) := by decide +kernel
theorem dX3_takeBody_76 : decode cX3_takeBody 76 = .ok (.aload_n 0, 1) := by decide +kernel
theorem dX3_takeBody_77 : decode cX3_takeBody 77 = .ok (.bipush 50, 2) := by decide +kernel
theorem dX3_takeBody_79 : decode cX3_takeBody 79 = .ok (.invokevirtual 90, 3) := by decide +kernel
theorem dX3_takeBody_82 : decode cX3_takeBody 82 = .ok (.putfield 97, 3) := by decide +kernel
theorem dX3_takeBody_85 : decode cX3_takeBody 85 = .ok (.goto 99, 3) := by decide +kernel
theorem dX3_takeBody_88 : decode cX3_takeBody 88 = .ok (.aload_n 0, 1) := by decide +kernel
theorem dX3_takeBody_89 : decode cX3_takeBody 89 = .ok (.getfield 18, 3) := by decide +kernel
theorem dX3_takeBody_92 : decode cX3_takeBody 92 = .ok (.aload_n 0, 1) := by decide +kernel
theorem dX3_takeBody_93 : decode cX3_takeBody 93 = .ok (.bipush 50, 2) := by decide +kernel
theorem dX3_takeBody_95 : decode cX3_takeBody 95 = .ok (.invokevirtual 90, 3) := by decide +kernel
theorem dX3_takeBody_98 : decode cX3_takeBody 98 = .ok (.putfield 99, 3) := by decide +kernel
theorem dX3_takeBody_101 : decode cX3_takeBody 101 = .ok (.goto 83, 3) := by decide +kernel
theorem dX3_takeBody_104 : decode cX3_takeBody 104 = .ok (.aload_n 0, 1) := by decide +kernel
theorem dX3_takeBody_105 : decode cX3_takeBody 105 = .ok (.getfield 18, 3) := by decide +kernel
theorem dX3_takeBody_108 : decode cX3_takeBody 108 = .ok (.aload_n 0, 1) := by decide +kernel
theorem dX3_takeBody_109 : decode cX3_takeBody 109 = .ok (.bipush 99, 2) := by decide +kernel
theorem dX3_takeBody_111 : decode cX3_takeBody 111 = .ok (.invokevirtual 90, 3) := by decide +kernel
theorem dX3_takeBody_114 : decode cX3_takeBody 114 = .ok (.putfield 101, 3) := by decide +kernel
theorem dX3_takeBody_117 : decode cX3_takeBody 117 = .ok (.aload_n 0, 1) := by decide +kernel
theorem dX3_takeBody_118 : decode cX3_takeBody 118 = .ok (.getfield 29, 3) := by decide +kernel
theorem dX3_takeBody_121 : decode cX3_takeBody 121 = .ok (.ifCond .ne 63, 3) := by decide +kernel
theorem dX3_takeBody_124 : decode cX3_takeBody 124 = .ok (.aload_n 0, 1) := by decide +kernel
theorem dX3_takeBody_125 : decode cX3_takeBody 125 = .ok (.ldc 103, 2) := by decide +kernel
theorem dX3_takeBody_127 : decode cX3_takeBody 127 = .ok (.invokevirtual 74, 3) := by decide +kernel
theorem dX3_takeBody_130 : decode cX3_takeBody 130 = .ok (.ifCond .eq 54, 3) := by decide +kernel
theorem dX3_takeBody_133 : decode cX3_takeBody 133 = .ok (.aload_n 0, 1) := by decide +kernel
theorem dX3_takeBody_134 : decode cX3_takeBody 134 = .ok (.getfield 18, 3) := by decide +kernel
theorem dX3_takeBody_137 : decode cX3_takeBody 137 = .ok (.aload_n 0, 1) := by decide +kernel
theorem dX3_takeBody_138 : decode cX3_takeBody 138 = .ok (.iconst 1, 1) := by decide +kernel
theorem dX3_takeBody_139 : decode cX3_takeBody 139 = .ok (.invokevirtual 90, 3) := by decide +kernel
theorem dX3_takeBody_142 : decode cX3_takeBody 142 = .ok (.putfield 105, 3) := by decide +kernel
theorem dX3_takeBody_145 : decode cX3_takeBody 145 = .ok (.goto 39, 3) := by decide +kernel
theorem dX3_takeBody_148 : decode cX3_takeBody 148 = .ok (.aload_n 0, 1) := by decide +kernel
theorem dX3_takeBody_149 : decode cX3_takeBody 149 = .ok (.getfield 18, 3) := by decide +kernel
theorem dX3_takeBody_152 : decode cX3_takeBody 152 = .ok (.aload_n 0, 1) := by decide +kernel
theorem dX3_takeBody_153 : decode cX3_takeBody 153 = .ok (.iconst 4, 1) := by decide +kernel
theorem dX3_takeBody_154 : decode cX3_takeBody 154 = .ok (.ldc 108, 2) := by decide +kernel
theorem dX3_takeBody_156 : decode cX3_takeBody 156 = .ok (.ldc 110, 2) := by decide +kernel
theorem dX3_takeBody_158 : decode cX3_takeBody 158 = .ok (.invokevirtual 112, 3) := by decide +kernel
theorem dX3_takeBody_161 : decode cX3_takeBody 161 = .ok (.putfield 116, 3) := by decide +kernel
theorem dX3_takeBody_164 : decode cX3_takeBody 164 = .ok (.goto 20, 3) := by decide +kernel
theorem dX3_takeBody_167 : decode cX3_takeBody 167 = .ok (.aload_n 0, 1) := by decide +kernel
theorem dX3_takeBody_168 : decode cX3_takeBody 168 = .ok (.getfield 18, 3) := by decide +kernel
theorem dX3_takeBody_171 : decode cX3_takeBody 171 = .ok (.aload_n 0, 1) := by decide +kernel
theorem dX3_takeBody_172 : decode cX3_takeBody 172 = .ok (.bipush 8, 2) := by decide +kernel
theorem dX3_takeBody_174 : decode cX3_takeBody 174 = .ok (.ldc 118, 2) := by decide +kernel
theorem dX3_takeBody_176 : decode cX3_takeBody 176 = .ok (.ldc 120, 2) := by decide +kernel
theorem dX3_takeBody_178 : decode cX3_takeBody 178 = .ok (.invokevirtual 112, 3) := by decide +kernel
theorem dX3_takeBody_181 : decode cX3_takeBody 181 = .ok (.putfield 122, 3) := by decide +kernel
theorem dX3_takeBody_184 : decode cX3_takeBody 184 = .ok (.return_, 1) := by decide +kernel
theorem dX3_takeSet_0 : decode cX3_takeSet 0 = .ok (.iconst 0, 1) := by decide +kernel
theorem dX3_takeSet_1 : decode cX3_takeSet 1 = .ok (.istore 4, 2) := by decide +kernel
theorem dX3_takeSet_3 : decode cX3_takeSet 3 = .ok (.iconst 0, 1) := by decide +kernel
theorem dX3_takeSet_4 : decode cX3_takeSet 4 = .ok (.istore 5, 2) := by decide +kernel
theorem dX3_takeSet_6 : decode cX3_takeSet 6 = .ok (.iload 5, 2) := by decide +kernel
theorem dX3_takeSet_8 : decode cX3_takeSet 8 = .ok (.iload_n 1, 1) := by decide +kernel
theorem dX3_takeSet_9 : decode cX3_takeSet 9 = .ok (.if_icmp .ge 53, 3) := by decide +kernel
theorem dX3_takeSet_12 : decode cX3_takeSet 12 = .ok (.aload_n 0, 1) := by decide +kernel
theorem dX3_takeSet_13 : decode cX3_takeSet 13 = .ok (.getfield 29, 3) := by decide +kernel
theorem dX3_takeSet_16 : decode cX3_takeSet 16 = .ok (.ifCond .ne 46, 3) := by decide +kernel
theorem dX3_takeSet_19 : decode cX3_takeSet 19 = .ok (.aload_n 0, 1) := by decide +kernel
theorem dX3_takeSet_20 : decode cX3_takeSet 20 = .ok (.aload_n 3, 1) := by decide +kernel
theorem dX3_takeSet_21 : decode cX3_takeSet 21 = .ok (.invokevirtual 74, 3) := by decide +kernel
theorem dX3_takeSet_24 : decode cX3_takeSet 24 = .ok (.ifCond .eq 15, 3) := by decide +kernel
theorem dX3_takeSet_27 : decode cX3_takeSet 27 = .ok (.iload 4, 2) := by decide +kernel
theorem dX3_takeSet_29 : decode cX3_takeSet 29 = .ok (.iconst 1, 1) := by decide +kernel
theorem dX3_takeSet_30 : decode cX3_takeSet 30 = .ok (.iload 5, 2) := by decide +kernel
theorem dX3_takeSet_32 : decode cX3_takeSet 32 = .ok (.ishl, 1) := by decide +kernel
theorem dX3_takeSet_33 : decode cX3_takeSet 33 = .ok (.ior, 1) := by decide +kernel
theorem dX3_takeSet_34 : decode cX3_takeSet 34 = .ok (.istore 4, 2) := by decide +kernel
theorem dX3_takeSet_36 : decode cX3_takeSet 36 = .ok (.goto 20, 3) := by decide +kernel
theorem dX3_takeSet_39 : decode cX3_takeSet 39 = .ok (.aload_n 0, 1) := by decide +kernel
theorem dX3_takeSet_40 : decode cX3_takeSet 40 = .ok (.aload_n 2, 1) := by decide +kernel
theorem dX3_takeSet_41 : decode cX3_takeSet 41 = .ok (.invokevirtual 74, 3) := by decide +kernel
theorem dX3_takeSet_44 : decode cX3_takeSet 44 = .ok (.ifCond .ne 12, 3) := by decide +kernel
theorem dX3_takeSet_47 : decode cX3_takeSet 47 = .ok (.aload_n 0, 1) := by decide +kernel
theorem dX3_takeSet_48 : decode cX3_takeSet 48 = .ok (.iconst 1, 1) := by decide +kernel
theorem dX3_takeSet_49 : decode cX3_takeSet 49 = .ok (.aload_n 0, 1) := by decide +kernel
theorem dX3_takeSet_50 : decode cX3_takeSet 50 = .ok (.getfield 32, 3) := by decide +kernel
theorem dX3_takeSet_53 : decode cX3_takeSet 53 = .ok (.invokevirtual 57, 3) := by decide +kernel
theorem dX3_takeSet_56 : decode cX3_takeSet 56 = .ok (.iinc 5 1, 3) := by decide +kernel
theorem dX3_takeSet_59 : decode cX3_takeSet 59 = .ok (.goto (-53), 3) := by decide +kernel
theorem dX3_takeSet_62 : decode cX3_takeSet 62 = .ok (.iload 4, 2) := by decide +kernel
theorem dX3_takeSet_64 : decode cX3_takeSet 64 = .ok (.ireturn, 1) := by decide +kernel
theorem dX3_takeNumber_0 : decode cX3_takeNumber 0 = .ok (.aload_n 0, 1) := by decide +kernel
theorem dX3_takeNumber_1 : decode cX3_takeNumber 1 = .ok (.invokevirtual 41, 3) := by decide +kernel
theorem dX3_takeNumber_4 : decode cX3_takeNumber 4 = .ok (.aload_n 0, 1) := by decide +kernel
theorem dX3_takeNumber_5 : decode cX3_takeNumber 5 = .ok (.getfield 32, 3) := by decide +kernel
theorem dX3_takeNumber_8 : decode cX3_takeNumber 8 = .ok (.istore_n 2, 1) := by decide +kernel
theorem dX3_takeNumber_9 : decode cX3_takeNumber 9 = .ok (.iconst 0, 1) := by decide +kernel
theorem dX3_takeNumber_10 : decode cX3_takeNumber 10 = .ok (.istore_n 3, 1) := by decide +kernel
theorem dX3_takeNumber_11 : decode cX3_takeNumber 11 = .ok (.aload_n 0, 1) := by decide +kernel
theorem dX3_takeNumber_12 : decode cX3_takeNumber 12 = .ok (.getfield 32, 3) := by decide +kernel
theorem dX3_takeNumber_15 : decode cX3_takeNumber 15 = .ok (.aload_n 0, 1) := by decide +kernel
theorem dX3_takeNumber_16 : decode cX3_takeNumber 16 = .ok (.getfield 22, 3) := by decide +kernel
theorem dX3_takeNumber_19 : decode cX3_takeNumber 19 = .ok (.if_icmp .ge 57, 3) := by decide +kernel
theorem dX3_takeNumber_22 : decode cX3_takeNumber 22 = .ok (.aload_n 0, 1) := by decide +kernel
theorem dX3_takeNumber_23 : decode cX3_takeNumber 23 = .ok (.getfield 11, 3) := by decide +kernel
theorem dX3_takeNumber_26 : decode cX3_takeNumber 26 = .ok (.aload_n 0, 1) := by decide +kernel
theorem dX3_takeNumber_27 : decode cX3_takeNumber 27 = .ok (.getfield 32, 3) := by decide +kernel
theorem dX3_takeNumber_30 : decode cX3_takeNumber 30 = .ok (.iaload, 1) := by decide +kernel
theorem dX3_takeNumber_31 : decode cX3_takeNumber 31 = .ok (.bipush 48, 2) := by decide +kernel
theorem dX3_takeNumber_33 : decode cX3_takeNumber 33 = .ok (.bipush 57, 2) := by decide +kernel
theorem dX3_takeNumber_35 : decode cX3_takeNumber 35 = .ok (.invokestatic 124, 3) := by decide +kernel
theorem dX3_takeNumber_38 : decode cX3_takeNumber 38 = .ok (.ifCond .eq 38, 3) := by decide +kernel
theorem dX3_takeNumber_41 : decode cX3_takeNumber 41 = .ok (.bipush 10, 2) := by decide +kernel
theorem dX3_takeNumber_43 : decode cX3_takeNumber 43 = .ok (.iload_n 3, 1) := by decide +kernel
theorem dX3_takeNumber_44 : decode cX3_takeNumber 44 = .ok (.imul, 1) := by decide +kernel
theorem dX3_takeNumber_45 : decode cX3_takeNumber 45 = .ok (.aload_n 0, 1) := by decide +kernel
theorem dX3_takeNumber_46 : decode cX3_takeNumber 46 = .ok (.getfield 11, 3) := by decide +kernel
theorem dX3_takeNumber_49 : decode cX3_takeNumber 49 = .ok (.aload_n 0, 1) := by decide +kernel
theorem dX3_takeNumber_50 : decode cX3_takeNumber 50 = .ok (.getfield 32, 3) := by decide +kernel
theorem dX3_takeNumber_53 : decode cX3_takeNumber 53 = .ok (.iaload, 1) := by decide +kernel
theorem dX3_takeNumber_54 : decode cX3_takeNumber 54 = .ok (.iadd, 1) := by decide +kernel
theorem dX3_takeNumber_55 : decode cX3_takeNumber 55 = .ok (.bipush 48, 2) := by decide +kernel
theorem dX3_takeNumber_57 : decode cX3_takeNumber 57 = .ok (.isub, 1) := by decide +kernel
theorem dX3_takeNumber_58 : decode cX3_takeNumber 58 = .ok (.sipush 1000, 3) := by decide +kernel
theorem dX3_takeNumber_61 : decode cX3_takeNumber 61 = .ok (.irem, 1) := by decide +kernel
theorem dX3_takeNumber_62 : decode cX3_takeNumber 62 = .ok (.istore_n 3, 1) := by decide +kernel
theorem dX3_takeNumber_63 : decode cX3_takeNumber 63 = .ok (.aload_n 0, 1) := by decide +kernel
theorem dX3_takeNumber_64 : decode cX3_takeNumber 64 = .ok (.dup, 1) := by decide +kernel
theorem dX3_takeNumber_65 : decode cX3_takeNumber 65 = .ok (.getfield 32, 3) := by decide +kernel
theorem dX3_takeNumber_68 : decode cX3_takeNumber 68 = .ok (.iconst 1, 1) := by decide +kernel
theorem dX3_takeNumber_69 : decode cX3_takeNumber 69 = .ok (.iadd, 1) := by decide +kernel
theorem dX3_takeNumber_70 : decode cX3_takeNumber 70 = .ok (.putfield 32, 3) := by decide +kernel
theorem dX3_takeNumber_73 : decode cX3_takeNumber 73 = .ok (.goto (-62), 3) := by decide +kernel
theorem dX3_takeNumber_76 : decode cX3_takeNumber 76 = .ok (.aload_n 0, 1) := by decide +kernel
theorem dX3_takeNumber_77 : decode cX3_takeNumber 77 = .ok (.getfield 32, 3) := by decide +kernel
theorem dX3_takeNumber_80 : decode cX3_takeNumber 80 = .ok (.iload_n 2, 1) := by decide +kernel
theorem dX3_takeNumber_81 : decode cX3_takeNumber 81 = .ok (.isub, 1) := by decide +kernel
theorem dX3_takeNumber_82 : decode cX3_takeNumber 82 = .ok (.istore 4, 2) := by decide +kernel
theorem dX3_takeNumber_84 : decode cX3_takeNumber 84 = .ok (.iload 4, 2) := by decide +kernel
theorem dX3_takeNumber_86 : decode cX3_takeNumber 86 = .ok (.ifCond .ne 12, 3) := by decide +kernel
theorem dX3_takeNumber_89 : decode cX3_takeNumber 89 = .ok (.aload_n 0, 1) := by decide +kernel
theorem dX3_takeNumber_90 : decode cX3_takeNumber 90 = .ok (.iconst 1, 1) := by decide +kernel
theorem dX3_takeNumber_91 : decode cX3_takeNumber 91 = .ok (.iload_n 2, 1) := by decide +kernel
theorem dX3_takeNumber_92 : decode cX3_takeNumber 92 = .ok (.invokevirtual 57, 3) := by decide +kernel
theorem dX3_takeNumber_95 : decode cX3_takeNumber 95 = .ok (.goto 20, 3) := by decide +kernel
theorem dX3_takeNumber_98 : decode cX3_takeNumber 98 = .ok (.iload 4, 2) := by decide +kernel
theorem dX3_takeNumber_100 : decode cX3_takeNumber 100 = .ok (.iconst 2, 1) := by decide +kernel
theorem dX3_takeNumber_101 : decode cX3_takeNumber 101 = .ok (.if_icmp .gt 8, 3) := by decide +kernel
theorem dX3_takeNumber_104 : decode cX3_takeNumber 104 = .ok (.iload_n 3, 1) := by decide +kernel
theorem dX3_takeNumber_105 : decode cX3_takeNumber 105 = .ok (.iload_n 1, 1) := by decide +kernel
theorem dX3_takeNumber_106 : decode cX3_takeNumber 106 = .ok (.if_icmp .le 9, 3) := by decide +kernel
theorem dX3_takeNumber_109 : decode cX3_takeNumber 109 = .ok (.aload_n 0, 1) := by decide +kernel
theorem dX3_takeNumber_110 : decode cX3_takeNumber 110 = .ok (.iconst 2, 1) := by decide +kernel
theorem dX3_takeNumber_111 : decode cX3_takeNumber 111 = .ok (.iload_n 2, 1) := by decide +kernel
theorem dX3_takeNumber_112 : decode cX3_takeNumber 112 = .ok (.invokevirtual 57, 3) := by decide +kernel
theorem dX3_takeNumber_115 : decode cX3_takeNumber 115 = .ok (.iload_n 3, 1) := by decide +kernel
theorem dX3_takeNumber_116 : decode cX3_takeNumber 116 = .ok (.ireturn, 1) := by decide +kernel
theorem dX3_takeEnd_0 : decode cX3_takeEnd 0 = .ok (.aload_n 0, 1) := by decide +kernel
theorem dX3_takeEnd_1 : decode cX3_takeEnd 1 = .ok (.getfield 29, 3) := by decide +kernel
theorem dX3_takeEnd_4 : decode cX3_takeEnd 4 = .ok (.ifCond .eq 4, 3) := by decide +kernel
theorem dX3_takeEnd_7 : decode cX3_takeEnd 7 = .ok (.return_, 1) := by decide +kernel
theorem dX3_takeEnd_8 : decode cX3_takeEnd 8 = .ok (.aload_n 0, 1) := by decide +kernel
theorem dX3_takeEnd_9 : decode cX3_takeEnd 9 = .ok (.invokevirtual 41, 3) := by decide +kernel
theorem dX3_takeEnd_12 : decode cX3_takeEnd 12 = .ok (.aload_n 0, 1) := by decide +kernel
theorem dX3_takeEnd_13 : decode cX3_takeEnd 13 = .ok (.getfield 32, 3) := by decide +kernel
theorem dX3_takeEnd_16 : decode cX3_takeEnd 16 = .ok (.aload_n 0, 1) := by decide +kernel
theorem dX3_takeEnd_17 : decode cX3_takeEnd 17 = .ok (.getfield 22, 3) := by decide +kernel
theorem dX3_takeEnd_20 : decode cX3_takeEnd 20 = .ok (.if_icmp .ge 30, 3) := by decide +kernel
theorem dX3_takeEnd_23 : decode cX3_takeEnd 23 = .ok (.aload_n 0, 1) := by decide +kernel
theorem dX3_takeEnd_24 : decode cX3_takeEnd 24 = .ok (.getfield 11, 3) := by decide +kernel
theorem dX3_takeEnd_27 : decode cX3_takeEnd 27 = .ok (.aload_n 0, 1) := by decide +kernel
theorem dX3_takeEnd_28 : decode cX3_takeEnd 28 = .ok (.getfield 32, 3) := by decide +kernel
theorem dX3_takeEnd_31 : decode cX3_takeEnd 31 = .ok (.iaload, 1) := by decide +kernel
theorem dX3_takeEnd_32 : decode cX3_takeEnd 32 = .ok (.bipush 59, 2) := by decide +kernel
theorem dX3_takeEnd_34 : decode cX3_takeEnd 34 = .ok (.if_icmp .ne 16, 3) := by decide +kernel
theorem dX3_takeEnd_37 : decode cX3_takeEnd 37 = .ok (.aload_n 0, 1) := by decide +kernel
theorem dX3_takeEnd_38 : decode cX3_takeEnd 38 = .ok (.dup, 1) := by decide +kernel
theorem dX3_takeEnd_39 : decode cX3_takeEnd 39 = .ok (.getfield 32, 3) := by decide +kernel
theorem dX3_takeEnd_42 : decode cX3_takeEnd 42 = .ok (.iconst 1, 1) := by decide +kernel
theorem dX3_takeEnd_43 : decode cX3_takeEnd 43 = .ok (.iadd, 1) := by decide +kernel
theorem dX3_takeEnd_44 : decode cX3_takeEnd 44 = .ok (.putfield 32, 3) := by decide +kernel
theorem dX3_takeEnd_47 : decode cX3_takeEnd 47 = .ok (.goto 12, 3) := by decide +kernel
theorem dX3_takeEnd_50 : decode cX3_takeEnd 50 = .ok (.aload_n 0, 1) := by decide +kernel
theorem dX3_takeEnd_51 : decode cX3_takeEnd 51 = .ok (.iconst 1, 1) := by decide +kernel
theorem dX3_takeEnd_52 : decode cX3_takeEnd 52 = .ok (.aload_n 0, 1) := by decide +kernel
theorem dX3_takeEnd_53 : decode cX3_takeEnd 53 = .ok (.getfield 32, 3) := by decide +kernel
theorem dX3_takeEnd_56 : decode cX3_takeEnd 56 = .ok (.invokevirtual 57, 3) := by decide +kernel
theorem dX3_takeEnd_59 : decode cX3_takeEnd 59 = .ok (.return_, 1) := by decide +kernel
theorem dX3_takeWord_0 : decode cX3_takeWord 0 = .ok (.aload_n 0, 1) := by decide +kernel
theorem dX3_takeWord_1 : decode cX3_takeWord 1 = .ok (.invokevirtual 41, 3) := by decide +kernel
theorem dX3_takeWord_4 : decode cX3_takeWord 4 = .ok (.aload_n 0, 1) := by decide +kernel
theorem dX3_takeWord_5 : decode cX3_takeWord 5 = .ok (.getfield 32, 3) := by decide +kernel
theorem dX3_takeWord_8 : decode cX3_takeWord 8 = .ok (.istore_n 2, 1) := by decide +kernel
theorem dX3_takeWord_9 : decode cX3_takeWord 9 = .ok (.iload_n 2, 1) := by decide +kernel
theorem dX3_takeWord_10 : decode cX3_takeWord 10 = .ok (.aload_n 0, 1) := by decide +kernel
theorem dX3_takeWord_11 : decode cX3_takeWord 11 = .ok (.getfield 22, 3) := by decide +kernel
theorem dX3_takeWord_14 : decode cX3_takeWord 14 = .ok (.if_icmp .ge 25, 3) := by decide +kernel
theorem dX3_takeWord_17 : decode cX3_takeWord 17 = .ok (.aload_n 0, 1) := by decide +kernel
theorem dX3_takeWord_18 : decode cX3_takeWord 18 = .ok (.getfield 11, 3) := by decide +kernel
theorem dX3_takeWord_21 : decode cX3_takeWord 21 = .ok (.iload_n 2, 1) := by decide +kernel
theorem dX3_takeWord_22 : decode cX3_takeWord 22 = .ok (.iaload, 1) := by decide +kernel
theorem dX3_takeWord_23 : decode cX3_takeWord 23 = .ok (.bipush 97, 2) := by decide +kernel
theorem dX3_takeWord_25 : decode cX3_takeWord 25 = .ok (.bipush 122, 2) := by decide +kernel
theorem dX3_takeWord_27 : decode cX3_takeWord 27 = .ok (.invokestatic 124, 3) := by decide +kernel
theorem dX3_takeWord_30 : decode cX3_takeWord 30 = .ok (.ifCond .eq 9, 3) := by decide +kernel
theorem dX3_takeWord_33 : decode cX3_takeWord 33 = .ok (.iinc 2 1, 3) := by decide +kernel
theorem dX3_takeWord_36 : decode cX3_takeWord 36 = .ok (.goto (-27), 3) := by decide +kernel
theorem dX3_takeWord_39 : decode cX3_takeWord 39 = .ok (.iload_n 2, 1) := by decide +kernel
theorem dX3_takeWord_40 : decode cX3_takeWord 40 = .ok (.aload_n 0, 1) := by decide +kernel
theorem dX3_takeWord_41 : decode cX3_takeWord 41 = .ok (.getfield 32, 3) := by decide +kernel
theorem dX3_takeWord_44 : decode cX3_takeWord 44 = .ok (.isub, 1) := by decide +kernel
theorem dX3_takeWord_45 : decode cX3_takeWord 45 = .ok (.aload_n 1, 1) := by decide +kernel
theorem dX3_takeWord_46 : decode cX3_takeWord 46 = .ok (.invokevirtual 128, 3) := by decide +kernel
theorem dX3_takeWord_49 : decode cX3_takeWord 49 = .ok (.if_icmp .eq 5, 3) := by decide +kernel
theorem dX3_takeWord_52 : decode cX3_takeWord 52 = .ok (.iconst 0, 1) := by decide +kernel
theorem dX3_takeWord_53 : decode cX3_takeWord 53 = .ok (.ireturn, 1) := by decide +kernel
theorem dX3_takeWord_54 : decode cX3_takeWord 54 = .ok (.iconst 0, 1) := by decide +kernel
theorem dX3_takeWord_55 : decode cX3_takeWord 55 = .ok (.istore_n 3, 1) := by decide +kernel
theorem dX3_takeWord_56 : decode cX3_takeWord 56 = .ok (.iload_n 3, 1) := by decide +kernel
theorem dX3_takeWord_57 : decode cX3_takeWord 57 = .ok (.aload_n 1, 1) := by decide +kernel
theorem dX3_takeWord_58 : decode cX3_takeWord 58 = .ok (.invokevirtual 128, 3) := by decide +kernel
theorem dX3_takeWord_61 : decode cX3_takeWord 61 = .ok (.if_icmp .ge 30, 3) := by decide +kernel
theorem dX3_takeWord_64 : decode cX3_takeWord 64 = .ok (.aload_n 0, 1) := by decide +kernel
theorem dX3_takeWord_65 : decode cX3_takeWord 65 = .ok (.getfield 11, 3) := by decide +kernel
theorem dX3_takeWord_68 : decode cX3_takeWord 68 = .ok (.aload_n 0, 1) := by decide +kernel
theorem dX3_takeWord_69 : decode cX3_takeWord 69 = .ok (.getfield 32, 3) := by decide +kernel
theorem dX3_takeWord_72 : decode cX3_takeWord 72 = .ok (.iload_n 3, 1) := by decide +kernel
theorem dX3_takeWord_73 : decode cX3_takeWord 73 = .ok (.iadd, 1) := by decide +kernel
theorem dX3_takeWord_74 : decode cX3_takeWord 74 = .ok (.iaload, 1) := by decide +kernel
theorem dX3_takeWord_75 : decode cX3_takeWord 75 = .ok (.aload_n 1, 1) := by decide +kernel
theorem dX3_takeWord_76 : decode cX3_takeWord 76 = .ok (.iload_n 3, 1) := by decide +kernel
theorem dX3_takeWord_77 : decode cX3_takeWord 77 = .ok (.invokevirtual 133, 3) := by decide +kernel
theorem dX3_takeWord_80 : decode cX3_takeWord 80 = .ok (.if_icmp .eq 5, 3) := by decide +kernel
theorem dX3_takeWord_83 : decode cX3_takeWord 83 = .ok (.iconst 0, 1) := by decide +kernel
theorem dX3_takeWord_84 : decode cX3_takeWord 84 = .ok (.ireturn, 1) := by decide +kernel
theorem dX3_takeWord_85 : decode cX3_takeWord 85 = .ok (.iinc 3 1, 3) := by decide +kernel
theorem dX3_takeWord_88 : decode cX3_takeWord 88 = .ok (.goto (-32), 3) := by decide +kernel
theorem dX3_takeWord_91 : decode cX3_takeWord 91 = .ok (.aload_n 0, 1) := by decide +kernel
theorem dX3_takeWord_92 : decode cX3_takeWord 92 = .ok (.iload_n 2, 1) := by decide +kernel
theorem dX3_takeWord_93 : decode cX3_takeWord 93 = .ok (.putfield 32, 3) := by decide +kernel
theorem dX3_takeWord_96 : decode cX3_takeWord 96 = .ok (.iconst 1, 1) := by decide +kernel
theorem dX3_takeWord_97 : decode cX3_takeWord 97 = .ok (.ireturn, 1) := by decide +kernel
theorem dX3_skipBlanks_0 : decode cX3_skipBlanks 0 = .ok (.aload_n 0, 1) := by decide +kernel
theorem dX3_skipBlanks_1 : decode cX3_skipBlanks 1 = .ok (.getfield 32, 3) := by decide +kernel
theorem dX3_skipBlanks_4 : decode cX3_skipBlanks 4 = .ok (.aload_n 0, 1) := by decide +kernel
theorem dX3_skipBlanks_5 : decode cX3_skipBlanks 5 = .ok (.getfield 22, 3) := by decide +kernel
theorem dX3_skipBlanks_8 : decode cX3_skipBlanks 8 = .ok (.if_icmp .ge 30, 3) := by decide +kernel
theorem dX3_skipBlanks_11 : decode cX3_skipBlanks 11 = .ok (.aload_n 0, 1) := by decide +kernel
theorem dX3_skipBlanks_12 : decode cX3_skipBlanks 12 = .ok (.getfield 11, 3) := by decide +kernel
theorem dX3_skipBlanks_15 : decode cX3_skipBlanks 15 = .ok (.aload_n 0, 1) := by decide +kernel
theorem dX3_skipBlanks_16 : decode cX3_skipBlanks 16 = .ok (.getfield 32, 3) := by decide +kernel
theorem dX3_skipBlanks_19 : decode cX3_skipBlanks 19 = .ok (.iaload, 1) := by decide +kernel
theorem dX3_skipBlanks_20 : decode cX3_skipBlanks 20 = .ok (.bipush 32, 2) := by decide +kernel
theorem dX3_skipBlanks_22 : decode cX3_skipBlanks 22 = .ok (.if_icmp .ne 16, 3) := by decide +kernel
theorem dX3_skipBlanks_25 : decode cX3_skipBlanks 25 = .ok (.aload_n 0, 1) := by decide +kernel
theorem dX3_skipBlanks_26 : decode cX3_skipBlanks 26 = .ok (.dup, 1) := by decide +kernel
theorem dX3_skipBlanks_27 : decode cX3_skipBlanks 27 = .ok (.getfield 32, 3) := by decide +kernel
theorem dX3_skipBlanks_30 : decode cX3_skipBlanks 30 = .ok (.iconst 1, 1) := by decide +kernel
theorem dX3_skipBlanks_31 : decode cX3_skipBlanks 31 = .ok (.iadd, 1) := by decide +kernel
theorem dX3_skipBlanks_32 : decode cX3_skipBlanks 32 = .ok (.putfield 32, 3) := by decide +kernel
theorem dX3_skipBlanks_35 : decode cX3_skipBlanks 35 = .ok (.goto (-35), 3) := by decide +kernel
theorem dX3_skipBlanks_38 : decode cX3_skipBlanks 38 = .ok (.return_, 1) := by decide +kernel
theorem dX3_blame_0 : decode cX3_blame 0 = .ok (.aload_n 0, 1) := by decide +kernel
theorem dX3_blame_1 : decode cX3_blame 1 = .ok (.iload_n 1, 1) := by decide +kernel
theorem dX3_blame_2 : decode cX3_blame 2 = .ok (.putfield 29, 3) := by decide +kernel
theorem dX3_blame_5 : decode cX3_blame 5 = .ok (.aload_n 0, 1) := by decide +kernel
theorem dX3_blame_6 : decode cX3_blame 6 = .ok (.iload_n 2, 1) := by decide +kernel
theorem dX3_blame_7 : decode cX3_blame 7 = .ok (.putfield 26, 3) := by decide +kernel
theorem dX3_blame_10 : decode cX3_blame 10 = .ok (.return_, 1) := by decide +kernel
theorem dX4_init_0 : decode cX4_init 0 = .ok (.aload_n 0, 1) := by decide +kernel
theorem dX4_init_1 : decode cX4_init 1 = .ok (.invokespecial 3, 3) := by decide +kernel
theorem dX4_init_4 : decode cX4_init 4 = .ok (.aload_n 0, 1) := by decide +kernel
theorem dX4_init_5 : decode cX4_init 5 = .ok (.sipush 4096, 3) := by decide +kernel
theorem dX4_init_8 : decode cX4_init 8 = .ok (.newarray .int, 2) := by decide +kernel
theorem dX4_init_10 : decode cX4_init 10 = .ok (.putfield 9, 3) := by decide +kernel
theorem dX4_init_13 : decode cX4_init 13 = .ok (.aload_n 0, 1) := by decide +kernel
theorem dX4_init_14 : decode cX4_init 14 = .ok (.iconst 0, 1) := by decide +kernel
theorem dX4_init_15 : decode cX4_init 15 = .ok (.putfield 15, 3) := by decide +kernel
theorem dX4_init_18 : decode cX4_init 18 = .ok (.aload_n 0, 1) := by decide +kernel
theorem dX4_init_19 : decode cX4_init 19 = .ok (.iconst (-1), 1) := by decide +kernel
theorem dX4_init_20 : decode cX4_init 20 = .ok (.putfield 19, 3) := by decide +kernel
theorem dX4_init_23 : decode cX4_init 23 = .ok (.aload_n 0, 1) := by decide +kernel
theorem dX4_init_24 : decode cX4_init 24 = .ok (.bipush (-2), 2) := by decide +kernel
theorem dX4_init_26 : decode cX4_init 26 = .ok (.putfield 23, 3) := by decide +kernel
theorem dX4_init_29 : decode cX4_init 29 = .ok (.aload_n 0, 1) := by decide +kernel
theorem dX4_init_30 : decode cX4_init 30 = .ok (.aload_n 1, 1) := by decide +kernel
theorem dX4_init_31 : decode cX4_init 31 = .ok (.putfield 26, 3) := by decide +kernel
theorem dX4_init_34 : decode cX4_init 34 = .ok (.return_, 1) := by decide +kernel
theorem dX4_drop_0 : decode cX4_drop 0 = .ok (.aload_n 0, 1) := by decide +kernel
theorem dX4_drop_1 : decode cX4_drop 1 = .ok (.iconst 0, 1) := by decide +kernel
theorem dX4_drop_2 : decode cX4_drop 2 = .ok (.putfield 15, 3) := by decide +kernel
theorem dX4_drop_5 : decode cX4_drop 5 = .ok (.return_, 1) := by decide +kernel
theorem dX4_make_0 : decode cX4_make 0 = .ok (.aload_n 0, 1) := by decide +kernel
theorem dX4_make_1 : decode cX4_make 1 = .ok (.getfield 15, 3) := by decide +kernel
theorem dX4_make_4 : decode cX4_make 4 = .ok (.ifCond .eq 4, 3) := by decide +kernel
theorem dX4_make_7 : decode cX4_make 7 = .ok (.return_, 1) := by decide +kernel
theorem dX4_make_8 : decode cX4_make 8 = .ok (.aload_n 0, 1) := by decide +kernel
theorem dX4_make_9 : decode cX4_make 9 = .ok (.iconst (-1), 1) := by decide +kernel
theorem dX4_make_10 : decode cX4_make 10 = .ok (.putfield 19, 3) := by decide +kernel
theorem dX4_make_13 : decode cX4_make 13 = .ok (.aload_n 0, 1) := by decide +kernel
theorem dX4_make_14 : decode cX4_make 14 = .ok (.getfield 26, 3) := by decide +kernel
theorem dX4_make_17 : decode cX4_make 17 = .ok (.getfield 30, 3) := by decide +kernel
theorem dX4_make_20 : decode cX4_make 20 = .ok (.getfield 36, 3) := by decide +kernel
theorem dX4_make_23 : decode cX4_make 23 = .ok (.istore_n 1, 1) := by decide +kernel
theorem dX4_make_24 : decode cX4_make 24 = .ok (.iconst 0, 1) := by decide +kernel
theorem dX4_make_25 : decode cX4_make 25 = .ok (.istore_n 2, 1) := by decide +kernel
theorem dX4_make_26 : decode cX4_make 26 = .ok (.iload_n 2, 1) := by decide +kernel
theorem dX4_make_27 : decode cX4_make 27 = .ok (.sipush 4096, 3) := by decide +kernel
theorem dX4_make_30 : decode cX4_make 30 = .ok (.if_icmp .ge 56, 3) := by decide +kernel
theorem dX4_make_33 : decode cX4_make 33 = .ok (.aload_n 0, 1) := by decide +kernel
theorem dX4_make_34 : decode cX4_make 34 = .ok (.getfield 9, 3) := by decide +kernel
theorem dX4_make_37 : decode cX4_make 37 = .ok (.iload_n 2, 1) := by decide +kernel
theorem dX4_make_38 : decode cX4_make 38 = .ok (.aload_n 0, 1) := by decide +kernel
theorem dX4_make_39 : decode cX4_make 39 = .ok (.getfield 26, 3) := by decide +kernel
theorem dX4_make_42 : decode cX4_make 42 = .ok (.iload_n 2, 1) := by decide +kernel
theorem dX4_make_43 : decode cX4_make 43 = .ok (.iload_n 1, 1) := by decide +kernel
theorem dX4_make_44 : decode cX4_make 44 = .ok (.invokevirtual 41, 3) := by decide +kernel
theorem dX4_make_47 : decode cX4_make 47 = .ok (.iconst 1, 1) := by decide +kernel
theorem dX4_make_48 : decode cX4_make 48 = .ok (.if_icmp .ne 13, 3) := by decide +kernel
theorem dX4_make_51 : decode cX4_make 51 = .ok (.aload_n 0, 1) := by decide +kernel
theorem dX4_make_52 : decode cX4_make 52 = .ok (.getfield 26, 3) := by decide +kernel
theorem dX4_make_55 : decode cX4_make 55 = .ok (.invokevirtual 45, 3) := by decide +kernel
theorem dX4_make_58 : decode cX4_make 58 = .ok (.goto 4, 3) := by decide +kernel
theorem dX4_make_61 : decode cX4_make 61 = .ok (.iconst (-1), 1) := by decide +kernel
theorem dX4_make_62 : decode cX4_make 62 = .ok (.iastore, 1) := by decide +kernel
theorem dX4_make_63 : decode cX4_make 63 = .ok (.aload_n 0, 1) := by decide +kernel
theorem dX4_make_64 : decode cX4_make 64 = .ok (.aload_n 0, 1) := by decide +kernel
theorem dX4_make_65 : decode cX4_make 65 = .ok (.getfield 19, 3) := by decide +kernel
theorem dX4_make_68 : decode cX4_make 68 = .ok (.aload_n 0, 1) := by decide +kernel
theorem dX4_make_69 : decode cX4_make 69 = .ok (.getfield 9, 3) := by decide +kernel
theorem dX4_make_72 : decode cX4_make 72 = .ok (.iload_n 2, 1) := by decide +kernel
theorem dX4_make_73 : decode cX4_make 73 = .ok (.iaload, 1) := by decide +kernel
theorem dX4_make_74 : decode cX4_make 74 = .ok (.invokestatic 49, 3) := by decide +kernel
theorem dX4_make_77 : decode cX4_make 77 = .ok (.putfield 19, 3) := by decide +kernel
theorem dX4_make_80 : decode cX4_make 80 = .ok (.iinc 2 1, 3) := by decide +kernel
theorem dX4_make_83 : decode cX4_make 83 = .ok (.goto (-57), 3) := by decide +kernel
theorem dX4_make_86 : decode cX4_make 86 = .ok (.aload_n 0, 1) := by decide +kernel
theorem dX4_make_87 : decode cX4_make 87 = .ok (.bipush (-2), 2) := by decide +kernel
theorem dX4_make_89 : decode cX4_make 89 = .ok (.putfield 23, 3) := by decide +kernel
theorem dX4_make_92 : decode cX4_make 92 = .ok (.aload_n 0, 1) := by decide +kernel
theorem dX4_make_93 : decode cX4_make 93 = .ok (.iconst 1, 1) := by decide +kernel
theorem dX4_make_94 : decode cX4_make 94 = .ok (.putfield 15, 3) := by decide +kernel
theorem dX4_make_97 : decode cX4_make 97 = .ok (.return_, 1) := by decide +kernel
theorem dX4_count_0 : decode cX4_count 0 = .ok (.iconst 0, 1) := by decide +kernel
theorem dX4_count_1 : decode cX4_count 1 = .ok (.istore_n 2, 1) := by decide +kernel
theorem dX4_count_2 : decode cX4_count 2 = .ok (.iconst 0, 1) := by decide +kernel
theorem dX4_count_3 : decode cX4_count 3 = .ok (.istore_n 3, 1) := by decide +kernel
theorem dX4_count_4 : decode cX4_count 4 = .ok (.iload_n 3, 1) := by decide +kernel
theorem dX4_count_5 : decode cX4_count 5 = .ok (.sipush 4096, 3) := by decide +kernel
theorem dX4_count_8 : decode cX4_count 8 = .ok (.if_icmp .ge 22, 3) := by decide +kernel
theorem dX4_count_11 : decode cX4_count 11 = .ok (.aload_n 0, 1) := by decide +kernel
theorem dX4_count_12 : decode cX4_count 12 = .ok (.getfield 9, 3) := by decide +kernel
theorem dX4_count_15 : decode cX4_count 15 = .ok (.iload_n 3, 1) := by decide +kernel
theorem dX4_count_16 : decode cX4_count 16 = .ok (.iaload, 1) := by decide +kernel
theorem dX4_count_17 : decode cX4_count 17 = .ok (.iload_n 1, 1) := by decide +kernel
theorem dX4_count_18 : decode cX4_count 18 = .ok (.if_icmp .le 6, 3) := by decide +kernel
theorem dX4_count_21 : decode cX4_count 21 = .ok (.iinc 2 1, 3) := by decide +kernel
theorem dX4_count_24 : decode cX4_count 24 = .ok (.iinc 3 1, 3) := by decide +kernel
theorem dX4_count_27 : decode cX4_count 27 = .ok (.goto (-23), 3) := by decide +kernel
theorem dX4_count_30 : decode cX4_count 30 = .ok (.iload_n 2, 1) := by decide +kernel
theorem dX4_count_31 : decode cX4_count 31 = .ok (.ireturn, 1) := by decide +kernel
theorem dX4_nth_0 : decode cX4_nth 0 = .ok (.iconst 0, 1) := by decide +kernel
theorem dX4_nth_1 : decode cX4_nth 1 = .ok (.istore_n 3, 1) := by decide +kernel
theorem dX4_nth_2 : decode cX4_nth 2 = .ok (.iconst 0, 1) := by decide +kernel
theorem dX4_nth_3 : decode cX4_nth 3 = .ok (.istore 4, 2) := by decide +kernel
theorem dX4_nth_5 : decode cX4_nth 5 = .ok (.iload 4, 2) := by decide +kernel
theorem dX4_nth_7 : decode cX4_nth 7 = .ok (.sipush 4096, 3) := by decide +kernel
theorem dX4_nth_10 : decode cX4_nth 10 = .ok (.if_icmp .ge 34, 3) := by decide +kernel
theorem dX4_nth_13 : decode cX4_nth 13 = .ok (.aload_n 0, 1) := by decide +kernel
theorem dX4_nth_14 : decode cX4_nth 14 = .ok (.getfield 9, 3) := by decide +kernel
theorem dX4_nth_17 : decode cX4_nth 17 = .ok (.iload 4, 2) := by decide +kernel
theorem dX4_nth_19 : decode cX4_nth 19 = .ok (.iaload, 1) := by decide +kernel
theorem dX4_nth_20 : decode cX4_nth 20 = .ok (.iload_n 2, 1) := by decide +kernel
theorem dX4_nth_21 : decode cX4_nth 21 = .ok (.if_icmp .gt 6, 3) := by decide +kernel
theorem dX4_nth_24 : decode cX4_nth 24 = .ok (.goto 14, 3) := by decide +kernel
theorem dX4_nth_27 : decode cX4_nth 27 = .ok (.iload_n 3, 1) := by decide +kernel
theorem dX4_nth_28 : decode cX4_nth 28 = .ok (.iload_n 1, 1) := by decide +kernel
theorem dX4_nth_29 : decode cX4_nth 29 = .ok (.if_icmp .ne 6, 3) := by decide +kernel
theorem dX4_nth_32 : decode cX4_nth 32 = .ok (.iload 4, 2) := by decide +kernel
theorem dX4_nth_34 : decode cX4_nth 34 = .ok (.ireturn, 1) := by decide +kernel
theorem dX4_nth_35 : decode cX4_nth 35 = .ok (.iinc 3 1, 3) := by decide +kernel
theorem dX4_nth_38 : decode cX4_nth 38 = .ok (.iinc 4 1, 3) := by decide +kernel
theorem dX4_nth_41 : decode cX4_nth 41 = .ok (.goto (-36), 3) := by decide +kernel
theorem dX4_nth_44 : decode cX4_nth 44 = .ok (.iconst (-1), 1) := by decide +kernel
theorem dX4_nth_45 : decode cX4_nth 45 = .ok (.ireturn, 1) := by decide +kernel
theorem dX4_mostHelped_0 : decode cX4_mostHelped 0 = .ok (.iconst 0, 1) := by decide +kernel
theorem dX4_mostHelped_1 : decode cX4_mostHelped 1 = .ok (.istore_n 2, 1) := by decide +kernel
theorem dX4_mostHelped_2 : decode cX4_mostHelped 2 = .ok (.iload_n 2, 1) := by decide +kernel
theorem dX4_mostHelped_3 : decode cX4_mostHelped 3 = .ok (.sipush 4096, 3) := by decide +kernel
theorem dX4_mostHelped_6 : decode cX4_mostHelped 6 = .ok (.if_icmp .ge 34, 3) := by decide +kernel
theorem dX4_mostHelped_9 : decode cX4_mostHelped 9 = .ok (.aload_n 0, 1) := by decide +kernel
theorem dX4_mostHelped_10 : decode cX4_mostHelped 10 = .ok (.getfield 9, 3) := by decide +kernel
theorem dX4_mostHelped_13 : decode cX4_mostHelped 13 = .ok (.iload_n 2, 1) := by decide +kernel
theorem dX4_mostHelped_14 : decode cX4_mostHelped 14 = .ok (.iaload, 1) := by decide +kernel
theorem dX4_mostHelped_15 : decode cX4_mostHelped 15 = .ok (.iload_n 1, 1) := by decide +kernel
theorem dX4_mostHelped_16 : decode cX4_mostHelped 16 = .ok (.if_icmp .le 18, 3) := by decide +kernel
theorem dX4_mostHelped_19 : decode cX4_mostHelped 19 = .ok (.aload_n 0, 1) := by decide +kernel
theorem dX4_mostHelped_20 : decode cX4_mostHelped 20 = .ok (.getfield 9, 3) := by decide +kernel
theorem dX4_mostHelped_23 : decode cX4_mostHelped 23 = .ok (.iload_n 2, 1) := by decide +kernel
theorem dX4_mostHelped_24 : decode cX4_mostHelped 24 = .ok (.iaload, 1) := by decide +kernel
theorem dX4_mostHelped_25 : decode cX4_mostHelped 25 = .ok (.aload_n 0, 1) := by decide +kernel
theorem dX4_mostHelped_26 : decode cX4_mostHelped 26 = .ok (.getfield 19, 3) := by decide +kernel
theorem dX4_mostHelped_29 : decode cX4_mostHelped 29 = .ok (.if_icmp .ne 5, 3) := by decide +kernel
theorem dX4_mostHelped_32 : decode cX4_mostHelped 32 = .ok (.iload_n 2, 1) := by decide +kernel
theorem dX4_mostHelped_33 : decode cX4_mostHelped 33 = .ok (.ireturn, 1) := by decide +kernel
theorem dX4_mostHelped_34 : decode cX4_mostHelped 34 = .ok (.iinc 2 1, 3) := by decide +kernel
theorem dX4_mostHelped_37 : decode cX4_mostHelped 37 = .ok (.goto (-35), 3) := by decide +kernel
theorem dX4_mostHelped_40 : decode cX4_mostHelped 40 = .ok (.iconst (-1), 1) := by decide +kernel
theorem dX4_mostHelped_41 : decode cX4_mostHelped 41 = .ok (.ireturn, 1) := by decide +kernel
theorem dX4_plainest_0 : decode cX4_plainest 0 = .ok (.iconst (-1), 1) := by decide +kernel
theorem dX4_plainest_1 : decode cX4_plainest 1 = .ok (.istore_n 2, 1) := by decide +kernel
theorem dX4_plainest_2 : decode cX4_plainest 2 = .ok (.bipush 6, 2) := by decide +kernel
theorem dX4_plainest_4 : decode cX4_plainest 4 = .ok (.istore_n 3, 1) := by decide +kernel
theorem dX4_plainest_5 : decode cX4_plainest 5 = .ok (.iconst 0, 1) := by decide +kernel
theorem dX4_plainest_6 : decode cX4_plainest 6 = .ok (.istore 4, 2) := by decide +kernel
theorem dX4_plainest_8 : decode cX4_plainest 8 = .ok (.iload 4, 2) := by decide +kernel
theorem dX4_plainest_10 : decode cX4_plainest 10 = .ok (.sipush 4096, 3) := by decide +kernel
theorem dX4_plainest_13 : decode cX4_plainest 13 = .ok (.if_icmp .ge 41, 3) := by decide +kernel
theorem dX4_plainest_16 : decode cX4_plainest 16 = .ok (.aload_n 0, 1) := by decide +kernel
theorem dX4_plainest_17 : decode cX4_plainest 17 = .ok (.getfield 9, 3) := by decide +kernel
theorem dX4_plainest_20 : decode cX4_plainest 20 = .ok (.iload 4, 2) := by decide +kernel
theorem dX4_plainest_22 : decode cX4_plainest 22 = .ok (.iaload, 1) := by decide +kernel
theorem dX4_plainest_23 : decode cX4_plainest 23 = .ok (.iload_n 1, 1) := by decide +kernel
theorem dX4_plainest_24 : decode cX4_plainest 24 = .ok (.if_icmp .le 24, 3) := by decide +kernel
theorem dX4_plainest_27 : decode cX4_plainest 27 = .ok (.iload 4, 2) := by decide +kernel
theorem dX4_plainest_29 : decode cX4_plainest 29 = .ok (.invokestatic 54, 3) := by decide +kernel
theorem dX4_plainest_32 : decode cX4_plainest 32 = .ok (.iload_n 3, 1) := by decide +kernel
theorem dX4_plainest_33 : decode cX4_plainest 33 = .ok (.if_icmp .lt 6, 3) := by decide +kernel
theorem dX4_plainest_36 : decode cX4_plainest 36 = .ok (.goto 12, 3) := by decide +kernel
theorem dX4_plainest_39 : decode cX4_plainest 39 = .ok (.iload 4, 2) := by decide +kernel
theorem dX4_plainest_41 : decode cX4_plainest 41 = .ok (.istore_n 2, 1) := by decide +kernel
theorem dX4_plainest_42 : decode cX4_plainest 42 = .ok (.iload 4, 2) := by decide +kernel
theorem dX4_plainest_44 : decode cX4_plainest 44 = .ok (.invokestatic 54, 3) := by decide +kernel
theorem dX4_plainest_47 : decode cX4_plainest 47 = .ok (.istore_n 3, 1) := by decide +kernel
theorem dX4_plainest_48 : decode cX4_plainest 48 = .ok (.iinc 4 1, 3) := by decide +kernel
theorem dX4_plainest_51 : decode cX4_plainest 51 = .ok (.goto (-43), 3) := by decide +kernel
theorem dX4_plainest_54 : decode cX4_plainest 54 = .ok (.iload_n 2, 1) := by decide +kernel
theorem dX4_plainest_55 : decode cX4_plainest 55 = .ok (.ireturn, 1) := by decide +kernel
theorem dX4_firmest_0 : decode cX4_firmest 0 = .ok (.aload_n 0, 1) := by decide +kernel
theorem dX4_firmest_1 : decode cX4_firmest 1 = .ok (.getfield 19, 3) := by decide +kernel
theorem dX4_firmest_4 : decode cX4_firmest 4 = .ok (.iload_n 1, 1) := by decide +kernel
theorem dX4_firmest_5 : decode cX4_firmest 5 = .ok (.if_icmp .gt 5, 3) := by decide +kernel
theorem dX4_firmest_8 : decode cX4_firmest 8 = .ok (.iconst (-1), 1) := by decide +kernel
theorem dX4_firmest_9 : decode cX4_firmest 9 = .ok (.ireturn, 1) := by decide +kernel
theorem dX4_firmest_10 : decode cX4_firmest 10 = .ok (.aload_n 0, 1) := by decide +kernel
theorem dX4_firmest_11 : decode cX4_firmest 11 = .ok (.getfield 23, 3) := by decide +kernel
theorem dX4_firmest_14 : decode cX4_firmest 14 = .ok (.bipush (-2), 2) := by decide +kernel
theorem dX4_firmest_16 : decode cX4_firmest 16 = .ok (.if_icmp .eq 8, 3) := by decide +kernel
theorem dX4_firmest_19 : decode cX4_firmest 19 = .ok (.aload_n 0, 1) := by decide +kernel
theorem dX4_firmest_20 : decode cX4_firmest 20 = .ok (.getfield 23, 3) := by decide +kernel
theorem dX4_firmest_23 : decode cX4_firmest 23 = .ok (.ireturn, 1) := by decide +kernel
theorem dX4_firmest_24 : decode cX4_firmest 24 = .ok (.bipush (-2), 2) := by decide +kernel
theorem dX4_firmest_26 : decode cX4_firmest 26 = .ok (.istore_n 2, 1) := by decide +kernel
theorem dX4_firmest_27 : decode cX4_firmest 27 = .ok (.iconst 0, 1) := by decide +kernel
theorem dX4_firmest_28 : decode cX4_firmest 28 = .ok (.istore_n 3, 1) := by decide +kernel
theorem dX4_firmest_29 : decode cX4_firmest 29 = .ok (.iload_n 3, 1) := by decide +kernel
theorem dX4_firmest_30 : decode cX4_firmest 30 = .ok (.sipush 4096, 3) := by decide +kernel
theorem dX4_firmest_33 : decode cX4_firmest 33 = .ok (.if_icmp .ge 58, 3) := by decide +kernel
theorem dX4_firmest_36 : decode cX4_firmest 36 = .ok (.iload_n 2, 1) := by decide +kernel
theorem dX4_firmest_37 : decode cX4_firmest 37 = .ok (.bipush 50, 2) := by decide +kernel
theorem dX4_firmest_39 : decode cX4_firmest 39 = .ok (.if_icmp .ge 52, 3) := by decide +kernel
theorem dX4_firmest_42 : decode cX4_firmest 42 = .ok (.aload_n 0, 1) := by decide +kernel
theorem dX4_firmest_43 : decode cX4_firmest 43 = .ok (.getfield 9, 3) := by decide +kernel
theorem dX4_firmest_46 : decode cX4_firmest 46 = .ok (.iload_n 3, 1) := by decide +kernel
theorem dX4_firmest_47 : decode cX4_firmest 47 = .ok (.iaload, 1) := by decide +kernel
theorem dX4_firmest_48 : decode cX4_firmest 48 = .ok (.aload_n 0, 1) := by decide +kernel
theorem dX4_firmest_49 : decode cX4_firmest 49 = .ok (.getfield 19, 3) := by decide +kernel
theorem dX4_firmest_52 : decode cX4_firmest 52 = .ok (.if_icmp .eq 6, 3) := by decide +kernel
theorem dX4_firmest_55 : decode cX4_firmest 55 = .ok (.goto 30, 3) := by decide +kernel
theorem dX4_firmest_58 : decode cX4_firmest 58 = .ok (.aload_n 0, 1) := by decide +kernel
theorem dX4_firmest_59 : decode cX4_firmest 59 = .ok (.getfield 26, 3) := by decide +kernel
theorem dX4_firmest_62 : decode cX4_firmest 62 = .ok (.iload_n 3, 1) := by decide +kernel
theorem dX4_firmest_63 : decode cX4_firmest 63 = .ok (.invokevirtual 58, 3) := by decide +kernel
theorem dX4_firmest_66 : decode cX4_firmest 66 = .ok (.istore 4, 2) := by decide +kernel
theorem dX4_firmest_68 : decode cX4_firmest 68 = .ok (.iload 4, 2) := by decide +kernel
theorem dX4_firmest_70 : decode cX4_firmest 70 = .ok (.iload_n 2, 1) := by decide +kernel
theorem dX4_firmest_71 : decode cX4_firmest 71 = .ok (.if_icmp .gt 6, 3) := by decide +kernel
theorem dX4_firmest_74 : decode cX4_firmest 74 = .ok (.goto 11, 3) := by decide +kernel
theorem dX4_firmest_77 : decode cX4_firmest 77 = .ok (.aload_n 0, 1) := by decide +kernel
theorem dX4_firmest_78 : decode cX4_firmest 78 = .ok (.iload_n 3, 1) := by decide +kernel
theorem dX4_firmest_79 : decode cX4_firmest 79 = .ok (.putfield 23, 3) := by decide +kernel
theorem dX4_firmest_82 : decode cX4_firmest 82 = .ok (.iload 4, 2) := by decide +kernel
theorem dX4_firmest_84 : decode cX4_firmest 84 = .ok (.istore_n 2, 1) := by decide +kernel
theorem dX4_firmest_85 : decode cX4_firmest 85 = .ok (.iinc 3 1, 3) := by decide +kernel
theorem dX4_firmest_88 : decode cX4_firmest 88 = .ok (.goto (-59), 3) := by decide +kernel
theorem dX4_firmest_91 : decode cX4_firmest 91 = .ok (.aload_n 0, 1) := by decide +kernel
theorem dX4_firmest_92 : decode cX4_firmest 92 = .ok (.getfield 23, 3) := by decide +kernel
theorem dX4_firmest_95 : decode cX4_firmest 95 = .ok (.ireturn, 1) := by decide +kernel
theorem dX4_countKinds_0 : decode cX4_countKinds 0 = .ok (.iconst 0, 1) := by decide +kernel
theorem dX4_countKinds_1 : decode cX4_countKinds 1 = .ok (.istore_n 2, 1) := by decide +kernel
theorem dX4_countKinds_2 : decode cX4_countKinds 2 = .ok (.iconst 0, 1) := by decide +kernel
theorem dX4_countKinds_3 : decode cX4_countKinds 3 = .ok (.istore_n 3, 1) := by decide +kernel
theorem dX4_countKinds_4 : decode cX4_countKinds 4 = .ok (.iload_n 3, 1) := by decide +kernel
theorem dX4_countKinds_5 : decode cX4_countKinds 5 = .ok (.sipush 4096, 3) := by decide +kernel
theorem dX4_countKinds_8 : decode cX4_countKinds 8 = .ok (.if_icmp .ge 48, 3) := by decide +kernel
theorem dX4_countKinds_11 : decode cX4_countKinds 11 = .ok (.aload_n 0, 1) := by decide +kernel
theorem dX4_countKinds_12 : decode cX4_countKinds 12 = .ok (.getfield 9, 3) := by decide +kernel
theorem dX4_countKinds_15 : decode cX4_countKinds 15 = .ok (.iload_n 3, 1) := by decide +kernel
theorem dX4_countKinds_16 : decode cX4_countKinds 16 = .ok (.iaload, 1) := by decide +kernel
theorem dX4_countKinds_17 : decode cX4_countKinds 17 = .ok (.iload_n 1, 1) := by decide +kernel
theorem dX4_countKinds_18 : decode cX4_countKinds 18 = .ok (.if_icmp .gt 6, 3) := by decide +kernel
theorem dX4_countKinds_21 : decode cX4_countKinds 21 = .ok (.goto 29, 3) := by decide +kernel
theorem dX4_countKinds_24 : decode cX4_countKinds 24 = .ok (.iload_n 3, 1) := by decide +kernel
theorem dX4_countKinds_25 : decode cX4_countKinds 25 = .ok (.invokestatic 61, 3) := by decide +kernel
theorem dX4_countKinds_28 : decode cX4_countKinds 28 = .ok (.istore 4, 2) := by decide +kernel
theorem dX4_countKinds_30 : decode cX4_countKinds 30 = .ok (.iload 4, 2) := by decide +kernel
theorem dX4_countKinds_32 : decode cX4_countKinds 32 = .ok (.iload_n 3, 1) := by decide +kernel
theorem dX4_countKinds_33 : decode cX4_countKinds 33 = .ok (.if_icmp .ge 14, 3) := by decide +kernel
theorem dX4_countKinds_36 : decode cX4_countKinds 36 = .ok (.aload_n 0, 1) := by decide +kernel
theorem dX4_countKinds_37 : decode cX4_countKinds 37 = .ok (.getfield 9, 3) := by decide +kernel
theorem dX4_countKinds_40 : decode cX4_countKinds 40 = .ok (.iload 4, 2) := by decide +kernel
theorem dX4_countKinds_42 : decode cX4_countKinds 42 = .ok (.iaload, 1) := by decide +kernel
theorem dX4_countKinds_43 : decode cX4_countKinds 43 = .ok (.iload_n 1, 1) := by decide +kernel
theorem dX4_countKinds_44 : decode cX4_countKinds 44 = .ok (.if_icmp .gt 6, 3) := by decide +kernel
theorem dX4_countKinds_47 : decode cX4_countKinds 47 = .ok (.iinc 2 1, 3) := by decide +kernel
theorem dX4_countKinds_50 : decode cX4_countKinds 50 = .ok (.iinc 3 1, 3) := by decide +kernel
theorem dX4_countKinds_53 : decode cX4_countKinds 53 = .ok (.goto (-49), 3) := by decide +kernel
theorem dX4_countKinds_56 : decode cX4_countKinds 56 = .ok (.iload_n 2, 1) := by decide +kernel
theorem dX4_countKinds_57 : decode cX4_countKinds 57 = .ok (.ireturn, 1) := by decide +kernel
theorem dX5_init_0 : decode cX5_init 0 = .ok (.aload_n 0, 1) := by decide +kernel
theorem dX5_init_1 : decode cX5_init 1 = .ok (.invokespecial 1, 3) := by decide +kernel
theorem dX5_init_4 : decode cX5_init 4 = .ok (.aload_n 0, 1) := by decide +kernel
theorem dX5_init_5 : decode cX5_init 5 = .ok (.bipush 6, 2) := by decide +kernel
theorem dX5_init_7 : decode cX5_init 7 = .ok (.newarray .int, 2) := by decide +kernel
theorem dX5_init_9 : decode cX5_init 9 = .ok (.putfield 9, 3) := by decide +kernel
theorem dX5_init_12 : decode cX5_init 12 = .ok (.aload_n 0, 1) := by decide +kernel
theorem dX5_init_13 : decode cX5_init 13 = .ok (.bipush 6, 2) := by decide +kernel
theorem dX5_init_15 : decode cX5_init 15 = .ok (.newarray .int, 2) := by decide +kernel
theorem dX5_init_17 : decode cX5_init 17 = .ok (.putfield 13, 3) := by decide +kernel
theorem dX5_init_20 : decode cX5_init 20 = .ok (.aload_n 0, 1) := by decide +kernel
theorem dX5_init_21 : decode cX5_init 21 = .ok (.invokevirtual 16, 3) := by decide +kernel
theorem dX5_init_24 : decode cX5_init 24 = .ok (.pop, 1) := by decide +kernel
theorem dX5_init_25 : decode cX5_init 25 = .ok (.return_, 1) := by decide +kernel
theorem dX5_isPerson_0 : decode cX5_isPerson 0 = .ok (.iload_n 0, 1) := by decide +kernel
theorem dX5_isPerson_1 : decode cX5_isPerson 1 = .ok (.iconst 0, 1) := by decide +kernel
theorem dX5_isPerson_2 : decode cX5_isPerson 2 = .ok (.iconst 5, 1) := by decide +kernel
theorem dX5_isPerson_3 : decode cX5_isPerson 3 = .ok (.invokestatic 20, 3) := by decide +kernel
theorem dX5_isPerson_6 : decode cX5_isPerson 6 = .ok (.ireturn, 1) := by decide +kernel
theorem dX5_isSet_0 : decode cX5_isSet 0 = .ok (.iload_n 0, 1) := by decide +kernel
theorem dX5_isSet_1 : decode cX5_isSet 1 = .ok (.iconst 0, 1) := by decide +kernel
theorem dX5_isSet_2 : decode cX5_isSet 2 = .ok (.bipush 63, 2) := by decide +kernel
theorem dX5_isSet_4 : decode cX5_isSet 4 = .ok (.invokestatic 20, 3) := by decide +kernel
theorem dX5_isSet_7 : decode cX5_isSet 7 = .ok (.ireturn, 1) := by decide +kernel
theorem dX5_arePair_0 : decode cX5_arePair 0 = .ok (.iload_n 0, 1) := by decide +kernel
theorem dX5_arePair_1 : decode cX5_arePair 1 = .ok (.invokestatic 26, 3) := by decide +kernel
theorem dX5_arePair_4 : decode cX5_arePair 4 = .ok (.ifCond .eq 19, 3) := by decide +kernel
theorem dX5_arePair_7 : decode cX5_arePair 7 = .ok (.iload_n 1, 1) := by decide +kernel
theorem dX5_arePair_8 : decode cX5_arePair 8 = .ok (.invokestatic 26, 3) := by decide +kernel
theorem dX5_arePair_11 : decode cX5_arePair 11 = .ok (.ifCond .eq 12, 3) := by decide +kernel
theorem dX5_arePair_14 : decode cX5_arePair 14 = .ok (.iload_n 0, 1) := by decide +kernel
theorem dX5_arePair_15 : decode cX5_arePair 15 = .ok (.iload_n 1, 1) := by decide +kernel
theorem dX5_arePair_16 : decode cX5_arePair 16 = .ok (.if_icmp .eq 7, 3) := by decide +kernel
theorem dX5_arePair_19 : decode cX5_arePair 19 = .ok (.iconst 1, 1) := by decide +kernel
theorem dX5_arePair_20 : decode cX5_arePair 20 = .ok (.goto 4, 3) := by decide +kernel
theorem dX5_arePair_23 : decode cX5_arePair 23 = .ok (.iconst 0, 1) := by decide +kernel
theorem dX5_arePair_24 : decode cX5_arePair 24 = .ok (.ireturn, 1) := by decide +kernel
theorem dX5_name_0 : decode cX5_name 0 = .ok (.aload_n 0, 1) := by decide +kernel
theorem dX5_name_1 : decode cX5_name 1 = .ok (.getfield 9, 3) := by decide +kernel
theorem dX5_name_4 : decode cX5_name 4 = .ok (.iload_n 1, 1) := by decide +kernel
theorem dX5_name_5 : decode cX5_name 5 = .ok (.iaload, 1) := by decide +kernel
theorem dX5_name_6 : decode cX5_name 6 = .ok (.iload_n 2, 1) := by decide +kernel
theorem dX5_name_7 : decode cX5_name 7 = .ok (.invokestatic 30, 3) := by decide +kernel
theorem dX5_name_10 : decode cX5_name 10 = .ok (.ireturn, 1) := by decide +kernel
theorem dX5_put_0 : decode cX5_put 0 = .ok (.aload_n 0, 1) := by decide +kernel
theorem dX5_put_1 : decode cX5_put 1 = .ok (.getfield 9, 3) := by decide +kernel
theorem dX5_put_4 : decode cX5_put 4 = .ok (.iload_n 1, 1) := by decide +kernel
theorem dX5_put_5 : decode cX5_put 5 = .ok (.aload_n 0, 1) := by decide +kernel
theorem dX5_put_6 : decode cX5_put 6 = .ok (.getfield 9, 3) := by decide +kernel
theorem dX5_put_9 : decode cX5_put 9 = .ok (.iload_n 1, 1) := by decide +kernel
theorem dX5_put_10 : decode cX5_put 10 = .ok (.iaload, 1) := by decide +kernel
theorem dX5_put_11 : decode cX5_put 11 = .ok (.iconst 1, 1) := by decide +kernel
theorem dX5_put_12 : decode cX5_put 12 = .ok (.iload_n 2, 1) := by decide +kernel
theorem dX5_put_13 : decode cX5_put 13 = .ok (.ishl, 1) := by decide +kernel
theorem dX5_put_14 : decode cX5_put 14 = .ok (.iconst (-1), 1) := by decide +kernel
theorem dX5_put_15 : decode cX5_put 15 = .ok (.ixor, 1) := by decide +kernel
theorem dX5_put_16 : decode cX5_put 16 = .ok (.iand, 1) := by decide +kernel
theorem dX5_put_17 : decode cX5_put 17 = .ok (.iload_n 3, 1) := by decide +kernel
theorem dX5_put_18 : decode cX5_put 18 = .ok (.iload_n 2, 1) := by decide +kernel
theorem dX5_put_19 : decode cX5_put 19 = .ok (.ishl, 1) := by decide +kernel
theorem dX5_put_20 : decode cX5_put 20 = .ok (.ior, 1) := by decide +kernel
theorem dX5_put_21 : decode cX5_put 21 = .ok (.iastore, 1) := by decide +kernel
theorem dX5_put_22 : decode cX5_put 22 = .ok (.return_, 1) := by decide +kernel
theorem dX5_meeting_0 : decode cX5_meeting 0 = .ok (.aload 4, 2) := by decide +kernel
theorem dX5_meeting_2 : decode cX5_meeting 2 = .ok (.getfield 34, 3) := by decide +kernel
theorem dX5_meeting_5 : decode cX5_meeting 5 = .ok (.iconst 2, 1) := by decide +kernel
theorem dX5_meeting_6 : decode cX5_meeting 6 = .ok (.aload_n 0, 1) := by decide +kernel
theorem dX5_meeting_7 : decode cX5_meeting 7 = .ok (.iload_n 1, 1) := by decide +kernel
theorem dX5_meeting_8 : decode cX5_meeting 8 = .ok (.iload_n 1, 1) := by decide +kernel
theorem dX5_meeting_9 : decode cX5_meeting 9 = .ok (.invokevirtual 40, 3) := by decide +kernel
theorem dX5_meeting_12 : decode cX5_meeting 12 = .ok (.imul, 1) := by decide +kernel
theorem dX5_meeting_13 : decode cX5_meeting 13 = .ok (.aload_n 0, 1) := by decide +kernel
theorem dX5_meeting_14 : decode cX5_meeting 14 = .ok (.iload_n 1, 1) := by decide +kernel
theorem dX5_meeting_15 : decode cX5_meeting 15 = .ok (.iload_n 2, 1) := by decide +kernel
theorem dX5_meeting_16 : decode cX5_meeting 16 = .ok (.invokevirtual 40, 3) := by decide +kernel
theorem dX5_meeting_19 : decode cX5_meeting 19 = .ok (.iadd, 1) := by decide +kernel
theorem dX5_meeting_20 : decode cX5_meeting 20 = .ok (.invokestatic 30, 3) := by decide +kernel
theorem dX5_meeting_23 : decode cX5_meeting 23 = .ok (.istore 5, 2) := by decide +kernel
theorem dX5_meeting_25 : decode cX5_meeting 25 = .ok (.iconst 0, 1) := by decide +kernel
theorem dX5_meeting_26 : decode cX5_meeting 26 = .ok (.istore 6, 2) := by decide +kernel
theorem dX5_meeting_28 : decode cX5_meeting 28 = .ok (.iload 6, 2) := by decide +kernel
theorem dX5_meeting_30 : decode cX5_meeting 30 = .ok (.bipush 6, 2) := by decide +kernel
theorem dX5_meeting_32 : decode cX5_meeting 32 = .ok (.if_icmp .ge 57, 3) := by decide +kernel
theorem dX5_meeting_35 : decode cX5_meeting 35 = .ok (.iload 5, 2) := by decide +kernel
theorem dX5_meeting_37 : decode cX5_meeting 37 = .ok (.iload_n 3, 1) := by decide +kernel
theorem dX5_meeting_38 : decode cX5_meeting 38 = .ok (.iload 6, 2) := by decide +kernel
theorem dX5_meeting_40 : decode cX5_meeting 40 = .ok (.invokestatic 30, 3) := by decide +kernel
theorem dX5_meeting_43 : decode cX5_meeting 43 = .ok (.ixor, 1) := by decide +kernel
theorem dX5_meeting_44 : decode cX5_meeting 44 = .ok (.istore 7, 2) := by decide +kernel
theorem dX5_meeting_46 : decode cX5_meeting 46 = .ok (.aload_n 0, 1) := by decide +kernel
theorem dX5_meeting_47 : decode cX5_meeting 47 = .ok (.iload 6, 2) := by decide +kernel
theorem dX5_meeting_49 : decode cX5_meeting 49 = .ok (.iload_n 1, 1) := by decide +kernel
theorem dX5_meeting_50 : decode cX5_meeting 50 = .ok (.aload 4, 2) := by decide +kernel
theorem dX5_meeting_52 : decode cX5_meeting 52 = .ok (.getfield 43, 3) := by decide +kernel
theorem dX5_meeting_55 : decode cX5_meeting 55 = .ok (.iconst 4, 1) := by decide +kernel
theorem dX5_meeting_56 : decode cX5_meeting 56 = .ok (.aload_n 0, 1) := by decide +kernel
theorem dX5_meeting_57 : decode cX5_meeting 57 = .ok (.iload 6, 2) := by decide +kernel
theorem dX5_meeting_59 : decode cX5_meeting 59 = .ok (.iload_n 1, 1) := by decide +kernel
theorem dX5_meeting_60 : decode cX5_meeting 60 = .ok (.invokevirtual 40, 3) := by decide +kernel
theorem dX5_meeting_63 : decode cX5_meeting 63 = .ok (.imul, 1) := by decide +kernel
theorem dX5_meeting_64 : decode cX5_meeting 64 = .ok (.iconst 2, 1) := by decide +kernel
theorem dX5_meeting_65 : decode cX5_meeting 65 = .ok (.aload_n 0, 1) := by decide +kernel
theorem dX5_meeting_66 : decode cX5_meeting 66 = .ok (.iload 6, 2) := by decide +kernel
theorem dX5_meeting_68 : decode cX5_meeting 68 = .ok (.iload_n 2, 1) := by decide +kernel
theorem dX5_meeting_69 : decode cX5_meeting 69 = .ok (.invokevirtual 40, 3) := by decide +kernel
theorem dX5_meeting_72 : decode cX5_meeting 72 = .ok (.imul, 1) := by decide +kernel
theorem dX5_meeting_73 : decode cX5_meeting 73 = .ok (.iadd, 1) := by decide +kernel
theorem dX5_meeting_74 : decode cX5_meeting 74 = .ok (.iload 7, 2) := by decide +kernel
theorem dX5_meeting_76 : decode cX5_meeting 76 = .ok (.iadd, 1) := by decide +kernel
theorem dX5_meeting_77 : decode cX5_meeting 77 = .ok (.invokestatic 30, 3) := by decide +kernel
theorem dX5_meeting_80 : decode cX5_meeting 80 = .ok (.invokevirtual 46, 3) := by decide +kernel
theorem dX5_meeting_83 : decode cX5_meeting 83 = .ok (.iinc 6 1, 3) := by decide +kernel
theorem dX5_meeting_86 : decode cX5_meeting 86 = .ok (.goto (-58), 3) := by decide +kernel
theorem dX5_meeting_89 : decode cX5_meeting 89 = .ok (.iload 5, 2) := by decide +kernel
theorem dX5_meeting_91 : decode cX5_meeting 91 = .ok (.ireturn, 1) := by decide +kernel
theorem dX5_setKin_0 : decode cX5_setKin 0 = .ok (.aload_n 0, 1) := by decide +kernel
theorem dX5_setKin_1 : decode cX5_setKin 1 = .ok (.getfield 13, 3) := by decide +kernel
theorem dX5_setKin_4 : decode cX5_setKin 4 = .ok (.iload_n 1, 1) := by decide +kernel
theorem dX5_setKin_5 : decode cX5_setKin 5 = .ok (.iaload, 1) := by decide +kernel
theorem dX5_setKin_6 : decode cX5_setKin 6 = .ok (.istore_n 3, 1) := by decide +kernel
theorem dX5_setKin_7 : decode cX5_setKin 7 = .ok (.aload_n 0, 1) := by decide +kernel
theorem dX5_setKin_8 : decode cX5_setKin 8 = .ok (.getfield 13, 3) := by decide +kernel
theorem dX5_setKin_11 : decode cX5_setKin 11 = .ok (.iload_n 1, 1) := by decide +kernel
theorem dX5_setKin_12 : decode cX5_setKin 12 = .ok (.iload_n 2, 1) := by decide +kernel
theorem dX5_setKin_13 : decode cX5_setKin 13 = .ok (.iastore, 1) := by decide +kernel
theorem dX5_setKin_14 : decode cX5_setKin 14 = .ok (.iload_n 3, 1) := by decide +kernel
theorem dX5_setKin_15 : decode cX5_setKin 15 = .ok (.ireturn, 1) := by decide +kernel
theorem dX5_tell_0 : decode cX5_tell 0 = .ok (.aload_n 0, 1) := by decide +kernel
theorem dX5_tell_1 : decode cX5_tell 1 = .ok (.getfield 9, 3) := by decide +kernel
theorem dX5_tell_4 : decode cX5_tell 4 = .ok (.iload_n 1, 1) := by decide +kernel
theorem dX5_tell_5 : decode cX5_tell 5 = .ok (.iaload, 1) := by decide +kernel
theorem dX5_tell_6 : decode cX5_tell 6 = .ok (.aload_n 0, 1) := by decide +kernel
theorem dX5_tell_7 : decode cX5_tell 7 = .ok (.getfield 13, 3) := by decide +kernel
theorem dX5_tell_10 : decode cX5_tell 10 = .ok (.iload_n 1, 1) := by decide +kernel
theorem dX5_tell_11 : decode cX5_tell 11 = .ok (.iaload, 1) := by decide +kernel
theorem dX5_tell_12 : decode cX5_tell 12 = .ok (.ior, 1) := by decide +kernel
theorem dX5_tell_13 : decode cX5_tell 13 = .ok (.istore_n 3, 1) := by decide +kernel
theorem dX5_tell_14 : decode cX5_tell 14 = .ok (.bipush 63, 2) := by decide +kernel
theorem dX5_tell_16 : decode cX5_tell 16 = .ok (.iconst 1, 1) := by decide +kernel
theorem dX5_tell_17 : decode cX5_tell 17 = .ok (.iload_n 1, 1) := by decide +kernel
theorem dX5_tell_18 : decode cX5_tell 18 = .ok (.ishl, 1) := by decide +kernel
theorem dX5_tell_19 : decode cX5_tell 19 = .ok (.iconst (-1), 1) := by decide +kernel
theorem dX5_tell_20 : decode cX5_tell 20 = .ok (.ixor, 1) := by decide +kernel
theorem dX5_tell_21 : decode cX5_tell 21 = .ok (.iand, 1) := by decide +kernel
theorem dX5_tell_22 : decode cX5_tell 22 = .ok (.iconst 1, 1) := by decide +kernel
theorem dX5_tell_23 : decode cX5_tell 23 = .ok (.iload_n 2, 1) := by decide +kernel
theorem dX5_tell_24 : decode cX5_tell 24 = .ok (.ishl, 1) := by decide +kernel
theorem dX5_tell_25 : decode cX5_tell 25 = .ok (.iconst (-1), 1) := by decide +kernel
theorem dX5_tell_26 : decode cX5_tell 26 = .ok (.ixor, 1) := by decide +kernel
theorem dX5_tell_27 : decode cX5_tell 27 = .ok (.iand, 1) := by decide +kernel
theorem dX5_tell_28 : decode cX5_tell 28 = .ok (.istore 4, 2) := by decide +kernel
theorem dX5_tell_30 : decode cX5_tell 30 = .ok (.iload_n 3, 1) := by decide +kernel
theorem dX5_tell_31 : decode cX5_tell 31 = .ok (.aload_n 0, 1) := by decide +kernel
theorem dX5_tell_32 : decode cX5_tell 32 = .ok (.getfield 9, 3) := by decide +kernel
theorem dX5_tell_35 : decode cX5_tell 35 = .ok (.iload_n 2, 1) := by decide +kernel
theorem dX5_tell_36 : decode cX5_tell 36 = .ok (.iaload, 1) := by decide +kernel
theorem dX5_tell_37 : decode cX5_tell 37 = .ok (.ixor, 1) := by decide +kernel
theorem dX5_tell_38 : decode cX5_tell 38 = .ok (.iload 4, 2) := by decide +kernel
theorem dX5_tell_40 : decode cX5_tell 40 = .ok (.iand, 1) := by decide +kernel
theorem dX5_tell_41 : decode cX5_tell 41 = .ok (.istore 5, 2) := by decide +kernel
theorem dX5_tell_43 : decode cX5_tell 43 = .ok (.aload_n 0, 1) := by decide +kernel
theorem dX5_tell_44 : decode cX5_tell 44 = .ok (.getfield 9, 3) := by decide +kernel
theorem dX5_tell_47 : decode cX5_tell 47 = .ok (.iload_n 2, 1) := by decide +kernel
theorem dX5_tell_48 : decode cX5_tell 48 = .ok (.dup2, 1) := by decide +kernel
theorem dX5_tell_49 : decode cX5_tell 49 = .ok (.iaload, 1) := by decide +kernel
theorem dX5_tell_50 : decode cX5_tell 50 = .ok (.iload 5, 2) := by decide +kernel
theorem dX5_tell_52 : decode cX5_tell 52 = .ok (.ixor, 1) := by decide +kernel
theorem dX5_tell_53 : decode cX5_tell 53 = .ok (.iastore, 1) := by decide +kernel
theorem dX5_tell_54 : decode cX5_tell 54 = .ok (.iload 5, 2) := by decide +kernel
theorem dX5_tell_56 : decode cX5_tell 56 = .ok (.invokestatic 50, 3) := by decide +kernel
theorem dX5_tell_59 : decode cX5_tell 59 = .ok (.ireturn, 1) := by decide +kernel
theorem dX5_callersGood_0 : decode cX5_callersGood 0 = .ok (.iconst 0, 1) := by decide +kernel
theorem dX5_callersGood_1 : decode cX5_callersGood 1 = .ok (.istore_n 2, 1) := by decide +kernel
theorem dX5_callersGood_2 : decode cX5_callersGood 2 = .ok (.iconst 0, 1) := by decide +kernel
theorem dX5_callersGood_3 : decode cX5_callersGood 3 = .ok (.istore_n 3, 1) := by decide +kernel
theorem dX5_callersGood_4 : decode cX5_callersGood 4 = .ok (.iload_n 3, 1) := by decide +kernel
theorem dX5_callersGood_5 : decode cX5_callersGood 5 = .ok (.bipush 6, 2) := by decide +kernel
theorem dX5_callersGood_7 : decode cX5_callersGood 7 = .ok (.if_icmp .ge 18, 3) := by decide +kernel
theorem dX5_callersGood_10 : decode cX5_callersGood 10 = .ok (.iload_n 2, 1) := by decide +kernel
theorem dX5_callersGood_11 : decode cX5_callersGood 11 = .ok (.aload_n 0, 1) := by decide +kernel
theorem dX5_callersGood_12 : decode cX5_callersGood 12 = .ok (.iload_n 3, 1) := by decide +kernel
theorem dX5_callersGood_13 : decode cX5_callersGood 13 = .ok (.iload_n 1, 1) := by decide +kernel
theorem dX5_callersGood_14 : decode cX5_callersGood 14 = .ok (.invokevirtual 40, 3) := by decide +kernel
theorem dX5_callersGood_17 : decode cX5_callersGood 17 = .ok (.iadd, 1) := by decide +kernel
theorem dX5_callersGood_18 : decode cX5_callersGood 18 = .ok (.istore_n 2, 1) := by decide +kernel
theorem dX5_callersGood_19 : decode cX5_callersGood 19 = .ok (.iinc 3 1, 3) := by decide +kernel
theorem dX5_callersGood_22 : decode cX5_callersGood 22 = .ok (.goto (-18), 3) := by decide +kernel
theorem dX5_callersGood_25 : decode cX5_callersGood 25 = .ok (.iload_n 2, 1) := by decide +kernel
theorem dX5_callersGood_26 : decode cX5_callersGood 26 = .ok (.ireturn, 1) := by decide +kernel
theorem dX5_pairsAlike_0 : decode cX5_pairsAlike 0 = .ok (.iconst 0, 1) := by decide +kernel
theorem dX5_pairsAlike_1 : decode cX5_pairsAlike 1 = .ok (.istore_n 1, 1) := by decide +kernel
theorem dX5_pairsAlike_2 : decode cX5_pairsAlike 2 = .ok (.iconst 0, 1) := by decide +kernel
theorem dX5_pairsAlike_3 : decode cX5_pairsAlike 3 = .ok (.istore_n 2, 1) := by decide +kernel
theorem dX5_pairsAlike_4 : decode cX5_pairsAlike 4 = .ok (.iload_n 2, 1) := by decide +kernel
theorem dX5_pairsAlike_5 : decode cX5_pairsAlike 5 = .ok (.bipush 6, 2) := by decide +kernel
theorem dX5_pairsAlike_7 : decode cX5_pairsAlike 7 = .ok (.if_icmp .ge 41, 3) := by decide +kernel
theorem dX5_pairsAlike_10 : decode cX5_pairsAlike 10 = .ok (.aload_n 0, 1) := by decide +kernel
theorem dX5_pairsAlike_11 : decode cX5_pairsAlike 11 = .ok (.iload_n 2, 1) := by decide +kernel
theorem dX5_pairsAlike_12 : decode cX5_pairsAlike 12 = .ok (.invokevirtual 56, 3) := by decide +kernel
theorem dX5_pairsAlike_15 : decode cX5_pairsAlike 15 = .ok (.istore_n 3, 1) := by decide +kernel
theorem dX5_pairsAlike_16 : decode cX5_pairsAlike 16 = .ok (.bipush 6, 2) := by decide +kernel
theorem dX5_pairsAlike_18 : decode cX5_pairsAlike 18 = .ok (.iload_n 3, 1) := by decide +kernel
theorem dX5_pairsAlike_19 : decode cX5_pairsAlike 19 = .ok (.isub, 1) := by decide +kernel
theorem dX5_pairsAlike_20 : decode cX5_pairsAlike 20 = .ok (.istore 4, 2) := by decide +kernel
theorem dX5_pairsAlike_22 : decode cX5_pairsAlike 22 = .ok (.iload_n 1, 1) := by decide +kernel
theorem dX5_pairsAlike_23 : decode cX5_pairsAlike 23 = .ok (.iload_n 3, 1) := by decide +kernel
theorem dX5_pairsAlike_24 : decode cX5_pairsAlike 24 = .ok (.iload_n 3, 1) := by decide +kernel
theorem dX5_pairsAlike_25 : decode cX5_pairsAlike 25 = .ok (.iconst 1, 1) := by decide +kernel
theorem dX5_pairsAlike_26 : decode cX5_pairsAlike 26 = .ok (.isub, 1) := by decide +kernel
theorem dX5_pairsAlike_27 : decode cX5_pairsAlike 27 = .ok (.imul, 1) := by decide +kernel
theorem dX5_pairsAlike_28 : decode cX5_pairsAlike 28 = .ok (.iconst 2, 1) := by decide +kernel
theorem dX5_pairsAlike_29 : decode cX5_pairsAlike 29 = .ok (.idiv, 1) := by decide +kernel
theorem dX5_pairsAlike_30 : decode cX5_pairsAlike 30 = .ok (.iload 4, 2) := by decide +kernel
theorem dX5_pairsAlike_32 : decode cX5_pairsAlike 32 = .ok (.iload 4, 2) := by decide +kernel
theorem dX5_pairsAlike_34 : decode cX5_pairsAlike 34 = .ok (.iconst 1, 1) := by decide +kernel
theorem dX5_pairsAlike_35 : decode cX5_pairsAlike 35 = .ok (.isub, 1) := by decide +kernel
