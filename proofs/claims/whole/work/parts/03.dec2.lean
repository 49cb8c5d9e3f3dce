theorem dX9_kindOf_82 : decode cX9_kindOf 82 = .ok (.bipush 102, 2) := by decide +kernel
theorem dX9_kindOf_84 : decode cX9_kindOf 84 = .ok (.bipush 97, 2) := by decide +kernel
theorem dX9_kindOf_86 : decode cX9_kindOf 86 = .ok (.bipush 100, 2) := by decide +kernel
theorem dX9_kindOf_88 : decode cX9_kindOf 88 = .ok (.bipush 101, 2) := by decide +kernel
theorem dX9_kindOf_90 : decode cX9_kindOf 90 = .ok (.iconst 0, 1) := by decide +kernel
theorem dX9_kindOf_91 : decode cX9_kindOf 91 = .ok (.iconst 0, 1) := by decide +kernel
theorem dX9_kindOf_92 : decode cX9_kindOf 92 = .ok (.invokevirtual 80, 3) := by decide +kernel
theorem dX9_kindOf_95 : decode cX9_kindOf 95 = .ok (.ifCond .eq 5, 3) := by decide +kernel
theorem dX9_kindOf_98 : decode cX9_kindOf 98 = .ok (.iconst 4, 1) := by decide +kernel
theorem dX9_kindOf_99 : decode cX9_kindOf 99 = .ok (.ireturn, 1) := by decide +kernel
theorem dX9_kindOf_100 : decode cX9_kindOf 100 = .ok (.aload_n 0, 1) := by decide +kernel
theorem dX9_kindOf_101 : decode cX9_kindOf 101 = .ok (.iconst 3, 1) := by decide +kernel
theorem dX9_kindOf_102 : decode cX9_kindOf 102 = .ok (.bipush 119, 2) := by decide +kernel
theorem dX9_kindOf_104 : decode cX9_kindOf 104 = .ok (.bipush 97, 2) := by decide +kernel
theorem dX9_kindOf_106 : decode cX9_kindOf 106 = .ok (.bipush 121, 2) := by decide +kernel
theorem dX9_kindOf_108 : decode cX9_kindOf 108 = .ok (.iconst 0, 1) := by decide +kernel
theorem dX9_kindOf_109 : decode cX9_kindOf 109 = .ok (.iconst 0, 1) := by decide +kernel
theorem dX9_kindOf_110 : decode cX9_kindOf 110 = .ok (.iconst 0, 1) := by decide +kernel
theorem dX9_kindOf_111 : decode cX9_kindOf 111 = .ok (.invokevirtual 80, 3) := by decide +kernel
theorem dX9_kindOf_114 : decode cX9_kindOf 114 = .ok (.ifCond .eq 6, 3) := by decide +kernel
theorem dX9_kindOf_117 : decode cX9_kindOf 117 = .ok (.bipush 6, 2) := by decide +kernel
theorem dX9_kindOf_119 : decode cX9_kindOf 119 = .ok (.ireturn, 1) := by decide +kernel
theorem dX9_kindOf_120 : decode cX9_kindOf 120 = .ok (.aload_n 0, 1) := by decide +kernel
theorem dX9_kindOf_121 : decode cX9_kindOf 121 = .ok (.bipush 6, 2) := by decide +kernel
theorem dX9_kindOf_123 : decode cX9_kindOf 123 = .ok (.bipush 110, 2) := by decide +kernel
theorem dX9_kindOf_125 : decode cX9_kindOf 125 = .ok (.bipush 97, 2) := by decide +kernel
theorem dX9_kindOf_127 : decode cX9_kindOf 127 = .ok (.bipush 109, 2) := by decide +kernel
theorem dX9_kindOf_129 : decode cX9_kindOf 129 = .ok (.bipush 105, 2) := by decide +kernel
theorem dX9_kindOf_131 : decode cX9_kindOf 131 = .ok (.bipush 110, 2) := by decide +kernel
theorem dX9_kindOf_133 : decode cX9_kindOf 133 = .ok (.bipush 103, 2) := by decide +kernel
theorem dX9_kindOf_135 : decode cX9_kindOf 135 = .ok (.invokevirtual 80, 3) := by decide +kernel
theorem dX9_kindOf_138 : decode cX9_kindOf 138 = .ok (.ifCond .eq 8, 3) := by decide +kernel
theorem dX9_kindOf_141 : decode cX9_kindOf 141 = .ok (.bipush 7, 2) := by decide +kernel
theorem dX9_kindOf_143 : decode cX9_kindOf 143 = .ok (.goto 4, 3) := by decide +kernel
theorem dX9_kindOf_146 : decode cX9_kindOf 146 = .ok (.iconst (-1), 1) := by decide +kernel
theorem dX9_kindOf_147 : decode cX9_kindOf 147 = .ok (.ireturn, 1) := by decide +kernel
theorem dX9_takeBits_0 : decode cX9_takeBits 0 = .ok (.iconst 0, 1) := by decide +kernel
theorem dX9_takeBits_1 : decode cX9_takeBits 1 = .ok (.istore_n 3, 1) := by decide +kernel
theorem dX9_takeBits_2 : decode cX9_takeBits 2 = .ok (.iconst 0, 1) := by decide +kernel
theorem dX9_takeBits_3 : decode cX9_takeBits 3 = .ok (.istore 4, 2) := by decide +kernel
theorem dX9_takeBits_5 : decode cX9_takeBits 5 = .ok (.iload 4, 2) := by decide +kernel
theorem dX9_takeBits_7 : decode cX9_takeBits 7 = .ok (.iload_n 1, 1) := by decide +kernel
theorem dX9_takeBits_8 : decode cX9_takeBits 8 = .ok (.if_icmp .ge 134, 3) := by decide +kernel
theorem dX9_takeBits_11 : decode cX9_takeBits 11 = .ok (.aload_n 0, 1) := by decide +kernel
theorem dX9_takeBits_12 : decode cX9_takeBits 12 = .ok (.getfield 55, 3) := by decide +kernel
theorem dX9_takeBits_15 : decode cX9_takeBits 15 = .ok (.ifCond .ne 127, 3) := by decide +kernel
theorem dX9_takeBits_18 : decode cX9_takeBits 18 = .ok (.aload_n 0, 1) := by decide +kernel
theorem dX9_takeBits_19 : decode cX9_takeBits 19 = .ok (.invokevirtual 84, 3) := by decide +kernel
theorem dX9_takeBits_22 : decode cX9_takeBits 22 = .ok (.iload_n 2, 1) := by decide +kernel
theorem dX9_takeBits_23 : decode cX9_takeBits 23 = .ok (.ifCond .eq 21, 3) := by decide +kernel
theorem dX9_takeBits_26 : decode cX9_takeBits 26 = .ok (.aload_n 0, 1) := by decide +kernel
theorem dX9_takeBits_27 : decode cX9_takeBits 27 = .ok (.iconst 4, 1) := by decide +kernel
theorem dX9_takeBits_28 : decode cX9_takeBits 28 = .ok (.bipush 104, 2) := by decide +kernel
theorem dX9_takeBits_30 : decode cX9_takeBits 30 = .ok (.bipush 101, 2) := by decide +kernel
theorem dX9_takeBits_32 : decode cX9_takeBits 32 = .ok (.bipush 108, 2) := by decide +kernel
theorem dX9_takeBits_34 : decode cX9_takeBits 34 = .ok (.bipush 112, 2) := by decide +kernel
theorem dX9_takeBits_36 : decode cX9_takeBits 36 = .ok (.iconst 0, 1) := by decide +kernel
theorem dX9_takeBits_37 : decode cX9_takeBits 37 = .ok (.iconst 0, 1) := by decide +kernel
theorem dX9_takeBits_38 : decode cX9_takeBits 38 = .ok (.invokevirtual 80, 3) := by decide +kernel
theorem dX9_takeBits_41 : decode cX9_takeBits 41 = .ok (.goto 18, 3) := by decide +kernel
theorem dX9_takeBits_44 : decode cX9_takeBits 44 = .ok (.aload_n 0, 1) := by decide +kernel
theorem dX9_takeBits_45 : decode cX9_takeBits 45 = .ok (.iconst 4, 1) := by decide +kernel
theorem dX9_takeBits_46 : decode cX9_takeBits 46 = .ok (.bipush 103, 2) := by decide +kernel
theorem dX9_takeBits_48 : decode cX9_takeBits 48 = .ok (.bipush 111, 2) := by decide +kernel
theorem dX9_takeBits_50 : decode cX9_takeBits 50 = .ok (.bipush 111, 2) := by decide +kernel
theorem dX9_takeBits_52 : decode cX9_takeBits 52 = .ok (.bipush 100, 2) := by decide +kernel
theorem dX9_takeBits_54 : decode cX9_takeBits 54 = .ok (.iconst 0, 1) := by decide +kernel
theorem dX9_takeBits_55 : decode cX9_takeBits 55 = .ok (.iconst 0, 1) := by decide +kernel
theorem dX9_takeBits_56 : decode cX9_takeBits 56 = .ok (.invokevirtual 80, 3) := by decide +kernel
theorem dX9_takeBits_59 : decode cX9_takeBits 59 = .ok (.istore 5, 2) := by decide +kernel
theorem dX9_takeBits_61 : decode cX9_takeBits 61 = .ok (.iload_n 2, 1) := by decide +kernel
theorem dX9_takeBits_62 : decode cX9_takeBits 62 = .ok (.ifCond .eq 20, 3) := by decide +kernel
theorem dX9_takeBits_65 : decode cX9_takeBits 65 = .ok (.aload_n 0, 1) := by decide +kernel
theorem dX9_takeBits_66 : decode cX9_takeBits 66 = .ok (.iconst 3, 1) := by decide +kernel
theorem dX9_takeBits_67 : decode cX9_takeBits 67 = .ok (.bipush 110, 2) := by decide +kernel
theorem dX9_takeBits_69 : decode cX9_takeBits 69 = .ok (.bipush 111, 2) := by decide +kernel
theorem dX9_takeBits_71 : decode cX9_takeBits 71 = .ok (.bipush 116, 2) := by decide +kernel
theorem dX9_takeBits_73 : decode cX9_takeBits 73 = .ok (.iconst 0, 1) := by decide +kernel
theorem dX9_takeBits_74 : decode cX9_takeBits 74 = .ok (.iconst 0, 1) := by decide +kernel
theorem dX9_takeBits_75 : decode cX9_takeBits 75 = .ok (.iconst 0, 1) := by decide +kernel
theorem dX9_takeBits_76 : decode cX9_takeBits 76 = .ok (.invokevirtual 80, 3) := by decide +kernel
theorem dX9_takeBits_79 : decode cX9_takeBits 79 = .ok (.goto 17, 3) := by decide +kernel
theorem dX9_takeBits_82 : decode cX9_takeBits 82 = .ok (.aload_n 0, 1) := by decide +kernel
theorem dX9_takeBits_83 : decode cX9_takeBits 83 = .ok (.iconst 3, 1) := by decide +kernel
theorem dX9_takeBits_84 : decode cX9_takeBits 84 = .ok (.bipush 98, 2) := by decide +kernel
theorem dX9_takeBits_86 : decode cX9_takeBits 86 = .ok (.bipush 97, 2) := by decide +kernel
theorem dX9_takeBits_88 : decode cX9_takeBits 88 = .ok (.bipush 100, 2) := by decide +kernel
theorem dX9_takeBits_90 : decode cX9_takeBits 90 = .ok (.iconst 0, 1) := by decide +kernel
theorem dX9_takeBits_91 : decode cX9_takeBits 91 = .ok (.iconst 0, 1) := by decide +kernel
theorem dX9_takeBits_92 : decode cX9_takeBits 92 = .ok (.iconst 0, 1) := by decide +kernel
theorem dX9_takeBits_93 : decode cX9_takeBits 93 = .ok (.invokevirtual 80, 3) := by decide +kernel
theorem dX9_takeBits_96 : decode cX9_takeBits 96 = .ok (.istore 6, 2) := by decide +kernel
theorem dX9_takeBits_98 : decode cX9_takeBits 98 = .ok (.aload_n 0, 1) := by decide +kernel
theorem dX9_takeBits_99 : decode cX9_takeBits 99 = .ok (.iload 5, 2) := by decide +kernel
theorem dX9_takeBits_101 : decode cX9_takeBits 101 = .ok (.ifCond .ne 8, 3) := by decide +kernel
theorem dX9_takeBits_104 : decode cX9_takeBits 104 = .ok (.iload 6, 2) := by decide +kernel
theorem dX9_takeBits_106 : decode cX9_takeBits 106 = .ok (.ifCond .eq 7, 3) := by decide +kernel
theorem dX9_takeBits_109 : decode cX9_takeBits 109 = .ok (.iconst 1, 1) := by decide +kernel
theorem dX9_takeBits_110 : decode cX9_takeBits 110 = .ok (.goto 4, 3) := by decide +kernel
theorem dX9_takeBits_113 : decode cX9_takeBits 113 = .ok (.iconst 0, 1) := by decide +kernel
theorem dX9_takeBits_114 : decode cX9_takeBits 114 = .ok (.iconst 1, 1) := by decide +kernel
theorem dX9_takeBits_115 : decode cX9_takeBits 115 = .ok (.aload_n 0, 1) := by decide +kernel
theorem dX9_takeBits_116 : decode cX9_takeBits 116 = .ok (.getfield 62, 3) := by decide +kernel
theorem dX9_takeBits_119 : decode cX9_takeBits 119 = .ok (.invokevirtual 76, 3) := by decide +kernel
theorem dX9_takeBits_122 : decode cX9_takeBits 122 = .ok (.ifCond .eq 14, 3) := by decide +kernel
theorem dX9_takeBits_125 : decode cX9_takeBits 125 = .ok (.iload_n 3, 1) := by decide +kernel
theorem dX9_takeBits_126 : decode cX9_takeBits 126 = .ok (.iload 5, 2) := by decide +kernel
theorem dX9_takeBits_128 : decode cX9_takeBits 128 = .ok (.invokestatic 87, 3) := by decide +kernel
theorem dX9_takeBits_131 : decode cX9_takeBits 131 = .ok (.iload 4, 2) := by decide +kernel
theorem dX9_takeBits_133 : decode cX9_takeBits 133 = .ok (.ishl, 1) := by decide +kernel
theorem dX9_takeBits_134 : decode cX9_takeBits 134 = .ok (.ior, 1) := by decide +kernel
theorem dX9_takeBits_135 : decode cX9_takeBits 135 = .ok (.istore_n 3, 1) := by decide +kernel
theorem dX9_takeBits_136 : decode cX9_takeBits 136 = .ok (.iinc 4 1, 3) := by decide +kernel
theorem dX9_takeBits_139 : decode cX9_takeBits 139 = .ok (.goto (-134), 3) := by decide +kernel
theorem dX9_takeBits_142 : decode cX9_takeBits 142 = .ok (.iload_n 3, 1) := by decide +kernel
theorem dX9_takeBits_143 : decode cX9_takeBits 143 = .ok (.ireturn, 1) := by decide +kernel
theorem dX9_takeFade_0 : decode cX9_takeFade 0 = .ok (.aload_n 0, 1) := by decide +kernel
theorem dX9_takeFade_1 : decode cX9_takeFade 1 = .ok (.getfield 13, 3) := by decide +kernel
theorem dX9_takeFade_4 : decode cX9_takeFade 4 = .ok (.iconst 4, 1) := by decide +kernel
theorem dX9_takeFade_5 : decode cX9_takeFade 5 = .ok (.aload_n 0, 1) := by decide +kernel
theorem dX9_takeFade_6 : decode cX9_takeFade 6 = .ok (.iconst 0, 1) := by decide +kernel
theorem dX9_takeFade_7 : decode cX9_takeFade 7 = .ok (.bipush 99, 2) := by decide +kernel
theorem dX9_takeFade_9 : decode cX9_takeFade 9 = .ok (.invokevirtual 91, 3) := by decide +kernel
theorem dX9_takeFade_12 : decode cX9_takeFade 12 = .ok (.iastore, 1) := by decide +kernel
theorem dX9_takeFade_13 : decode cX9_takeFade 13 = .ok (.aload_n 0, 1) := by decide +kernel
theorem dX9_takeFade_14 : decode cX9_takeFade 14 = .ok (.getfield 55, 3) := by decide +kernel
theorem dX9_takeFade_17 : decode cX9_takeFade 17 = .ok (.ifCond .ne 47, 3) := by decide +kernel
theorem dX9_takeFade_20 : decode cX9_takeFade 20 = .ok (.aload_n 0, 1) := by decide +kernel
theorem dX9_takeFade_21 : decode cX9_takeFade 21 = .ok (.invokevirtual 84, 3) := by decide +kernel
theorem dX9_takeFade_24 : decode cX9_takeFade 24 = .ok (.aload_n 0, 1) := by decide +kernel
theorem dX9_takeFade_25 : decode cX9_takeFade 25 = .ok (.iconst 3, 1) := by decide +kernel
theorem dX9_takeFade_26 : decode cX9_takeFade 26 = .ok (.bipush 110, 2) := by decide +kernel
theorem dX9_takeFade_28 : decode cX9_takeFade 28 = .ok (.bipush 101, 2) := by decide +kernel
theorem dX9_takeFade_30 : decode cX9_takeFade 30 = .ok (.bipush 119, 2) := by decide +kernel
theorem dX9_takeFade_32 : decode cX9_takeFade 32 = .ok (.iconst 0, 1) := by decide +kernel
theorem dX9_takeFade_33 : decode cX9_takeFade 33 = .ok (.iconst 0, 1) := by decide +kernel
theorem dX9_takeFade_34 : decode cX9_takeFade 34 = .ok (.iconst 0, 1) := by decide +kernel
theorem dX9_takeFade_35 : decode cX9_takeFade 35 = .ok (.invokevirtual 80, 3) := by decide +kernel
theorem dX9_takeFade_38 : decode cX9_takeFade 38 = .ok (.ifCond .eq 18, 3) := by decide +kernel
theorem dX9_takeFade_41 : decode cX9_takeFade 41 = .ok (.aload_n 0, 1) := by decide +kernel
theorem dX9_takeFade_42 : decode cX9_takeFade 42 = .ok (.getfield 13, 3) := by decide +kernel
theorem dX9_takeFade_45 : decode cX9_takeFade 45 = .ok (.iconst 5, 1) := by decide +kernel
theorem dX9_takeFade_46 : decode cX9_takeFade 46 = .ok (.aload_n 0, 1) := by decide +kernel
theorem dX9_takeFade_47 : decode cX9_takeFade 47 = .ok (.iconst 0, 1) := by decide +kernel
theorem dX9_takeFade_48 : decode cX9_takeFade 48 = .ok (.iconst 1, 1) := by decide +kernel
theorem dX9_takeFade_49 : decode cX9_takeFade 49 = .ok (.invokevirtual 91, 3) := by decide +kernel
theorem dX9_takeFade_52 : decode cX9_takeFade 52 = .ok (.iastore, 1) := by decide +kernel
theorem dX9_takeFade_53 : decode cX9_takeFade 53 = .ok (.goto 11, 3) := by decide +kernel
theorem dX9_takeFade_56 : decode cX9_takeFade 56 = .ok (.aload_n 0, 1) := by decide +kernel
theorem dX9_takeFade_57 : decode cX9_takeFade 57 = .ok (.aload_n 0, 1) := by decide +kernel
theorem dX9_takeFade_58 : decode cX9_takeFade 58 = .ok (.getfield 62, 3) := by decide +kernel
theorem dX9_takeFade_61 : decode cX9_takeFade 61 = .ok (.putfield 52, 3) := by decide +kernel
theorem dX9_takeFade_64 : decode cX9_takeFade 64 = .ok (.return_, 1) := by decide +kernel
theorem dX9_takeClause_0 : decode cX9_takeClause 0 = .ok (.aload_n 0, 1) := by decide +kernel
theorem dX9_takeClause_1 : decode cX9_takeClause 1 = .ok (.invokevirtual 84, 3) := by decide +kernel
theorem dX9_takeClause_4 : decode cX9_takeClause 4 = .ok (.aload_n 0, 1) := by decide +kernel
theorem dX9_takeClause_5 : decode cX9_takeClause 5 = .ok (.getfield 62, 3) := by decide +kernel
theorem dX9_takeClause_8 : decode cX9_takeClause 8 = .ok (.istore_n 1, 1) := by decide +kernel
theorem dX9_takeClause_9 : decode cX9_takeClause 9 = .ok (.aload_n 0, 1) := by decide +kernel
theorem dX9_takeClause_10 : decode cX9_takeClause 10 = .ok (.invokevirtual 95, 3) := by decide +kernel
theorem dX9_takeClause_13 : decode cX9_takeClause 13 = .ok (.istore_n 2, 1) := by decide +kernel
theorem dX9_takeClause_14 : decode cX9_takeClause 14 = .ok (.aload_n 0, 1) := by decide +kernel
theorem dX9_takeClause_15 : decode cX9_takeClause 15 = .ok (.iload_n 2, 1) := by decide +kernel
theorem dX9_takeClause_16 : decode cX9_takeClause 16 = .ok (.ifCond .lt 7, 3) := by decide +kernel
theorem dX9_takeClause_19 : decode cX9_takeClause 19 = .ok (.iconst 1, 1) := by decide +kernel
theorem dX9_takeClause_20 : decode cX9_takeClause 20 = .ok (.goto 4, 3) := by decide +kernel
theorem dX9_takeClause_23 : decode cX9_takeClause 23 = .ok (.iconst 0, 1) := by decide +kernel
theorem dX9_takeClause_24 : decode cX9_takeClause 24 = .ok (.iconst 1, 1) := by decide +kernel
theorem dX9_takeClause_25 : decode cX9_takeClause 25 = .ok (.iload_n 1, 1) := by decide +kernel
theorem dX9_takeClause_26 : decode cX9_takeClause 26 = .ok (.invokevirtual 76, 3) := by decide +kernel
theorem dX9_takeClause_29 : decode cX9_takeClause 29 = .ok (.ifCond .eq 125, 3) := by decide +kernel
theorem dX9_takeClause_32 : decode cX9_takeClause 32 = .ok (.aload_n 0, 1) := by decide +kernel
theorem dX9_takeClause_33 : decode cX9_takeClause 33 = .ok (.aload_n 0, 1) := by decide +kernel
theorem dX9_takeClause_34 : decode cX9_takeClause 34 = .ok (.getfield 98, 3) := by decide +kernel
theorem dX9_takeClause_37 : decode cX9_takeClause 37 = .ok (.iload_n 2, 1) := by decide +kernel
theorem dX9_takeClause_38 : decode cX9_takeClause 38 = .ok (.ishr, 1) := by decide +kernel
theorem dX9_takeClause_39 : decode cX9_takeClause 39 = .ok (.iconst 1, 1) := by decide +kernel
theorem dX9_takeClause_40 : decode cX9_takeClause 40 = .ok (.iand, 1) := by decide +kernel
theorem dX9_takeClause_41 : decode cX9_takeClause 41 = .ok (.ifCond .ne 7, 3) := by decide +kernel
theorem dX9_takeClause_44 : decode cX9_takeClause 44 = .ok (.iconst 1, 1) := by decide +kernel
theorem dX9_takeClause_45 : decode cX9_takeClause 45 = .ok (.goto 4, 3) := by decide +kernel
theorem dX9_takeClause_48 : decode cX9_takeClause 48 = .ok (.iconst 0, 1) := by decide +kernel
theorem dX9_takeClause_49 : decode cX9_takeClause 49 = .ok (.iconst 3, 1) := by decide +kernel
theorem dX9_takeClause_50 : decode cX9_takeClause 50 = .ok (.iload_n 1, 1) := by decide +kernel
theorem dX9_takeClause_51 : decode cX9_takeClause 51 = .ok (.invokevirtual 76, 3) := by decide +kernel
theorem dX9_takeClause_54 : decode cX9_takeClause 54 = .ok (.ifCond .eq 100, 3) := by decide +kernel
theorem dX9_takeClause_57 : decode cX9_takeClause 57 = .ok (.aload_n 0, 1) := by decide +kernel
theorem dX9_takeClause_58 : decode cX9_takeClause 58 = .ok (.dup, 1) := by decide +kernel
theorem dX9_takeClause_59 : decode cX9_takeClause 59 = .ok (.getfield 98, 3) := by decide +kernel
theorem dX9_takeClause_62 : decode cX9_takeClause 62 = .ok (.iconst 1, 1) := by decide +kernel
theorem dX9_takeClause_63 : decode cX9_takeClause 63 = .ok (.iload_n 2, 1) := by decide +kernel
theorem dX9_takeClause_64 : decode cX9_takeClause 64 = .ok (.ishl, 1) := by decide +kernel
theorem dX9_takeClause_65 : decode cX9_takeClause 65 = .ok (.ior, 1) := by decide +kernel
theorem dX9_takeClause_66 : decode cX9_takeClause 66 = .ok (.putfield 98, 3) := by decide +kernel
theorem dX9_takeClause_69 : decode cX9_takeClause 69 = .ok (.iload_n 2, 1) := by decide +kernel
theorem dX9_takeClause_70 : decode cX9_takeClause 70 = .ok (.bipush 6, 2) := by decide +kernel
theorem dX9_takeClause_72 : decode cX9_takeClause 72 = .ok (.if_icmp .ne 19, 3) := by decide +kernel
theorem dX9_takeClause_75 : decode cX9_takeClause 75 = .ok (.aload_n 0, 1) := by decide +kernel
theorem dX9_takeClause_76 : decode cX9_takeClause 76 = .ok (.getfield 13, 3) := by decide +kernel
theorem dX9_takeClause_79 : decode cX9_takeClause 79 = .ok (.bipush 6, 2) := by decide +kernel
theorem dX9_takeClause_81 : decode cX9_takeClause 81 = .ok (.aload_n 0, 1) := by decide +kernel
theorem dX9_takeClause_82 : decode cX9_takeClause 82 = .ok (.iconst 4, 1) := by decide +kernel
theorem dX9_takeClause_83 : decode cX9_takeClause 83 = .ok (.iconst 1, 1) := by decide +kernel
theorem dX9_takeClause_84 : decode cX9_takeClause 84 = .ok (.invokevirtual 101, 3) := by decide +kernel
theorem dX9_takeClause_87 : decode cX9_takeClause 87 = .ok (.iastore, 1) := by decide +kernel
theorem dX9_takeClause_88 : decode cX9_takeClause 88 = .ok (.goto 66, 3) := by decide +kernel
theorem dX9_takeClause_91 : decode cX9_takeClause 91 = .ok (.iload_n 2, 1) := by decide +kernel
theorem dX9_takeClause_92 : decode cX9_takeClause 92 = .ok (.bipush 7, 2) := by decide +kernel
theorem dX9_takeClause_94 : decode cX9_takeClause 94 = .ok (.if_icmp .ne 20, 3) := by decide +kernel
theorem dX9_takeClause_97 : decode cX9_takeClause 97 = .ok (.aload_n 0, 1) := by decide +kernel
theorem dX9_takeClause_98 : decode cX9_takeClause 98 = .ok (.getfield 13, 3) := by decide +kernel
theorem dX9_takeClause_101 : decode cX9_takeClause 101 = .ok (.bipush 7, 2) := by decide +kernel
theorem dX9_takeClause_103 : decode cX9_takeClause 103 = .ok (.aload_n 0, 1) := by decide +kernel
theorem dX9_takeClause_104 : decode cX9_takeClause 104 = .ok (.bipush 8, 2) := by decide +kernel
theorem dX9_takeClause_106 : decode cX9_takeClause 106 = .ok (.iconst 0, 1) := by decide +kernel
theorem dX9_takeClause_107 : decode cX9_takeClause 107 = .ok (.invokevirtual 101, 3) := by decide +kernel
theorem dX9_takeClause_110 : decode cX9_takeClause 110 = .ok (.iastore, 1) := by decide +kernel
theorem dX9_takeClause_111 : decode cX9_takeClause 111 = .ok (.goto 43, 3) := by decide +kernel
theorem dX9_takeClause_114 : decode cX9_takeClause 114 = .ok (.iload_n 2, 1) := by decide +kernel
theorem dX9_takeClause_115 : decode cX9_takeClause 115 = .ok (.iconst 4, 1) := by decide +kernel
theorem dX9_takeClause_116 : decode cX9_takeClause 116 = .ok (.if_icmp .ne 10, 3) := by decide +kernel
theorem dX9_takeClause_119 : decode cX9_takeClause 119 = .ok (.aload_n 0, 1) := by decide +kernel
theorem dX9_takeClause_120 : decode cX9_takeClause 120 = .ok (.invokevirtual 105, 3) := by decide +kernel
theorem dX9_takeClause_123 : decode cX9_takeClause 123 = .ok (.goto 31, 3) := by decide +kernel
theorem dX9_takeClause_126 : decode cX9_takeClause 126 = .ok (.aload_n 0, 1) := by decide +kernel
theorem dX9_takeClause_127 : decode cX9_takeClause 127 = .ok (.getfield 13, 3) := by decide +kernel
theorem dX9_takeClause_130 : decode cX9_takeClause 130 = .ok (.iload_n 2, 1) := by decide +kernel
theorem dX9_takeClause_131 : decode cX9_takeClause 131 = .ok (.aload_n 0, 1) := by decide +kernel
theorem dX9_takeClause_132 : decode cX9_takeClause 132 = .ok (.iconst 0, 1) := by decide +kernel
theorem dX9_takeClause_133 : decode cX9_takeClause 133 = .ok (.iload_n 2, 1) := by decide +kernel
theorem dX9_takeClause_134 : decode cX9_takeClause 134 = .ok (.iconst 2, 1) := by decide +kernel
theorem dX9_takeClause_135 : decode cX9_takeClause 135 = .ok (.if_icmp .eq 8, 3) := by decide +kernel
theorem dX9_takeClause_138 : decode cX9_takeClause 138 = .ok (.iload_n 2, 1) := by decide +kernel
theorem dX9_takeClause_139 : decode cX9_takeClause 139 = .ok (.iconst 3, 1) := by decide +kernel
theorem dX9_takeClause_140 : decode cX9_takeClause 140 = .ok (.if_icmp .ne 8, 3) := by decide +kernel
theorem dX9_takeClause_143 : decode cX9_takeClause 143 = .ok (.bipush 50, 2) := by decide +kernel
theorem dX9_takeClause_145 : decode cX9_takeClause 145 = .ok (.goto 5, 3) := by decide +kernel
theorem dX9_takeClause_148 : decode cX9_takeClause 148 = .ok (.bipush 99, 2) := by decide +kernel
theorem dX9_takeClause_150 : decode cX9_takeClause 150 = .ok (.invokevirtual 91, 3) := by decide +kernel
theorem dX9_takeClause_153 : decode cX9_takeClause 153 = .ok (.iastore, 1) := by decide +kernel
theorem dX9_takeClause_154 : decode cX9_takeClause 154 = .ok (.aload_n 0, 1) := by decide +kernel
theorem dX9_takeClause_155 : decode cX9_takeClause 155 = .ok (.getfield 55, 3) := by decide +kernel
theorem dX9_takeClause_158 : decode cX9_takeClause 158 = .ok (.ifCond .ne 40, 3) := by decide +kernel
theorem dX9_takeClause_161 : decode cX9_takeClause 161 = .ok (.aload_n 0, 1) := by decide +kernel
theorem dX9_takeClause_162 : decode cX9_takeClause 162 = .ok (.invokevirtual 58, 3) := by decide +kernel
theorem dX9_takeClause_165 : decode cX9_takeClause 165 = .ok (.istore_n 3, 1) := by decide +kernel
theorem dX9_takeClause_166 : decode cX9_takeClause 166 = .ok (.aload_n 0, 1) := by decide +kernel
theorem dX9_takeClause_167 : decode cX9_takeClause 167 = .ok (.dup, 1) := by decide +kernel
theorem dX9_takeClause_168 : decode cX9_takeClause 168 = .ok (.getfield 52, 3) := by decide +kernel
theorem dX9_takeClause_171 : decode cX9_takeClause 171 = .ok (.aload_n 0, 1) := by decide +kernel
theorem dX9_takeClause_172 : decode cX9_takeClause 172 = .ok (.iload_n 3, 1) := by decide +kernel
theorem dX9_takeClause_173 : decode cX9_takeClause 173 = .ok (.bipush 59, 2) := by decide +kernel
theorem dX9_takeClause_175 : decode cX9_takeClause 175 = .ok (.if_icmp .ne 7, 3) := by decide +kernel
theorem dX9_takeClause_178 : decode cX9_takeClause 178 = .ok (.iconst 1, 1) := by decide +kernel
theorem dX9_takeClause_179 : decode cX9_takeClause 179 = .ok (.goto 4, 3) := by decide +kernel
theorem dX9_takeClause_182 : decode cX9_takeClause 182 = .ok (.iconst 0, 1) := by decide +kernel
theorem dX9_takeClause_183 : decode cX9_takeClause 183 = .ok (.iconst 1, 1) := by decide +kernel
theorem dX9_takeClause_184 : decode cX9_takeClause 184 = .ok (.aload_n 0, 1) := by decide +kernel
theorem dX9_takeClause_185 : decode cX9_takeClause 185 = .ok (.getfield 52, 3) := by decide +kernel
theorem dX9_takeClause_188 : decode cX9_takeClause 188 = .ok (.invokevirtual 76, 3) := by decide +kernel
theorem dX9_takeClause_191 : decode cX9_takeClause 191 = .ok (.invokestatic 87, 3) := by decide +kernel
theorem dX9_takeClause_194 : decode cX9_takeClause 194 = .ok (.iadd, 1) := by decide +kernel
theorem dX9_takeClause_195 : decode cX9_takeClause 195 = .ok (.putfield 52, 3) := by decide +kernel
theorem dX9_takeClause_198 : decode cX9_takeClause 198 = .ok (.return_, 1) := by decide +kernel
theorem dX9_read_0 : decode cX9_read 0 = .ok (.aload_n 0, 1) := by decide +kernel
theorem dX9_read_1 : decode cX9_read 1 = .ok (.iconst 0, 1) := by decide +kernel
theorem dX9_read_2 : decode cX9_read 2 = .ok (.putfield 52, 3) := by decide +kernel
theorem dX9_read_5 : decode cX9_read 5 = .ok (.aload_n 0, 1) := by decide +kernel
theorem dX9_read_6 : decode cX9_read 6 = .ok (.iconst 0, 1) := by decide +kernel
theorem dX9_read_7 : decode cX9_read 7 = .ok (.putfield 55, 3) := by decide +kernel
theorem dX9_read_10 : decode cX9_read 10 = .ok (.aload_n 0, 1) := by decide +kernel
theorem dX9_read_11 : decode cX9_read 11 = .ok (.iconst (-1), 1) := by decide +kernel
theorem dX9_read_12 : decode cX9_read 12 = .ok (.putfield 19, 3) := by decide +kernel
theorem dX9_read_15 : decode cX9_read 15 = .ok (.aload_n 0, 1) := by decide +kernel
theorem dX9_read_16 : decode cX9_read 16 = .ok (.iconst 0, 1) := by decide +kernel
theorem dX9_read_17 : decode cX9_read 17 = .ok (.putfield 98, 3) := by decide +kernel
theorem dX9_read_20 : decode cX9_read 20 = .ok (.iconst 0, 1) := by decide +kernel
theorem dX9_read_21 : decode cX9_read 21 = .ok (.istore_n 1, 1) := by decide +kernel
theorem dX9_read_22 : decode cX9_read 22 = .ok (.iload_n 1, 1) := by decide +kernel
theorem dX9_read_23 : decode cX9_read 23 = .ok (.bipush 8, 2) := by decide +kernel
theorem dX9_read_25 : decode cX9_read 25 = .ok (.if_icmp .ge 19, 3) := by decide +kernel
theorem dX9_read_28 : decode cX9_read 28 = .ok (.aload_n 0, 1) := by decide +kernel
theorem dX9_read_29 : decode cX9_read 29 = .ok (.getfield 13, 3) := by decide +kernel
theorem dX9_read_32 : decode cX9_read 32 = .ok (.iload_n 1, 1) := by decide +kernel
theorem dX9_read_33 : decode cX9_read 33 = .ok (.iload_n 1, 1) := by decide +kernel
theorem dX9_read_34 : decode cX9_read 34 = .ok (.invokestatic 33, 3) := by decide +kernel
theorem dX9_read_37 : decode cX9_read 37 = .ok (.iastore, 1) := by decide +kernel
theorem dX9_read_38 : decode cX9_read 38 = .ok (.iinc 1 1, 3) := by decide +kernel
theorem dX9_read_41 : decode cX9_read 41 = .ok (.goto (-19), 3) := by decide +kernel
theorem dX9_read_44 : decode cX9_read 44 = .ok (.iconst 0, 1) := by decide +kernel
theorem dX9_read_45 : decode cX9_read 45 = .ok (.istore_n 1, 1) := by decide +kernel
theorem dX9_read_46 : decode cX9_read 46 = .ok (.aload_n 0, 1) := by decide +kernel
theorem dX9_read_47 : decode cX9_read 47 = .ok (.getfield 55, 3) := by decide +kernel
theorem dX9_read_50 : decode cX9_read 50 = .ok (.ifCond .ne 20, 3) := by decide +kernel
theorem dX9_read_53 : decode cX9_read 53 = .ok (.aload_n 0, 1) := by decide +kernel
theorem dX9_read_54 : decode cX9_read 54 = .ok (.invokevirtual 58, 3) := by decide +kernel
theorem dX9_read_57 : decode cX9_read 57 = .ok (.ifCond .lt 13, 3) := by decide +kernel
theorem dX9_read_60 : decode cX9_read 60 = .ok (.aload_n 0, 1) := by decide +kernel
theorem dX9_read_61 : decode cX9_read 61 = .ok (.invokevirtual 108, 3) := by decide +kernel
theorem dX9_read_64 : decode cX9_read 64 = .ok (.iinc 1 1, 3) := by decide +kernel
theorem dX9_read_67 : decode cX9_read 67 = .ok (.goto (-21), 3) := by decide +kernel
theorem dX9_read_70 : decode cX9_read 70 = .ok (.aload_n 0, 1) := by decide +kernel
theorem dX9_read_71 : decode cX9_read 71 = .ok (.iconst 0, 1) := by decide +kernel
theorem dX9_read_72 : decode cX9_read 72 = .ok (.putfield 47, 3) := by decide +kernel
theorem dX9_read_75 : decode cX9_read 75 = .ok (.aload_n 0, 1) := by decide +kernel
theorem dX9_read_76 : decode cX9_read 76 = .ok (.getfield 55, 3) := by decide +kernel
theorem dX9_read_79 : decode cX9_read 79 = .ok (.ifCond .le 11, 3) := by decide +kernel
theorem dX9_read_82 : decode cX9_read 82 = .ok (.bipush (-10), 2) := by decide +kernel
theorem dX9_read_84 : decode cX9_read 84 = .ok (.aload_n 0, 1) := by decide +kernel
theorem dX9_read_85 : decode cX9_read 85 = .ok (.getfield 55, 3) := by decide +kernel
theorem dX9_read_88 : decode cX9_read 88 = .ok (.isub, 1) := by decide +kernel
theorem dX9_read_89 : decode cX9_read 89 = .ok (.ireturn, 1) := by decide +kernel
theorem dX9_read_90 : decode cX9_read 90 = .ok (.iconst 0, 1) := by decide +kernel
theorem dX9_read_91 : decode cX9_read 91 = .ok (.istore_n 2, 1) := by decide +kernel
theorem dX9_read_92 : decode cX9_read 92 = .ok (.iload_n 2, 1) := by decide +kernel
theorem dX9_read_93 : decode cX9_read 93 = .ok (.bipush 8, 2) := by decide +kernel
theorem dX9_read_95 : decode cX9_read 95 = .ok (.if_icmp .ge 21, 3) := by decide +kernel
theorem dX9_read_98 : decode cX9_read 98 = .ok (.aload_n 0, 1) := by decide +kernel
theorem dX9_read_99 : decode cX9_read 99 = .ok (.getfield 7, 3) := by decide +kernel
theorem dX9_read_102 : decode cX9_read 102 = .ok (.iload_n 2, 1) := by decide +kernel
theorem dX9_read_103 : decode cX9_read 103 = .ok (.aload_n 0, 1) := by decide +kernel
theorem dX9_read_104 : decode cX9_read 104 = .ok (.getfield 13, 3) := by decide +kernel
theorem dX9_read_107 : decode cX9_read 107 = .ok (.iload_n 2, 1) := by decide +kernel
theorem dX9_read_108 : decode cX9_read 108 = .ok (.iaload, 1) := by decide +kernel
theorem dX9_read_109 : decode cX9_read 109 = .ok (.iastore, 1) := by decide +kernel
theorem dX9_read_110 : decode cX9_read 110 = .ok (.iinc 2 1, 3) := by decide +kernel
theorem dX9_read_113 : decode cX9_read 113 = .ok (.goto (-21), 3) := by decide +kernel
theorem dX9_read_116 : decode cX9_read 116 = .ok (.iload_n 1, 1) := by decide +kernel
theorem dX9_read_117 : decode cX9_read 117 = .ok (.ireturn, 1) := by decide +kernel
theorem dX9_fault_0 : decode cX9_fault 0 = .ok (.aload_n 0, 1) := by decide +kernel
theorem dX9_fault_1 : decode cX9_fault 1 = .ok (.getfield 19, 3) := by decide +kernel
theorem dX9_fault_4 : decode cX9_fault 4 = .ok (.ireturn, 1) := by decide +kernel
theorem dX9_village_0 : decode cX9_village 0 = .ok (.iload_n 1, 1) := by decide +kernel
theorem dX9_village_1 : decode cX9_village 1 = .ok (.i2l, 1) := by decide +kernel
theorem dX9_village_2 : decode cX9_village 2 = .ok (.lconst 0, 1) := by decide +kernel
theorem dX9_village_3 : decode cX9_village 3 = .ok (.ldc2_w 111, 3) := by decide +kernel
theorem dX9_village_6 : decode cX9_village 6 = .ok (.invokestatic 39, 3) := by decide +kernel
theorem dX9_village_9 : decode cX9_village 9 = .ok (.ifCond .ne 9, 3) := by decide +kernel
theorem dX9_village_12 : decode cX9_village 12 = .ok (.sipush (-1002), 3) := by decide +kernel
theorem dX9_village_15 : decode cX9_village 15 = .ok (.goto 35, 3) := by decide +kernel
theorem dX9_village_18 : decode cX9_village 18 = .ok (.iload_n 1, 1) := by decide +kernel
theorem dX9_village_19 : decode cX9_village 19 = .ok (.bipush 8, 2) := by decide +kernel
theorem dX9_village_21 : decode cX9_village 21 = .ok (.if_icmp .ne 10, 3) := by decide +kernel
theorem dX9_village_24 : decode cX9_village 24 = .ok (.aload_n 0, 1) := by decide +kernel
theorem dX9_village_25 : decode cX9_village 25 = .ok (.getfield 113, 3) := by decide +kernel
theorem dX9_village_28 : decode cX9_village 28 = .ok (.goto 22, 3) := by decide +kernel
theorem dX9_village_31 : decode cX9_village 31 = .ok (.iload_n 1, 1) := by decide +kernel
theorem dX9_village_32 : decode cX9_village 32 = .ok (.bipush 9, 2) := by decide +kernel
theorem dX9_village_34 : decode cX9_village 34 = .ok (.if_icmp .ne 10, 3) := by decide +kernel
theorem dX9_village_37 : decode cX9_village 37 = .ok (.aload_n 0, 1) := by decide +kernel
theorem dX9_village_38 : decode cX9_village 38 = .ok (.getfield 47, 3) := by decide +kernel
theorem dX9_village_41 : decode cX9_village 41 = .ok (.goto 9, 3) := by decide +kernel
theorem dX9_village_44 : decode cX9_village 44 = .ok (.aload_n 0, 1) := by decide +kernel
theorem dX9_village_45 : decode cX9_village 45 = .ok (.getfield 7, 3) := by decide +kernel
theorem dX9_village_48 : decode cX9_village 48 = .ok (.iload_n 1, 1) := by decide +kernel
theorem dX9_village_49 : decode cX9_village 49 = .ok (.iaload, 1) := by decide +kernel
theorem dX9_village_50 : decode cX9_village 50 = .ok (.ireturn, 1) := by decide +kernel
theorem dX9_least_0 : decode cX9_least 0 = .ok (.iload_n 1, 1) := by decide +kernel
theorem dX9_least_1 : decode cX9_least 1 = .ok (.i2l, 1) := by decide +kernel
theorem dX9_least_2 : decode cX9_least 2 = .ok (.lconst 0, 1) := by decide +kernel
theorem dX9_least_3 : decode cX9_least 3 = .ok (.ldc2_w 116, 3) := by decide +kernel
theorem dX9_least_6 : decode cX9_least 6 = .ok (.invokestatic 39, 3) := by decide +kernel
theorem dX9_least_9 : decode cX9_least 9 = .ok (.ifCond .ne 7, 3) := by decide +kernel
theorem dX9_least_12 : decode cX9_least 12 = .ok (.sipush (-1002), 3) := by decide +kernel
theorem dX9_least_15 : decode cX9_least 15 = .ok (.ireturn, 1) := by decide +kernel
theorem dX9_least_16 : decode cX9_least 16 = .ok (.aload_n 0, 1) := by decide +kernel
theorem dX9_least_17 : decode cX9_least 17 = .ok (.getfield 113, 3) := by decide +kernel
theorem dX9_least_20 : decode cX9_least 20 = .ok (.istore_n 2, 1) := by decide +kernel
theorem dX9_least_21 : decode cX9_least 21 = .ok (.aload_n 0, 1) := by decide +kernel
theorem dX9_least_22 : decode cX9_least 22 = .ok (.iload_n 1, 1) := by decide +kernel
theorem dX9_least_23 : decode cX9_least 23 = .ok (.putfield 113, 3) := by decide +kernel
theorem dX9_least_26 : decode cX9_least 26 = .ok (.iload_n 2, 1) := by decide +kernel
theorem dX9_least_27 : decode cX9_least 27 = .ok (.ireturn, 1) := by decide +kernel
theorem dX9_means_0 : decode cX9_means 0 = .ok (.iload_n 0, 1) := by decide +kernel
theorem dX9_means_1 : decode cX9_means 1 = .ok (.iconst 2, 1) := by decide +kernel
theorem dX9_means_2 : decode cX9_means 2 = .ok (.iload_n 1, 1) := by decide +kernel
theorem dX9_means_3 : decode cX9_means 3 = .ok (.imul, 1) := by decide +kernel
theorem dX9_means_4 : decode cX9_means 4 = .ok (.iload_n 2, 1) := by decide +kernel
theorem dX9_means_5 : decode cX9_means 5 = .ok (.iadd, 1) := by decide +kernel
theorem dX9_means_6 : decode cX9_means 6 = .ok (.ishr, 1) := by decide +kernel
theorem dX9_means_7 : decode cX9_means 7 = .ok (.iconst 1, 1) := by decide +kernel
theorem dX9_means_8 : decode cX9_means 8 = .ok (.iand, 1) := by decide +kernel
theorem dX9_means_9 : decode cX9_means 9 = .ok (.ireturn, 1) := by decide +kernel
theorem dX9_calls_0 : decode cX9_calls 0 = .ok (.iload_n 0, 1) := by decide +kernel
theorem dX9_calls_1 : decode cX9_calls 1 = .ok (.iconst 4, 1) := by decide +kernel
theorem dX9_calls_2 : decode cX9_calls 2 = .ok (.iload_n 1, 1) := by decide +kernel
theorem dX9_calls_3 : decode cX9_calls 3 = .ok (.imul, 1) := by decide +kernel
theorem dX9_calls_4 : decode cX9_calls 4 = .ok (.iconst 2, 1) := by decide +kernel
theorem dX9_calls_5 : decode cX9_calls 5 = .ok (.iload_n 2, 1) := by decide +kernel
theorem dX9_calls_6 : decode cX9_calls 6 = .ok (.imul, 1) := by decide +kernel
theorem dX9_calls_7 : decode cX9_calls 7 = .ok (.iadd, 1) := by decide +kernel
theorem dX9_calls_8 : decode cX9_calls 8 = .ok (.iload_n 3, 1) := by decide +kernel
theorem dX9_calls_9 : decode cX9_calls 9 = .ok (.iadd, 1) := by decide +kernel
theorem dX9_calls_10 : decode cX9_calls 10 = .ok (.ishr, 1) := by decide +kernel
theorem dX9_calls_11 : decode cX9_calls 11 = .ok (.iconst 1, 1) := by decide +kernel
theorem dX9_calls_12 : decode cX9_calls 12 = .ok (.iand, 1) := by decide +kernel
theorem dX9_calls_13 : decode cX9_calls 13 = .ok (.ireturn, 1) := by decide +kernel
theorem dX9_isName_0 : decode cX9_isName 0 = .ok (.iload_n 0, 1) := by decide +kernel
theorem dX9_isName_1 : decode cX9_isName 1 = .ok (.i2l, 1) := by decide +kernel
theorem dX9_isName_2 : decode cX9_isName 2 = .ok (.lconst 0, 1) := by decide +kernel
theorem dX9_isName_3 : decode cX9_isName 3 = .ok (.lconst 1, 1) := by decide +kernel
theorem dX9_isName_4 : decode cX9_isName 4 = .ok (.invokestatic 39, 3) := by decide +kernel
theorem dX9_isName_7 : decode cX9_isName 7 = .ok (.ireturn, 1) := by decide +kernel
theorem dX9_does_0 : decode cX9_does 0 = .ok (.iload_n 1, 1) := by decide +kernel
theorem dX9_does_1 : decode cX9_does 1 = .ok (.invokestatic 118, 3) := by decide +kernel
theorem dX9_does_4 : decode cX9_does 4 = .ok (.ifCond .eq 30, 3) := by decide +kernel
theorem dX9_does_7 : decode cX9_does 7 = .ok (.iload_n 2, 1) := by decide +kernel
theorem dX9_does_8 : decode cX9_does 8 = .ok (.invokestatic 122, 3) := by decide +kernel
theorem dX9_does_11 : decode cX9_does 11 = .ok (.ifCond .eq 23, 3) := by decide +kernel
theorem dX9_does_14 : decode cX9_does 14 = .ok (.iload_n 3, 1) := by decide +kernel
theorem dX9_does_15 : decode cX9_does 15 = .ok (.invokestatic 122, 3) := by decide +kernel
theorem dX9_does_18 : decode cX9_does 18 = .ok (.ifCond .eq 16, 3) := by decide +kernel
theorem dX9_does_21 : decode cX9_does 21 = .ok (.iload 4, 2) := by decide +kernel
theorem dX9_does_23 : decode cX9_does 23 = .ok (.i2l, 1) := by decide +kernel
theorem dX9_does_24 : decode cX9_does 24 = .ok (.ldc2_w 125, 3) := by decide +kernel
theorem dX9_does_27 : decode cX9_does 27 = .ok (.lconst 1, 1) := by decide +kernel
theorem dX9_does_28 : decode cX9_does 28 = .ok (.invokestatic 39, 3) := by decide +kernel
theorem dX9_does_31 : decode cX9_does 31 = .ok (.ifCond .ne 7, 3) := by decide +kernel
theorem dX9_does_34 : decode cX9_does 34 = .ok (.sipush (-1002), 3) := by decide +kernel
theorem dX9_does_37 : decode cX9_does 37 = .ok (.ireturn, 1) := by decide +kernel
theorem dX9_does_38 : decode cX9_does 38 = .ok (.iload 4, 2) := by decide +kernel
theorem dX9_does_40 : decode cX9_does 40 = .ok (.iconst (-1), 1) := by decide +kernel
theorem dX9_does_41 : decode cX9_does 41 = .ok (.if_icmp .ne 15, 3) := by decide +kernel
theorem dX9_does_44 : decode cX9_does 44 = .ok (.iload_n 1, 1) := by decide +kernel
theorem dX9_does_45 : decode cX9_does 45 = .ok (.bipush 16, 2) := by decide +kernel
theorem dX9_does_47 : decode cX9_does 47 = .ok (.irem, 1) := by decide +kernel
theorem dX9_does_48 : decode cX9_does 48 = .ok (.iload_n 2, 1) := by decide +kernel
theorem dX9_does_49 : decode cX9_does 49 = .ok (.iload_n 3, 1) := by decide +kernel
theorem dX9_does_50 : decode cX9_does 50 = .ok (.invokestatic 127, 3) := by decide +kernel
theorem dX9_does_53 : decode cX9_does 53 = .ok (.goto 14, 3) := by decide +kernel
theorem dX9_does_56 : decode cX9_does 56 = .ok (.iload_n 1, 1) := by decide +kernel
theorem dX9_does_57 : decode cX9_does 57 = .ok (.bipush 16, 2) := by decide +kernel
theorem dX9_does_59 : decode cX9_does 59 = .ok (.idiv, 1) := by decide +kernel
theorem dX9_does_60 : decode cX9_does 60 = .ok (.iload_n 2, 1) := by decide +kernel
theorem dX9_does_61 : decode cX9_does 61 = .ok (.iload_n 3, 1) := by decide +kernel
theorem dX9_does_62 : decode cX9_does 62 = .ok (.iload 4, 2) := by decide +kernel
theorem dX9_does_64 : decode cX9_does 64 = .ok (.invokestatic 131, 3) := by decide +kernel
theorem dX9_does_67 : decode cX9_does 67 = .ok (.ireturn, 1) := by decide +kernel
theorem dX9_shareOf_0 : decode cX9_shareOf 0 = .ok (.iload_n 0, 1) := by decide +kernel
theorem dX9_shareOf_1 : decode cX9_shareOf 1 = .ok (.iconst 1, 1) := by decide +kernel
theorem dX9_shareOf_2 : decode cX9_shareOf 2 = .ok (.if_icmp .ne 7, 3) := by decide +kernel
theorem dX9_shareOf_5 : decode cX9_shareOf 5 = .ok (.iload_n 1, 1) := by decide +kernel
theorem dX9_shareOf_6 : decode cX9_shareOf 6 = .ok (.goto 8, 3) := by decide +kernel
theorem dX9_shareOf_9 : decode cX9_shareOf 9 = .ok (.sipush 1000, 3) := by decide +kernel
theorem dX9_shareOf_12 : decode cX9_shareOf 12 = .ok (.iload_n 1, 1) := by decide +kernel
theorem dX9_shareOf_13 : decode cX9_shareOf 13 = .ok (.isub, 1) := by decide +kernel
theorem dX9_shareOf_14 : decode cX9_shareOf 14 = .ok (.ireturn, 1) := by decide +kernel
theorem dX9_calledGood_0 : decode cX9_calledGood 0 = .ok (.iload_n 1, 1) := by decide +kernel
theorem dX9_calledGood_1 : decode cX9_calledGood 1 = .ok (.iload_n 3, 1) := by decide +kernel
theorem dX9_calledGood_2 : decode cX9_calledGood 2 = .ok (.iload 4, 2) := by decide +kernel
theorem dX9_calledGood_4 : decode cX9_calledGood 4 = .ok (.invokestatic 127, 3) := by decide +kernel
theorem dX9_calledGood_7 : decode cX9_calledGood 7 = .ok (.iconst 1, 1) := by decide +kernel
theorem dX9_calledGood_8 : decode cX9_calledGood 8 = .ok (.if_icmp .ne 15, 3) := by decide +kernel
theorem dX9_calledGood_11 : decode cX9_calledGood 11 = .ok (.bipush 100, 2) := by decide +kernel
theorem dX9_calledGood_13 : decode cX9_calledGood 13 = .ok (.aload_n 0, 1) := by decide +kernel
theorem dX9_calledGood_14 : decode cX9_calledGood 14 = .ok (.getfield 7, 3) := by decide +kernel
theorem dX9_calledGood_17 : decode cX9_calledGood 17 = .ok (.iconst 2, 1) := by decide +kernel
theorem dX9_calledGood_18 : decode cX9_calledGood 18 = .ok (.iaload, 1) := by decide +kernel
theorem dX9_calledGood_19 : decode cX9_calledGood 19 = .ok (.isub, 1) := by decide +kernel
theorem dX9_calledGood_20 : decode cX9_calledGood 20 = .ok (.goto 4, 3) := by decide +kernel
theorem dX9_calledGood_23 : decode cX9_calledGood 23 = .ok (.iconst 0, 1) := by decide +kernel
theorem dX9_calledGood_24 : decode cX9_calledGood 24 = .ok (.istore 5, 2) := by decide +kernel
theorem dX9_calledGood_26 : decode cX9_calledGood 26 = .ok (.iconst 0, 1) := by decide +kernel
theorem dX9_calledGood_27 : decode cX9_calledGood 27 = .ok (.istore 6, 2) := by decide +kernel
theorem dX9_calledGood_29 : decode cX9_calledGood 29 = .ok (.iconst 0, 1) := by decide +kernel
theorem dX9_calledGood_30 : decode cX9_calledGood 30 = .ok (.istore 7, 2) := by decide +kernel
theorem dX9_calledGood_32 : decode cX9_calledGood 32 = .ok (.iload 7, 2) := by decide +kernel
theorem dX9_calledGood_34 : decode cX9_calledGood 34 = .ok (.iconst 2, 1) := by decide +kernel
theorem dX9_calledGood_35 : decode cX9_calledGood 35 = .ok (.if_icmp .ge 66, 3) := by decide +kernel
theorem dX9_calledGood_38 : decode cX9_calledGood 38 = .ok (.iload 7, 2) := by decide +kernel
theorem dX9_calledGood_40 : decode cX9_calledGood 40 = .ok (.iconst 1, 1) := by decide +kernel
theorem dX9_calledGood_41 : decode cX9_calledGood 41 = .ok (.if_icmp .ne 8, 3) := by decide +kernel
theorem dX9_calledGood_44 : decode cX9_calledGood 44 = .ok (.iload 5, 2) := by decide +kernel
theorem dX9_calledGood_46 : decode cX9_calledGood 46 = .ok (.goto 8, 3) := by decide +kernel
theorem dX9_calledGood_49 : decode cX9_calledGood 49 = .ok (.bipush 100, 2) := by decide +kernel
theorem dX9_calledGood_51 : decode cX9_calledGood 51 = .ok (.iload 5, 2) := by decide +kernel
theorem dX9_calledGood_53 : decode cX9_calledGood 53 = .ok (.isub, 1) := by decide +kernel
theorem dX9_calledGood_54 : decode cX9_calledGood 54 = .ok (.istore 8, 2) := by decide +kernel
theorem dX9_calledGood_56 : decode cX9_calledGood 56 = .ok (.iload 6, 2) := by decide +kernel
theorem dX9_calledGood_58 : decode cX9_calledGood 58 = .ok (.iload 8, 2) := by decide +kernel
theorem dX9_calledGood_60 : decode cX9_calledGood 60 = .ok (.iload_n 2, 1) := by decide +kernel
theorem dX9_calledGood_61 : decode cX9_calledGood 61 = .ok (.iload_n 3, 1) := by decide +kernel
theorem dX9_calledGood_62 : decode cX9_calledGood 62 = .ok (.iload 4, 2) := by decide +kernel
theorem dX9_calledGood_64 : decode cX9_calledGood 64 = .ok (.iload 7, 2) := by decide +kernel
theorem dX9_calledGood_66 : decode cX9_calledGood 66 = .ok (.invokestatic 131, 3) := by decide +kernel
theorem dX9_calledGood_69 : decode cX9_calledGood 69 = .ok (.iconst 1, 1) := by decide +kernel
theorem dX9_calledGood_70 : decode cX9_calledGood 70 = .ok (.if_icmp .ne 15, 3) := by decide +kernel
theorem dX9_calledGood_73 : decode cX9_calledGood 73 = .ok (.bipush 100, 2) := by decide +kernel
theorem dX9_calledGood_75 : decode cX9_calledGood 75 = .ok (.aload_n 0, 1) := by decide +kernel
theorem dX9_calledGood_76 : decode cX9_calledGood 76 = .ok (.getfield 7, 3) := by decide +kernel
theorem dX9_calledGood_79 : decode cX9_calledGood 79 = .ok (.iconst 3, 1) := by decide +kernel
theorem dX9_calledGood_80 : decode cX9_calledGood 80 = .ok (.iaload, 1) := by decide +kernel
theorem dX9_calledGood_81 : decode cX9_calledGood 81 = .ok (.isub, 1) := by decide +kernel
theorem dX9_calledGood_82 : decode cX9_calledGood 82 = .ok (.goto 9, 3) := by decide +kernel
theorem dX9_calledGood_85 : decode cX9_calledGood 85 = .ok (.aload_n 0, 1) := by decide +kernel
theorem dX9_calledGood_86 : decode cX9_calledGood 86 = .ok (.getfield 7, 3) := by decide +kernel
theorem dX9_calledGood_89 : decode cX9_calledGood 89 = .ok (.iconst 3, 1) := by decide +kernel
theorem dX9_calledGood_90 : decode cX9_calledGood 90 = .ok (.iaload, 1) := by decide +kernel
theorem dX9_calledGood_91 : decode cX9_calledGood 91 = .ok (.imul, 1) := by decide +kernel
theorem dX9_calledGood_92 : decode cX9_calledGood 92 = .ok (.iadd, 1) := by decide +kernel
theorem dX9_calledGood_93 : decode cX9_calledGood 93 = .ok (.istore 6, 2) := by decide +kernel
theorem dX9_calledGood_95 : decode cX9_calledGood 95 = .ok (.iinc 7 1, 3) := by decide +kernel
theorem dX9_calledGood_98 : decode cX9_calledGood 98 = .ok (.goto (-66), 3) := by decide +kernel
theorem dX9_calledGood_101 : decode cX9_calledGood 101 = .ok (.iload 6, 2) := by decide +kernel
theorem dX9_calledGood_103 : decode cX9_calledGood 103 = .ok (.ireturn, 1) := by decide +kernel
theorem dX9_stepOf_0 : decode cX9_stepOf 0 = .ok (.lconst 0, 1) := by decide +kernel
theorem dX9_stepOf_1 : decode cX9_stepOf 1 = .ok (.lstore_n 3, 1) := by decide +kernel
theorem dX9_stepOf_2 : decode cX9_stepOf 2 = .ok (.iconst 0, 1) := by decide +kernel
theorem dX9_stepOf_3 : decode cX9_stepOf 3 = .ok (.istore 5, 2) := by decide +kernel
theorem dX9_stepOf_5 : decode cX9_stepOf 5 = .ok (.iload 5, 2) := by decide +kernel
theorem dX9_stepOf_7 : decode cX9_stepOf 7 = .ok (.iconst 2, 1) := by decide +kernel
theorem dX9_stepOf_8 : decode cX9_stepOf 8 = .ok (.if_icmp .ge 60, 3) := by decide +kernel
theorem dX9_stepOf_11 : decode cX9_stepOf 11 = .ok (.iconst 0, 1) := by decide +kernel
theorem dX9_stepOf_12 : decode cX9_stepOf 12 = .ok (.istore 6, 2) := by decide +kernel
theorem dX9_stepOf_14 : decode cX9_stepOf 14 = .ok (.iload 6, 2) := by decide +kernel
theorem dX9_stepOf_16 : decode cX9_stepOf 16 = .ok (.iconst 2, 1) := by decide +kernel
theorem dX9_stepOf_17 : decode cX9_stepOf 17 = .ok (.if_icmp .ge 45, 3) := by decide +kernel
theorem dX9_stepOf_20 : decode cX9_stepOf 20 = .ok (.lload_n 3, 1) := by decide +kernel
theorem dX9_stepOf_21 : decode cX9_stepOf 21 = .ok (.iload 5, 2) := by decide +kernel
theorem dX9_stepOf_23 : decode cX9_stepOf 23 = .ok (.iload_n 2, 1) := by decide +kernel
theorem dX9_stepOf_24 : decode cX9_stepOf 24 = .ok (.invokestatic 135, 3) := by decide +kernel
theorem dX9_stepOf_27 : decode cX9_stepOf 27 = .ok (.i2l, 1) := by decide +kernel
theorem dX9_stepOf_28 : decode cX9_stepOf 28 = .ok (.iload 6, 2) := by decide +kernel
theorem dX9_stepOf_30 : decode cX9_stepOf 30 = .ok (.iload_n 2, 1) := by decide +kernel
theorem dX9_stepOf_31 : decode cX9_stepOf 31 = .ok (.invokestatic 135, 3) := by decide +kernel
theorem dX9_stepOf_34 : decode cX9_stepOf 34 = .ok (.i2l, 1) := by decide +kernel
theorem dX9_stepOf_35 : decode cX9_stepOf 35 = .ok (.lmul, 1) := by decide +kernel
theorem dX9_stepOf_36 : decode cX9_stepOf 36 = .ok (.aload_n 0, 1) := by decide +kernel
theorem dX9_stepOf_37 : decode cX9_stepOf 37 = .ok (.iload_n 1, 1) := by decide +kernel
theorem dX9_stepOf_38 : decode cX9_stepOf 38 = .ok (.bipush 16, 2) := by decide +kernel
theorem dX9_stepOf_40 : decode cX9_stepOf 40 = .ok (.irem, 1) := by decide +kernel
theorem dX9_stepOf_41 : decode cX9_stepOf 41 = .ok (.iload_n 1, 1) := by decide +kernel
theorem dX9_stepOf_42 : decode cX9_stepOf 42 = .ok (.bipush 16, 2) := by decide +kernel
theorem dX9_stepOf_44 : decode cX9_stepOf 44 = .ok (.idiv, 1) := by decide +kernel
theorem dX9_stepOf_45 : decode cX9_stepOf 45 = .ok (.iload 5, 2) := by decide +kernel
theorem dX9_stepOf_47 : decode cX9_stepOf 47 = .ok (.iload 6, 2) := by decide +kernel
theorem dX9_stepOf_49 : decode cX9_stepOf 49 = .ok (.invokevirtual 138, 3) := by decide +kernel
theorem dX9_stepOf_52 : decode cX9_stepOf 52 = .ok (.i2l, 1) := by decide +kernel
theorem dX9_stepOf_53 : decode cX9_stepOf 53 = .ok (.lmul, 1) := by decide +kernel
theorem dX9_stepOf_54 : decode cX9_stepOf 54 = .ok (.ladd, 1) := by decide +kernel
theorem dX9_stepOf_55 : decode cX9_stepOf 55 = .ok (.lstore_n 3, 1) := by decide +kernel
theorem dX9_stepOf_56 : decode cX9_stepOf 56 = .ok (.iinc 6 1, 3) := by decide +kernel
theorem dX9_stepOf_59 : decode cX9_stepOf 59 = .ok (.goto (-45), 3) := by decide +kernel
theorem dX9_stepOf_62 : decode cX9_stepOf 62 = .ok (.iinc 5 1, 3) := by decide +kernel
theorem dX9_stepOf_65 : decode cX9_stepOf 65 = .ok (.goto (-60), 3) := by decide +kernel
theorem dX9_stepOf_68 : decode cX9_stepOf 68 = .ok (.lload_n 3, 1) := by decide +kernel
theorem dX9_stepOf_69 : decode cX9_stepOf 69 = .ok (.ldc2_w 141, 3) := by decide +kernel
theorem dX9_stepOf_72 : decode cX9_stepOf 72 = .ok (.ldiv, 1) := by decide +kernel
theorem dX9_stepOf_73 : decode cX9_stepOf 73 = .ok (.l2i, 1) := by decide +kernel
theorem dX9_stepOf_74 : decode cX9_stepOf 74 = .ok (.istore 5, 2) := by decide +kernel
theorem dX9_stepOf_76 : decode cX9_stepOf 76 = .ok (.bipush 100, 2) := by decide +kernel
theorem dX9_stepOf_78 : decode cX9_stepOf 78 = .ok (.aload_n 0, 1) := by decide +kernel
theorem dX9_stepOf_79 : decode cX9_stepOf 79 = .ok (.getfield 7, 3) := by decide +kernel
theorem dX9_stepOf_82 : decode cX9_stepOf 82 = .ok (.iconst 4, 1) := by decide +kernel
theorem dX9_stepOf_83 : decode cX9_stepOf 83 = .ok (.iaload, 1) := by decide +kernel
theorem dX9_stepOf_84 : decode cX9_stepOf 84 = .ok (.isub, 1) := by decide +kernel
theorem dX9_stepOf_85 : decode cX9_stepOf 85 = .ok (.iload 5, 2) := by decide +kernel
theorem dX9_stepOf_87 : decode cX9_stepOf 87 = .ok (.imul, 1) := by decide +kernel
theorem dX9_stepOf_88 : decode cX9_stepOf 88 = .ok (.aload_n 0, 1) := by decide +kernel
theorem dX9_stepOf_89 : decode cX9_stepOf 89 = .ok (.getfield 7, 3) := by decide +kernel
theorem dX9_stepOf_92 : decode cX9_stepOf 92 = .ok (.iconst 4, 1) := by decide +kernel
theorem dX9_stepOf_93 : decode cX9_stepOf 93 = .ok (.iaload, 1) := by decide +kernel
theorem dX9_stepOf_94 : decode cX9_stepOf 94 = .ok (.sipush 1000, 3) := by decide +kernel
theorem dX9_stepOf_97 : decode cX9_stepOf 97 = .ok (.imul, 1) := by decide +kernel
theorem dX9_stepOf_98 : decode cX9_stepOf 98 = .ok (.aload_n 0, 1) := by decide +kernel
theorem dX9_stepOf_99 : decode cX9_stepOf 99 = .ok (.getfield 7, 3) := by decide +kernel
theorem dX9_stepOf_102 : decode cX9_stepOf 102 = .ok (.iconst 5, 1) := by decide +kernel
theorem dX9_stepOf_103 : decode cX9_stepOf 103 = .ok (.iaload, 1) := by decide +kernel
theorem dX9_stepOf_104 : decode cX9_stepOf 104 = .ok (.imul, 1) := by decide +kernel
theorem dX9_stepOf_105 : decode cX9_stepOf 105 = .ok (.iadd, 1) := by decide +kernel
theorem dX9_stepOf_106 : decode cX9_stepOf 106 = .ok (.bipush 100, 2) := by decide +kernel
theorem dX9_stepOf_108 : decode cX9_stepOf 108 = .ok (.idiv, 1) := by decide +kernel
theorem dX9_stepOf_109 : decode cX9_stepOf 109 = .ok (.ireturn, 1) := by decide +kernel
theorem dX9_step_0 : decode cX9_step 0 = .ok (.iload_n 1, 1) := by decide +kernel
theorem dX9_step_1 : decode cX9_step 1 = .ok (.invokestatic 118, 3) := by decide +kernel
theorem dX9_step_4 : decode cX9_step 4 = .ok (.ifCond .eq 19, 3) := by decide +kernel
theorem dX9_step_7 : decode cX9_step 7 = .ok (.iload_n 2, 1) := by decide +kernel
theorem dX9_step_8 : decode cX9_step 8 = .ok (.invokestatic 143, 3) := by decide +kernel
theorem dX9_step_11 : decode cX9_step 11 = .ok (.ifCond .eq 12, 3) := by decide +kernel
theorem dX9_step_14 : decode cX9_step 14 = .ok (.aload_n 0, 1) := by decide +kernel
theorem dX9_step_15 : decode cX9_step 15 = .ok (.iload_n 1, 1) := by decide +kernel
theorem dX9_step_16 : decode cX9_step 16 = .ok (.iload_n 2, 1) := by decide +kernel
theorem dX9_step_17 : decode cX9_step 17 = .ok (.invokevirtual 146, 3) := by decide +kernel
theorem dX9_step_20 : decode cX9_step 20 = .ok (.goto 6, 3) := by decide +kernel
theorem dX9_step_23 : decode cX9_step 23 = .ok (.sipush (-1002), 3) := by decide +kernel
theorem dX9_step_26 : decode cX9_step 26 = .ok (.ireturn, 1) := by decide +kernel
theorem dX9_goFrom_0 : decode cX9_goFrom 0 = .ok (.iconst 0, 1) := by decide +kernel
theorem dX9_goFrom_1 : decode cX9_goFrom 1 = .ok (.istore_n 3, 1) := by decide +kernel
theorem dX9_goFrom_2 : decode cX9_goFrom 2 = .ok (.iload_n 3, 1) := by decide +kernel
theorem dX9_goFrom_3 : decode cX9_goFrom 3 = .ok (.sipush 1000, 3) := by decide +kernel
theorem dX9_goFrom_6 : decode cX9_goFrom 6 = .ok (.if_icmp .gt 16, 3) := by decide +kernel
theorem dX9_goFrom_9 : decode cX9_goFrom 9 = .ok (.aload_n 0, 1) := by decide +kernel
theorem dX9_goFrom_10 : decode cX9_goFrom 10 = .ok (.getfield 23, 3) := by decide +kernel
theorem dX9_goFrom_13 : decode cX9_goFrom 13 = .ok (.iload_n 3, 1) := by decide +kernel
theorem dX9_goFrom_14 : decode cX9_goFrom 14 = .ok (.iconst (-1), 1) := by decide +kernel
theorem dX9_goFrom_15 : decode cX9_goFrom 15 = .ok (.iastore, 1) := by decide +kernel
theorem dX9_goFrom_16 : decode cX9_goFrom 16 = .ok (.iinc 3 1, 3) := by decide +kernel
theorem dX9_goFrom_19 : decode cX9_goFrom 19 = .ok (.goto (-17), 3) := by decide +kernel
theorem dX9_goFrom_22 : decode cX9_goFrom 22 = .ok (.iload_n 2, 1) := by decide +kernel
theorem dX9_goFrom_23 : decode cX9_goFrom 23 = .ok (.istore_n 3, 1) := by decide +kernel
theorem dX9_goFrom_24 : decode cX9_goFrom 24 = .ok (.iconst 0, 1) := by decide +kernel
theorem dX9_goFrom_25 : decode cX9_goFrom 25 = .ok (.istore 4, 2) := by decide +kernel
theorem dX9_goFrom_27 : decode cX9_goFrom 27 = .ok (.aload_n 0, 1) := by decide +kernel
theorem dX9_goFrom_28 : decode cX9_goFrom 28 = .ok (.getfield 23, 3) := by decide +kernel
theorem dX9_goFrom_31 : decode cX9_goFrom 31 = .ok (.iload_n 3, 1) := by decide +kernel
theorem dX9_goFrom_32 : decode cX9_goFrom 32 = .ok (.iaload, 1) := by decide +kernel
theorem dX9_goFrom_33 : decode cX9_goFrom 33 = .ok (.ifCond .ge 24, 3) := by decide +kernel
theorem dX9_goFrom_36 : decode cX9_goFrom 36 = .ok (.aload_n 0, 1) := by decide +kernel
theorem dX9_goFrom_37 : decode cX9_goFrom 37 = .ok (.getfield 23, 3) := by decide +kernel
theorem dX9_goFrom_40 : decode cX9_goFrom 40 = .ok (.iload_n 3, 1) := by decide +kernel
theorem dX9_goFrom_41 : decode cX9_goFrom 41 = .ok (.iload 4, 2) := by decide +kernel
theorem dX9_goFrom_43 : decode cX9_goFrom 43 = .ok (.iastore, 1) := by decide +kernel
theorem dX9_goFrom_44 : decode cX9_goFrom 44 = .ok (.iinc 4 1, 3) := by decide +kernel
theorem dX9_goFrom_47 : decode cX9_goFrom 47 = .ok (.aload_n 0, 1) := by decide +kernel
theorem dX9_goFrom_48 : decode cX9_goFrom 48 = .ok (.iload_n 1, 1) := by decide +kernel
theorem dX9_goFrom_49 : decode cX9_goFrom 49 = .ok (.iload_n 3, 1) := by decide +kernel
theorem dX9_goFrom_50 : decode cX9_goFrom 50 = .ok (.invokevirtual 146, 3) := by decide +kernel
theorem dX9_goFrom_53 : decode cX9_goFrom 53 = .ok (.istore_n 3, 1) := by decide +kernel
theorem dX9_goFrom_54 : decode cX9_goFrom 54 = .ok (.goto (-27), 3) := by decide +kernel
theorem dX9_goFrom_57 : decode cX9_goFrom 57 = .ok (.aload_n 0, 1) := by decide +kernel
theorem dX9_goFrom_58 : decode cX9_goFrom 58 = .ok (.aload_n 0, 1) := by decide +kernel
theorem dX9_goFrom_59 : decode cX9_goFrom 59 = .ok (.getfield 23, 3) := by decide +kernel
theorem dX9_goFrom_62 : decode cX9_goFrom 62 = .ok (.iload_n 3, 1) := by decide +kernel
theorem dX9_goFrom_63 : decode cX9_goFrom 63 = .ok (.iaload, 1) := by decide +kernel
theorem dX9_goFrom_64 : decode cX9_goFrom 64 = .ok (.putfield 149, 3) := by decide +kernel
theorem dX9_goFrom_67 : decode cX9_goFrom 67 = .ok (.aload_n 0, 1) := by decide +kernel
theorem dX9_goFrom_68 : decode cX9_goFrom 68 = .ok (.iload 4, 2) := by decide +kernel
theorem dX9_goFrom_70 : decode cX9_goFrom 70 = .ok (.aload_n 0, 1) := by decide +kernel
theorem dX9_goFrom_71 : decode cX9_goFrom 71 = .ok (.getfield 149, 3) := by decide +kernel
theorem dX9_goFrom_74 : decode cX9_goFrom 74 = .ok (.isub, 1) := by decide +kernel
theorem dX9_goFrom_75 : decode cX9_goFrom 75 = .ok (.putfield 152, 3) := by decide +kernel
theorem dX9_goFrom_78 : decode cX9_goFrom 78 = .ok (.aload_n 0, 1) := by decide +kernel
theorem dX9_goFrom_79 : decode cX9_goFrom 79 = .ok (.aload_n 0, 1) := by decide +kernel
theorem dX9_goFrom_80 : decode cX9_goFrom 80 = .ok (.getfield 152, 3) := by decide +kernel
theorem dX9_goFrom_83 : decode cX9_goFrom 83 = .ok (.iconst 1, 1) := by decide +kernel
theorem dX9_goFrom_84 : decode cX9_goFrom 84 = .ok (.if_icmp .ne 7, 3) := by decide +kernel
theorem dX9_goFrom_87 : decode cX9_goFrom 87 = .ok (.iload_n 3, 1) := by decide +kernel
theorem dX9_goFrom_88 : decode cX9_goFrom 88 = .ok (.goto 4, 3) := by decide +kernel
theorem dX9_goFrom_91 : decode cX9_goFrom 91 = .ok (.iconst (-1), 1) := by decide +kernel
theorem dX9_goFrom_92 : decode cX9_goFrom 92 = .ok (.putfield 155, 3) := by decide +kernel
theorem dX9_goFrom_95 : decode cX9_goFrom 95 = .ok (.return_, 1) := by decide +kernel
theorem dX9_from_0 : decode cX9_from 0 = .ok (.iload_n 1, 1) := by decide +kernel
theorem dX9_from_1 : decode cX9_from 1 = .ok (.invokestatic 118, 3) := by decide +kernel
theorem dX9_from_4 : decode cX9_from 4 = .ok (.ifCond .eq 22, 3) := by decide +kernel
theorem dX9_from_7 : decode cX9_from 7 = .ok (.iload_n 2, 1) := by decide +kernel
theorem dX9_from_8 : decode cX9_from 8 = .ok (.invokestatic 143, 3) := by decide +kernel
theorem dX9_from_11 : decode cX9_from 11 = .ok (.ifCond .eq 15, 3) := by decide +kernel
theorem dX9_from_14 : decode cX9_from 14 = .ok (.iload_n 3, 1) := by decide +kernel
theorem dX9_from_15 : decode cX9_from 15 = .ok (.i2l, 1) := by decide +kernel
theorem dX9_from_16 : decode cX9_from 16 = .ok (.lconst 0, 1) := by decide +kernel
theorem dX9_from_17 : decode cX9_from 17 = .ok (.ldc2_w 158, 3) := by decide +kernel
theorem dX9_from_20 : decode cX9_from 20 = .ok (.invokestatic 39, 3) := by decide +kernel
theorem dX9_from_23 : decode cX9_from 23 = .ok (.ifCond .ne 7, 3) := by decide +kernel
theorem dX9_from_26 : decode cX9_from 26 = .ok (.sipush (-1002), 3) := by decide +kernel
theorem dX9_from_29 : decode cX9_from 29 = .ok (.ireturn, 1) := by decide +kernel
theorem dX9_from_30 : decode cX9_from 30 = .ok (.aload_n 0, 1) := by decide +kernel
theorem dX9_from_31 : decode cX9_from 31 = .ok (.iload_n 1, 1) := by decide +kernel
theorem dX9_from_32 : decode cX9_from 32 = .ok (.iload_n 2, 1) := by decide +kernel
theorem dX9_from_33 : decode cX9_from 33 = .ok (.invokevirtual 160, 3) := by decide +kernel
theorem dX9_from_36 : decode cX9_from 36 = .ok (.iload_n 3, 1) := by decide +kernel
theorem dX9_from_37 : decode cX9_from 37 = .ok (.ifCond .ne 10, 3) := by decide +kernel
theorem dX9_from_40 : decode cX9_from 40 = .ok (.aload_n 0, 1) := by decide +kernel
theorem dX9_from_41 : decode cX9_from 41 = .ok (.getfield 155, 3) := by decide +kernel
theorem dX9_from_44 : decode cX9_from 44 = .ok (.goto 19, 3) := by decide +kernel
theorem dX9_from_47 : decode cX9_from 47 = .ok (.iload_n 3, 1) := by decide +kernel
theorem dX9_from_48 : decode cX9_from 48 = .ok (.iconst 1, 1) := by decide +kernel
theorem dX9_from_49 : decode cX9_from 49 = .ok (.if_icmp .ne 10, 3) := by decide +kernel
theorem dX9_from_52 : decode cX9_from 52 = .ok (.aload_n 0, 1) := by decide +kernel
theorem dX9_from_53 : decode cX9_from 53 = .ok (.getfield 149, 3) := by decide +kernel
theorem dX9_from_56 : decode cX9_from 56 = .ok (.goto 7, 3) := by decide +kernel
theorem dX9_from_59 : decode cX9_from 59 = .ok (.aload_n 0, 1) := by decide +kernel
theorem dX9_from_60 : decode cX9_from 60 = .ok (.getfield 152, 3) := by decide +kernel
theorem dX9_from_63 : decode cX9_from 63 = .ok (.ireturn, 1) := by decide +kernel
theorem dX9_helpedBy_0 : decode cX9_helpedBy 0 = .ok (.iconst 0, 1) := by decide +kernel
theorem dX9_helpedBy_1 : decode cX9_helpedBy 1 = .ok (.istore_n 3, 1) := by decide +kernel
theorem dX9_helpedBy_2 : decode cX9_helpedBy 2 = .ok (.iconst 0, 1) := by decide +kernel
theorem dX9_helpedBy_3 : decode cX9_helpedBy 3 = .ok (.istore 4, 2) := by decide +kernel
theorem dX9_helpedBy_5 : decode cX9_helpedBy 5 = .ok (.iload 4, 2) := by decide +kernel
theorem dX9_helpedBy_7 : decode cX9_helpedBy 7 = .ok (.iconst 2, 1) := by decide +kernel
theorem dX9_helpedBy_8 : decode cX9_helpedBy 8 = .ok (.if_icmp .ge 52, 3) := by decide +kernel
theorem dX9_helpedBy_11 : decode cX9_helpedBy 11 = .ok (.iconst 0, 1) := by decide +kernel
theorem dX9_helpedBy_12 : decode cX9_helpedBy 12 = .ok (.istore 5, 2) := by decide +kernel
theorem dX9_helpedBy_14 : decode cX9_helpedBy 14 = .ok (.iload 5, 2) := by decide +kernel
theorem dX9_helpedBy_16 : decode cX9_helpedBy 16 = .ok (.iconst 2, 1) := by decide +kernel
theorem dX9_helpedBy_17 : decode cX9_helpedBy 17 = .ok (.if_icmp .ge 37, 3) := by decide +kernel
theorem dX9_helpedBy_20 : decode cX9_helpedBy 20 = .ok (.iload_n 3, 1) := by decide +kernel
theorem dX9_helpedBy_21 : decode cX9_helpedBy 21 = .ok (.iload_n 1, 1) := by decide +kernel
theorem dX9_helpedBy_22 : decode cX9_helpedBy 22 = .ok (.bipush 16, 2) := by decide +kernel
theorem dX9_helpedBy_24 : decode cX9_helpedBy 24 = .ok (.irem, 1) := by decide +kernel
theorem dX9_helpedBy_25 : decode cX9_helpedBy 25 = .ok (.iload 4, 2) := by decide +kernel
theorem dX9_helpedBy_27 : decode cX9_helpedBy 27 = .ok (.iload 5, 2) := by decide +kernel
theorem dX9_helpedBy_29 : decode cX9_helpedBy 29 = .ok (.invokestatic 127, 3) := by decide +kernel
theorem dX9_helpedBy_32 : decode cX9_helpedBy 32 = .ok (.iload 4, 2) := by decide +kernel
theorem dX9_helpedBy_34 : decode cX9_helpedBy 34 = .ok (.iload_n 2, 1) := by decide +kernel
theorem dX9_helpedBy_35 : decode cX9_helpedBy 35 = .ok (.invokestatic 135, 3) := by decide +kernel
theorem dX9_helpedBy_38 : decode cX9_helpedBy 38 = .ok (.imul, 1) := by decide +kernel
theorem dX9_helpedBy_39 : decode cX9_helpedBy 39 = .ok (.iload 5, 2) := by decide +kernel
theorem dX9_helpedBy_41 : decode cX9_helpedBy 41 = .ok (.iload_n 2, 1) := by decide +kernel
theorem dX9_helpedBy_42 : decode cX9_helpedBy 42 = .ok (.invokestatic 135, 3) := by decide +kernel
theorem dX9_helpedBy_45 : decode cX9_helpedBy 45 = .ok (.imul, 1) := by decide +kernel
theorem dX9_helpedBy_46 : decode cX9_helpedBy 46 = .ok (.iadd, 1) := by decide +kernel
theorem dX9_helpedBy_47 : decode cX9_helpedBy 47 = .ok (.istore_n 3, 1) := by decide +kernel
theorem dX9_helpedBy_48 : decode cX9_helpedBy 48 = .ok (.iinc 5 1, 3) := by decide +kernel
theorem dX9_helpedBy_51 : decode cX9_helpedBy 51 = .ok (.goto (-37), 3) := by decide +kernel
theorem dX9_helpedBy_54 : decode cX9_helpedBy 54 = .ok (.iinc 4 1, 3) := by decide +kernel
theorem dX9_helpedBy_57 : decode cX9_helpedBy 57 = .ok (.goto (-52), 3) := by decide +kernel
theorem dX9_helpedBy_60 : decode cX9_helpedBy 60 = .ok (.iload_n 3, 1) := by decide +kernel
theorem dX9_helpedBy_61 : decode cX9_helpedBy 61 = .ok (.bipush 100, 2) := by decide +kernel
theorem dX9_helpedBy_63 : decode cX9_helpedBy 63 = .ok (.aload_n 0, 1) := by decide +kernel
theorem dX9_helpedBy_64 : decode cX9_helpedBy 64 = .ok (.getfield 7, 3) := by decide +kernel
theorem dX9_helpedBy_67 : decode cX9_helpedBy 67 = .ok (.iconst 2, 1) := by decide +kernel
theorem dX9_helpedBy_68 : decode cX9_helpedBy 68 = .ok (.iaload, 1) := by decide +kernel
theorem dX9_helpedBy_69 : decode cX9_helpedBy 69 = .ok (.isub, 1) := by decide +kernel
theorem dX9_helpedBy_70 : decode cX9_helpedBy 70 = .ok (.imul, 1) := by decide +kernel
theorem dX9_helpedBy_71 : decode cX9_helpedBy 71 = .ok (.bipush 100, 2) := by decide +kernel
theorem dX9_helpedBy_73 : decode cX9_helpedBy 73 = .ok (.idiv, 1) := by decide +kernel
theorem dX9_helpedBy_74 : decode cX9_helpedBy 74 = .ok (.ireturn, 1) := by decide +kernel
theorem dX9_helped_0 : decode cX9_helped 0 = .ok (.iload_n 1, 1) := by decide +kernel
theorem dX9_helped_1 : decode cX9_helped 1 = .ok (.invokestatic 118, 3) := by decide +kernel
theorem dX9_helped_4 : decode cX9_helped 4 = .ok (.ifCond .eq 19, 3) := by decide +kernel
theorem dX9_helped_7 : decode cX9_helped 7 = .ok (.iload_n 2, 1) := by decide +kernel
theorem dX9_helped_8 : decode cX9_helped 8 = .ok (.invokestatic 143, 3) := by decide +kernel
theorem dX9_helped_11 : decode cX9_helped 11 = .ok (.ifCond .eq 12, 3) := by decide +kernel
theorem dX9_helped_14 : decode cX9_helped 14 = .ok (.aload_n 0, 1) := by decide +kernel
theorem dX9_helped_15 : decode cX9_helped 15 = .ok (.iload_n 1, 1) := by decide +kernel
theorem dX9_helped_16 : decode cX9_helped 16 = .ok (.iload_n 2, 1) := by decide +kernel
theorem dX9_helped_17 : decode cX9_helped 17 = .ok (.invokevirtual 164, 3) := by decide +kernel
theorem dX9_helped_20 : decode cX9_helped 20 = .ok (.goto 6, 3) := by decide +kernel
theorem dX9_helped_23 : decode cX9_helped 23 = .ok (.sipush (-1002), 3) := by decide +kernel
theorem dX9_helped_26 : decode cX9_helped 26 = .ok (.ireturn, 1) := by decide +kernel
theorem dX9_fit_0 : decode cX9_fit 0 = .ok (.iload_n 1, 1) := by decide +kernel
theorem dX9_fit_1 : decode cX9_fit 1 = .ok (.invokestatic 118, 3) := by decide +kernel
theorem dX9_fit_4 : decode cX9_fit 4 = .ok (.ifCond .ne 7, 3) := by decide +kernel
theorem dX9_fit_7 : decode cX9_fit 7 = .ok (.sipush (-1002), 3) := by decide +kernel
theorem dX9_fit_10 : decode cX9_fit 10 = .ok (.ireturn, 1) := by decide +kernel
theorem dX9_fit_11 : decode cX9_fit 11 = .ok (.iconst 0, 1) := by decide +kernel
theorem dX9_fit_12 : decode cX9_fit 12 = .ok (.istore_n 3, 1) := by decide +kernel
theorem dX9_fit_13 : decode cX9_fit 13 = .ok (.iconst 0, 1) := by decide +kernel
theorem dX9_fit_14 : decode cX9_fit 14 = .ok (.istore 4, 2) := by decide +kernel
theorem dX9_fit_16 : decode cX9_fit 16 = .ok (.iload 4, 2) := by decide +kernel
theorem dX9_fit_18 : decode cX9_fit 18 = .ok (.sipush 1000, 3) := by decide +kernel
theorem dX9_fit_21 : decode cX9_fit 21 = .ok (.if_icmp .gt 32, 3) := by decide +kernel
theorem dX9_fit_24 : decode cX9_fit 24 = .ok (.aload_n 0, 1) := by decide +kernel
theorem dX9_fit_25 : decode cX9_fit 25 = .ok (.iload_n 1, 1) := by decide +kernel
theorem dX9_fit_26 : decode cX9_fit 26 = .ok (.iload 4, 2) := by decide +kernel
theorem dX9_fit_28 : decode cX9_fit 28 = .ok (.invokevirtual 146, 3) := by decide +kernel
theorem dX9_fit_31 : decode cX9_fit 31 = .ok (.iload 4, 2) := by decide +kernel
theorem dX9_fit_33 : decode cX9_fit 33 = .ok (.if_icmp .ne 14, 3) := by decide +kernel
theorem dX9_fit_36 : decode cX9_fit 36 = .ok (.iload_n 3, 1) := by decide +kernel
theorem dX9_fit_37 : decode cX9_fit 37 = .ok (.iload_n 2, 1) := by decide +kernel
theorem dX9_fit_38 : decode cX9_fit 38 = .ok (.if_icmp .ne 6, 3) := by decide +kernel
theorem dX9_fit_41 : decode cX9_fit 41 = .ok (.iload 4, 2) := by decide +kernel
theorem dX9_fit_43 : decode cX9_fit 43 = .ok (.ireturn, 1) := by decide +kernel
theorem dX9_fit_44 : decode cX9_fit 44 = .ok (.iinc 3 1, 3) := by decide +kernel
theorem dX9_fit_47 : decode cX9_fit 47 = .ok (.iinc 4 1, 3) := by decide +kernel
theorem dX9_fit_50 : decode cX9_fit 50 = .ok (.goto (-34), 3) := by decide +kernel
theorem dX9_fit_53 : decode cX9_fit 53 = .ok (.iload_n 2, 1) := by decide +kernel
theorem dX9_fit_54 : decode cX9_fit 54 = .ok (.iconst (-1), 1) := by decide +kernel
theorem dX9_fit_55 : decode cX9_fit 55 = .ok (.if_icmp .ne 7, 3) := by decide +kernel
theorem dX9_fit_58 : decode cX9_fit 58 = .ok (.iload_n 3, 1) := by decide +kernel
theorem dX9_fit_59 : decode cX9_fit 59 = .ok (.goto 4, 3) := by decide +kernel
theorem dX9_fit_62 : decode cX9_fit 62 = .ok (.iconst (-1), 1) := by decide +kernel
theorem dX9_fit_63 : decode cX9_fit 63 = .ok (.ireturn, 1) := by decide +kernel
theorem dX9_gcd_0 : decode cX9_gcd 0 = .ok (.lload_n 0, 1) := by decide +kernel
theorem dX9_gcd_1 : decode cX9_gcd 1 = .ok (.lconst 0, 1) := by decide +kernel
theorem dX9_gcd_2 : decode cX9_gcd 2 = .ok (.lcmp, 1) := by decide +kernel
theorem dX9_gcd_3 : decode cX9_gcd 3 = .ok (.ifCond .ge 9, 3) := by decide +kernel
theorem dX9_gcd_6 : decode cX9_gcd 6 = .ok (.lconst 0, 1) := by decide +kernel
theorem dX9_gcd_7 : decode cX9_gcd 7 = .ok (.lload_n 0, 1) := by decide +kernel
theorem dX9_gcd_8 : decode cX9_gcd 8 = .ok (.lsub, 1) := by decide +kernel
theorem dX9_gcd_9 : decode cX9_gcd 9 = .ok (.goto 4, 3) := by decide +kernel
theorem dX9_gcd_12 : decode cX9_gcd 12 = .ok (.lload_n 0, 1) := by decide +kernel
theorem dX9_gcd_13 : decode cX9_gcd 13 = .ok (.lstore 4, 2) := by decide +kernel
theorem dX9_gcd_15 : decode cX9_gcd 15 = .ok (.lload_n 2, 1) := by decide +kernel
theorem dX9_gcd_16 : decode cX9_gcd 16 = .ok (.lstore 6, 2) := by decide +kernel
theorem dX9_gcd_18 : decode cX9_gcd 18 = .ok (.lload 6, 2) := by decide +kernel
theorem dX9_gcd_20 : decode cX9_gcd 20 = .ok (.lconst 0, 1) := by decide +kernel
theorem dX9_gcd_21 : decode cX9_gcd 21 = .ok (.lcmp, 1) := by decide +kernel
theorem dX9_gcd_22 : decode cX9_gcd 22 = .ok (.ifCond .eq 21, 3) := by decide +kernel
theorem dX9_gcd_25 : decode cX9_gcd 25 = .ok (.lload 4, 2) := by decide +kernel
theorem dX9_gcd_27 : decode cX9_gcd 27 = .ok (.lload 6, 2) := by decide +kernel
theorem dX9_gcd_29 : decode cX9_gcd 29 = .ok (.lrem, 1) := by decide +kernel
theorem dX9_gcd_30 : decode cX9_gcd 30 = .ok (.lstore 8, 2) := by decide +kernel
theorem dX9_gcd_32 : decode cX9_gcd 32 = .ok (.lload 6, 2) := by decide +kernel
theorem dX9_gcd_34 : decode cX9_gcd 34 = .ok (.lstore 4, 2) := by decide +kernel
theorem dX9_gcd_36 : decode cX9_gcd 36 = .ok (.lload 8, 2) := by decide +kernel
theorem dX9_gcd_38 : decode cX9_gcd 38 = .ok (.lstore 6, 2) := by decide +kernel
theorem dX9_gcd_40 : decode cX9_gcd 40 = .ok (.goto (-22), 3) := by decide +kernel
theorem dX9_gcd_43 : decode cX9_gcd 43 = .ok (.lload 4, 2) := by decide +kernel
theorem dX9_gcd_45 : decode cX9_gcd 45 = .ok (.lreturn, 1) := by decide +kernel
theorem dX9_findOther_0 : decode cX9_findOther 0 = .ok (.lconst 0, 1) := by decide +kernel
theorem dX9_findOther_1 : decode cX9_findOther 1 = .ok (.lstore 4, 2) := by decide +kernel
theorem dX9_findOther_3 : decode cX9_findOther 3 = .ok (.lconst 0, 1) := by decide +kernel
theorem dX9_findOther_4 : decode cX9_findOther 4 = .ok (.lstore 6, 2) := by decide +kernel
theorem dX9_findOther_6 : decode cX9_findOther 6 = .ok (.iconst 0, 1) := by decide +kernel
theorem dX9_findOther_7 : decode cX9_findOther 7 = .ok (.istore 8, 2) := by decide +kernel
theorem dX9_findOther_9 : decode cX9_findOther 9 = .ok (.iload 8, 2) := by decide +kernel
theorem dX9_findOther_11 : decode cX9_findOther 11 = .ok (.iconst 2, 1) := by decide +kernel
theorem dX9_findOther_12 : decode cX9_findOther 12 = .ok (.if_icmp .ge 61, 3) := by decide +kernel
theorem dX9_findOther_15 : decode cX9_findOther 15 = .ok (.lload 4, 2) := by decide +kernel
theorem dX9_findOther_17 : decode cX9_findOther 17 = .ok (.iload 8, 2) := by decide +kernel
theorem dX9_findOther_19 : decode cX9_findOther 19 = .ok (.iload_n 3, 1) := by decide +kernel
theorem dX9_findOther_20 : decode cX9_findOther 20 = .ok (.invokestatic 135, 3) := by decide +kernel
theorem dX9_findOther_23 : decode cX9_findOther 23 = .ok (.i2l, 1) := by decide +kernel
theorem dX9_findOther_24 : decode cX9_findOther 24 = .ok (.aload_n 0, 1) := by decide +kernel
theorem dX9_findOther_25 : decode cX9_findOther 25 = .ok (.iload_n 2, 1) := by decide +kernel
theorem dX9_findOther_26 : decode cX9_findOther 26 = .ok (.iload_n 1, 1) := by decide +kernel
theorem dX9_findOther_27 : decode cX9_findOther 27 = .ok (.bipush 16, 2) := by decide +kernel
theorem dX9_findOther_29 : decode cX9_findOther 29 = .ok (.idiv, 1) := by decide +kernel
theorem dX9_findOther_30 : decode cX9_findOther 30 = .ok (.iconst 1, 1) := by decide +kernel
theorem dX9_findOther_31 : decode cX9_findOther 31 = .ok (.iload 8, 2) := by decide +kernel
theorem dX9_findOther_33 : decode cX9_findOther 33 = .ok (.invokevirtual 138, 3) := by decide +kernel
theorem dX9_findOther_36 : decode cX9_findOther 36 = .ok (.i2l, 1) := by decide +kernel
theorem dX9_findOther_37 : decode cX9_findOther 37 = .ok (.lmul, 1) := by decide +kernel
theorem dX9_findOther_38 : decode cX9_findOther 38 = .ok (.ladd, 1) := by decide +kernel
theorem dX9_findOther_39 : decode cX9_findOther 39 = .ok (.lstore 4, 2) := by decide +kernel
theorem dX9_findOther_41 : decode cX9_findOther 41 = .ok (.lload 6, 2) := by decide +kernel
theorem dX9_findOther_43 : decode cX9_findOther 43 = .ok (.iload 8, 2) := by decide +kernel
theorem dX9_findOther_45 : decode cX9_findOther 45 = .ok (.iload_n 3, 1) := by decide +kernel
theorem dX9_findOther_46 : decode cX9_findOther 46 = .ok (.invokestatic 135, 3) := by decide +kernel
theorem dX9_findOther_49 : decode cX9_findOther 49 = .ok (.i2l, 1) := by decide +kernel
theorem dX9_findOther_50 : decode cX9_findOther 50 = .ok (.aload_n 0, 1) := by decide +kernel
theorem dX9_findOther_51 : decode cX9_findOther 51 = .ok (.iload_n 2, 1) := by decide +kernel
theorem dX9_findOther_52 : decode cX9_findOther 52 = .ok (.iload_n 1, 1) := by decide +kernel
theorem dX9_findOther_53 : decode cX9_findOther 53 = .ok (.bipush 16, 2) := by decide +kernel
theorem dX9_findOther_55 : decode cX9_findOther 55 = .ok (.idiv, 1) := by decide +kernel
theorem dX9_findOther_56 : decode cX9_findOther 56 = .ok (.iconst 0, 1) := by decide +kernel
theorem dX9_findOther_57 : decode cX9_findOther 57 = .ok (.iload 8, 2) := by decide +kernel
theorem dX9_findOther_59 : decode cX9_findOther 59 = .ok (.invokevirtual 138, 3) := by decide +kernel
theorem dX9_findOther_62 : decode cX9_findOther 62 = .ok (.i2l, 1) := by decide +kernel
theorem dX9_findOther_63 : decode cX9_findOther 63 = .ok (.lmul, 1) := by decide +kernel
theorem dX9_findOther_64 : decode cX9_findOther 64 = .ok (.ladd, 1) := by decide +kernel
theorem dX9_findOther_65 : decode cX9_findOther 65 = .ok (.lstore 6, 2) := by decide +kernel
theorem dX9_findOther_67 : decode cX9_findOther 67 = .ok (.iinc 8 1, 3) := by decide +kernel
theorem dX9_findOther_70 : decode cX9_findOther 70 = .ok (.goto (-61), 3) := by decide +kernel
theorem dX9_findOther_73 : decode cX9_findOther 73 = .ok (.ldc2_w 141, 3) := by decide +kernel
theorem dX9_findOther_76 : decode cX9_findOther 76 = .ok (.lload 4, 2) := by decide +kernel
theorem dX9_findOther_78 : decode cX9_findOther 78 = .ok (.lsub, 1) := by decide +kernel
theorem dX9_findOther_79 : decode cX9_findOther 79 = .ok (.lload 6, 2) := by decide +kernel
theorem dX9_findOther_81 : decode cX9_findOther 81 = .ok (.ladd, 1) := by decide +kernel
theorem dX9_findOther_82 : decode cX9_findOther 82 = .ok (.lstore 8, 2) := by decide +kernel
theorem dX9_findOther_84 : decode cX9_findOther 84 = .ok (.lload 8, 2) := by decide +kernel
theorem dX9_findOther_86 : decode cX9_findOther 86 = .ok (.lconst 0, 1) := by decide +kernel
theorem dX9_findOther_87 : decode cX9_findOther 87 = .ok (.lcmp, 1) := by decide +kernel
theorem dX9_findOther_88 : decode cX9_findOther 88 = .ok (.ifCond .ne 7, 3) := by decide +kernel
theorem dX9_findOther_91 : decode cX9_findOther 91 = .ok (.lconst 1, 1) := by decide +kernel
theorem dX9_findOther_92 : decode cX9_findOther 92 = .ok (.goto 10, 3) := by decide +kernel
theorem dX9_findOther_95 : decode cX9_findOther 95 = .ok (.lload 6, 2) := by decide +kernel
theorem dX9_findOther_97 : decode cX9_findOther 97 = .ok (.lload 8, 2) := by decide +kernel
theorem dX9_findOther_99 : decode cX9_findOther 99 = .ok (.invokestatic 167, 3) := by decide +kernel
theorem dX9_findOther_102 : decode cX9_findOther 102 = .ok (.lstore 10, 2) := by decide +kernel
theorem dX9_findOther_104 : decode cX9_findOther 104 = .ok (.aload_n 0, 1) := by decide +kernel
theorem dX9_findOther_105 : decode cX9_findOther 105 = .ok (.lload 8, 2) := by decide +kernel
theorem dX9_findOther_107 : decode cX9_findOther 107 = .ok (.lconst 0, 1) := by decide +kernel
theorem dX9_findOther_108 : decode cX9_findOther 108 = .ok (.lcmp, 1) := by decide +kernel
theorem dX9_findOther_109 : decode cX9_findOther 109 = .ok (.ifCond .ne 7, 3) := by decide +kernel
theorem dX9_findOther_112 : decode cX9_findOther 112 = .ok (.lconst 0, 1) := by decide +kernel
theorem dX9_findOther_113 : decode cX9_findOther 113 = .ok (.goto 8, 3) := by decide +kernel
theorem dX9_findOther_116 : decode cX9_findOther 116 = .ok (.lload 6, 2) := by decide +kernel
theorem dX9_findOther_118 : decode cX9_findOther 118 = .ok (.lload 10, 2) := by decide +kernel
theorem dX9_findOther_120 : decode cX9_findOther 120 = .ok (.ldiv, 1) := by decide +kernel
theorem dX9_findOther_121 : decode cX9_findOther 121 = .ok (.putfield 171, 3) := by decide +kernel
theorem dX9_findOther_124 : decode cX9_findOther 124 = .ok (.aload_n 0, 1) := by decide +kernel
theorem dX9_findOther_125 : decode cX9_findOther 125 = .ok (.lload 8, 2) := by decide +kernel
theorem dX9_findOther_127 : decode cX9_findOther 127 = .ok (.lconst 0, 1) := by decide +kernel
theorem dX9_findOther_128 : decode cX9_findOther 128 = .ok (.lcmp, 1) := by decide +kernel
theorem dX9_findOther_129 : decode cX9_findOther 129 = .ok (.ifCond .ne 7, 3) := by decide +kernel
theorem dX9_findOther_132 : decode cX9_findOther 132 = .ok (.lconst 1, 1) := by decide +kernel
theorem dX9_findOther_133 : decode cX9_findOther 133 = .ok (.goto 8, 3) := by decide +kernel
theorem dX9_findOther_136 : decode cX9_findOther 136 = .ok (.lload 8, 2) := by decide +kernel
theorem dX9_findOther_138 : decode cX9_findOther 138 = .ok (.lload 10, 2) := by decide +kernel
theorem dX9_findOther_140 : decode cX9_findOther 140 = .ok (.ldiv, 1) := by decide +kernel
theorem dX9_findOther_141 : decode cX9_findOther 141 = .ok (.putfield 175, 3) := by decide +kernel
theorem dX9_findOther_144 : decode cX9_findOther 144 = .ok (.lconst 0, 1) := by decide +kernel
theorem dX9_findOther_145 : decode cX9_findOther 145 = .ok (.lstore 12, 2) := by decide +kernel
theorem dX9_findOther_147 : decode cX9_findOther 147 = .ok (.lconst 0, 1) := by decide +kernel
theorem dX9_findOther_148 : decode cX9_findOther 148 = .ok (.lstore 14, 2) := by decide +kernel
theorem dX9_findOther_150 : decode cX9_findOther 150 = .ok (.iconst 0, 1) := by decide +kernel
theorem dX9_findOther_151 : decode cX9_findOther 151 = .ok (.istore 16, 2) := by decide +kernel
theorem dX9_findOther_153 : decode cX9_findOther 153 = .ok (.iload 16, 2) := by decide +kernel
theorem dX9_findOther_155 : decode cX9_findOther 155 = .ok (.iconst 2, 1) := by decide +kernel
theorem dX9_findOther_156 : decode cX9_findOther 156 = .ok (.if_icmp .ge 123, 3) := by decide +kernel
theorem dX9_findOther_159 : decode cX9_findOther 159 = .ok (.iconst 0, 1) := by decide +kernel
theorem dX9_findOther_160 : decode cX9_findOther 160 = .ok (.istore 17, 2) := by decide +kernel
theorem dX9_findOther_162 : decode cX9_findOther 162 = .ok (.iload 17, 2) := by decide +kernel
theorem dX9_findOther_164 : decode cX9_findOther 164 = .ok (.iconst 2, 1) := by decide +kernel
theorem dX9_findOther_165 : decode cX9_findOther 165 = .ok (.if_icmp .ge 108, 3) := by decide +kernel
theorem dX9_findOther_168 : decode cX9_findOther 168 = .ok (.iload 17, 2) := by decide +kernel
theorem dX9_findOther_170 : decode cX9_findOther 170 = .ok (.iconst 1, 1) := by decide +kernel
theorem dX9_findOther_171 : decode cX9_findOther 171 = .ok (.if_icmp .ne 10, 3) := by decide +kernel
theorem dX9_findOther_174 : decode cX9_findOther 174 = .ok (.aload_n 0, 1) := by decide +kernel
theorem dX9_findOther_175 : decode cX9_findOther 175 = .ok (.getfield 171, 3) := by decide +kernel
theorem dX9_findOther_178 : decode cX9_findOther 178 = .ok (.goto 12, 3) := by decide +kernel
theorem dX9_findOther_181 : decode cX9_findOther 181 = .ok (.aload_n 0, 1) := by decide +kernel
theorem dX9_findOther_182 : decode cX9_findOther 182 = .ok (.getfield 175, 3) := by decide +kernel
theorem dX9_findOther_185 : decode cX9_findOther 185 = .ok (.aload_n 0, 1) := by decide +kernel
theorem dX9_findOther_186 : decode cX9_findOther 186 = .ok (.getfield 171, 3) := by decide +kernel
theorem dX9_findOther_189 : decode cX9_findOther 189 = .ok (.lsub, 1) := by decide +kernel
theorem dX9_findOther_190 : decode cX9_findOther 190 = .ok (.lstore 18, 2) := by decide +kernel
theorem dX9_findOther_192 : decode cX9_findOther 192 = .ok (.lload 12, 2) := by decide +kernel
theorem dX9_findOther_194 : decode cX9_findOther 194 = .ok (.iload_n 1, 1) := by decide +kernel
theorem dX9_findOther_195 : decode cX9_findOther 195 = .ok (.bipush 16, 2) := by decide +kernel
theorem dX9_findOther_197 : decode cX9_findOther 197 = .ok (.irem, 1) := by decide +kernel
theorem dX9_findOther_198 : decode cX9_findOther 198 = .ok (.iload 16, 2) := by decide +kernel
theorem dX9_findOther_200 : decode cX9_findOther 200 = .ok (.iload 17, 2) := by decide +kernel
theorem dX9_findOther_202 : decode cX9_findOther 202 = .ok (.invokestatic 127, 3) := by decide +kernel
theorem dX9_findOther_205 : decode cX9_findOther 205 = .ok (.iload 16, 2) := by decide +kernel
theorem dX9_findOther_207 : decode cX9_findOther 207 = .ok (.iload_n 3, 1) := by decide +kernel
theorem dX9_findOther_208 : decode cX9_findOther 208 = .ok (.invokestatic 135, 3) := by decide +kernel
theorem dX9_findOther_211 : decode cX9_findOther 211 = .ok (.imul, 1) := by decide +kernel
theorem dX9_findOther_212 : decode cX9_findOther 212 = .ok (.i2l, 1) := by decide +kernel
theorem dX9_findOther_213 : decode cX9_findOther 213 = .ok (.lload 18, 2) := by decide +kernel
theorem dX9_findOther_215 : decode cX9_findOther 215 = .ok (.lmul, 1) := by decide +kernel
theorem dX9_findOther_216 : decode cX9_findOther 216 = .ok (.ladd, 1) := by decide +kernel
theorem dX9_findOther_217 : decode cX9_findOther 217 = .ok (.lstore 12, 2) := by decide +kernel
theorem dX9_findOther_219 : decode cX9_findOther 219 = .ok (.iload 16, 2) := by decide +kernel
theorem dX9_findOther_221 : decode cX9_findOther 221 = .ok (.iconst 1, 1) := by decide +kernel
theorem dX9_findOther_222 : decode cX9_findOther 222 = .ok (.if_icmp .ne 10, 3) := by decide +kernel
theorem dX9_findOther_225 : decode cX9_findOther 225 = .ok (.aload_n 0, 1) := by decide +kernel
theorem dX9_findOther_226 : decode cX9_findOther 226 = .ok (.getfield 171, 3) := by decide +kernel
theorem dX9_findOther_229 : decode cX9_findOther 229 = .ok (.goto 12, 3) := by decide +kernel
theorem dX9_findOther_232 : decode cX9_findOther 232 = .ok (.aload_n 0, 1) := by decide +kernel
theorem dX9_findOther_233 : decode cX9_findOther 233 = .ok (.getfield 175, 3) := by decide +kernel
theorem dX9_findOther_236 : decode cX9_findOther 236 = .ok (.aload_n 0, 1) := by decide +kernel
theorem dX9_findOther_237 : decode cX9_findOther 237 = .ok (.getfield 171, 3) := by decide +kernel
theorem dX9_findOther_240 : decode cX9_findOther 240 = .ok (.lsub, 1) := by decide +kernel
theorem dX9_findOther_241 : decode cX9_findOther 241 = .ok (.lstore 20, 2) := by decide +kernel
theorem dX9_findOther_243 : decode cX9_findOther 243 = .ok (.lload 14, 2) := by decide +kernel
theorem dX9_findOther_245 : decode cX9_findOther 245 = .ok (.iload_n 2, 1) := by decide +kernel
theorem dX9_findOther_246 : decode cX9_findOther 246 = .ok (.iload 16, 2) := by decide +kernel
theorem dX9_findOther_248 : decode cX9_findOther 248 = .ok (.iload 17, 2) := by decide +kernel
theorem dX9_findOther_250 : decode cX9_findOther 250 = .ok (.invokestatic 127, 3) := by decide +kernel
theorem dX9_findOther_253 : decode cX9_findOther 253 = .ok (.iload 17, 2) := by decide +kernel
theorem dX9_findOther_255 : decode cX9_findOther 255 = .ok (.iload_n 3, 1) := by decide +kernel
theorem dX9_findOther_256 : decode cX9_findOther 256 = .ok (.invokestatic 135, 3) := by decide +kernel
theorem dX9_findOther_259 : decode cX9_findOther 259 = .ok (.imul, 1) := by decide +kernel
theorem dX9_findOther_260 : decode cX9_findOther 260 = .ok (.i2l, 1) := by decide +kernel
theorem dX9_findOther_261 : decode cX9_findOther 261 = .ok (.lload 20, 2) := by decide +kernel
theorem dX9_findOther_263 : decode cX9_findOther 263 = .ok (.lmul, 1) := by decide +kernel
theorem dX9_findOther_264 : decode cX9_findOther 264 = .ok (.ladd, 1) := by decide +kernel
theorem dX9_findOther_265 : decode cX9_findOther 265 = .ok (.lstore 14, 2) := by decide +kernel
theorem dX9_findOther_267 : decode cX9_findOther 267 = .ok (.iinc 17 1, 3) := by decide +kernel
theorem dX9_findOther_270 : decode cX9_findOther 270 = .ok (.goto (-108), 3) := by decide +kernel
theorem dX9_findOther_273 : decode cX9_findOther 273 = .ok (.iinc 16 1, 3) := by decide +kernel
theorem dX9_findOther_276 : decode cX9_findOther 276 = .ok (.goto (-123), 3) := by decide +kernel
theorem dX9_findOther_279 : decode cX9_findOther 279 = .ok (.aload_n 0, 1) := by decide +kernel
theorem dX9_findOther_280 : decode cX9_findOther 280 = .ok (.getfield 7, 3) := by decide +kernel
theorem dX9_findOther_283 : decode cX9_findOther 283 = .ok (.iconst 1, 1) := by decide +kernel
theorem dX9_findOther_284 : decode cX9_findOther 284 = .ok (.iaload, 1) := by decide +kernel
theorem dX9_findOther_285 : decode cX9_findOther 285 = .ok (.i2l, 1) := by decide +kernel
theorem dX9_findOther_286 : decode cX9_findOther 286 = .ok (.lload 12, 2) := by decide +kernel
theorem dX9_findOther_288 : decode cX9_findOther 288 = .ok (.lmul, 1) := by decide +kernel
theorem dX9_findOther_289 : decode cX9_findOther 289 = .ok (.aload_n 0, 1) := by decide +kernel
theorem dX9_findOther_290 : decode cX9_findOther 290 = .ok (.getfield 7, 3) := by decide +kernel
theorem dX9_findOther_293 : decode cX9_findOther 293 = .ok (.iconst 0, 1) := by decide +kernel
theorem dX9_findOther_294 : decode cX9_findOther 294 = .ok (.iaload, 1) := by decide +kernel
theorem dX9_findOther_295 : decode cX9_findOther 295 = .ok (.i2l, 1) := by decide +kernel
theorem dX9_findOther_296 : decode cX9_findOther 296 = .ok (.lload 14, 2) := by decide +kernel
theorem dX9_findOther_298 : decode cX9_findOther 298 = .ok (.lmul, 1) := by decide +kernel
theorem dX9_findOther_299 : decode cX9_findOther 299 = .ok (.lsub, 1) := by decide +kernel
theorem dX9_findOther_300 : decode cX9_findOther 300 = .ok (.bipush 100, 2) := by decide +kernel
theorem dX9_findOther_302 : decode cX9_findOther 302 = .ok (.aload_n 0, 1) := by decide +kernel
theorem dX9_findOther_303 : decode cX9_findOther 303 = .ok (.getfield 7, 3) := by decide +kernel
theorem dX9_findOther_306 : decode cX9_findOther 306 = .ok (.iconst 2, 1) := by decide +kernel
theorem dX9_findOther_307 : decode cX9_findOther 307 = .ok (.iaload, 1) := by decide +kernel
theorem dX9_findOther_308 : decode cX9_findOther 308 = .ok (.isub, 1) := by decide +kernel
theorem dX9_findOther_309 : decode cX9_findOther 309 = .ok (.i2l, 1) := by decide +kernel
theorem dX9_findOther_310 : decode cX9_findOther 310 = .ok (.lmul, 1) := by decide +kernel
theorem dX9_findOther_311 : decode cX9_findOther 311 = .ok (.lstore 16, 2) := by decide +kernel
theorem dX9_findOther_313 : decode cX9_findOther 313 = .ok (.aload_n 0, 1) := by decide +kernel
theorem dX9_findOther_314 : decode cX9_findOther 314 = .ok (.getfield 175, 3) := by decide +kernel
theorem dX9_findOther_317 : decode cX9_findOther 317 = .ok (.ldc2_w 43, 3) := by decide +kernel
theorem dX9_findOther_320 : decode cX9_findOther 320 = .ok (.lmul, 1) := by decide +kernel
theorem dX9_findOther_321 : decode cX9_findOther 321 = .ok (.ldc2_w 178, 3) := by decide +kernel
theorem dX9_findOther_324 : decode cX9_findOther 324 = .ok (.lmul, 1) := by decide +kernel
theorem dX9_findOther_325 : decode cX9_findOther 325 = .ok (.lstore 18, 2) := by decide +kernel
theorem dX9_findOther_327 : decode cX9_findOther 327 = .ok (.lload 16, 2) := by decide +kernel
theorem dX9_findOther_329 : decode cX9_findOther 329 = .ok (.lload 18, 2) := by decide +kernel
theorem dX9_findOther_331 : decode cX9_findOther 331 = .ok (.invokestatic 167, 3) := by decide +kernel
theorem dX9_findOther_334 : decode cX9_findOther 334 = .ok (.lstore 20, 2) := by decide +kernel
theorem dX9_findOther_336 : decode cX9_findOther 336 = .ok (.aload_n 0, 1) := by decide +kernel
theorem dX9_findOther_337 : decode cX9_findOther 337 = .ok (.lload 16, 2) := by decide +kernel
theorem dX9_findOther_339 : decode cX9_findOther 339 = .ok (.lload 20, 2) := by decide +kernel
theorem dX9_findOther_341 : decode cX9_findOther 341 = .ok (.ldiv, 1) := by decide +kernel
theorem dX9_findOther_342 : decode cX9_findOther 342 = .ok (.putfield 180, 3) := by decide +kernel
theorem dX9_findOther_345 : decode cX9_findOther 345 = .ok (.aload_n 0, 1) := by decide +kernel
theorem dX9_findOther_346 : decode cX9_findOther 346 = .ok (.lload 18, 2) := by decide +kernel
theorem dX9_findOther_348 : decode cX9_findOther 348 = .ok (.lload 20, 2) := by decide +kernel
theorem dX9_findOther_350 : decode cX9_findOther 350 = .ok (.ldiv, 1) := by decide +kernel
theorem dX9_findOther_351 : decode cX9_findOther 351 = .ok (.putfield 183, 3) := by decide +kernel
theorem dX9_findOther_354 : decode cX9_findOther 354 = .ok (.return_, 1) := by decide +kernel
theorem dX9_other_0 : decode cX9_other 0 = .ok (.iload_n 1, 1) := by decide +kernel
theorem dX9_other_1 : decode cX9_other 1 = .ok (.invokestatic 118, 3) := by decide +kernel
theorem dX9_other_4 : decode cX9_other 4 = .ok (.ifCond .eq 35, 3) := by decide +kernel
theorem dX9_other_7 : decode cX9_other 7 = .ok (.iload_n 2, 1) := by decide +kernel
theorem dX9_other_8 : decode cX9_other 8 = .ok (.i2l, 1) := by decide +kernel
theorem dX9_other_9 : decode cX9_other 9 = .ok (.lconst 0, 1) := by decide +kernel
theorem dX9_other_10 : decode cX9_other 10 = .ok (.ldc2_w 186, 3) := by decide +kernel
theorem dX9_other_13 : decode cX9_other 13 = .ok (.invokestatic 39, 3) := by decide +kernel
theorem dX9_other_16 : decode cX9_other 16 = .ok (.ifCond .eq 23, 3) := by decide +kernel
theorem dX9_other_19 : decode cX9_other 19 = .ok (.iload_n 3, 1) := by decide +kernel
theorem dX9_other_20 : decode cX9_other 20 = .ok (.invokestatic 143, 3) := by decide +kernel
theorem dX9_other_23 : decode cX9_other 23 = .ok (.ifCond .eq 16, 3) := by decide +kernel
theorem dX9_other_26 : decode cX9_other 26 = .ok (.iload 4, 2) := by decide +kernel
theorem dX9_other_28 : decode cX9_other 28 = .ok (.i2l, 1) := by decide +kernel
theorem dX9_other_29 : decode cX9_other 29 = .ok (.lconst 0, 1) := by decide +kernel
theorem dX9_other_30 : decode cX9_other 30 = .ok (.ldc2_w 188, 3) := by decide +kernel
theorem dX9_other_33 : decode cX9_other 33 = .ok (.invokestatic 39, 3) := by decide +kernel
theorem dX9_other_36 : decode cX9_other 36 = .ok (.ifCond .ne 7, 3) := by decide +kernel
theorem dX9_other_39 : decode cX9_other 39 = .ok (.ldc2_w 190, 3) := by decide +kernel
theorem dX9_other_42 : decode cX9_other 42 = .ok (.lreturn, 1) := by decide +kernel
theorem dX9_other_43 : decode cX9_other 43 = .ok (.aload_n 0, 1) := by decide +kernel
theorem dX9_other_44 : decode cX9_other 44 = .ok (.iload_n 1, 1) := by decide +kernel
theorem dX9_other_45 : decode cX9_other 45 = .ok (.iload_n 2, 1) := by decide +kernel
theorem dX9_other_46 : decode cX9_other 46 = .ok (.iload_n 3, 1) := by decide +kernel
theorem dX9_other_47 : decode cX9_other 47 = .ok (.invokevirtual 192, 3) := by decide +kernel
theorem dX9_other_50 : decode cX9_other 50 = .ok (.iload 4, 2) := by decide +kernel
theorem dX9_other_52 : decode cX9_other 52 = .ok (.ifCond .ne 10, 3) := by decide +kernel
theorem dX9_other_55 : decode cX9_other 55 = .ok (.aload_n 0, 1) := by decide +kernel
theorem dX9_other_56 : decode cX9_other 56 = .ok (.getfield 171, 3) := by decide +kernel
theorem dX9_other_59 : decode cX9_other 59 = .ok (.goto 33, 3) := by decide +kernel
theorem dX9_other_62 : decode cX9_other 62 = .ok (.iload 4, 2) := by decide +kernel
theorem dX9_other_64 : decode cX9_other 64 = .ok (.iconst 1, 1) := by decide +kernel
theorem dX9_other_65 : decode cX9_other 65 = .ok (.if_icmp .ne 10, 3) := by decide +kernel
theorem dX9_other_68 : decode cX9_other 68 = .ok (.aload_n 0, 1) := by decide +kernel
theorem dX9_other_69 : decode cX9_other 69 = .ok (.getfield 175, 3) := by decide +kernel
theorem dX9_other_72 : decode cX9_other 72 = .ok (.goto 20, 3) := by decide +kernel
theorem dX9_other_75 : decode cX9_other 75 = .ok (.iload 4, 2) := by decide +kernel
theorem dX9_other_77 : decode cX9_other 77 = .ok (.iconst 2, 1) := by decide +kernel
theorem dX9_other_78 : decode cX9_other 78 = .ok (.if_icmp .ne 10, 3) := by decide +kernel
theorem dX9_other_81 : decode cX9_other 81 = .ok (.aload_n 0, 1) := by decide +kernel
theorem dX9_other_82 : decode cX9_other 82 = .ok (.getfield 180, 3) := by decide +kernel
theorem dX9_other_85 : decode cX9_other 85 = .ok (.goto 7, 3) := by decide +kernel
theorem dX9_other_88 : decode cX9_other 88 = .ok (.aload_n 0, 1) := by decide +kernel
theorem dX9_other_89 : decode cX9_other 89 = .ok (.getfield 183, 3) := by decide +kernel
theorem dX9_other_92 : decode cX9_other 92 = .ok (.lreturn, 1) := by decide +kernel
theorem dX9_compare_0 : decode cX9_compare 0 = .ok (.lload_n 0, 1) := by decide +kernel
theorem dX9_compare_1 : decode cX9_compare 1 = .ok (.lstore 8, 2) := by decide +kernel
theorem dX9_compare_3 : decode cX9_compare 3 = .ok (.lload_n 2, 1) := by decide +kernel
theorem dX9_compare_4 : decode cX9_compare 4 = .ok (.lstore 10, 2) := by decide +kernel
theorem dX9_compare_6 : decode cX9_compare 6 = .ok (.lload 4, 2) := by decide +kernel
theorem dX9_compare_8 : decode cX9_compare 8 = .ok (.lstore 12, 2) := by decide +kernel
theorem dX9_compare_10 : decode cX9_compare 10 = .ok (.lload 6, 2) := by decide +kernel
theorem dX9_compare_12 : decode cX9_compare 12 = .ok (.lstore 14, 2) := by decide +kernel
theorem dX9_compare_14 : decode cX9_compare 14 = .ok (.iconst 1, 1) := by decide +kernel
theorem dX9_compare_15 : decode cX9_compare 15 = .ok (.istore 16, 2) := by decide +kernel
theorem dX9_compare_17 : decode cX9_compare 17 = .ok (.lload 10, 2) := by decide +kernel
theorem dX9_compare_19 : decode cX9_compare 19 = .ok (.lconst 0, 1) := by decide +kernel
theorem dX9_compare_20 : decode cX9_compare 20 = .ok (.lcmp, 1) := by decide +kernel
theorem dX9_compare_21 : decode cX9_compare 21 = .ok (.ifCond .eq 99, 3) := by decide +kernel
theorem dX9_compare_24 : decode cX9_compare 24 = .ok (.lload 14, 2) := by decide +kernel
theorem dX9_compare_26 : decode cX9_compare 26 = .ok (.lconst 0, 1) := by decide +kernel
theorem dX9_compare_27 : decode cX9_compare 27 = .ok (.lcmp, 1) := by decide +kernel
theorem dX9_compare_28 : decode cX9_compare 28 = .ok (.ifCond .eq 92, 3) := by decide +kernel
theorem dX9_compare_31 : decode cX9_compare 31 = .ok (.lload 8, 2) := by decide +kernel
theorem dX9_compare_33 : decode cX9_compare 33 = .ok (.lload 10, 2) := by decide +kernel
theorem dX9_compare_35 : decode cX9_compare 35 = .ok (.invokestatic 196, 3) := by decide +kernel
theorem dX9_compare_38 : decode cX9_compare 38 = .ok (.lstore 17, 2) := by decide +kernel
theorem dX9_compare_40 : decode cX9_compare 40 = .ok (.lload 12, 2) := by decide +kernel
theorem dX9_compare_42 : decode cX9_compare 42 = .ok (.lload 14, 2) := by decide +kernel
theorem dX9_compare_44 : decode cX9_compare 44 = .ok (.invokestatic 196, 3) := by decide +kernel
theorem dX9_compare_47 : decode cX9_compare 47 = .ok (.lstore 19, 2) := by decide +kernel
theorem dX9_compare_49 : decode cX9_compare 49 = .ok (.lload 17, 2) := by decide +kernel
theorem dX9_compare_51 : decode cX9_compare 51 = .ok (.lload 19, 2) := by decide +kernel
theorem dX9_compare_53 : decode cX9_compare 53 = .ok (.lcmp, 1) := by decide +kernel
theorem dX9_compare_54 : decode cX9_compare 54 = .ok (.ifCond .eq 21, 3) := by decide +kernel
theorem dX9_compare_57 : decode cX9_compare 57 = .ok (.lload 17, 2) := by decide +kernel
theorem dX9_compare_59 : decode cX9_compare 59 = .ok (.lload 19, 2) := by decide +kernel
theorem dX9_compare_61 : decode cX9_compare 61 = .ok (.lcmp, 1) := by decide +kernel
theorem dX9_compare_62 : decode cX9_compare 62 = .ok (.ifCond .ge 10, 3) := by decide +kernel
theorem dX9_compare_65 : decode cX9_compare 65 = .ok (.iconst 0, 1) := by decide +kernel
theorem dX9_compare_66 : decode cX9_compare 66 = .ok (.iload 16, 2) := by decide +kernel
theorem dX9_compare_68 : decode cX9_compare 68 = .ok (.isub, 1) := by decide +kernel
theorem dX9_compare_69 : decode cX9_compare 69 = .ok (.goto 5, 3) := by decide +kernel
theorem dX9_compare_72 : decode cX9_compare 72 = .ok (.iload 16, 2) := by decide +kernel
theorem dX9_compare_74 : decode cX9_compare 74 = .ok (.ireturn, 1) := by decide +kernel
theorem dX9_compare_75 : decode cX9_compare 75 = .ok (.lload 8, 2) := by decide +kernel
theorem dX9_compare_77 : decode cX9_compare 77 = .ok (.lload 17, 2) := by decide +kernel
theorem dX9_compare_79 : decode cX9_compare 79 = .ok (.lload 10, 2) := by decide +kernel
theorem dX9_compare_81 : decode cX9_compare 81 = .ok (.lmul, 1) := by decide +kernel
theorem dX9_compare_82 : decode cX9_compare 82 = .ok (.lsub, 1) := by decide +kernel
theorem dX9_compare_83 : decode cX9_compare 83 = .ok (.lstore 21, 2) := by decide +kernel
theorem dX9_compare_85 : decode cX9_compare 85 = .ok (.lload 12, 2) := by decide +kernel
theorem dX9_compare_87 : decode cX9_compare 87 = .ok (.lload 19, 2) := by decide +kernel
theorem dX9_compare_89 : decode cX9_compare 89 = .ok (.lload 14, 2) := by decide +kernel
theorem dX9_compare_91 : decode cX9_compare 91 = .ok (.lmul, 1) := by decide +kernel
theorem dX9_compare_92 : decode cX9_compare 92 = .ok (.lsub, 1) := by decide +kernel
theorem dX9_compare_93 : decode cX9_compare 93 = .ok (.lstore 23, 2) := by decide +kernel
theorem dX9_compare_95 : decode cX9_compare 95 = .ok (.lload 10, 2) := by decide +kernel
theorem dX9_compare_97 : decode cX9_compare 97 = .ok (.lstore 8, 2) := by decide +kernel
theorem dX9_compare_99 : decode cX9_compare 99 = .ok (.lload 21, 2) := by decide +kernel
theorem dX9_compare_101 : decode cX9_compare 101 = .ok (.lstore 10, 2) := by decide +kernel
theorem dX9_compare_103 : decode cX9_compare 103 = .ok (.lload 14, 2) := by decide +kernel
theorem dX9_compare_105 : decode cX9_compare 105 = .ok (.lstore 12, 2) := by decide +kernel
theorem dX9_compare_107 : decode cX9_compare 107 = .ok (.lload 23, 2) := by decide +kernel
theorem dX9_compare_109 : decode cX9_compare 109 = .ok (.lstore 14, 2) := by decide +kernel
theorem dX9_compare_111 : decode cX9_compare 111 = .ok (.iconst 0, 1) := by decide +kernel
theorem dX9_compare_112 : decode cX9_compare 112 = .ok (.iload 16, 2) := by decide +kernel
theorem dX9_compare_114 : decode cX9_compare 114 = .ok (.isub, 1) := by decide +kernel
theorem dX9_compare_115 : decode cX9_compare 115 = .ok (.istore 16, 2) := by decide +kernel
theorem dX9_compare_117 : decode cX9_compare 117 = .ok (.goto (-100), 3) := by decide +kernel
theorem dX9_compare_120 : decode cX9_compare 120 = .ok (.lload 10, 2) := by decide +kernel
theorem dX9_compare_122 : decode cX9_compare 122 = .ok (.lload 14, 2) := by decide +kernel
theorem dX9_compare_124 : decode cX9_compare 124 = .ok (.lcmp, 1) := by decide +kernel
theorem dX9_compare_125 : decode cX9_compare 125 = .ok (.ifCond .ne 7, 3) := by decide +kernel
theorem dX9_compare_128 : decode cX9_compare 128 = .ok (.iconst 0, 1) := by decide +kernel
theorem dX9_compare_129 : decode cX9_compare 129 = .ok (.goto 19, 3) := by decide +kernel
theorem dX9_compare_132 : decode cX9_compare 132 = .ok (.lload 10, 2) := by decide +kernel
theorem dX9_compare_134 : decode cX9_compare 134 = .ok (.lconst 0, 1) := by decide +kernel
theorem dX9_compare_135 : decode cX9_compare 135 = .ok (.lcmp, 1) := by decide +kernel
theorem dX9_compare_136 : decode cX9_compare 136 = .ok (.ifCond .ne 8, 3) := by decide +kernel
theorem dX9_compare_139 : decode cX9_compare 139 = .ok (.iload 16, 2) := by decide +kernel
theorem dX9_compare_141 : decode cX9_compare 141 = .ok (.goto 7, 3) := by decide +kernel
theorem dX9_compare_144 : decode cX9_compare 144 = .ok (.iconst 0, 1) := by decide +kernel
theorem dX9_compare_145 : decode cX9_compare 145 = .ok (.iload 16, 2) := by decide +kernel
theorem dX9_compare_147 : decode cX9_compare 147 = .ok (.isub, 1) := by decide +kernel
theorem dX9_compare_148 : decode cX9_compare 148 = .ok (.ireturn, 1) := by decide +kernel
theorem dX9_floor_0 : decode cX9_floor 0 = .ok (.lload_n 0, 1) := by decide +kernel
theorem dX9_floor_1 : decode cX9_floor 1 = .ok (.lload_n 2, 1) := by decide +kernel
theorem dX9_floor_2 : decode cX9_floor 2 = .ok (.ldiv, 1) := by decide +kernel
theorem dX9_floor_3 : decode cX9_floor 3 = .ok (.lstore 4, 2) := by decide +kernel
theorem dX9_floor_5 : decode cX9_floor 5 = .ok (.lload_n 0, 1) := by decide +kernel
theorem dX9_floor_6 : decode cX9_floor 6 = .ok (.lconst 0, 1) := by decide +kernel
theorem dX9_floor_7 : decode cX9_floor 7 = .ok (.lcmp, 1) := by decide +kernel
theorem dX9_floor_8 : decode cX9_floor 8 = .ok (.ifCond .ge 19, 3) := by decide +kernel
theorem dX9_floor_11 : decode cX9_floor 11 = .ok (.lload 4, 2) := by decide +kernel
theorem dX9_floor_13 : decode cX9_floor 13 = .ok (.lload_n 2, 1) := by decide +kernel
theorem dX9_floor_14 : decode cX9_floor 14 = .ok (.lmul, 1) := by decide +kernel
theorem dX9_floor_15 : decode cX9_floor 15 = .ok (.lload_n 0, 1) := by decide +kernel
theorem dX9_floor_16 : decode cX9_floor 16 = .ok (.lcmp, 1) := by decide +kernel
theorem dX9_floor_17 : decode cX9_floor 17 = .ok (.ifCond .eq 10, 3) := by decide +kernel
theorem dX9_floor_20 : decode cX9_floor 20 = .ok (.lload 4, 2) := by decide +kernel
theorem dX9_floor_22 : decode cX9_floor 22 = .ok (.lconst 1, 1) := by decide +kernel
theorem dX9_floor_23 : decode cX9_floor 23 = .ok (.lsub, 1) := by decide +kernel
theorem dX9_floor_24 : decode cX9_floor 24 = .ok (.goto 5, 3) := by decide +kernel
theorem dX9_floor_27 : decode cX9_floor 27 = .ok (.lload 4, 2) := by decide +kernel
theorem dX9_floor_29 : decode cX9_floor 29 = .ok (.lreturn, 1) := by decide +kernel
theorem dX9_gainOf_0 : decode cX9_gainOf 0 = .ok (.aload_n 0, 1) := by decide +kernel
theorem dX9_gainOf_1 : decode cX9_gainOf 1 = .ok (.iload_n 1, 1) := by decide +kernel
theorem dX9_gainOf_2 : decode cX9_gainOf 2 = .ok (.iload_n 1, 1) := by decide +kernel
theorem dX9_gainOf_3 : decode cX9_gainOf 3 = .ok (.bipush 16, 2) := by decide +kernel
theorem dX9_gainOf_5 : decode cX9_gainOf 5 = .ok (.irem, 1) := by decide +kernel
theorem dX9_gainOf_6 : decode cX9_gainOf 6 = .ok (.iload_n 3, 1) := by decide +kernel
theorem dX9_gainOf_7 : decode cX9_gainOf 7 = .ok (.invokevirtual 192, 3) := by decide +kernel
theorem dX9_gainOf_10 : decode cX9_gainOf 10 = .ok (.aload_n 0, 1) := by decide +kernel
theorem dX9_gainOf_11 : decode cX9_gainOf 11 = .ok (.getfield 180, 3) := by decide +kernel
theorem dX9_gainOf_14 : decode cX9_gainOf 14 = .ok (.lstore 4, 2) := by decide +kernel
theorem dX9_gainOf_16 : decode cX9_gainOf 16 = .ok (.aload_n 0, 1) := by decide +kernel
theorem dX9_gainOf_17 : decode cX9_gainOf 17 = .ok (.getfield 183, 3) := by decide +kernel
theorem dX9_gainOf_20 : decode cX9_gainOf 20 = .ok (.lstore 6, 2) := by decide +kernel
theorem dX9_gainOf_22 : decode cX9_gainOf 22 = .ok (.aload_n 0, 1) := by decide +kernel
theorem dX9_gainOf_23 : decode cX9_gainOf 23 = .ok (.iload_n 1, 1) := by decide +kernel
theorem dX9_gainOf_24 : decode cX9_gainOf 24 = .ok (.iload_n 2, 1) := by decide +kernel
theorem dX9_gainOf_25 : decode cX9_gainOf 25 = .ok (.iload_n 3, 1) := by decide +kernel
theorem dX9_gainOf_26 : decode cX9_gainOf 26 = .ok (.invokevirtual 192, 3) := by decide +kernel
theorem dX9_gainOf_29 : decode cX9_gainOf 29 = .ok (.aload_n 0, 1) := by decide +kernel
theorem dX9_gainOf_30 : decode cX9_gainOf 30 = .ok (.getfield 180, 3) := by decide +kernel
theorem dX9_gainOf_33 : decode cX9_gainOf 33 = .ok (.aload_n 0, 1) := by decide +kernel
theorem dX9_gainOf_34 : decode cX9_gainOf 34 = .ok (.getfield 183, 3) := by decide +kernel
theorem dX9_gainOf_37 : decode cX9_gainOf 37 = .ok (.lload 4, 2) := by decide +kernel
theorem dX9_gainOf_39 : decode cX9_gainOf 39 = .ok (.lload 6, 2) := by decide +kernel
theorem dX9_gainOf_41 : decode cX9_gainOf 41 = .ok (.invokestatic 199, 3) := by decide +kernel
theorem dX9_gainOf_44 : decode cX9_gainOf 44 = .ok (.ireturn, 1) := by decide +kernel
theorem dX9_gain_0 : decode cX9_gain 0 = .ok (.iload_n 1, 1) := by decide +kernel
theorem dX9_gain_1 : decode cX9_gain 1 = .ok (.invokestatic 118, 3) := by decide +kernel
theorem dX9_gain_4 : decode cX9_gain 4 = .ok (.ifCond .eq 32, 3) := by decide +kernel
theorem dX9_gain_7 : decode cX9_gain 7 = .ok (.iload_n 2, 1) := by decide +kernel
theorem dX9_gain_8 : decode cX9_gain 8 = .ok (.i2l, 1) := by decide +kernel
theorem dX9_gain_9 : decode cX9_gain 9 = .ok (.lconst 0, 1) := by decide +kernel
theorem dX9_gain_10 : decode cX9_gain 10 = .ok (.ldc2_w 186, 3) := by decide +kernel
theorem dX9_gain_13 : decode cX9_gain 13 = .ok (.invokestatic 39, 3) := by decide +kernel
theorem dX9_gain_16 : decode cX9_gain 16 = .ok (.ifCond .eq 20, 3) := by decide +kernel
theorem dX9_gain_19 : decode cX9_gain 19 = .ok (.iload_n 3, 1) := by decide +kernel
theorem dX9_gain_20 : decode cX9_gain 20 = .ok (.invokestatic 143, 3) := by decide +kernel
theorem dX9_gain_23 : decode cX9_gain 23 = .ok (.ifCond .eq 13, 3) := by decide +kernel
theorem dX9_gain_26 : decode cX9_gain 26 = .ok (.aload_n 0, 1) := by decide +kernel
theorem dX9_gain_27 : decode cX9_gain 27 = .ok (.iload_n 1, 1) := by decide +kernel
theorem dX9_gain_28 : decode cX9_gain 28 = .ok (.iload_n 2, 1) := by decide +kernel
theorem dX9_gain_29 : decode cX9_gain 29 = .ok (.iload_n 3, 1) := by decide +kernel
theorem dX9_gain_30 : decode cX9_gain 30 = .ok (.invokevirtual 203, 3) := by decide +kernel
theorem dX9_gain_33 : decode cX9_gain 33 = .ok (.goto 6, 3) := by decide +kernel
theorem dX9_gain_36 : decode cX9_gain 36 = .ok (.sipush (-1002), 3) := by decide +kernel
theorem dX9_gain_39 : decode cX9_gain 39 = .ok (.ireturn, 1) := by decide +kernel
theorem dX9_holdsOf_0 : decode cX9_holdsOf 0 = .ok (.aload_n 0, 1) := by decide +kernel
theorem dX9_holdsOf_1 : decode cX9_holdsOf 1 = .ok (.iload_n 1, 1) := by decide +kernel
theorem dX9_holdsOf_2 : decode cX9_holdsOf 2 = .ok (.sipush 500, 3) := by decide +kernel
theorem dX9_holdsOf_5 : decode cX9_holdsOf 5 = .ok (.invokevirtual 160, 3) := by decide +kernel
theorem dX9_holdsOf_8 : decode cX9_holdsOf 8 = .ok (.aload_n 0, 1) := by decide +kernel
theorem dX9_holdsOf_9 : decode cX9_holdsOf 9 = .ok (.getfield 155, 3) := by decide +kernel
theorem dX9_holdsOf_12 : decode cX9_holdsOf 12 = .ok (.ifCond .ge 5, 3) := by decide +kernel
theorem dX9_holdsOf_15 : decode cX9_holdsOf 15 = .ok (.iconst 0, 1) := by decide +kernel
theorem dX9_holdsOf_16 : decode cX9_holdsOf 16 = .ok (.ireturn, 1) := by decide +kernel
theorem dX9_holdsOf_17 : decode cX9_holdsOf 17 = .ok (.iconst 0, 1) := by decide +kernel
theorem dX9_holdsOf_18 : decode cX9_holdsOf 18 = .ok (.istore_n 2, 1) := by decide +kernel
theorem dX9_holdsOf_19 : decode cX9_holdsOf 19 = .ok (.iload_n 2, 1) := by decide +kernel
theorem dX9_holdsOf_20 : decode cX9_holdsOf 20 = .ok (.bipush 16, 2) := by decide +kernel
theorem dX9_holdsOf_22 : decode cX9_holdsOf 22 = .ok (.if_icmp .ge 27, 3) := by decide +kernel
theorem dX9_holdsOf_25 : decode cX9_holdsOf 25 = .ok (.aload_n 0, 1) := by decide +kernel
theorem dX9_holdsOf_26 : decode cX9_holdsOf 26 = .ok (.iload_n 1, 1) := by decide +kernel
theorem dX9_holdsOf_27 : decode cX9_holdsOf 27 = .ok (.iload_n 2, 1) := by decide +kernel
theorem dX9_holdsOf_28 : decode cX9_holdsOf 28 = .ok (.aload_n 0, 1) := by decide +kernel
theorem dX9_holdsOf_29 : decode cX9_holdsOf 29 = .ok (.getfield 155, 3) := by decide +kernel
theorem dX9_holdsOf_32 : decode cX9_holdsOf 32 = .ok (.invokevirtual 203, 3) := by decide +kernel
theorem dX9_holdsOf_35 : decode cX9_holdsOf 35 = .ok (.ifCond .le 8, 3) := by decide +kernel
theorem dX9_holdsOf_38 : decode cX9_holdsOf 38 = .ok (.bipush (-2), 2) := by decide +kernel
theorem dX9_holdsOf_40 : decode cX9_holdsOf 40 = .ok (.iload_n 2, 1) := by decide +kernel
theorem dX9_holdsOf_41 : decode cX9_holdsOf 41 = .ok (.isub, 1) := by decide +kernel
theorem dX9_holdsOf_42 : decode cX9_holdsOf 42 = .ok (.ireturn, 1) := by decide +kernel
theorem dX9_holdsOf_43 : decode cX9_holdsOf 43 = .ok (.iinc 2 1, 3) := by decide +kernel
theorem dX9_holdsOf_46 : decode cX9_holdsOf 46 = .ok (.goto (-27), 3) := by decide +kernel
theorem dX9_holdsOf_49 : decode cX9_holdsOf 49 = .ok (.iconst 1, 1) := by decide +kernel
theorem dX9_holdsOf_50 : decode cX9_holdsOf 50 = .ok (.ireturn, 1) := by decide +kernel
theorem dX9_holds_0 : decode cX9_holds 0 = .ok (.iload_n 1, 1) := by decide +kernel
theorem dX9_holds_1 : decode cX9_holds 1 = .ok (.invokestatic 118, 3) := by decide +kernel
theorem dX9_holds_4 : decode cX9_holds 4 = .ok (.ifCond .eq 11, 3) := by decide +kernel
theorem dX9_holds_7 : decode cX9_holds 7 = .ok (.aload_n 0, 1) := by decide +kernel
theorem dX9_holds_8 : decode cX9_holds 8 = .ok (.iload_n 1, 1) := by decide +kernel
theorem dX9_holds_9 : decode cX9_holds 9 = .ok (.invokevirtual 206, 3) := by decide +kernel
theorem dX9_holds_12 : decode cX9_holds 12 = .ok (.goto 6, 3) := by decide +kernel
theorem dX9_holds_15 : decode cX9_holds 15 = .ok (.sipush (-1002), 3) := by decide +kernel
theorem dX9_holds_18 : decode cX9_holds 18 = .ok (.ireturn, 1) := by decide +kernel
theorem dX9_isHolding_0 : decode cX9_isHolding 0 = .ok (.aload_n 0, 1) := by decide +kernel
theorem dX9_isHolding_1 : decode cX9_isHolding 1 = .ok (.iload_n 1, 1) := by decide +kernel
theorem dX9_isHolding_2 : decode cX9_isHolding 2 = .ok (.invokevirtual 206, 3) := by decide +kernel
theorem dX9_isHolding_5 : decode cX9_isHolding 5 = .ok (.iconst 1, 1) := by decide +kernel
theorem dX9_isHolding_6 : decode cX9_isHolding 6 = .ok (.if_icmp .ne 23, 3) := by decide +kernel
theorem dX9_isHolding_9 : decode cX9_isHolding 9 = .ok (.aload_n 0, 1) := by decide +kernel
theorem dX9_isHolding_10 : decode cX9_isHolding 10 = .ok (.iload_n 1, 1) := by decide +kernel
theorem dX9_isHolding_11 : decode cX9_isHolding 11 = .ok (.aload_n 0, 1) := by decide +kernel
theorem dX9_isHolding_12 : decode cX9_isHolding 12 = .ok (.getfield 155, 3) := by decide +kernel
theorem dX9_isHolding_15 : decode cX9_isHolding 15 = .ok (.invokevirtual 164, 3) := by decide +kernel
theorem dX9_isHolding_18 : decode cX9_isHolding 18 = .ok (.aload_n 0, 1) := by decide +kernel
theorem dX9_isHolding_19 : decode cX9_isHolding 19 = .ok (.getfield 113, 3) := by decide +kernel
theorem dX9_isHolding_22 : decode cX9_isHolding 22 = .ok (.if_icmp .le 7, 3) := by decide +kernel
theorem dX9_isHolding_25 : decode cX9_isHolding 25 = .ok (.iconst 1, 1) := by decide +kernel
theorem dX9_isHolding_26 : decode cX9_isHolding 26 = .ok (.goto 4, 3) := by decide +kernel
theorem dX9_isHolding_29 : decode cX9_isHolding 29 = .ok (.iconst 0, 1) := by decide +kernel
theorem dX9_isHolding_30 : decode cX9_isHolding 30 = .ok (.ireturn, 1) := by decide +kernel
theorem dX9_all_0 : decode cX9_all 0 = .ok (.iconst 0, 1) := by decide +kernel
theorem dX9_all_1 : decode cX9_all 1 = .ok (.istore_n 2, 1) := by decide +kernel
theorem dX9_all_2 : decode cX9_all 2 = .ok (.iconst 0, 1) := by decide +kernel
theorem dX9_all_3 : decode cX9_all 3 = .ok (.istore_n 3, 1) := by decide +kernel
theorem dX9_all_4 : decode cX9_all 4 = .ok (.iload_n 3, 1) := by decide +kernel
theorem dX9_all_5 : decode cX9_all 5 = .ok (.sipush 4096, 3) := by decide +kernel
theorem dX9_all_8 : decode cX9_all 8 = .ok (.if_icmp .ge 27, 3) := by decide +kernel
theorem dX9_all_11 : decode cX9_all 11 = .ok (.aload_n 0, 1) := by decide +kernel
theorem dX9_all_12 : decode cX9_all 12 = .ok (.iload_n 3, 1) := by decide +kernel
theorem dX9_all_13 : decode cX9_all 13 = .ok (.invokevirtual 209, 3) := by decide +kernel
theorem dX9_all_16 : decode cX9_all 16 = .ok (.ifCond .eq 13, 3) := by decide +kernel
theorem dX9_all_19 : decode cX9_all 19 = .ok (.iload_n 2, 1) := by decide +kernel
theorem dX9_all_20 : decode cX9_all 20 = .ok (.iload_n 1, 1) := by decide +kernel
theorem dX9_all_21 : decode cX9_all 21 = .ok (.if_icmp .ne 5, 3) := by decide +kernel
theorem dX9_all_24 : decode cX9_all 24 = .ok (.iload_n 3, 1) := by decide +kernel
theorem dX9_all_25 : decode cX9_all 25 = .ok (.ireturn, 1) := by decide +kernel
theorem dX9_all_26 : decode cX9_all 26 = .ok (.iinc 2 1, 3) := by decide +kernel
theorem dX9_all_29 : decode cX9_all 29 = .ok (.iinc 3 1, 3) := by decide +kernel
theorem dX9_all_32 : decode cX9_all 32 = .ok (.goto (-28), 3) := by decide +kernel
theorem dX9_all_35 : decode cX9_all 35 = .ok (.iload_n 1, 1) := by decide +kernel
theorem dX9_all_36 : decode cX9_all 36 = .ok (.iconst (-1), 1) := by decide +kernel
theorem dX9_all_37 : decode cX9_all 37 = .ok (.if_icmp .ne 7, 3) := by decide +kernel
theorem dX9_all_40 : decode cX9_all 40 = .ok (.iload_n 2, 1) := by decide +kernel
theorem dX9_all_41 : decode cX9_all 41 = .ok (.goto 4, 3) := by decide +kernel
theorem dX9_all_44 : decode cX9_all 44 = .ok (.iconst (-1), 1) := by decide +kernel
theorem dX9_all_45 : decode cX9_all 45 = .ok (.ireturn, 1) := by decide +kernel
theorem dX9_mostHelped_0 : decode cX9_mostHelped 0 = .ok (.iconst (-1), 1) := by decide +kernel
theorem dX9_mostHelped_1 : decode cX9_mostHelped 1 = .ok (.istore_n 1, 1) := by decide +kernel
theorem dX9_mostHelped_2 : decode cX9_mostHelped 2 = .ok (.iconst (-1), 1) := by decide +kernel
theorem dX9_mostHelped_3 : decode cX9_mostHelped 3 = .ok (.istore_n 2, 1) := by decide +kernel
theorem dX9_mostHelped_4 : decode cX9_mostHelped 4 = .ok (.iconst 0, 1) := by decide +kernel
theorem dX9_mostHelped_5 : decode cX9_mostHelped 5 = .ok (.istore_n 3, 1) := by decide +kernel
theorem dX9_mostHelped_6 : decode cX9_mostHelped 6 = .ok (.iload_n 3, 1) := by decide +kernel
theorem dX9_mostHelped_7 : decode cX9_mostHelped 7 = .ok (.sipush 4096, 3) := by decide +kernel
theorem dX9_mostHelped_10 : decode cX9_mostHelped 10 = .ok (.if_icmp .ge 53, 3) := by decide +kernel
theorem dX9_mostHelped_13 : decode cX9_mostHelped 13 = .ok (.aload_n 0, 1) := by decide +kernel
theorem dX9_mostHelped_14 : decode cX9_mostHelped 14 = .ok (.iload_n 3, 1) := by decide +kernel
theorem dX9_mostHelped_15 : decode cX9_mostHelped 15 = .ok (.invokevirtual 209, 3) := by decide +kernel
theorem dX9_mostHelped_18 : decode cX9_mostHelped 18 = .ok (.ifCond .eq 39, 3) := by decide +kernel
theorem dX9_mostHelped_21 : decode cX9_mostHelped 21 = .ok (.aload_n 0, 1) := by decide +kernel
theorem dX9_mostHelped_22 : decode cX9_mostHelped 22 = .ok (.iload_n 3, 1) := by decide +kernel
theorem dX9_mostHelped_23 : decode cX9_mostHelped 23 = .ok (.aload_n 0, 1) := by decide +kernel
theorem dX9_mostHelped_24 : decode cX9_mostHelped 24 = .ok (.getfield 155, 3) := by decide +kernel
theorem dX9_mostHelped_27 : decode cX9_mostHelped 27 = .ok (.invokevirtual 164, 3) := by decide +kernel
theorem dX9_mostHelped_30 : decode cX9_mostHelped 30 = .ok (.istore 4, 2) := by decide +kernel
theorem dX9_mostHelped_32 : decode cX9_mostHelped 32 = .ok (.iload 4, 2) := by decide +kernel
theorem dX9_mostHelped_34 : decode cX9_mostHelped 34 = .ok (.iload_n 2, 1) := by decide +kernel
theorem dX9_mostHelped_35 : decode cX9_mostHelped 35 = .ok (.if_icmp .le 7, 3) := by decide +kernel
theorem dX9_mostHelped_38 : decode cX9_mostHelped 38 = .ok (.iload_n 3, 1) := by decide +kernel
theorem dX9_mostHelped_39 : decode cX9_mostHelped 39 = .ok (.goto 4, 3) := by decide +kernel
theorem dX9_mostHelped_42 : decode cX9_mostHelped 42 = .ok (.iload_n 1, 1) := by decide +kernel
theorem dX9_mostHelped_43 : decode cX9_mostHelped 43 = .ok (.istore_n 1, 1) := by decide +kernel
theorem dX9_mostHelped_44 : decode cX9_mostHelped 44 = .ok (.iload 4, 2) := by decide +kernel
theorem dX9_mostHelped_46 : decode cX9_mostHelped 46 = .ok (.iload_n 2, 1) := by decide +kernel
theorem dX9_mostHelped_47 : decode cX9_mostHelped 47 = .ok (.if_icmp .le 8, 3) := by decide +kernel
theorem dX9_mostHelped_50 : decode cX9_mostHelped 50 = .ok (.iload 4, 2) := by decide +kernel
theorem dX9_mostHelped_52 : decode cX9_mostHelped 52 = .ok (.goto 4, 3) := by decide +kernel
theorem dX9_mostHelped_55 : decode cX9_mostHelped 55 = .ok (.iload_n 2, 1) := by decide +kernel
theorem dX9_mostHelped_56 : decode cX9_mostHelped 56 = .ok (.istore_n 2, 1) := by decide +kernel
theorem dX9_mostHelped_57 : decode cX9_mostHelped 57 = .ok (.iinc 3 1, 3) := by decide +kernel
theorem dX9_mostHelped_60 : decode cX9_mostHelped 60 = .ok (.goto (-54), 3) := by decide +kernel
theorem dX9_mostHelped_63 : decode cX9_mostHelped 63 = .ok (.iload_n 1, 1) := by decide +kernel
theorem dX9_mostHelped_64 : decode cX9_mostHelped 64 = .ok (.ireturn, 1) := by decide +kernel
theorem dX9_helpedAtRest_0 : decode cX9_helpedAtRest 0 = .ok (.aload_n 0, 1) := by decide +kernel
theorem dX9_helpedAtRest_1 : decode cX9_helpedAtRest 1 = .ok (.iload_n 1, 1) := by decide +kernel
theorem dX9_helpedAtRest_2 : decode cX9_helpedAtRest 2 = .ok (.sipush 500, 3) := by decide +kernel
theorem dX9_helpedAtRest_5 : decode cX9_helpedAtRest 5 = .ok (.invokevirtual 160, 3) := by decide +kernel
theorem dX9_helpedAtRest_8 : decode cX9_helpedAtRest 8 = .ok (.aload_n 0, 1) := by decide +kernel
theorem dX9_helpedAtRest_9 : decode cX9_helpedAtRest 9 = .ok (.iload_n 1, 1) := by decide +kernel
theorem dX9_helpedAtRest_10 : decode cX9_helpedAtRest 10 = .ok (.aload_n 0, 1) := by decide +kernel
theorem dX9_helpedAtRest_11 : decode cX9_helpedAtRest 11 = .ok (.getfield 155, 3) := by decide +kernel
theorem dX9_helpedAtRest_14 : decode cX9_helpedAtRest 14 = .ok (.invokevirtual 164, 3) := by decide +kernel
theorem dX9_helpedAtRest_17 : decode cX9_helpedAtRest 17 = .ok (.ireturn, 1) := by decide +kernel
theorem dX9_best_0 : decode cX9_best 0 = .ok (.iload_n 1, 1) := by decide +kernel
theorem dX9_best_1 : decode cX9_best 1 = .ok (.i2l, 1) := by decide +kernel
theorem dX9_best_2 : decode cX9_best 2 = .ok (.lconst 0, 1) := by decide +kernel
theorem dX9_best_3 : decode cX9_best 3 = .ok (.ldc2_w 158, 3) := by decide +kernel
theorem dX9_best_6 : decode cX9_best 6 = .ok (.invokestatic 39, 3) := by decide +kernel
theorem dX9_best_9 : decode cX9_best 9 = .ok (.ifCond .ne 7, 3) := by decide +kernel
theorem dX9_best_12 : decode cX9_best 12 = .ok (.sipush (-1002), 3) := by decide +kernel
theorem dX9_best_15 : decode cX9_best 15 = .ok (.ireturn, 1) := by decide +kernel
theorem dX9_best_16 : decode cX9_best 16 = .ok (.iload_n 1, 1) := by decide +kernel
theorem dX9_best_17 : decode cX9_best 17 = .ok (.iconst 1, 1) := by decide +kernel
theorem dX9_best_18 : decode cX9_best 18 = .ok (.if_icmp .ne 7, 3) := by decide +kernel
theorem dX9_best_21 : decode cX9_best 21 = .ok (.iconst (-1), 1) := by decide +kernel
theorem dX9_best_22 : decode cX9_best 22 = .ok (.goto 7, 3) := by decide +kernel
theorem dX9_best_25 : decode cX9_best 25 = .ok (.aload_n 0, 1) := by decide +kernel
theorem dX9_best_26 : decode cX9_best 26 = .ok (.invokevirtual 212, 3) := by decide +kernel
theorem dX9_best_29 : decode cX9_best 29 = .ok (.istore_n 2, 1) := by decide +kernel
theorem dX9_best_30 : decode cX9_best 30 = .ok (.iload_n 1, 1) := by decide +kernel
theorem dX9_best_31 : decode cX9_best 31 = .ok (.ifCond .eq 12, 3) := by decide +kernel
theorem dX9_best_34 : decode cX9_best 34 = .ok (.iload_n 1, 1) := by decide +kernel
theorem dX9_best_35 : decode cX9_best 35 = .ok (.iconst 2, 1) := by decide +kernel
theorem dX9_best_36 : decode cX9_best 36 = .ok (.if_icmp .ne 9, 3) := by decide +kernel
theorem dX9_best_39 : decode cX9_best 39 = .ok (.iload_n 2, 1) := by decide +kernel
theorem dX9_best_40 : decode cX9_best 40 = .ok (.ifCond .ge 5, 3) := by decide +kernel
theorem dX9_best_43 : decode cX9_best 43 = .ok (.iload_n 2, 1) := by decide +kernel
theorem dX9_best_44 : decode cX9_best 44 = .ok (.ireturn, 1) := by decide +kernel
theorem dX9_best_45 : decode cX9_best 45 = .ok (.iload_n 1, 1) := by decide +kernel
theorem dX9_best_46 : decode cX9_best 46 = .ok (.iconst 1, 1) := by decide +kernel
theorem dX9_best_47 : decode cX9_best 47 = .ok (.if_icmp .ne 7, 3) := by decide +kernel
theorem dX9_best_50 : decode cX9_best 50 = .ok (.iconst 0, 1) := by decide +kernel
theorem dX9_best_51 : decode cX9_best 51 = .ok (.goto 8, 3) := by decide +kernel
theorem dX9_best_54 : decode cX9_best 54 = .ok (.aload_n 0, 1) := by decide +kernel
theorem dX9_best_55 : decode cX9_best 55 = .ok (.iload_n 2, 1) := by decide +kernel
theorem dX9_best_56 : decode cX9_best 56 = .ok (.invokevirtual 215, 3) := by decide +kernel
theorem dX9_best_59 : decode cX9_best 59 = .ok (.istore_n 3, 1) := by decide +kernel
theorem dX9_best_60 : decode cX9_best 60 = .ok (.iconst (-1), 1) := by decide +kernel
theorem dX9_best_61 : decode cX9_best 61 = .ok (.istore 4, 2) := by decide +kernel
theorem dX9_best_63 : decode cX9_best 63 = .ok (.iconst 0, 1) := by decide +kernel
theorem dX9_best_64 : decode cX9_best 64 = .ok (.istore 5, 2) := by decide +kernel
theorem dX9_best_66 : decode cX9_best 66 = .ok (.iconst 0, 1) := by decide +kernel
theorem dX9_best_67 : decode cX9_best 67 = .ok (.istore 6, 2) := by decide +kernel
theorem dX9_best_69 : decode cX9_best 69 = .ok (.iload 6, 2) := by decide +kernel
theorem dX9_best_71 : decode cX9_best 71 = .ok (.sipush 4096, 3) := by decide +kernel
theorem dX9_best_74 : decode cX9_best 74 = .ok (.if_icmp .ge 80, 3) := by decide +kernel
theorem dX9_best_77 : decode cX9_best 77 = .ok (.aload_n 0, 1) := by decide +kernel
theorem dX9_best_78 : decode cX9_best 78 = .ok (.iload 6, 2) := by decide +kernel
theorem dX9_best_80 : decode cX9_best 80 = .ok (.invokevirtual 209, 3) := by decide +kernel
theorem dX9_best_83 : decode cX9_best 83 = .ok (.ifCond .eq 65, 3) := by decide +kernel
theorem dX9_best_86 : decode cX9_best 86 = .ok (.iload_n 1, 1) := by decide +kernel
theorem dX9_best_87 : decode cX9_best 87 = .ok (.iconst 1, 1) := by decide +kernel
theorem dX9_best_88 : decode cX9_best 88 = .ok (.if_icmp .eq 17, 3) := by decide +kernel
theorem dX9_best_91 : decode cX9_best 91 = .ok (.aload_n 0, 1) := by decide +kernel
theorem dX9_best_92 : decode cX9_best 92 = .ok (.iload 6, 2) := by decide +kernel
theorem dX9_best_94 : decode cX9_best 94 = .ok (.aload_n 0, 1) := by decide +kernel
theorem dX9_best_95 : decode cX9_best 95 = .ok (.getfield 155, 3) := by decide +kernel
theorem dX9_best_98 : decode cX9_best 98 = .ok (.invokevirtual 164, 3) := by decide +kernel
theorem dX9_best_101 : decode cX9_best 101 = .ok (.iload_n 3, 1) := by decide +kernel
theorem dX9_best_102 : decode cX9_best 102 = .ok (.if_icmp .ne 46, 3) := by decide +kernel
theorem dX9_best_105 : decode cX9_best 105 = .ok (.iload_n 1, 1) := by decide +kernel
theorem dX9_best_106 : decode cX9_best 106 = .ok (.iconst 1, 1) := by decide +kernel
theorem dX9_best_107 : decode cX9_best 107 = .ok (.if_icmp .ne 13, 3) := by decide +kernel
theorem dX9_best_110 : decode cX9_best 110 = .ok (.iconst 0, 1) := by decide +kernel
theorem dX9_best_111 : decode cX9_best 111 = .ok (.iload 6, 2) := by decide +kernel
theorem dX9_best_113 : decode cX9_best 113 = .ok (.invokestatic 218, 3) := by decide +kernel
theorem dX9_best_116 : decode cX9_best 116 = .ok (.isub, 1) := by decide +kernel
theorem dX9_best_117 : decode cX9_best 117 = .ok (.goto 9, 3) := by decide +kernel
theorem dX9_best_120 : decode cX9_best 120 = .ok (.aload_n 0, 1) := by decide +kernel
theorem dX9_best_121 : decode cX9_best 121 = .ok (.iload 6, 2) := by decide +kernel
theorem dX9_best_123 : decode cX9_best 123 = .ok (.invokevirtual 221, 3) := by decide +kernel
theorem dX9_best_126 : decode cX9_best 126 = .ok (.istore 7, 2) := by decide +kernel
theorem dX9_best_128 : decode cX9_best 128 = .ok (.iload 4, 2) := by decide +kernel
theorem dX9_best_130 : decode cX9_best 130 = .ok (.ifCond .lt 10, 3) := by decide +kernel
theorem dX9_best_133 : decode cX9_best 133 = .ok (.iload 7, 2) := by decide +kernel
theorem dX9_best_135 : decode cX9_best 135 = .ok (.iload 5, 2) := by decide +kernel
theorem dX9_best_137 : decode cX9_best 137 = .ok (.if_icmp .le 11, 3) := by decide +kernel
theorem dX9_best_140 : decode cX9_best 140 = .ok (.iload 6, 2) := by decide +kernel
theorem dX9_best_142 : decode cX9_best 142 = .ok (.istore 4, 2) := by decide +kernel
theorem dX9_best_144 : decode cX9_best 144 = .ok (.iload 7, 2) := by decide +kernel
theorem dX9_best_146 : decode cX9_best 146 = .ok (.istore 5, 2) := by decide +kernel
theorem dX9_best_148 : decode cX9_best 148 = .ok (.iinc 6 1, 3) := by decide +kernel
theorem dX9_best_151 : decode cX9_best 151 = .ok (.goto (-82), 3) := by decide +kernel
theorem dX9_best_154 : decode cX9_best 154 = .ok (.iload 4, 2) := by decide +kernel
theorem dX9_best_156 : decode cX9_best 156 = .ok (.ireturn, 1) := by decide +kernel
theorem dX9_hangs_0 : decode cX9_hangs 0 = .ok (.iconst 0, 1) := by decide +kernel
theorem dX9_hangs_1 : decode cX9_hangs 1 = .ok (.istore_n 3, 1) := by decide +kernel
theorem dX9_hangs_2 : decode cX9_hangs 2 = .ok (.iconst 0, 1) := by decide +kernel
theorem dX9_hangs_3 : decode cX9_hangs 3 = .ok (.istore 4, 2) := by decide +kernel
theorem dX9_hangs_5 : decode cX9_hangs 5 = .ok (.iload 4, 2) := by decide +kernel
theorem dX9_hangs_7 : decode cX9_hangs 7 = .ok (.iload_n 1, 1) := by decide +kernel
theorem dX9_hangs_8 : decode cX9_hangs 8 = .ok (.if_icmp .ge 36, 3) := by decide +kernel
theorem dX9_hangs_11 : decode cX9_hangs 11 = .ok (.iload_n 3, 1) := by decide +kernel
theorem dX9_hangs_12 : decode cX9_hangs 12 = .ok (.ifCond .ne 20, 3) := by decide +kernel
theorem dX9_hangs_15 : decode cX9_hangs 15 = .ok (.iload_n 0, 1) := by decide +kernel
theorem dX9_hangs_16 : decode cX9_hangs 16 = .ok (.iload 4, 2) := by decide +kernel
theorem dX9_hangs_18 : decode cX9_hangs 18 = .ok (.ishr, 1) := by decide +kernel
theorem dX9_hangs_19 : decode cX9_hangs 19 = .ok (.iconst 1, 1) := by decide +kernel
theorem dX9_hangs_20 : decode cX9_hangs 20 = .ok (.iand, 1) := by decide +kernel
theorem dX9_hangs_21 : decode cX9_hangs 21 = .ok (.iload_n 0, 1) := by decide +kernel
theorem dX9_hangs_22 : decode cX9_hangs 22 = .ok (.iload 4, 2) := by decide +kernel
theorem dX9_hangs_24 : decode cX9_hangs 24 = .ok (.iload_n 2, 1) := by decide +kernel
theorem dX9_hangs_25 : decode cX9_hangs 25 = .ok (.ixor, 1) := by decide +kernel
theorem dX9_hangs_26 : decode cX9_hangs 26 = .ok (.ishr, 1) := by decide +kernel
theorem dX9_hangs_27 : decode cX9_hangs 27 = .ok (.iconst 1, 1) := by decide +kernel
theorem dX9_hangs_28 : decode cX9_hangs 28 = .ok (.iand, 1) := by decide +kernel
theorem dX9_hangs_29 : decode cX9_hangs 29 = .ok (.if_icmp .eq 7, 3) := by decide +kernel
theorem dX9_hangs_32 : decode cX9_hangs 32 = .ok (.iconst 1, 1) := by decide +kernel
theorem dX9_hangs_33 : decode cX9_hangs 33 = .ok (.goto 4, 3) := by decide +kernel
theorem dX9_hangs_36 : decode cX9_hangs 36 = .ok (.iconst 0, 1) := by decide +kernel
theorem dX9_hangs_37 : decode cX9_hangs 37 = .ok (.istore_n 3, 1) := by decide +kernel
theorem dX9_hangs_38 : decode cX9_hangs 38 = .ok (.iinc 4 1, 3) := by decide +kernel
theorem dX9_hangs_41 : decode cX9_hangs 41 = .ok (.goto (-36), 3) := by decide +kernel
theorem dX9_hangs_44 : decode cX9_hangs 44 = .ok (.iload_n 3, 1) := by decide +kernel
theorem dX9_hangs_45 : decode cX9_hangs 45 = .ok (.invokestatic 87, 3) := by decide +kernel
theorem dX9_hangs_48 : decode cX9_hangs 48 = .ok (.ireturn, 1) := by decide +kernel
theorem dX9_plainOf_0 : decode cX9_plainOf 0 = .ok (.iload_n 0, 1) := by decide +kernel
theorem dX9_plainOf_1 : decode cX9_plainOf 1 = .ok (.bipush 16, 2) := by decide +kernel
theorem dX9_plainOf_3 : decode cX9_plainOf 3 = .ok (.irem, 1) := by decide +kernel
theorem dX9_plainOf_4 : decode cX9_plainOf 4 = .ok (.istore_n 1, 1) := by decide +kernel
theorem dX9_plainOf_5 : decode cX9_plainOf 5 = .ok (.iload_n 0, 1) := by decide +kernel
theorem dX9_plainOf_6 : decode cX9_plainOf 6 = .ok (.bipush 16, 2) := by decide +kernel
theorem dX9_plainOf_8 : decode cX9_plainOf 8 = .ok (.idiv, 1) := by decide +kernel
theorem dX9_plainOf_9 : decode cX9_plainOf 9 = .ok (.istore_n 2, 1) := by decide +kernel
theorem dX9_plainOf_10 : decode cX9_plainOf 10 = .ok (.iload_n 1, 1) := by decide +kernel
theorem dX9_plainOf_11 : decode cX9_plainOf 11 = .ok (.iconst 4, 1) := by decide +kernel
theorem dX9_plainOf_12 : decode cX9_plainOf 12 = .ok (.iconst 2, 1) := by decide +kernel
theorem dX9_plainOf_13 : decode cX9_plainOf 13 = .ok (.invokestatic 224, 3) := by decide +kernel
theorem dX9_plainOf_16 : decode cX9_plainOf 16 = .ok (.iload_n 1, 1) := by decide +kernel
theorem dX9_plainOf_17 : decode cX9_plainOf 17 = .ok (.iconst 4, 1) := by decide +kernel
theorem dX9_plainOf_18 : decode cX9_plainOf 18 = .ok (.iconst 1, 1) := by decide +kernel
theorem dX9_plainOf_19 : decode cX9_plainOf 19 = .ok (.invokestatic 224, 3) := by decide +kernel
theorem dX9_plainOf_22 : decode cX9_plainOf 22 = .ok (.iadd, 1) := by decide +kernel
theorem dX9_plainOf_23 : decode cX9_plainOf 23 = .ok (.iload_n 2, 1) := by decide +kernel
theorem dX9_plainOf_24 : decode cX9_plainOf 24 = .ok (.bipush 8, 2) := by decide +kernel
theorem dX9_plainOf_26 : decode cX9_plainOf 26 = .ok (.iconst 4, 1) := by decide +kernel
theorem dX9_plainOf_27 : decode cX9_plainOf 27 = .ok (.invokestatic 224, 3) := by decide +kernel
theorem dX9_plainOf_30 : decode cX9_plainOf 30 = .ok (.iadd, 1) := by decide +kernel
theorem dX9_plainOf_31 : decode cX9_plainOf 31 = .ok (.iload_n 2, 1) := by decide +kernel
theorem dX9_plainOf_32 : decode cX9_plainOf 32 = .ok (.bipush 8, 2) := by decide +kernel
theorem dX9_plainOf_34 : decode cX9_plainOf 34 = .ok (.iconst 2, 1) := by decide +kernel
theorem dX9_plainOf_35 : decode cX9_plainOf 35 = .ok (.invokestatic 224, 3) := by decide +kernel
theorem dX9_plainOf_38 : decode cX9_plainOf 38 = .ok (.iadd, 1) := by decide +kernel
theorem dX9_plainOf_39 : decode cX9_plainOf 39 = .ok (.iload_n 2, 1) := by decide +kernel
theorem dX9_plainOf_40 : decode cX9_plainOf 40 = .ok (.bipush 8, 2) := by decide +kernel
theorem dX9_plainOf_42 : decode cX9_plainOf 42 = .ok (.iconst 1, 1) := by decide +kernel
theorem dX9_plainOf_43 : decode cX9_plainOf 43 = .ok (.invokestatic 224, 3) := by decide +kernel
theorem dX9_plainOf_46 : decode cX9_plainOf 46 = .ok (.iadd, 1) := by decide +kernel
theorem dX9_plainOf_47 : decode cX9_plainOf 47 = .ok (.ireturn, 1) := by decide +kernel
theorem dX9_plain_0 : decode cX9_plain 0 = .ok (.iload_n 1, 1) := by decide +kernel
theorem dX9_plain_1 : decode cX9_plain 1 = .ok (.invokestatic 118, 3) := by decide +kernel
theorem dX9_plain_4 : decode cX9_plain 4 = .ok (.ifCond .eq 10, 3) := by decide +kernel
theorem dX9_plain_7 : decode cX9_plain 7 = .ok (.iload_n 1, 1) := by decide +kernel
theorem dX9_plain_8 : decode cX9_plain 8 = .ok (.invokestatic 218, 3) := by decide +kernel
theorem dX9_plain_11 : decode cX9_plain 11 = .ok (.goto 6, 3) := by decide +kernel
theorem dX9_plain_14 : decode cX9_plain 14 = .ok (.sipush (-1002), 3) := by decide +kernel
theorem dX9_plain_17 : decode cX9_plain 17 = .ok (.ireturn, 1) := by decide +kernel
theorem dX9_bearsOf_0 : decode cX9_bearsOf 0 = .ok (.aload_n 0, 1) := by decide +kernel
theorem dX9_bearsOf_1 : decode cX9_bearsOf 1 = .ok (.getfield 7, 3) := by decide +kernel
theorem dX9_bearsOf_4 : decode cX9_bearsOf 4 = .ok (.iconst 3, 1) := by decide +kernel
theorem dX9_bearsOf_5 : decode cX9_bearsOf 5 = .ok (.iaload, 1) := by decide +kernel
theorem dX9_bearsOf_6 : decode cX9_bearsOf 6 = .ok (.istore_n 2, 1) := by decide +kernel
theorem dX9_bearsOf_7 : decode cX9_bearsOf 7 = .ok (.iconst 0, 1) := by decide +kernel
theorem dX9_bearsOf_8 : decode cX9_bearsOf 8 = .ok (.istore_n 3, 1) := by decide +kernel
theorem dX9_bearsOf_9 : decode cX9_bearsOf 9 = .ok (.iconst 1, 1) := by decide +kernel
theorem dX9_bearsOf_10 : decode cX9_bearsOf 10 = .ok (.istore 4, 2) := by decide +kernel
theorem dX9_bearsOf_12 : decode cX9_bearsOf 12 = .ok (.iload 4, 2) := by decide +kernel
theorem dX9_bearsOf_14 : decode cX9_bearsOf 14 = .ok (.ifCond .eq 43, 3) := by decide +kernel
theorem dX9_bearsOf_17 : decode cX9_bearsOf 17 = .ok (.iload_n 3, 1) := by decide +kernel
theorem dX9_bearsOf_18 : decode cX9_bearsOf 18 = .ok (.bipush 50, 2) := by decide +kernel
theorem dX9_bearsOf_20 : decode cX9_bearsOf 20 = .ok (.if_icmp .gt 37, 3) := by decide +kernel
theorem dX9_bearsOf_23 : decode cX9_bearsOf 23 = .ok (.aload_n 0, 1) := by decide +kernel
theorem dX9_bearsOf_24 : decode cX9_bearsOf 24 = .ok (.getfield 7, 3) := by decide +kernel
theorem dX9_bearsOf_27 : decode cX9_bearsOf 27 = .ok (.iconst 3, 1) := by decide +kernel
theorem dX9_bearsOf_28 : decode cX9_bearsOf 28 = .ok (.iload_n 3, 1) := by decide +kernel
theorem dX9_bearsOf_29 : decode cX9_bearsOf 29 = .ok (.iastore, 1) := by decide +kernel
theorem dX9_bearsOf_30 : decode cX9_bearsOf 30 = .ok (.aload_n 0, 1) := by decide +kernel
theorem dX9_bearsOf_31 : decode cX9_bearsOf 31 = .ok (.iload_n 1, 1) := by decide +kernel
theorem dX9_bearsOf_32 : decode cX9_bearsOf 32 = .ok (.invokevirtual 206, 3) := by decide +kernel
theorem dX9_bearsOf_35 : decode cX9_bearsOf 35 = .ok (.iconst 1, 1) := by decide +kernel
theorem dX9_bearsOf_36 : decode cX9_bearsOf 36 = .ok (.if_icmp .ne 7, 3) := by decide +kernel
theorem dX9_bearsOf_39 : decode cX9_bearsOf 39 = .ok (.iconst 1, 1) := by decide +kernel
theorem dX9_bearsOf_40 : decode cX9_bearsOf 40 = .ok (.goto 4, 3) := by decide +kernel
theorem dX9_bearsOf_43 : decode cX9_bearsOf 43 = .ok (.iconst 0, 1) := by decide +kernel
theorem dX9_bearsOf_44 : decode cX9_bearsOf 44 = .ok (.istore 4, 2) := by decide +kernel
theorem dX9_bearsOf_46 : decode cX9_bearsOf 46 = .ok (.iload_n 3, 1) := by decide +kernel
theorem dX9_bearsOf_47 : decode cX9_bearsOf 47 = .ok (.iload 4, 2) := by decide +kernel
theorem dX9_bearsOf_49 : decode cX9_bearsOf 49 = .ok (.invokestatic 87, 3) := by decide +kernel
theorem dX9_bearsOf_52 : decode cX9_bearsOf 52 = .ok (.iadd, 1) := by decide +kernel
theorem dX9_bearsOf_53 : decode cX9_bearsOf 53 = .ok (.istore_n 3, 1) := by decide +kernel
theorem dX9_bearsOf_54 : decode cX9_bearsOf 54 = .ok (.goto (-42), 3) := by decide +kernel
theorem dX9_bearsOf_57 : decode cX9_bearsOf 57 = .ok (.aload_n 0, 1) := by decide +kernel
