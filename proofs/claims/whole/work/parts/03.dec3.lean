theorem dX9_bearsOf_58 : decode cX9_bearsOf 58 = .ok (.getfield 7, 3) := by decide +kernel
theorem dX9_bearsOf_61 : decode cX9_bearsOf 61 = .ok (.iconst 3, 1) := by decide +kernel
theorem dX9_bearsOf_62 : decode cX9_bearsOf 62 = .ok (.iload_n 2, 1) := by decide +kernel
theorem dX9_bearsOf_63 : decode cX9_bearsOf 63 = .ok (.iastore, 1) := by decide +kernel
theorem dX9_bearsOf_64 : decode cX9_bearsOf 64 = .ok (.iload_n 3, 1) := by decide +kernel
theorem dX9_bearsOf_65 : decode cX9_bearsOf 65 = .ok (.iconst 1, 1) := by decide +kernel
theorem dX9_bearsOf_66 : decode cX9_bearsOf 66 = .ok (.isub, 1) := by decide +kernel
theorem dX9_bearsOf_67 : decode cX9_bearsOf 67 = .ok (.ireturn, 1) := by decide +kernel
theorem dX9_bears_0 : decode cX9_bears 0 = .ok (.iload_n 1, 1) := by decide +kernel
theorem dX9_bears_1 : decode cX9_bears 1 = .ok (.invokestatic 118, 3) := by decide +kernel
theorem dX9_bears_4 : decode cX9_bears 4 = .ok (.ifCond .eq 11, 3) := by decide +kernel
theorem dX9_bears_7 : decode cX9_bears 7 = .ok (.aload_n 0, 1) := by decide +kernel
theorem dX9_bears_8 : decode cX9_bears 8 = .ok (.iload_n 1, 1) := by decide +kernel
theorem dX9_bears_9 : decode cX9_bears 9 = .ok (.invokevirtual 221, 3) := by decide +kernel
theorem dX9_bears_12 : decode cX9_bears 12 = .ok (.goto 6, 3) := by decide +kernel
theorem dX9_bears_15 : decode cX9_bears 15 = .ok (.sipush (-1002), 3) := by decide +kernel
theorem dX9_bears_18 : decode cX9_bears 18 = .ok (.ireturn, 1) := by decide +kernel
theorem dX9_turnedOf_0 : decode cX9_turnedOf 0 = .ok (.iconst 0, 1) := by decide +kernel
theorem dX9_turnedOf_1 : decode cX9_turnedOf 1 = .ok (.istore_n 1, 1) := by decide +kernel
theorem dX9_turnedOf_2 : decode cX9_turnedOf 2 = .ok (.iconst 0, 1) := by decide +kernel
theorem dX9_turnedOf_3 : decode cX9_turnedOf 3 = .ok (.istore_n 2, 1) := by decide +kernel
theorem dX9_turnedOf_4 : decode cX9_turnedOf 4 = .ok (.iconst 0, 1) := by decide +kernel
theorem dX9_turnedOf_5 : decode cX9_turnedOf 5 = .ok (.istore_n 3, 1) := by decide +kernel
theorem dX9_turnedOf_6 : decode cX9_turnedOf 6 = .ok (.iload_n 3, 1) := by decide +kernel
theorem dX9_turnedOf_7 : decode cX9_turnedOf 7 = .ok (.iconst 2, 1) := by decide +kernel
theorem dX9_turnedOf_8 : decode cX9_turnedOf 8 = .ok (.if_icmp .ge 96, 3) := by decide +kernel
theorem dX9_turnedOf_11 : decode cX9_turnedOf 11 = .ok (.iconst 0, 1) := by decide +kernel
theorem dX9_turnedOf_12 : decode cX9_turnedOf 12 = .ok (.istore 4, 2) := by decide +kernel
theorem dX9_turnedOf_14 : decode cX9_turnedOf 14 = .ok (.iload 4, 2) := by decide +kernel
theorem dX9_turnedOf_16 : decode cX9_turnedOf 16 = .ok (.iconst 2, 1) := by decide +kernel
theorem dX9_turnedOf_17 : decode cX9_turnedOf 17 = .ok (.if_icmp .ge 81, 3) := by decide +kernel
theorem dX9_turnedOf_20 : decode cX9_turnedOf 20 = .ok (.iload_n 1, 1) := by decide +kernel
theorem dX9_turnedOf_21 : decode cX9_turnedOf 21 = .ok (.iload_n 0, 1) := by decide +kernel
theorem dX9_turnedOf_22 : decode cX9_turnedOf 22 = .ok (.bipush 16, 2) := by decide +kernel
theorem dX9_turnedOf_24 : decode cX9_turnedOf 24 = .ok (.irem, 1) := by decide +kernel
theorem dX9_turnedOf_25 : decode cX9_turnedOf 25 = .ok (.iconst 1, 1) := by decide +kernel
theorem dX9_turnedOf_26 : decode cX9_turnedOf 26 = .ok (.iload_n 3, 1) := by decide +kernel
theorem dX9_turnedOf_27 : decode cX9_turnedOf 27 = .ok (.isub, 1) := by decide +kernel
theorem dX9_turnedOf_28 : decode cX9_turnedOf 28 = .ok (.iconst 1, 1) := by decide +kernel
theorem dX9_turnedOf_29 : decode cX9_turnedOf 29 = .ok (.iload 4, 2) := by decide +kernel
theorem dX9_turnedOf_31 : decode cX9_turnedOf 31 = .ok (.isub, 1) := by decide +kernel
theorem dX9_turnedOf_32 : decode cX9_turnedOf 32 = .ok (.invokestatic 127, 3) := by decide +kernel
theorem dX9_turnedOf_35 : decode cX9_turnedOf 35 = .ok (.iconst 2, 1) := by decide +kernel
theorem dX9_turnedOf_36 : decode cX9_turnedOf 36 = .ok (.iload_n 3, 1) := by decide +kernel
theorem dX9_turnedOf_37 : decode cX9_turnedOf 37 = .ok (.imul, 1) := by decide +kernel
theorem dX9_turnedOf_38 : decode cX9_turnedOf 38 = .ok (.iload 4, 2) := by decide +kernel
theorem dX9_turnedOf_40 : decode cX9_turnedOf 40 = .ok (.iadd, 1) := by decide +kernel
theorem dX9_turnedOf_41 : decode cX9_turnedOf 41 = .ok (.ishl, 1) := by decide +kernel
theorem dX9_turnedOf_42 : decode cX9_turnedOf 42 = .ok (.ior, 1) := by decide +kernel
theorem dX9_turnedOf_43 : decode cX9_turnedOf 43 = .ok (.istore_n 1, 1) := by decide +kernel
theorem dX9_turnedOf_44 : decode cX9_turnedOf 44 = .ok (.iconst 0, 1) := by decide +kernel
theorem dX9_turnedOf_45 : decode cX9_turnedOf 45 = .ok (.istore 5, 2) := by decide +kernel
theorem dX9_turnedOf_47 : decode cX9_turnedOf 47 = .ok (.iload 5, 2) := by decide +kernel
theorem dX9_turnedOf_49 : decode cX9_turnedOf 49 = .ok (.iconst 2, 1) := by decide +kernel
theorem dX9_turnedOf_50 : decode cX9_turnedOf 50 = .ok (.if_icmp .ge 42, 3) := by decide +kernel
theorem dX9_turnedOf_53 : decode cX9_turnedOf 53 = .ok (.iload_n 2, 1) := by decide +kernel
theorem dX9_turnedOf_54 : decode cX9_turnedOf 54 = .ok (.iconst 1, 1) := by decide +kernel
theorem dX9_turnedOf_55 : decode cX9_turnedOf 55 = .ok (.iload_n 0, 1) := by decide +kernel
theorem dX9_turnedOf_56 : decode cX9_turnedOf 56 = .ok (.bipush 16, 2) := by decide +kernel
theorem dX9_turnedOf_58 : decode cX9_turnedOf 58 = .ok (.idiv, 1) := by decide +kernel
theorem dX9_turnedOf_59 : decode cX9_turnedOf 59 = .ok (.iconst 1, 1) := by decide +kernel
theorem dX9_turnedOf_60 : decode cX9_turnedOf 60 = .ok (.iload_n 3, 1) := by decide +kernel
theorem dX9_turnedOf_61 : decode cX9_turnedOf 61 = .ok (.isub, 1) := by decide +kernel
theorem dX9_turnedOf_62 : decode cX9_turnedOf 62 = .ok (.iconst 1, 1) := by decide +kernel
theorem dX9_turnedOf_63 : decode cX9_turnedOf 63 = .ok (.iload 4, 2) := by decide +kernel
theorem dX9_turnedOf_65 : decode cX9_turnedOf 65 = .ok (.isub, 1) := by decide +kernel
theorem dX9_turnedOf_66 : decode cX9_turnedOf 66 = .ok (.iload 5, 2) := by decide +kernel
theorem dX9_turnedOf_68 : decode cX9_turnedOf 68 = .ok (.invokestatic 131, 3) := by decide +kernel
theorem dX9_turnedOf_71 : decode cX9_turnedOf 71 = .ok (.isub, 1) := by decide +kernel
theorem dX9_turnedOf_72 : decode cX9_turnedOf 72 = .ok (.iconst 4, 1) := by decide +kernel
theorem dX9_turnedOf_73 : decode cX9_turnedOf 73 = .ok (.iload_n 3, 1) := by decide +kernel
theorem dX9_turnedOf_74 : decode cX9_turnedOf 74 = .ok (.imul, 1) := by decide +kernel
theorem dX9_turnedOf_75 : decode cX9_turnedOf 75 = .ok (.iconst 2, 1) := by decide +kernel
theorem dX9_turnedOf_76 : decode cX9_turnedOf 76 = .ok (.iload 4, 2) := by decide +kernel
theorem dX9_turnedOf_78 : decode cX9_turnedOf 78 = .ok (.imul, 1) := by decide +kernel
theorem dX9_turnedOf_79 : decode cX9_turnedOf 79 = .ok (.iadd, 1) := by decide +kernel
theorem dX9_turnedOf_80 : decode cX9_turnedOf 80 = .ok (.iload 5, 2) := by decide +kernel
theorem dX9_turnedOf_82 : decode cX9_turnedOf 82 = .ok (.iadd, 1) := by decide +kernel
theorem dX9_turnedOf_83 : decode cX9_turnedOf 83 = .ok (.ishl, 1) := by decide +kernel
theorem dX9_turnedOf_84 : decode cX9_turnedOf 84 = .ok (.ior, 1) := by decide +kernel
theorem dX9_turnedOf_85 : decode cX9_turnedOf 85 = .ok (.istore_n 2, 1) := by decide +kernel
theorem dX9_turnedOf_86 : decode cX9_turnedOf 86 = .ok (.iinc 5 1, 3) := by decide +kernel
theorem dX9_turnedOf_89 : decode cX9_turnedOf 89 = .ok (.goto (-42), 3) := by decide +kernel
theorem dX9_turnedOf_92 : decode cX9_turnedOf 92 = .ok (.iinc 4 1, 3) := by decide +kernel
theorem dX9_turnedOf_95 : decode cX9_turnedOf 95 = .ok (.goto (-81), 3) := by decide +kernel
theorem dX9_turnedOf_98 : decode cX9_turnedOf 98 = .ok (.iinc 3 1, 3) := by decide +kernel
theorem dX9_turnedOf_101 : decode cX9_turnedOf 101 = .ok (.goto (-95), 3) := by decide +kernel
theorem dX9_turnedOf_104 : decode cX9_turnedOf 104 = .ok (.bipush 16, 2) := by decide +kernel
theorem dX9_turnedOf_106 : decode cX9_turnedOf 106 = .ok (.iload_n 2, 1) := by decide +kernel
theorem dX9_turnedOf_107 : decode cX9_turnedOf 107 = .ok (.imul, 1) := by decide +kernel
theorem dX9_turnedOf_108 : decode cX9_turnedOf 108 = .ok (.iload_n 1, 1) := by decide +kernel
theorem dX9_turnedOf_109 : decode cX9_turnedOf 109 = .ok (.iadd, 1) := by decide +kernel
theorem dX9_turnedOf_110 : decode cX9_turnedOf 110 = .ok (.ireturn, 1) := by decide +kernel
theorem dX9_turned_0 : decode cX9_turned 0 = .ok (.iload_n 1, 1) := by decide +kernel
theorem dX9_turned_1 : decode cX9_turned 1 = .ok (.invokestatic 118, 3) := by decide +kernel
theorem dX9_turned_4 : decode cX9_turned 4 = .ok (.ifCond .eq 10, 3) := by decide +kernel
theorem dX9_turned_7 : decode cX9_turned 7 = .ok (.iload_n 1, 1) := by decide +kernel
theorem dX9_turned_8 : decode cX9_turned 8 = .ok (.invokestatic 227, 3) := by decide +kernel
theorem dX9_turned_11 : decode cX9_turned 11 = .ok (.goto 6, 3) := by decide +kernel
theorem dX9_turned_14 : decode cX9_turned 14 = .ok (.sipush (-1002), 3) := by decide +kernel
theorem dX9_turned_17 : decode cX9_turned 17 = .ok (.ireturn, 1) := by decide +kernel
theorem dX9_kinds_0 : decode cX9_kinds 0 = .ok (.iconst 0, 1) := by decide +kernel
theorem dX9_kinds_1 : decode cX9_kinds 1 = .ok (.istore_n 1, 1) := by decide +kernel
theorem dX9_kinds_2 : decode cX9_kinds 2 = .ok (.iconst 0, 1) := by decide +kernel
theorem dX9_kinds_3 : decode cX9_kinds 3 = .ok (.istore_n 2, 1) := by decide +kernel
theorem dX9_kinds_4 : decode cX9_kinds 4 = .ok (.iload_n 2, 1) := by decide +kernel
theorem dX9_kinds_5 : decode cX9_kinds 5 = .ok (.sipush 4096, 3) := by decide +kernel
theorem dX9_kinds_8 : decode cX9_kinds 8 = .ok (.if_icmp .ge 46, 3) := by decide +kernel
theorem dX9_kinds_11 : decode cX9_kinds 11 = .ok (.aload_n 0, 1) := by decide +kernel
theorem dX9_kinds_12 : decode cX9_kinds 12 = .ok (.iload_n 2, 1) := by decide +kernel
theorem dX9_kinds_13 : decode cX9_kinds 13 = .ok (.invokevirtual 209, 3) := by decide +kernel
theorem dX9_kinds_16 : decode cX9_kinds 16 = .ok (.ifCond .eq 32, 3) := by decide +kernel
theorem dX9_kinds_19 : decode cX9_kinds 19 = .ok (.iload_n 2, 1) := by decide +kernel
theorem dX9_kinds_20 : decode cX9_kinds 20 = .ok (.invokestatic 227, 3) := by decide +kernel
theorem dX9_kinds_23 : decode cX9_kinds 23 = .ok (.istore_n 3, 1) := by decide +kernel
theorem dX9_kinds_24 : decode cX9_kinds 24 = .ok (.iload_n 1, 1) := by decide +kernel
theorem dX9_kinds_25 : decode cX9_kinds 25 = .ok (.iload_n 3, 1) := by decide +kernel
theorem dX9_kinds_26 : decode cX9_kinds 26 = .ok (.iload_n 2, 1) := by decide +kernel
theorem dX9_kinds_27 : decode cX9_kinds 27 = .ok (.if_icmp .ge 11, 3) := by decide +kernel
theorem dX9_kinds_30 : decode cX9_kinds 30 = .ok (.aload_n 0, 1) := by decide +kernel
theorem dX9_kinds_31 : decode cX9_kinds 31 = .ok (.iload_n 3, 1) := by decide +kernel
theorem dX9_kinds_32 : decode cX9_kinds 32 = .ok (.invokevirtual 209, 3) := by decide +kernel
theorem dX9_kinds_35 : decode cX9_kinds 35 = .ok (.ifCond .ne 7, 3) := by decide +kernel
theorem dX9_kinds_38 : decode cX9_kinds 38 = .ok (.iconst 1, 1) := by decide +kernel
theorem dX9_kinds_39 : decode cX9_kinds 39 = .ok (.goto 4, 3) := by decide +kernel
theorem dX9_kinds_42 : decode cX9_kinds 42 = .ok (.iconst 0, 1) := by decide +kernel
theorem dX9_kinds_43 : decode cX9_kinds 43 = .ok (.invokestatic 87, 3) := by decide +kernel
theorem dX9_kinds_46 : decode cX9_kinds 46 = .ok (.iadd, 1) := by decide +kernel
theorem dX9_kinds_47 : decode cX9_kinds 47 = .ok (.istore_n 1, 1) := by decide +kernel
theorem dX9_kinds_48 : decode cX9_kinds 48 = .ok (.iinc 2 1, 3) := by decide +kernel
theorem dX9_kinds_51 : decode cX9_kinds 51 = .ok (.goto (-47), 3) := by decide +kernel
theorem dX9_kinds_54 : decode cX9_kinds 54 = .ok (.iload_n 1, 1) := by decide +kernel
theorem dX9_kinds_55 : decode cX9_kinds 55 = .ok (.ireturn, 1) := by decide +kernel
theorem dX9_isPerson_0 : decode cX9_isPerson 0 = .ok (.iload_n 0, 1) := by decide +kernel
theorem dX9_isPerson_1 : decode cX9_isPerson 1 = .ok (.i2l, 1) := by decide +kernel
theorem dX9_isPerson_2 : decode cX9_isPerson 2 = .ok (.lconst 0, 1) := by decide +kernel
theorem dX9_isPerson_3 : decode cX9_isPerson 3 = .ok (.ldc2_w 230, 3) := by decide +kernel
theorem dX9_isPerson_6 : decode cX9_isPerson 6 = .ok (.invokestatic 39, 3) := by decide +kernel
theorem dX9_isPerson_9 : decode cX9_isPerson 9 = .ok (.ireturn, 1) := by decide +kernel
theorem dX9_nameOf_0 : decode cX9_nameOf 0 = .ok (.aload_n 0, 1) := by decide +kernel
theorem dX9_nameOf_1 : decode cX9_nameOf 1 = .ok (.getfield 26, 3) := by decide +kernel
theorem dX9_nameOf_4 : decode cX9_nameOf 4 = .ok (.bipush 6, 2) := by decide +kernel
theorem dX9_nameOf_6 : decode cX9_nameOf 6 = .ok (.iload_n 1, 1) := by decide +kernel
theorem dX9_nameOf_7 : decode cX9_nameOf 7 = .ok (.imul, 1) := by decide +kernel
theorem dX9_nameOf_8 : decode cX9_nameOf 8 = .ok (.iload_n 2, 1) := by decide +kernel
theorem dX9_nameOf_9 : decode cX9_nameOf 9 = .ok (.iadd, 1) := by decide +kernel
theorem dX9_nameOf_10 : decode cX9_nameOf 10 = .ok (.baload, 1) := by decide +kernel
theorem dX9_nameOf_11 : decode cX9_nameOf 11 = .ok (.invokestatic 87, 3) := by decide +kernel
theorem dX9_nameOf_14 : decode cX9_nameOf 14 = .ok (.ireturn, 1) := by decide +kernel
theorem dX9_view_0 : decode cX9_view 0 = .ok (.iload_n 1, 1) := by decide +kernel
theorem dX9_view_1 : decode cX9_view 1 = .ok (.invokestatic 232, 3) := by decide +kernel
theorem dX9_view_4 : decode cX9_view 4 = .ok (.ifCond .eq 19, 3) := by decide +kernel
theorem dX9_view_7 : decode cX9_view 7 = .ok (.iload_n 2, 1) := by decide +kernel
theorem dX9_view_8 : decode cX9_view 8 = .ok (.invokestatic 232, 3) := by decide +kernel
theorem dX9_view_11 : decode cX9_view 11 = .ok (.ifCond .eq 12, 3) := by decide +kernel
theorem dX9_view_14 : decode cX9_view 14 = .ok (.aload_n 0, 1) := by decide +kernel
theorem dX9_view_15 : decode cX9_view 15 = .ok (.iload_n 1, 1) := by decide +kernel
theorem dX9_view_16 : decode cX9_view 16 = .ok (.iload_n 2, 1) := by decide +kernel
theorem dX9_view_17 : decode cX9_view 17 = .ok (.invokevirtual 235, 3) := by decide +kernel
theorem dX9_view_20 : decode cX9_view 20 = .ok (.goto 6, 3) := by decide +kernel
theorem dX9_view_23 : decode cX9_view 23 = .ok (.sipush (-1001), 3) := by decide +kernel
theorem dX9_view_26 : decode cX9_view 26 = .ok (.ireturn, 1) := by decide +kernel
theorem dX9_call_0 : decode cX9_call 0 = .ok (.iload_n 1, 1) := by decide +kernel
theorem dX9_call_1 : decode cX9_call 1 = .ok (.invokestatic 232, 3) := by decide +kernel
theorem dX9_call_4 : decode cX9_call 4 = .ok (.ifCond .eq 10, 3) := by decide +kernel
theorem dX9_call_7 : decode cX9_call 7 = .ok (.iload_n 2, 1) := by decide +kernel
theorem dX9_call_8 : decode cX9_call 8 = .ok (.invokestatic 232, 3) := by decide +kernel
theorem dX9_call_11 : decode cX9_call 11 = .ok (.ifCond .ne 7, 3) := by decide +kernel
theorem dX9_call_14 : decode cX9_call 14 = .ok (.sipush (-1001), 3) := by decide +kernel
theorem dX9_call_17 : decode cX9_call 17 = .ok (.ireturn, 1) := by decide +kernel
theorem dX9_call_18 : decode cX9_call 18 = .ok (.iload_n 3, 1) := by decide +kernel
theorem dX9_call_19 : decode cX9_call 19 = .ok (.invokestatic 122, 3) := by decide +kernel
theorem dX9_call_22 : decode cX9_call 22 = .ok (.ifCond .ne 7, 3) := by decide +kernel
theorem dX9_call_25 : decode cX9_call 25 = .ok (.sipush (-1002), 3) := by decide +kernel
theorem dX9_call_28 : decode cX9_call 28 = .ok (.ireturn, 1) := by decide +kernel
theorem dX9_call_29 : decode cX9_call 29 = .ok (.aload_n 0, 1) := by decide +kernel
theorem dX9_call_30 : decode cX9_call 30 = .ok (.iload_n 1, 1) := by decide +kernel
theorem dX9_call_31 : decode cX9_call 31 = .ok (.iload_n 2, 1) := by decide +kernel
theorem dX9_call_32 : decode cX9_call 32 = .ok (.invokevirtual 235, 3) := by decide +kernel
theorem dX9_call_35 : decode cX9_call 35 = .ok (.istore 4, 2) := by decide +kernel
theorem dX9_call_37 : decode cX9_call 37 = .ok (.aload_n 0, 1) := by decide +kernel
theorem dX9_call_38 : decode cX9_call 38 = .ok (.getfield 26, 3) := by decide +kernel
theorem dX9_call_41 : decode cX9_call 41 = .ok (.bipush 6, 2) := by decide +kernel
theorem dX9_call_43 : decode cX9_call 43 = .ok (.iload_n 1, 1) := by decide +kernel
theorem dX9_call_44 : decode cX9_call 44 = .ok (.imul, 1) := by decide +kernel
theorem dX9_call_45 : decode cX9_call 45 = .ok (.iload_n 2, 1) := by decide +kernel
theorem dX9_call_46 : decode cX9_call 46 = .ok (.iadd, 1) := by decide +kernel
theorem dX9_call_47 : decode cX9_call 47 = .ok (.iload_n 3, 1) := by decide +kernel
theorem dX9_call_48 : decode cX9_call 48 = .ok (.iconst 1, 1) := by decide +kernel
theorem dX9_call_49 : decode cX9_call 49 = .ok (.if_icmp .ne 7, 3) := by decide +kernel
theorem dX9_call_52 : decode cX9_call 52 = .ok (.iconst 1, 1) := by decide +kernel
theorem dX9_call_53 : decode cX9_call 53 = .ok (.goto 4, 3) := by decide +kernel
theorem dX9_call_56 : decode cX9_call 56 = .ok (.iconst 0, 1) := by decide +kernel
theorem dX9_call_57 : decode cX9_call 57 = .ok (.bastore, 1) := by decide +kernel
theorem dX9_call_58 : decode cX9_call 58 = .ok (.iload 4, 2) := by decide +kernel
theorem dX9_call_60 : decode cX9_call 60 = .ok (.ireturn, 1) := by decide +kernel
theorem dX9_meet_0 : decode cX9_meet 0 = .ok (.iload_n 1, 1) := by decide +kernel
theorem dX9_meet_1 : decode cX9_meet 1 = .ok (.invokestatic 232, 3) := by decide +kernel
theorem dX9_meet_4 : decode cX9_meet 4 = .ok (.ifCond .eq 27, 3) := by decide +kernel
theorem dX9_meet_7 : decode cX9_meet 7 = .ok (.iload_n 2, 1) := by decide +kernel
theorem dX9_meet_8 : decode cX9_meet 8 = .ok (.invokestatic 232, 3) := by decide +kernel
theorem dX9_meet_11 : decode cX9_meet 11 = .ok (.ifCond .eq 20, 3) := by decide +kernel
theorem dX9_meet_14 : decode cX9_meet 14 = .ok (.iload_n 1, 1) := by decide +kernel
theorem dX9_meet_15 : decode cX9_meet 15 = .ok (.iload_n 2, 1) := by decide +kernel
theorem dX9_meet_16 : decode cX9_meet 16 = .ok (.if_icmp .eq 15, 3) := by decide +kernel
theorem dX9_meet_19 : decode cX9_meet 19 = .ok (.iload_n 3, 1) := by decide +kernel
theorem dX9_meet_20 : decode cX9_meet 20 = .ok (.i2l, 1) := by decide +kernel
theorem dX9_meet_21 : decode cX9_meet 21 = .ok (.lconst 0, 1) := by decide +kernel
theorem dX9_meet_22 : decode cX9_meet 22 = .ok (.ldc2_w 238, 3) := by decide +kernel
theorem dX9_meet_25 : decode cX9_meet 25 = .ok (.invokestatic 39, 3) := by decide +kernel
theorem dX9_meet_28 : decode cX9_meet 28 = .ok (.ifCond .ne 7, 3) := by decide +kernel
theorem dX9_meet_31 : decode cX9_meet 31 = .ok (.sipush (-1001), 3) := by decide +kernel
theorem dX9_meet_34 : decode cX9_meet 34 = .ok (.ireturn, 1) := by decide +kernel
theorem dX9_meet_35 : decode cX9_meet 35 = .ok (.aload_n 0, 1) := by decide +kernel
theorem dX9_meet_36 : decode cX9_meet 36 = .ok (.getfield 7, 3) := by decide +kernel
theorem dX9_meet_39 : decode cX9_meet 39 = .ok (.bipush 6, 2) := by decide +kernel
theorem dX9_meet_41 : decode cX9_meet 41 = .ok (.iaload, 1) := by decide +kernel
theorem dX9_meet_42 : decode cX9_meet 42 = .ok (.aload_n 0, 1) := by decide +kernel
theorem dX9_meet_43 : decode cX9_meet 43 = .ok (.iload_n 1, 1) := by decide +kernel
theorem dX9_meet_44 : decode cX9_meet 44 = .ok (.iload_n 1, 1) := by decide +kernel
theorem dX9_meet_45 : decode cX9_meet 45 = .ok (.invokevirtual 235, 3) := by decide +kernel
theorem dX9_meet_48 : decode cX9_meet 48 = .ok (.aload_n 0, 1) := by decide +kernel
theorem dX9_meet_49 : decode cX9_meet 49 = .ok (.iload_n 1, 1) := by decide +kernel
theorem dX9_meet_50 : decode cX9_meet 50 = .ok (.iload_n 2, 1) := by decide +kernel
theorem dX9_meet_51 : decode cX9_meet 51 = .ok (.invokevirtual 235, 3) := by decide +kernel
theorem dX9_meet_54 : decode cX9_meet 54 = .ok (.invokestatic 127, 3) := by decide +kernel
theorem dX9_meet_57 : decode cX9_meet 57 = .ok (.istore 4, 2) := by decide +kernel
theorem dX9_meet_59 : decode cX9_meet 59 = .ok (.iconst 0, 1) := by decide +kernel
theorem dX9_meet_60 : decode cX9_meet 60 = .ok (.istore 5, 2) := by decide +kernel
theorem dX9_meet_62 : decode cX9_meet 62 = .ok (.iload 5, 2) := by decide +kernel
theorem dX9_meet_64 : decode cX9_meet 64 = .ok (.bipush 6, 2) := by decide +kernel
theorem dX9_meet_66 : decode cX9_meet 66 = .ok (.if_icmp .ge 67, 3) := by decide +kernel
theorem dX9_meet_69 : decode cX9_meet 69 = .ok (.iload 4, 2) := by decide +kernel
theorem dX9_meet_71 : decode cX9_meet 71 = .ok (.iload_n 3, 1) := by decide +kernel
theorem dX9_meet_72 : decode cX9_meet 72 = .ok (.iload 5, 2) := by decide +kernel
theorem dX9_meet_74 : decode cX9_meet 74 = .ok (.ishr, 1) := by decide +kernel
theorem dX9_meet_75 : decode cX9_meet 75 = .ok (.iconst 1, 1) := by decide +kernel
theorem dX9_meet_76 : decode cX9_meet 76 = .ok (.iand, 1) := by decide +kernel
theorem dX9_meet_77 : decode cX9_meet 77 = .ok (.ixor, 1) := by decide +kernel
theorem dX9_meet_78 : decode cX9_meet 78 = .ok (.istore 6, 2) := by decide +kernel
theorem dX9_meet_80 : decode cX9_meet 80 = .ok (.aload_n 0, 1) := by decide +kernel
theorem dX9_meet_81 : decode cX9_meet 81 = .ok (.getfield 26, 3) := by decide +kernel
theorem dX9_meet_84 : decode cX9_meet 84 = .ok (.bipush 6, 2) := by decide +kernel
theorem dX9_meet_86 : decode cX9_meet 86 = .ok (.iload 5, 2) := by decide +kernel
theorem dX9_meet_88 : decode cX9_meet 88 = .ok (.imul, 1) := by decide +kernel
theorem dX9_meet_89 : decode cX9_meet 89 = .ok (.iload_n 1, 1) := by decide +kernel
theorem dX9_meet_90 : decode cX9_meet 90 = .ok (.iadd, 1) := by decide +kernel
theorem dX9_meet_91 : decode cX9_meet 91 = .ok (.aload_n 0, 1) := by decide +kernel
theorem dX9_meet_92 : decode cX9_meet 92 = .ok (.getfield 7, 3) := by decide +kernel
theorem dX9_meet_95 : decode cX9_meet 95 = .ok (.bipush 7, 2) := by decide +kernel
theorem dX9_meet_97 : decode cX9_meet 97 = .ok (.iaload, 1) := by decide +kernel
theorem dX9_meet_98 : decode cX9_meet 98 = .ok (.aload_n 0, 1) := by decide +kernel
theorem dX9_meet_99 : decode cX9_meet 99 = .ok (.iload 5, 2) := by decide +kernel
theorem dX9_meet_101 : decode cX9_meet 101 = .ok (.iload_n 1, 1) := by decide +kernel
theorem dX9_meet_102 : decode cX9_meet 102 = .ok (.invokevirtual 235, 3) := by decide +kernel
theorem dX9_meet_105 : decode cX9_meet 105 = .ok (.aload_n 0, 1) := by decide +kernel
theorem dX9_meet_106 : decode cX9_meet 106 = .ok (.iload 5, 2) := by decide +kernel
theorem dX9_meet_108 : decode cX9_meet 108 = .ok (.iload_n 2, 1) := by decide +kernel
theorem dX9_meet_109 : decode cX9_meet 109 = .ok (.invokevirtual 235, 3) := by decide +kernel
theorem dX9_meet_112 : decode cX9_meet 112 = .ok (.iload 6, 2) := by decide +kernel
theorem dX9_meet_114 : decode cX9_meet 114 = .ok (.invokestatic 131, 3) := by decide +kernel
theorem dX9_meet_117 : decode cX9_meet 117 = .ok (.iconst 1, 1) := by decide +kernel
theorem dX9_meet_118 : decode cX9_meet 118 = .ok (.if_icmp .ne 7, 3) := by decide +kernel
theorem dX9_meet_121 : decode cX9_meet 121 = .ok (.iconst 1, 1) := by decide +kernel
theorem dX9_meet_122 : decode cX9_meet 122 = .ok (.goto 4, 3) := by decide +kernel
theorem dX9_meet_125 : decode cX9_meet 125 = .ok (.iconst 0, 1) := by decide +kernel
theorem dX9_meet_126 : decode cX9_meet 126 = .ok (.bastore, 1) := by decide +kernel
theorem dX9_meet_127 : decode cX9_meet 127 = .ok (.iinc 5 1, 3) := by decide +kernel
theorem dX9_meet_130 : decode cX9_meet 130 = .ok (.goto (-68), 3) := by decide +kernel
theorem dX9_meet_133 : decode cX9_meet 133 = .ok (.iload 4, 2) := by decide +kernel
theorem dX9_meet_135 : decode cX9_meet 135 = .ok (.ireturn, 1) := by decide +kernel
theorem dX9_kin_0 : decode cX9_kin 0 = .ok (.iload_n 1, 1) := by decide +kernel
theorem dX9_kin_1 : decode cX9_kin 1 = .ok (.invokestatic 232, 3) := by decide +kernel
theorem dX9_kin_4 : decode cX9_kin 4 = .ok (.ifCond .eq 24, 3) := by decide +kernel
theorem dX9_kin_7 : decode cX9_kin 7 = .ok (.iload_n 2, 1) := by decide +kernel
theorem dX9_kin_8 : decode cX9_kin 8 = .ok (.i2l, 1) := by decide +kernel
theorem dX9_kin_9 : decode cX9_kin 9 = .ok (.lconst 0, 1) := by decide +kernel
theorem dX9_kin_10 : decode cX9_kin 10 = .ok (.ldc2_w 238, 3) := by decide +kernel
theorem dX9_kin_13 : decode cX9_kin 13 = .ok (.invokestatic 39, 3) := by decide +kernel
theorem dX9_kin_16 : decode cX9_kin 16 = .ok (.ifCond .eq 12, 3) := by decide +kernel
theorem dX9_kin_19 : decode cX9_kin 19 = .ok (.iload_n 2, 1) := by decide +kernel
theorem dX9_kin_20 : decode cX9_kin 20 = .ok (.iload_n 1, 1) := by decide +kernel
theorem dX9_kin_21 : decode cX9_kin 21 = .ok (.ishr, 1) := by decide +kernel
theorem dX9_kin_22 : decode cX9_kin 22 = .ok (.iconst 1, 1) := by decide +kernel
theorem dX9_kin_23 : decode cX9_kin 23 = .ok (.iand, 1) := by decide +kernel
theorem dX9_kin_24 : decode cX9_kin 24 = .ok (.iconst 1, 1) := by decide +kernel
theorem dX9_kin_25 : decode cX9_kin 25 = .ok (.if_icmp .ne 7, 3) := by decide +kernel
theorem dX9_kin_28 : decode cX9_kin 28 = .ok (.sipush (-1001), 3) := by decide +kernel
theorem dX9_kin_31 : decode cX9_kin 31 = .ok (.ireturn, 1) := by decide +kernel
theorem dX9_kin_32 : decode cX9_kin 32 = .ok (.aload_n 0, 1) := by decide +kernel
theorem dX9_kin_33 : decode cX9_kin 33 = .ok (.getfield 30, 3) := by decide +kernel
theorem dX9_kin_36 : decode cX9_kin 36 = .ok (.iload_n 1, 1) := by decide +kernel
theorem dX9_kin_37 : decode cX9_kin 37 = .ok (.iaload, 1) := by decide +kernel
theorem dX9_kin_38 : decode cX9_kin 38 = .ok (.istore_n 3, 1) := by decide +kernel
theorem dX9_kin_39 : decode cX9_kin 39 = .ok (.aload_n 0, 1) := by decide +kernel
theorem dX9_kin_40 : decode cX9_kin 40 = .ok (.getfield 30, 3) := by decide +kernel
theorem dX9_kin_43 : decode cX9_kin 43 = .ok (.iload_n 1, 1) := by decide +kernel
theorem dX9_kin_44 : decode cX9_kin 44 = .ok (.iload_n 2, 1) := by decide +kernel
theorem dX9_kin_45 : decode cX9_kin 45 = .ok (.iastore, 1) := by decide +kernel
theorem dX9_kin_46 : decode cX9_kin 46 = .ok (.iload_n 3, 1) := by decide +kernel
theorem dX9_kin_47 : decode cX9_kin 47 = .ok (.ireturn, 1) := by decide +kernel
theorem dX9_talk_0 : decode cX9_talk 0 = .ok (.iload_n 1, 1) := by decide +kernel
theorem dX9_talk_1 : decode cX9_talk 1 = .ok (.invokestatic 232, 3) := by decide +kernel
theorem dX9_talk_4 : decode cX9_talk 4 = .ok (.ifCond .eq 15, 3) := by decide +kernel
theorem dX9_talk_7 : decode cX9_talk 7 = .ok (.iload_n 2, 1) := by decide +kernel
theorem dX9_talk_8 : decode cX9_talk 8 = .ok (.invokestatic 232, 3) := by decide +kernel
theorem dX9_talk_11 : decode cX9_talk 11 = .ok (.ifCond .eq 8, 3) := by decide +kernel
theorem dX9_talk_14 : decode cX9_talk 14 = .ok (.iload_n 1, 1) := by decide +kernel
theorem dX9_talk_15 : decode cX9_talk 15 = .ok (.iload_n 2, 1) := by decide +kernel
theorem dX9_talk_16 : decode cX9_talk 16 = .ok (.if_icmp .ne 7, 3) := by decide +kernel
theorem dX9_talk_19 : decode cX9_talk 19 = .ok (.sipush (-1001), 3) := by decide +kernel
theorem dX9_talk_22 : decode cX9_talk 22 = .ok (.ireturn, 1) := by decide +kernel
theorem dX9_talk_23 : decode cX9_talk 23 = .ok (.iconst 0, 1) := by decide +kernel
theorem dX9_talk_24 : decode cX9_talk 24 = .ok (.istore_n 3, 1) := by decide +kernel
theorem dX9_talk_25 : decode cX9_talk 25 = .ok (.iconst 0, 1) := by decide +kernel
theorem dX9_talk_26 : decode cX9_talk 26 = .ok (.istore 4, 2) := by decide +kernel
theorem dX9_talk_28 : decode cX9_talk 28 = .ok (.iload 4, 2) := by decide +kernel
theorem dX9_talk_30 : decode cX9_talk 30 = .ok (.bipush 6, 2) := by decide +kernel
theorem dX9_talk_32 : decode cX9_talk 32 = .ok (.if_icmp .ge 92, 3) := by decide +kernel
theorem dX9_talk_35 : decode cX9_talk 35 = .ok (.aload_n 0, 1) := by decide +kernel
theorem dX9_talk_36 : decode cX9_talk 36 = .ok (.getfield 30, 3) := by decide +kernel
theorem dX9_talk_39 : decode cX9_talk 39 = .ok (.iload_n 1, 1) := by decide +kernel
theorem dX9_talk_40 : decode cX9_talk 40 = .ok (.iaload, 1) := by decide +kernel
theorem dX9_talk_41 : decode cX9_talk 41 = .ok (.iload 4, 2) := by decide +kernel
theorem dX9_talk_43 : decode cX9_talk 43 = .ok (.ishr, 1) := by decide +kernel
theorem dX9_talk_44 : decode cX9_talk 44 = .ok (.iconst 1, 1) := by decide +kernel
theorem dX9_talk_45 : decode cX9_talk 45 = .ok (.iand, 1) := by decide +kernel
theorem dX9_talk_46 : decode cX9_talk 46 = .ok (.iconst 1, 1) := by decide +kernel
theorem dX9_talk_47 : decode cX9_talk 47 = .ok (.if_icmp .eq 18, 3) := by decide +kernel
theorem dX9_talk_50 : decode cX9_talk 50 = .ok (.aload_n 0, 1) := by decide +kernel
theorem dX9_talk_51 : decode cX9_talk 51 = .ok (.getfield 26, 3) := by decide +kernel
theorem dX9_talk_54 : decode cX9_talk 54 = .ok (.bipush 6, 2) := by decide +kernel
theorem dX9_talk_56 : decode cX9_talk 56 = .ok (.iload_n 1, 1) := by decide +kernel
theorem dX9_talk_57 : decode cX9_talk 57 = .ok (.imul, 1) := by decide +kernel
theorem dX9_talk_58 : decode cX9_talk 58 = .ok (.iload 4, 2) := by decide +kernel
theorem dX9_talk_60 : decode cX9_talk 60 = .ok (.iadd, 1) := by decide +kernel
theorem dX9_talk_61 : decode cX9_talk 61 = .ok (.baload, 1) := by decide +kernel
theorem dX9_talk_62 : decode cX9_talk 62 = .ok (.ifCond .eq 7, 3) := by decide +kernel
theorem dX9_talk_65 : decode cX9_talk 65 = .ok (.iconst 1, 1) := by decide +kernel
theorem dX9_talk_66 : decode cX9_talk 66 = .ok (.goto 4, 3) := by decide +kernel
theorem dX9_talk_69 : decode cX9_talk 69 = .ok (.iconst 0, 1) := by decide +kernel
theorem dX9_talk_70 : decode cX9_talk 70 = .ok (.istore 5, 2) := by decide +kernel
theorem dX9_talk_72 : decode cX9_talk 72 = .ok (.iload 4, 2) := by decide +kernel
theorem dX9_talk_74 : decode cX9_talk 74 = .ok (.iload_n 1, 1) := by decide +kernel
theorem dX9_talk_75 : decode cX9_talk 75 = .ok (.if_icmp .eq 43, 3) := by decide +kernel
theorem dX9_talk_78 : decode cX9_talk 78 = .ok (.iload 4, 2) := by decide +kernel
theorem dX9_talk_80 : decode cX9_talk 80 = .ok (.iload_n 2, 1) := by decide +kernel
theorem dX9_talk_81 : decode cX9_talk 81 = .ok (.if_icmp .eq 37, 3) := by decide +kernel
theorem dX9_talk_84 : decode cX9_talk 84 = .ok (.iload 5, 2) := by decide +kernel
theorem dX9_talk_86 : decode cX9_talk 86 = .ok (.aload_n 0, 1) := by decide +kernel
theorem dX9_talk_87 : decode cX9_talk 87 = .ok (.getfield 26, 3) := by decide +kernel
theorem dX9_talk_90 : decode cX9_talk 90 = .ok (.bipush 6, 2) := by decide +kernel
theorem dX9_talk_92 : decode cX9_talk 92 = .ok (.iload_n 2, 1) := by decide +kernel
theorem dX9_talk_93 : decode cX9_talk 93 = .ok (.imul, 1) := by decide +kernel
theorem dX9_talk_94 : decode cX9_talk 94 = .ok (.iload 4, 2) := by decide +kernel
theorem dX9_talk_96 : decode cX9_talk 96 = .ok (.iadd, 1) := by decide +kernel
theorem dX9_talk_97 : decode cX9_talk 97 = .ok (.baload, 1) := by decide +kernel
theorem dX9_talk_98 : decode cX9_talk 98 = .ok (.if_icmp .eq 20, 3) := by decide +kernel
theorem dX9_talk_101 : decode cX9_talk 101 = .ok (.aload_n 0, 1) := by decide +kernel
theorem dX9_talk_102 : decode cX9_talk 102 = .ok (.getfield 26, 3) := by decide +kernel
theorem dX9_talk_105 : decode cX9_talk 105 = .ok (.bipush 6, 2) := by decide +kernel
theorem dX9_talk_107 : decode cX9_talk 107 = .ok (.iload_n 2, 1) := by decide +kernel
theorem dX9_talk_108 : decode cX9_talk 108 = .ok (.imul, 1) := by decide +kernel
theorem dX9_talk_109 : decode cX9_talk 109 = .ok (.iload 4, 2) := by decide +kernel
theorem dX9_talk_111 : decode cX9_talk 111 = .ok (.iadd, 1) := by decide +kernel
theorem dX9_talk_112 : decode cX9_talk 112 = .ok (.iload 5, 2) := by decide +kernel
theorem dX9_talk_114 : decode cX9_talk 114 = .ok (.bastore, 1) := by decide +kernel
theorem dX9_talk_115 : decode cX9_talk 115 = .ok (.iinc 3 1, 3) := by decide +kernel
theorem dX9_talk_118 : decode cX9_talk 118 = .ok (.iinc 4 1, 3) := by decide +kernel
theorem dX9_talk_121 : decode cX9_talk 121 = .ok (.goto (-93), 3) := by decide +kernel
theorem dX9_talk_124 : decode cX9_talk 124 = .ok (.iload_n 3, 1) := by decide +kernel
theorem dX9_talk_125 : decode cX9_talk 125 = .ok (.ireturn, 1) := by decide +kernel
theorem dX9_agreed_0 : decode cX9_agreed 0 = .ok (.iload_n 1, 1) := by decide +kernel
theorem dX9_agreed_1 : decode cX9_agreed 1 = .ok (.i2l, 1) := by decide +kernel
theorem dX9_agreed_2 : decode cX9_agreed 2 = .ok (.lconst 0, 1) := by decide +kernel
theorem dX9_agreed_3 : decode cX9_agreed 3 = .ok (.ldc2_w 158, 3) := by decide +kernel
theorem dX9_agreed_6 : decode cX9_agreed 6 = .ok (.invokestatic 39, 3) := by decide +kernel
theorem dX9_agreed_9 : decode cX9_agreed 9 = .ok (.ifCond .ne 7, 3) := by decide +kernel
theorem dX9_agreed_12 : decode cX9_agreed 12 = .ok (.sipush (-1002), 3) := by decide +kernel
theorem dX9_agreed_15 : decode cX9_agreed 15 = .ok (.ireturn, 1) := by decide +kernel
theorem dX9_agreed_16 : decode cX9_agreed 16 = .ok (.iconst 0, 1) := by decide +kernel
theorem dX9_agreed_17 : decode cX9_agreed 17 = .ok (.istore_n 2, 1) := by decide +kernel
theorem dX9_agreed_18 : decode cX9_agreed 18 = .ok (.iconst 0, 1) := by decide +kernel
theorem dX9_agreed_19 : decode cX9_agreed 19 = .ok (.istore_n 3, 1) := by decide +kernel
theorem dX9_agreed_20 : decode cX9_agreed 20 = .ok (.iconst 0, 1) := by decide +kernel
theorem dX9_agreed_21 : decode cX9_agreed 21 = .ok (.istore 4, 2) := by decide +kernel
theorem dX9_agreed_23 : decode cX9_agreed 23 = .ok (.iconst 0, 1) := by decide +kernel
theorem dX9_agreed_24 : decode cX9_agreed 24 = .ok (.istore 5, 2) := by decide +kernel
theorem dX9_agreed_26 : decode cX9_agreed 26 = .ok (.iload 5, 2) := by decide +kernel
theorem dX9_agreed_28 : decode cX9_agreed 28 = .ok (.bipush 6, 2) := by decide +kernel
theorem dX9_agreed_30 : decode cX9_agreed 30 = .ok (.if_icmp .ge 133, 3) := by decide +kernel
theorem dX9_agreed_33 : decode cX9_agreed 33 = .ok (.iconst 0, 1) := by decide +kernel
theorem dX9_agreed_34 : decode cX9_agreed 34 = .ok (.istore 6, 2) := by decide +kernel
theorem dX9_agreed_36 : decode cX9_agreed 36 = .ok (.iconst 0, 1) := by decide +kernel
theorem dX9_agreed_37 : decode cX9_agreed 37 = .ok (.istore 7, 2) := by decide +kernel
theorem dX9_agreed_39 : decode cX9_agreed 39 = .ok (.iload 7, 2) := by decide +kernel
theorem dX9_agreed_41 : decode cX9_agreed 41 = .ok (.bipush 6, 2) := by decide +kernel
theorem dX9_agreed_43 : decode cX9_agreed 43 = .ok (.if_icmp .ge 71, 3) := by decide +kernel
theorem dX9_agreed_46 : decode cX9_agreed 46 = .ok (.iload 6, 2) := by decide +kernel
theorem dX9_agreed_48 : decode cX9_agreed 48 = .ok (.aload_n 0, 1) := by decide +kernel
theorem dX9_agreed_49 : decode cX9_agreed 49 = .ok (.iload 7, 2) := by decide +kernel
theorem dX9_agreed_51 : decode cX9_agreed 51 = .ok (.iload 5, 2) := by decide +kernel
theorem dX9_agreed_53 : decode cX9_agreed 53 = .ok (.invokevirtual 235, 3) := by decide +kernel
theorem dX9_agreed_56 : decode cX9_agreed 56 = .ok (.iadd, 1) := by decide +kernel
theorem dX9_agreed_57 : decode cX9_agreed 57 = .ok (.istore 6, 2) := by decide +kernel
theorem dX9_agreed_59 : decode cX9_agreed 59 = .ok (.iload 7, 2) := by decide +kernel
theorem dX9_agreed_61 : decode cX9_agreed 61 = .ok (.iconst 1, 1) := by decide +kernel
theorem dX9_agreed_62 : decode cX9_agreed 62 = .ok (.iadd, 1) := by decide +kernel
theorem dX9_agreed_63 : decode cX9_agreed 63 = .ok (.istore 8, 2) := by decide +kernel
theorem dX9_agreed_65 : decode cX9_agreed 65 = .ok (.iload 8, 2) := by decide +kernel
theorem dX9_agreed_67 : decode cX9_agreed 67 = .ok (.bipush 6, 2) := by decide +kernel
theorem dX9_agreed_69 : decode cX9_agreed 69 = .ok (.if_icmp .ge 39, 3) := by decide +kernel
theorem dX9_agreed_72 : decode cX9_agreed 72 = .ok (.iload_n 2, 1) := by decide +kernel
theorem dX9_agreed_73 : decode cX9_agreed 73 = .ok (.aload_n 0, 1) := by decide +kernel
theorem dX9_agreed_74 : decode cX9_agreed 74 = .ok (.iload 7, 2) := by decide +kernel
theorem dX9_agreed_76 : decode cX9_agreed 76 = .ok (.iload 5, 2) := by decide +kernel
theorem dX9_agreed_78 : decode cX9_agreed 78 = .ok (.invokevirtual 235, 3) := by decide +kernel
theorem dX9_agreed_81 : decode cX9_agreed 81 = .ok (.aload_n 0, 1) := by decide +kernel
theorem dX9_agreed_82 : decode cX9_agreed 82 = .ok (.iload 8, 2) := by decide +kernel
theorem dX9_agreed_84 : decode cX9_agreed 84 = .ok (.iload 5, 2) := by decide +kernel
theorem dX9_agreed_86 : decode cX9_agreed 86 = .ok (.invokevirtual 235, 3) := by decide +kernel
theorem dX9_agreed_89 : decode cX9_agreed 89 = .ok (.if_icmp .ne 7, 3) := by decide +kernel
theorem dX9_agreed_92 : decode cX9_agreed 92 = .ok (.iconst 1, 1) := by decide +kernel
theorem dX9_agreed_93 : decode cX9_agreed 93 = .ok (.goto 4, 3) := by decide +kernel
theorem dX9_agreed_96 : decode cX9_agreed 96 = .ok (.iconst 0, 1) := by decide +kernel
theorem dX9_agreed_97 : decode cX9_agreed 97 = .ok (.invokestatic 87, 3) := by decide +kernel
theorem dX9_agreed_100 : decode cX9_agreed 100 = .ok (.iadd, 1) := by decide +kernel
theorem dX9_agreed_101 : decode cX9_agreed 101 = .ok (.istore_n 2, 1) := by decide +kernel
theorem dX9_agreed_102 : decode cX9_agreed 102 = .ok (.iinc 8 1, 3) := by decide +kernel
theorem dX9_agreed_105 : decode cX9_agreed 105 = .ok (.goto (-40), 3) := by decide +kernel
theorem dX9_agreed_108 : decode cX9_agreed 108 = .ok (.iinc 7 1, 3) := by decide +kernel
theorem dX9_agreed_111 : decode cX9_agreed 111 = .ok (.goto (-72), 3) := by decide +kernel
theorem dX9_agreed_114 : decode cX9_agreed 114 = .ok (.iload_n 3, 1) := by decide +kernel
theorem dX9_agreed_115 : decode cX9_agreed 115 = .ok (.iload 6, 2) := by decide +kernel
theorem dX9_agreed_117 : decode cX9_agreed 117 = .ok (.ifCond .eq 10, 3) := by decide +kernel
theorem dX9_agreed_120 : decode cX9_agreed 120 = .ok (.iload 6, 2) := by decide +kernel
theorem dX9_agreed_122 : decode cX9_agreed 122 = .ok (.bipush 6, 2) := by decide +kernel
theorem dX9_agreed_124 : decode cX9_agreed 124 = .ok (.if_icmp .ne 7, 3) := by decide +kernel
theorem dX9_agreed_127 : decode cX9_agreed 127 = .ok (.iconst 1, 1) := by decide +kernel
theorem dX9_agreed_128 : decode cX9_agreed 128 = .ok (.goto 4, 3) := by decide +kernel
theorem dX9_agreed_131 : decode cX9_agreed 131 = .ok (.iconst 0, 1) := by decide +kernel
theorem dX9_agreed_132 : decode cX9_agreed 132 = .ok (.invokestatic 87, 3) := by decide +kernel
theorem dX9_agreed_135 : decode cX9_agreed 135 = .ok (.iadd, 1) := by decide +kernel
theorem dX9_agreed_136 : decode cX9_agreed 136 = .ok (.istore_n 3, 1) := by decide +kernel
theorem dX9_agreed_137 : decode cX9_agreed 137 = .ok (.iload 4, 2) := by decide +kernel
theorem dX9_agreed_139 : decode cX9_agreed 139 = .ok (.iload 6, 2) := by decide +kernel
theorem dX9_agreed_141 : decode cX9_agreed 141 = .ok (.bipush 6, 2) := by decide +kernel
theorem dX9_agreed_143 : decode cX9_agreed 143 = .ok (.if_icmp .ne 7, 3) := by decide +kernel
theorem dX9_agreed_146 : decode cX9_agreed 146 = .ok (.iconst 1, 1) := by decide +kernel
theorem dX9_agreed_147 : decode cX9_agreed 147 = .ok (.goto 4, 3) := by decide +kernel
theorem dX9_agreed_150 : decode cX9_agreed 150 = .ok (.iconst 0, 1) := by decide +kernel
theorem dX9_agreed_151 : decode cX9_agreed 151 = .ok (.invokestatic 87, 3) := by decide +kernel
theorem dX9_agreed_154 : decode cX9_agreed 154 = .ok (.iadd, 1) := by decide +kernel
theorem dX9_agreed_155 : decode cX9_agreed 155 = .ok (.istore 4, 2) := by decide +kernel
theorem dX9_agreed_157 : decode cX9_agreed 157 = .ok (.iinc 5 1, 3) := by decide +kernel
theorem dX9_agreed_160 : decode cX9_agreed 160 = .ok (.goto (-134), 3) := by decide +kernel
theorem dX9_agreed_163 : decode cX9_agreed 163 = .ok (.iload_n 1, 1) := by decide +kernel
theorem dX9_agreed_164 : decode cX9_agreed 164 = .ok (.ifCond .ne 7, 3) := by decide +kernel
theorem dX9_agreed_167 : decode cX9_agreed 167 = .ok (.iload_n 2, 1) := by decide +kernel
theorem dX9_agreed_168 : decode cX9_agreed 168 = .ok (.goto 14, 3) := by decide +kernel
theorem dX9_agreed_171 : decode cX9_agreed 171 = .ok (.iload_n 1, 1) := by decide +kernel
theorem dX9_agreed_172 : decode cX9_agreed 172 = .ok (.iconst 1, 1) := by decide +kernel
theorem dX9_agreed_173 : decode cX9_agreed 173 = .ok (.if_icmp .ne 7, 3) := by decide +kernel
theorem dX9_agreed_176 : decode cX9_agreed 176 = .ok (.iload_n 3, 1) := by decide +kernel
theorem dX9_agreed_177 : decode cX9_agreed 177 = .ok (.goto 5, 3) := by decide +kernel
theorem dX9_agreed_180 : decode cX9_agreed 180 = .ok (.iload 4, 2) := by decide +kernel
theorem dX9_agreed_182 : decode cX9_agreed 182 = .ok (.ireturn, 1) := by decide +kernel
theorem dX9_forget_0 : decode cX9_forget 0 = .ok (.iconst 0, 1) := by decide +kernel
theorem dX9_forget_1 : decode cX9_forget 1 = .ok (.istore_n 1, 1) := by decide +kernel
theorem dX9_forget_2 : decode cX9_forget 2 = .ok (.iconst 0, 1) := by decide +kernel
theorem dX9_forget_3 : decode cX9_forget 3 = .ok (.istore_n 2, 1) := by decide +kernel
theorem dX9_forget_4 : decode cX9_forget 4 = .ok (.iload_n 2, 1) := by decide +kernel
theorem dX9_forget_5 : decode cX9_forget 5 = .ok (.bipush 36, 2) := by decide +kernel
theorem dX9_forget_7 : decode cX9_forget 7 = .ok (.if_icmp .ge 36, 3) := by decide +kernel
theorem dX9_forget_10 : decode cX9_forget 10 = .ok (.iload_n 1, 1) := by decide +kernel
theorem dX9_forget_11 : decode cX9_forget 11 = .ok (.aload_n 0, 1) := by decide +kernel
theorem dX9_forget_12 : decode cX9_forget 12 = .ok (.getfield 26, 3) := by decide +kernel
theorem dX9_forget_15 : decode cX9_forget 15 = .ok (.iload_n 2, 1) := by decide +kernel
theorem dX9_forget_16 : decode cX9_forget 16 = .ok (.baload, 1) := by decide +kernel
theorem dX9_forget_17 : decode cX9_forget 17 = .ok (.ifCond .ne 7, 3) := by decide +kernel
theorem dX9_forget_20 : decode cX9_forget 20 = .ok (.iconst 1, 1) := by decide +kernel
theorem dX9_forget_21 : decode cX9_forget 21 = .ok (.goto 4, 3) := by decide +kernel
theorem dX9_forget_24 : decode cX9_forget 24 = .ok (.iconst 0, 1) := by decide +kernel
theorem dX9_forget_25 : decode cX9_forget 25 = .ok (.invokestatic 87, 3) := by decide +kernel
theorem dX9_forget_28 : decode cX9_forget 28 = .ok (.iadd, 1) := by decide +kernel
theorem dX9_forget_29 : decode cX9_forget 29 = .ok (.istore_n 1, 1) := by decide +kernel
theorem dX9_forget_30 : decode cX9_forget 30 = .ok (.aload_n 0, 1) := by decide +kernel
theorem dX9_forget_31 : decode cX9_forget 31 = .ok (.getfield 26, 3) := by decide +kernel
theorem dX9_forget_34 : decode cX9_forget 34 = .ok (.iload_n 2, 1) := by decide +kernel
theorem dX9_forget_35 : decode cX9_forget 35 = .ok (.iconst 1, 1) := by decide +kernel
theorem dX9_forget_36 : decode cX9_forget 36 = .ok (.bastore, 1) := by decide +kernel
theorem dX9_forget_37 : decode cX9_forget 37 = .ok (.iinc 2 1, 3) := by decide +kernel
theorem dX9_forget_40 : decode cX9_forget 40 = .ok (.goto (-36), 3) := by decide +kernel
theorem dX9_forget_43 : decode cX9_forget 43 = .ok (.iconst 0, 1) := by decide +kernel
theorem dX9_forget_44 : decode cX9_forget 44 = .ok (.istore_n 2, 1) := by decide +kernel
theorem dX9_forget_45 : decode cX9_forget 45 = .ok (.iload_n 2, 1) := by decide +kernel
theorem dX9_forget_46 : decode cX9_forget 46 = .ok (.bipush 6, 2) := by decide +kernel
theorem dX9_forget_48 : decode cX9_forget 48 = .ok (.if_icmp .ge 16, 3) := by decide +kernel
theorem dX9_forget_51 : decode cX9_forget 51 = .ok (.aload_n 0, 1) := by decide +kernel
theorem dX9_forget_52 : decode cX9_forget 52 = .ok (.getfield 30, 3) := by decide +kernel
theorem dX9_forget_55 : decode cX9_forget 55 = .ok (.iload_n 2, 1) := by decide +kernel
theorem dX9_forget_56 : decode cX9_forget 56 = .ok (.iconst 0, 1) := by decide +kernel
theorem dX9_forget_57 : decode cX9_forget 57 = .ok (.iastore, 1) := by decide +kernel
theorem dX9_forget_58 : decode cX9_forget 58 = .ok (.iinc 2 1, 3) := by decide +kernel
theorem dX9_forget_61 : decode cX9_forget 61 = .ok (.goto (-16), 3) := by decide +kernel
theorem dX9_forget_64 : decode cX9_forget 64 = .ok (.iload_n 1, 1) := by decide +kernel
theorem dX9_forget_65 : decode cX9_forget 65 = .ok (.ireturn, 1) := by decide +kernel
theorem dJ6_bitCount_0f7a4_0 : decode cJ6_bitCount_0f7a4 0 = .ok (.iload_n 0, 1) := by decide +kernel
theorem dJ6_bitCount_0f7a4_1 : decode cJ6_bitCount_0f7a4 1 = .ok (.iload_n 0, 1) := by decide +kernel
theorem dJ6_bitCount_0f7a4_2 : decode cJ6_bitCount_0f7a4 2 = .ok (.iconst 1, 1) := by decide +kernel
theorem dJ6_bitCount_0f7a4_3 : decode cJ6_bitCount_0f7a4 3 = .ok (.iushr, 1) := by decide +kernel
theorem dJ6_bitCount_0f7a4_4 : decode cJ6_bitCount_0f7a4 4 = .ok (.ldc_w 265, 3) := by decide +kernel
theorem dJ6_bitCount_0f7a4_7 : decode cJ6_bitCount_0f7a4 7 = .ok (.iand, 1) := by decide +kernel
theorem dJ6_bitCount_0f7a4_8 : decode cJ6_bitCount_0f7a4 8 = .ok (.isub, 1) := by decide +kernel
theorem dJ6_bitCount_0f7a4_9 : decode cJ6_bitCount_0f7a4 9 = .ok (.istore_n 0, 1) := by decide +kernel
theorem dJ6_bitCount_0f7a4_10 : decode cJ6_bitCount_0f7a4 10 = .ok (.iload_n 0, 1) := by decide +kernel
theorem dJ6_bitCount_0f7a4_11 : decode cJ6_bitCount_0f7a4 11 = .ok (.ldc_w 266, 3) := by decide +kernel
theorem dJ6_bitCount_0f7a4_14 : decode cJ6_bitCount_0f7a4 14 = .ok (.iand, 1) := by decide +kernel
theorem dJ6_bitCount_0f7a4_15 : decode cJ6_bitCount_0f7a4 15 = .ok (.iload_n 0, 1) := by decide +kernel
theorem dJ6_bitCount_0f7a4_16 : decode cJ6_bitCount_0f7a4 16 = .ok (.iconst 2, 1) := by decide +kernel
theorem dJ6_bitCount_0f7a4_17 : decode cJ6_bitCount_0f7a4 17 = .ok (.iushr, 1) := by decide +kernel
theorem dJ6_bitCount_0f7a4_18 : decode cJ6_bitCount_0f7a4 18 = .ok (.ldc_w 266, 3) := by decide +kernel
theorem dJ6_bitCount_0f7a4_21 : decode cJ6_bitCount_0f7a4 21 = .ok (.iand, 1) := by decide +kernel
theorem dJ6_bitCount_0f7a4_22 : decode cJ6_bitCount_0f7a4 22 = .ok (.iadd, 1) := by decide +kernel
theorem dJ6_bitCount_0f7a4_23 : decode cJ6_bitCount_0f7a4 23 = .ok (.istore_n 0, 1) := by decide +kernel
theorem dJ6_bitCount_0f7a4_24 : decode cJ6_bitCount_0f7a4 24 = .ok (.iload_n 0, 1) := by decide +kernel
theorem dJ6_bitCount_0f7a4_25 : decode cJ6_bitCount_0f7a4 25 = .ok (.iload_n 0, 1) := by decide +kernel
theorem dJ6_bitCount_0f7a4_26 : decode cJ6_bitCount_0f7a4 26 = .ok (.iconst 4, 1) := by decide +kernel
theorem dJ6_bitCount_0f7a4_27 : decode cJ6_bitCount_0f7a4 27 = .ok (.iushr, 1) := by decide +kernel
theorem dJ6_bitCount_0f7a4_28 : decode cJ6_bitCount_0f7a4 28 = .ok (.iadd, 1) := by decide +kernel
theorem dJ6_bitCount_0f7a4_29 : decode cJ6_bitCount_0f7a4 29 = .ok (.ldc_w 267, 3) := by decide +kernel
theorem dJ6_bitCount_0f7a4_32 : decode cJ6_bitCount_0f7a4 32 = .ok (.iand, 1) := by decide +kernel
theorem dJ6_bitCount_0f7a4_33 : decode cJ6_bitCount_0f7a4 33 = .ok (.istore_n 0, 1) := by decide +kernel
theorem dJ6_bitCount_0f7a4_34 : decode cJ6_bitCount_0f7a4 34 = .ok (.iload_n 0, 1) := by decide +kernel
theorem dJ6_bitCount_0f7a4_35 : decode cJ6_bitCount_0f7a4 35 = .ok (.iload_n 0, 1) := by decide +kernel
theorem dJ6_bitCount_0f7a4_36 : decode cJ6_bitCount_0f7a4 36 = .ok (.bipush 8, 2) := by decide +kernel
theorem dJ6_bitCount_0f7a4_38 : decode cJ6_bitCount_0f7a4 38 = .ok (.iushr, 1) := by decide +kernel
theorem dJ6_bitCount_0f7a4_39 : decode cJ6_bitCount_0f7a4 39 = .ok (.iadd, 1) := by decide +kernel
theorem dJ6_bitCount_0f7a4_40 : decode cJ6_bitCount_0f7a4 40 = .ok (.istore_n 0, 1) := by decide +kernel
theorem dJ6_bitCount_0f7a4_41 : decode cJ6_bitCount_0f7a4 41 = .ok (.iload_n 0, 1) := by decide +kernel
theorem dJ6_bitCount_0f7a4_42 : decode cJ6_bitCount_0f7a4 42 = .ok (.iload_n 0, 1) := by decide +kernel
theorem dJ6_bitCount_0f7a4_43 : decode cJ6_bitCount_0f7a4 43 = .ok (.bipush 16, 2) := by decide +kernel
theorem dJ6_bitCount_0f7a4_45 : decode cJ6_bitCount_0f7a4 45 = .ok (.iushr, 1) := by decide +kernel
theorem dJ6_bitCount_0f7a4_46 : decode cJ6_bitCount_0f7a4 46 = .ok (.iadd, 1) := by decide +kernel
theorem dJ6_bitCount_0f7a4_47 : decode cJ6_bitCount_0f7a4 47 = .ok (.istore_n 0, 1) := by decide +kernel
theorem dJ6_bitCount_0f7a4_48 : decode cJ6_bitCount_0f7a4 48 = .ok (.iload_n 0, 1) := by decide +kernel
theorem dJ6_bitCount_0f7a4_49 : decode cJ6_bitCount_0f7a4 49 = .ok (.bipush 63, 2) := by decide +kernel
theorem dJ6_bitCount_0f7a4_51 : decode cJ6_bitCount_0f7a4 51 = .ok (.iand, 1) := by decide +kernel
theorem dJ6_bitCount_0f7a4_52 : decode cJ6_bitCount_0f7a4 52 = .ok (.ireturn, 1) := by decide +kernel
theorem dJ13_compare_74951_0 : decode cJ13_compare_74951 0 = .ok (.lload_n 0, 1) := by decide +kernel
theorem dJ13_compare_74951_1 : decode cJ13_compare_74951 1 = .ok (.lload_n 2, 1) := by decide +kernel
theorem dJ13_compare_74951_2 : decode cJ13_compare_74951 2 = .ok (.lcmp, 1) := by decide +kernel
theorem dJ13_compare_74951_3 : decode cJ13_compare_74951 3 = .ok (.ifCond .ge 7, 3) := by decide +kernel
theorem dJ13_compare_74951_6 : decode cJ13_compare_74951 6 = .ok (.iconst (-1), 1) := by decide +kernel
theorem dJ13_compare_74951_7 : decode cJ13_compare_74951 7 = .ok (.goto 14, 3) := by decide +kernel
theorem dJ13_compare_74951_10 : decode cJ13_compare_74951 10 = .ok (.lload_n 0, 1) := by decide +kernel
theorem dJ13_compare_74951_11 : decode cJ13_compare_74951 11 = .ok (.lload_n 2, 1) := by decide +kernel
theorem dJ13_compare_74951_12 : decode cJ13_compare_74951 12 = .ok (.lcmp, 1) := by decide +kernel
theorem dJ13_compare_74951_13 : decode cJ13_compare_74951 13 = .ok (.ifCond .ne 7, 3) := by decide +kernel
theorem dJ13_compare_74951_16 : decode cJ13_compare_74951 16 = .ok (.iconst 0, 1) := by decide +kernel
theorem dJ13_compare_74951_17 : decode cJ13_compare_74951 17 = .ok (.goto 4, 3) := by decide +kernel
theorem dJ13_compare_74951_20 : decode cJ13_compare_74951 20 = .ok (.iconst 1, 1) := by decide +kernel
theorem dJ13_compare_74951_21 : decode cJ13_compare_74951 21 = .ok (.ireturn, 1) := by decide +kernel
theorem dJ9_floorDiv_f86c9_0 : decode cJ9_floorDiv_f86c9 0 = .ok (.lload_n 0, 1) := by decide +kernel
theorem dJ9_floorDiv_f86c9_1 : decode cJ9_floorDiv_f86c9 1 = .ok (.lload_n 2, 1) := by decide +kernel
theorem dJ9_floorDiv_f86c9_2 : decode cJ9_floorDiv_f86c9 2 = .ok (.ldiv, 1) := by decide +kernel
theorem dJ9_floorDiv_f86c9_3 : decode cJ9_floorDiv_f86c9 3 = .ok (.lstore 4, 2) := by decide +kernel
theorem dJ9_floorDiv_f86c9_5 : decode cJ9_floorDiv_f86c9 5 = .ok (.lload_n 0, 1) := by decide +kernel
theorem dJ9_floorDiv_f86c9_6 : decode cJ9_floorDiv_f86c9 6 = .ok (.lload_n 2, 1) := by decide +kernel
theorem dJ9_floorDiv_f86c9_7 : decode cJ9_floorDiv_f86c9 7 = .ok (.lxor, 1) := by decide +kernel
theorem dJ9_floorDiv_f86c9_8 : decode cJ9_floorDiv_f86c9 8 = .ok (.lconst 0, 1) := by decide +kernel
theorem dJ9_floorDiv_f86c9_9 : decode cJ9_floorDiv_f86c9 9 = .ok (.lcmp, 1) := by decide +kernel
theorem dJ9_floorDiv_f86c9_10 : decode cJ9_floorDiv_f86c9 10 = .ok (.ifCond .ge 17, 3) := by decide +kernel
theorem dJ9_floorDiv_f86c9_13 : decode cJ9_floorDiv_f86c9 13 = .ok (.lload 4, 2) := by decide +kernel
theorem dJ9_floorDiv_f86c9_15 : decode cJ9_floorDiv_f86c9 15 = .ok (.lload_n 2, 1) := by decide +kernel
theorem dJ9_floorDiv_f86c9_16 : decode cJ9_floorDiv_f86c9 16 = .ok (.lmul, 1) := by decide +kernel
theorem dJ9_floorDiv_f86c9_17 : decode cJ9_floorDiv_f86c9 17 = .ok (.lload_n 0, 1) := by decide +kernel
theorem dJ9_floorDiv_f86c9_18 : decode cJ9_floorDiv_f86c9 18 = .ok (.lcmp, 1) := by decide +kernel
theorem dJ9_floorDiv_f86c9_19 : decode cJ9_floorDiv_f86c9 19 = .ok (.ifCond .eq 8, 3) := by decide +kernel
theorem dJ9_floorDiv_f86c9_22 : decode cJ9_floorDiv_f86c9 22 = .ok (.lload 4, 2) := by decide +kernel
theorem dJ9_floorDiv_f86c9_24 : decode cJ9_floorDiv_f86c9 24 = .ok (.lconst 1, 1) := by decide +kernel
theorem dJ9_floorDiv_f86c9_25 : decode cJ9_floorDiv_f86c9 25 = .ok (.lsub, 1) := by decide +kernel
theorem dJ9_floorDiv_f86c9_26 : decode cJ9_floorDiv_f86c9 26 = .ok (.lreturn, 1) := by decide +kernel
theorem dJ9_floorDiv_f86c9_27 : decode cJ9_floorDiv_f86c9 27 = .ok (.lload 4, 2) := by decide +kernel
theorem dJ9_floorDiv_f86c9_29 : decode cJ9_floorDiv_f86c9 29 = .ok (.lreturn, 1) := by decide +kernel
theorem dJ9_abs_067f4_0 : decode cJ9_abs_067f4 0 = .ok (.lload_n 0, 1) := by decide +kernel
theorem dJ9_abs_067f4_1 : decode cJ9_abs_067f4 1 = .ok (.lconst 0, 1) := by decide +kernel
theorem dJ9_abs_067f4_2 : decode cJ9_abs_067f4 2 = .ok (.lcmp, 1) := by decide +kernel
theorem dJ9_abs_067f4_3 : decode cJ9_abs_067f4 3 = .ok (.ifCond .ge 8, 3) := by decide +kernel
theorem dJ9_abs_067f4_6 : decode cJ9_abs_067f4 6 = .ok (.lload_n 0, 1) := by decide +kernel
theorem dJ9_abs_067f4_7 : decode cJ9_abs_067f4 7 = .ok (.lneg, 1) := by decide +kernel
theorem dJ9_abs_067f4_8 : decode cJ9_abs_067f4 8 = .ok (.goto 4, 3) := by decide +kernel
theorem dJ9_abs_067f4_11 : decode cJ9_abs_067f4 11 = .ok (.lload_n 0, 1) := by decide +kernel
theorem dJ9_abs_067f4_12 : decode cJ9_abs_067f4 12 = .ok (.lreturn, 1) := by decide +kernel
theorem dJ9_max_7cf53_0 : decode cJ9_max_7cf53 0 = .ok (.iload_n 0, 1) := by decide +kernel
theorem dJ9_max_7cf53_1 : decode cJ9_max_7cf53 1 = .ok (.iload_n 1, 1) := by decide +kernel
theorem dJ9_max_7cf53_2 : decode cJ9_max_7cf53 2 = .ok (.if_icmp .lt 7, 3) := by decide +kernel
theorem dJ9_max_7cf53_5 : decode cJ9_max_7cf53 5 = .ok (.iload_n 0, 1) := by decide +kernel
theorem dJ9_max_7cf53_6 : decode cJ9_max_7cf53 6 = .ok (.goto 4, 3) := by decide +kernel
theorem dJ9_max_7cf53_9 : decode cJ9_max_7cf53 9 = .ok (.iload_n 1, 1) := by decide +kernel
theorem dJ9_max_7cf53_10 : decode cJ9_max_7cf53 10 = .ok (.ireturn, 1) := by decide +kernel
theorem dJ0_length_8abf5_0 : decode cJ0_length_8abf5 0 = .ok (.aload_n 0, 1) := by decide +kernel
theorem dJ0_length_8abf5_1 : decode cJ0_length_8abf5 1 = .ok (.getfield 9, 3) := by decide +kernel
theorem dJ0_length_8abf5_4 : decode cJ0_length_8abf5 4 = .ok (.arraylength, 1) := by decide +kernel
theorem dJ0_length_8abf5_5 : decode cJ0_length_8abf5 5 = .ok (.aload_n 0, 1) := by decide +kernel
theorem dJ0_length_8abf5_6 : decode cJ0_length_8abf5 6 = .ok (.invokevirtual 335, 3) := by decide +kernel
theorem dJ0_length_8abf5_9 : decode cJ0_length_8abf5 9 = .ok (.ishr, 1) := by decide +kernel
theorem dJ0_length_8abf5_10 : decode cJ0_length_8abf5 10 = .ok (.ireturn, 1) := by decide +kernel
theorem dJ0_charAt_5068e_0 : decode cJ0_charAt_5068e 0 = .ok (.aload_n 0, 1) := by decide +kernel
theorem dJ0_charAt_5068e_1 : decode cJ0_charAt_5068e 1 = .ok (.invokevirtual 492, 3) := by decide +kernel
theorem dJ0_charAt_5068e_4 : decode cJ0_charAt_5068e 4 = .ok (.ifCond .eq 12, 3) := by decide +kernel
theorem dJ0_charAt_5068e_7 : decode cJ0_charAt_5068e 7 = .ok (.aload_n 0, 1) := by decide +kernel
theorem dJ0_charAt_5068e_8 : decode cJ0_charAt_5068e 8 = .ok (.getfield 9, 3) := by decide +kernel
theorem dJ0_charAt_5068e_11 : decode cJ0_charAt_5068e 11 = .ok (.iload_n 1, 1) := by decide +kernel
theorem dJ0_charAt_5068e_12 : decode cJ0_charAt_5068e 12 = .ok (.invokestatic 495, 3) := by decide +kernel
theorem dJ0_charAt_5068e_15 : decode cJ0_charAt_5068e 15 = .ok (.ireturn, 1) := by decide +kernel
theorem dJ0_charAt_5068e_16 : decode cJ0_charAt_5068e 16 = .ok (.aload_n 0, 1) := by decide +kernel
theorem dJ0_charAt_5068e_17 : decode cJ0_charAt_5068e 17 = .ok (.getfield 9, 3) := by decide +kernel
theorem dJ0_charAt_5068e_20 : decode cJ0_charAt_5068e 20 = .ok (.iload_n 1, 1) := by decide +kernel
theorem dJ0_charAt_5068e_21 : decode cJ0_charAt_5068e 21 = .ok (.invokestatic 498, 3) := by decide +kernel
theorem dJ0_charAt_5068e_24 : decode cJ0_charAt_5068e 24 = .ok (.ireturn, 1) := by decide +kernel
theorem dJ0_coder_7d493_0 : decode cJ0_coder_7d493 0 = .ok (.getstatic 38, 3) := by decide +kernel
theorem dJ0_coder_7d493_3 : decode cJ0_coder_7d493 3 = .ok (.ifCond .eq 10, 3) := by decide +kernel
theorem dJ0_coder_7d493_6 : decode cJ0_coder_7d493 6 = .ok (.aload_n 0, 1) := by decide +kernel
theorem dJ0_coder_7d493_7 : decode cJ0_coder_7d493 7 = .ok (.getfield 15, 3) := by decide +kernel
theorem dJ0_coder_7d493_10 : decode cJ0_coder_7d493 10 = .ok (.goto 4, 3) := by decide +kernel
theorem dJ0_coder_7d493_13 : decode cJ0_coder_7d493 13 = .ok (.iconst 1, 1) := by decide +kernel
theorem dJ0_coder_7d493_14 : decode cJ0_coder_7d493 14 = .ok (.ireturn, 1) := by decide +kernel
theorem dJ0_isLatin1_aae02_0 : decode cJ0_isLatin1_aae02 0 = .ok (.getstatic 38, 3) := by decide +kernel
theorem dJ0_isLatin1_aae02_3 : decode cJ0_isLatin1_aae02 3 = .ok (.ifCond .eq 14, 3) := by decide +kernel
theorem dJ0_isLatin1_aae02_6 : decode cJ0_isLatin1_aae02 6 = .ok (.aload_n 0, 1) := by decide +kernel
theorem dJ0_isLatin1_aae02_7 : decode cJ0_isLatin1_aae02 7 = .ok (.getfield 15, 3) := by decide +kernel
theorem dJ0_isLatin1_aae02_10 : decode cJ0_isLatin1_aae02 10 = .ok (.ifCond .ne 7, 3) := by decide +kernel
theorem dJ0_isLatin1_aae02_13 : decode cJ0_isLatin1_aae02 13 = .ok (.iconst 1, 1) := by decide +kernel
theorem dJ0_isLatin1_aae02_14 : decode cJ0_isLatin1_aae02 14 = .ok (.goto 4, 3) := by decide +kernel
theorem dJ0_isLatin1_aae02_17 : decode cJ0_isLatin1_aae02 17 = .ok (.iconst 0, 1) := by decide +kernel
theorem dJ0_isLatin1_aae02_18 : decode cJ0_isLatin1_aae02 18 = .ok (.ireturn, 1) := by decide +kernel
theorem dJ0_checkIndex_df160_0 : decode cJ0_checkIndex_df160 0 = .ok (.iload_n 0, 1) := by decide +kernel
theorem dJ0_checkIndex_df160_1 : decode cJ0_checkIndex_df160 1 = .ok (.iload_n 1, 1) := by decide +kernel
theorem dJ0_checkIndex_df160_2 : decode cJ0_checkIndex_df160 2 = .ok (.getstatic 1053, 3) := by decide +kernel
theorem dJ0_checkIndex_df160_5 : decode cJ0_checkIndex_df160 5 = .ok (.invokestatic 1059, 3) := by decide +kernel
theorem dJ0_checkIndex_df160_8 : decode cJ0_checkIndex_df160 8 = .ok (.pop, 1) := by decide +kernel
theorem dJ0_checkIndex_df160_9 : decode cJ0_checkIndex_df160 9 = .ok (.return_, 1) := by decide +kernel
theorem dJ1_charAt_3b067_0 : decode cJ1_charAt_3b067 0 = .ok (.iload_n 1, 1) := by decide +kernel
theorem dJ1_charAt_3b067_1 : decode cJ1_charAt_3b067 1 = .ok (.aload_n 0, 1) := by decide +kernel
theorem dJ1_charAt_3b067_2 : decode cJ1_charAt_3b067 2 = .ok (.arraylength, 1) := by decide +kernel
theorem dJ1_charAt_3b067_3 : decode cJ1_charAt_3b067 3 = .ok (.invokestatic 9, 3) := by decide +kernel
theorem dJ1_charAt_3b067_6 : decode cJ1_charAt_3b067 6 = .ok (.aload_n 0, 1) := by decide +kernel
theorem dJ1_charAt_3b067_7 : decode cJ1_charAt_3b067 7 = .ok (.iload_n 1, 1) := by decide +kernel
theorem dJ1_charAt_3b067_8 : decode cJ1_charAt_3b067 8 = .ok (.baload, 1) := by decide +kernel
theorem dJ1_charAt_3b067_9 : decode cJ1_charAt_3b067 9 = .ok (.sipush 255, 3) := by decide +kernel
theorem dJ1_charAt_3b067_12 : decode cJ1_charAt_3b067 12 = .ok (.iand, 1) := by decide +kernel
theorem dJ1_charAt_3b067_13 : decode cJ1_charAt_3b067 13 = .ok (.i2c, 1) := by decide +kernel
theorem dJ1_charAt_3b067_14 : decode cJ1_charAt_3b067 14 = .ok (.ireturn, 1) := by decide +kernel
theorem dJ2_getChar_3b067_0 : decode cJ2_getChar_3b067 0 = .ok (.getstatic 44, 3) := by decide +kernel
theorem dJ2_getChar_3b067_3 : decode cJ2_getChar_3b067 3 = .ok (.ifCond .ne 25, 3) := by decide +kernel
theorem dJ2_getChar_3b067_6 : decode cJ2_getChar_3b067 6 = .ok (.iload_n 1, 1) := by decide +kernel
theorem dJ2_getChar_3b067_7 : decode cJ2_getChar_3b067 7 = .ok (.ifCond .lt 11, 3) := by decide +kernel
theorem dJ2_getChar_3b067_10 : decode cJ2_getChar_3b067 10 = .ok (.iload_n 1, 1) := by decide +kernel
theorem dJ2_getChar_3b067_11 : decode cJ2_getChar_3b067 11 = .ok (.aload_n 0, 1) := by decide +kernel
theorem dJ2_getChar_3b067_12 : decode cJ2_getChar_3b067 12 = .ok (.invokestatic 48, 3) := by decide +kernel
theorem dJ2_getChar_3b067_15 : decode cJ2_getChar_3b067 15 = .ok (.if_icmp .lt 13, 3) := by decide +kernel
theorem dJ2_getChar_3b067_18 : decode cJ2_getChar_3b067 18 = .ok (.new 52, 3) := by decide +kernel
theorem dJ2_getChar_3b067_21 : decode cJ2_getChar_3b067 21 = .ok (.dup, 1) := by decide +kernel
theorem dJ2_getChar_3b067_22 : decode cJ2_getChar_3b067 22 = .ok (.ldc 54, 2) := by decide +kernel
theorem dJ2_getChar_3b067_24 : decode cJ2_getChar_3b067 24 = .ok (.invokespecial 56, 3) := by decide +kernel
theorem dJ2_getChar_3b067_27 : decode cJ2_getChar_3b067 27 = .ok (.athrow, 1) := by decide +kernel
theorem dJ2_getChar_3b067_28 : decode cJ2_getChar_3b067 28 = .ok (.iload_n 1, 1) := by decide +kernel
theorem dJ2_getChar_3b067_29 : decode cJ2_getChar_3b067 29 = .ok (.iconst 1, 1) := by decide +kernel
theorem dJ2_getChar_3b067_30 : decode cJ2_getChar_3b067 30 = .ok (.ishl, 1) := by decide +kernel
theorem dJ2_getChar_3b067_31 : decode cJ2_getChar_3b067 31 = .ok (.istore_n 1, 1) := by decide +kernel
theorem dJ2_getChar_3b067_32 : decode cJ2_getChar_3b067 32 = .ok (.aload_n 0, 1) := by decide +kernel
theorem dJ2_getChar_3b067_33 : decode cJ2_getChar_3b067 33 = .ok (.iload_n 1, 1) := by decide +kernel
theorem dJ2_getChar_3b067_34 : decode cJ2_getChar_3b067 34 = .ok (.iinc 1 1, 3) := by decide +kernel
theorem dJ2_getChar_3b067_37 : decode cJ2_getChar_3b067 37 = .ok (.baload, 1) := by decide +kernel
theorem dJ2_getChar_3b067_38 : decode cJ2_getChar_3b067 38 = .ok (.sipush 255, 3) := by decide +kernel
theorem dJ2_getChar_3b067_41 : decode cJ2_getChar_3b067 41 = .ok (.iand, 1) := by decide +kernel
theorem dJ2_getChar_3b067_42 : decode cJ2_getChar_3b067 42 = .ok (.getstatic 59, 3) := by decide +kernel
theorem dJ2_getChar_3b067_45 : decode cJ2_getChar_3b067 45 = .ok (.ishl, 1) := by decide +kernel
theorem dJ2_getChar_3b067_46 : decode cJ2_getChar_3b067 46 = .ok (.aload_n 0, 1) := by decide +kernel
theorem dJ2_getChar_3b067_47 : decode cJ2_getChar_3b067 47 = .ok (.iload_n 1, 1) := by decide +kernel
theorem dJ2_getChar_3b067_48 : decode cJ2_getChar_3b067 48 = .ok (.baload, 1) := by decide +kernel
theorem dJ2_getChar_3b067_49 : decode cJ2_getChar_3b067 49 = .ok (.sipush 255, 3) := by decide +kernel
theorem dJ2_getChar_3b067_52 : decode cJ2_getChar_3b067 52 = .ok (.iand, 1) := by decide +kernel
theorem dJ2_getChar_3b067_53 : decode cJ2_getChar_3b067 53 = .ok (.getstatic 63, 3) := by decide +kernel
theorem dJ2_getChar_3b067_56 : decode cJ2_getChar_3b067 56 = .ok (.ishl, 1) := by decide +kernel
theorem dJ2_getChar_3b067_57 : decode cJ2_getChar_3b067 57 = .ok (.ior, 1) := by decide +kernel
theorem dJ2_getChar_3b067_58 : decode cJ2_getChar_3b067 58 = .ok (.i2c, 1) := by decide +kernel
theorem dJ2_getChar_3b067_59 : decode cJ2_getChar_3b067 59 = .ok (.ireturn, 1) := by decide +kernel
theorem dJ2_length_9d52b_0 : decode cJ2_length_9d52b 0 = .ok (.aload_n 0, 1) := by decide +kernel
theorem dJ2_length_9d52b_1 : decode cJ2_length_9d52b 1 = .ok (.arraylength, 1) := by decide +kernel
theorem dJ2_length_9d52b_2 : decode cJ2_length_9d52b 2 = .ok (.iconst 1, 1) := by decide +kernel
theorem dJ2_length_9d52b_3 : decode cJ2_length_9d52b 3 = .ok (.ishr, 1) := by decide +kernel
theorem dJ2_length_9d52b_4 : decode cJ2_length_9d52b 4 = .ok (.ireturn, 1) := by decide +kernel
theorem dJ2_charAt_3b067_0 : decode cJ2_charAt_3b067 0 = .ok (.iload_n 1, 1) := by decide +kernel
theorem dJ2_charAt_3b067_1 : decode cJ2_charAt_3b067 1 = .ok (.aload_n 0, 1) := by decide +kernel
theorem dJ2_charAt_3b067_2 : decode cJ2_charAt_3b067 2 = .ok (.invokestatic 67, 3) := by decide +kernel
theorem dJ2_charAt_3b067_5 : decode cJ2_charAt_3b067 5 = .ok (.aload_n 0, 1) := by decide +kernel
theorem dJ2_charAt_3b067_6 : decode cJ2_charAt_3b067 6 = .ok (.iload_n 1, 1) := by decide +kernel
theorem dJ2_charAt_3b067_7 : decode cJ2_charAt_3b067 7 = .ok (.invokestatic 71, 3) := by decide +kernel
theorem dJ2_charAt_3b067_10 : decode cJ2_charAt_3b067 10 = .ok (.ireturn, 1) := by decide +kernel
theorem dJ2_checkIndex_2214a_0 : decode cJ2_checkIndex_2214a 0 = .ok (.iload_n 0, 1) := by decide +kernel
theorem dJ2_checkIndex_2214a_1 : decode cJ2_checkIndex_2214a 1 = .ok (.aload_n 1, 1) := by decide +kernel
theorem dJ2_checkIndex_2214a_2 : decode cJ2_checkIndex_2214a 2 = .ok (.invokestatic 48, 3) := by decide +kernel
theorem dJ2_checkIndex_2214a_5 : decode cJ2_checkIndex_2214a 5 = .ok (.invokestatic 414, 3) := by decide +kernel
theorem dJ2_checkIndex_2214a_8 : decode cJ2_checkIndex_2214a 8 = .ok (.return_, 1) := by decide +kernel
theorem dJ3_checkIndex_8e157_0 : decode cJ3_checkIndex_8e157 0 = .ok (.iload_n 0, 1) := by decide +kernel
theorem dJ3_checkIndex_8e157_1 : decode cJ3_checkIndex_8e157 1 = .ok (.ifCond .lt 8, 3) := by decide +kernel
theorem dJ3_checkIndex_8e157_4 : decode cJ3_checkIndex_8e157 4 = .ok (.iload_n 0, 1) := by decide +kernel
theorem dJ3_checkIndex_8e157_5 : decode cJ3_checkIndex_8e157 5 = .ok (.iload_n 1, 1) := by decide +kernel
theorem dJ3_checkIndex_8e157_6 : decode cJ3_checkIndex_8e157 6 = .ok (.if_icmp .lt 10, 3) := by decide +kernel
theorem dJ3_checkIndex_8e157_9 : decode cJ3_checkIndex_8e157 9 = .ok (.aload_n 2, 1) := by decide +kernel
theorem dJ3_checkIndex_8e157_10 : decode cJ3_checkIndex_8e157 10 = .ok (.iload_n 0, 1) := by decide +kernel
theorem dJ3_checkIndex_8e157_11 : decode cJ3_checkIndex_8e157 11 = .ok (.iload_n 1, 1) := by decide +kernel
theorem dJ3_checkIndex_8e157_12 : decode cJ3_checkIndex_8e157 12 = .ok (.invokestatic 95, 3) := by decide +kernel
theorem dJ3_checkIndex_8e157_15 : decode cJ3_checkIndex_8e157 15 = .ok (.athrow, 1) := by decide +kernel
theorem dJ3_checkIndex_8e157_16 : decode cJ3_checkIndex_8e157 16 = .ok (.iload_n 0, 1) := by decide +kernel
theorem dJ3_checkIndex_8e157_17 : decode cJ3_checkIndex_8e157 17 = .ok (.ireturn, 1) := by decide +kernel
theorem dL_law_0 : decode cL_law 0 = .ok (.new 7, 3) := by decide +kernel
theorem dL_law_3 : decode cL_law 3 = .ok (.dup, 1) := by decide +kernel
theorem dL_law_4 : decode cL_law 4 = .ok (.invokespecial 9, 3) := by decide +kernel
theorem dL_law_7 : decode cL_law 7 = .ok (.astore_n 1, 1) := by decide +kernel
theorem dL_law_8 : decode cL_law 8 = .ok (.new 10, 3) := by decide +kernel
theorem dL_law_11 : decode cL_law 11 = .ok (.dup, 1) := by decide +kernel
theorem dL_law_12 : decode cL_law 12 = .ok (.invokespecial 12, 3) := by decide +kernel
theorem dL_law_15 : decode cL_law 15 = .ok (.astore_n 2, 1) := by decide +kernel
theorem dL_law_16 : decode cL_law 16 = .ok (.iconst 0, 1) := by decide +kernel
theorem dL_law_17 : decode cL_law 17 = .ok (.istore_n 3, 1) := by decide +kernel
theorem dL_law_18 : decode cL_law 18 = .ok (.iload_n 3, 1) := by decide +kernel
theorem dL_law_19 : decode cL_law 19 = .ok (.aload_n 0, 1) := by decide +kernel
theorem dL_law_20 : decode cL_law 20 = .ok (.arraylength, 1) := by decide +kernel
theorem dL_law_21 : decode cL_law 21 = .ok (.iconst 5, 1) := by decide +kernel
theorem dL_law_22 : decode cL_law 22 = .ok (.isub, 1) := by decide +kernel
theorem dL_law_23 : decode cL_law 23 = .ok (.if_icmp .gt 934, 3) := by decide +kernel
theorem dL_law_26 : decode cL_law 26 = .ok (.aload_n 0, 1) := by decide +kernel
theorem dL_law_27 : decode cL_law 27 = .ok (.iload_n 3, 1) := by decide +kernel
theorem dL_law_28 : decode cL_law 28 = .ok (.iaload, 1) := by decide +kernel
theorem dL_law_29 : decode cL_law 29 = .ok (.bipush 31, 2) := by decide +kernel
theorem dL_law_31 : decode cL_law 31 = .ok (.iand, 1) := by decide +kernel
theorem dL_law_32 : decode cL_law 32 = .ok (.tableswitch 919 0 25 #[120, 183, 196, 209, 232, 255, 308, 341, 384, 417, 450, 504, 547, 570, 593, 616, 639, 662, 685, 698, 731, 774, 817, 850, 883, 906], 120) := by decide +kernel
theorem dL_law_152 : decode cL_law 152 = .ok (.aload_n 1, 1) := by decide +kernel
theorem dL_law_153 : decode cL_law 153 = .ok (.aload_n 0, 1) := by decide +kernel
theorem dL_law_154 : decode cL_law 154 = .ok (.iload_n 3, 1) := by decide +kernel
theorem dL_law_155 : decode cL_law 155 = .ok (.iconst 1, 1) := by decide +kernel
theorem dL_law_156 : decode cL_law 156 = .ok (.iadd, 1) := by decide +kernel
theorem dL_law_157 : decode cL_law 157 = .ok (.iaload, 1) := by decide +kernel
theorem dL_law_158 : decode cL_law 158 = .ok (.aload_n 0, 1) := by decide +kernel
theorem dL_law_159 : decode cL_law 159 = .ok (.iload_n 3, 1) := by decide +kernel
theorem dL_law_160 : decode cL_law 160 = .ok (.iconst 2, 1) := by decide +kernel
theorem dL_law_161 : decode cL_law 161 = .ok (.iadd, 1) := by decide +kernel
theorem dL_law_162 : decode cL_law 162 = .ok (.iaload, 1) := by decide +kernel
theorem dL_law_163 : decode cL_law 163 = .ok (.i2l, 1) := by decide +kernel
theorem dL_law_164 : decode cL_law 164 = .ok (.bipush 32, 2) := by decide +kernel
theorem dL_law_166 : decode cL_law 166 = .ok (.lshl, 1) := by decide +kernel
theorem dL_law_167 : decode cL_law 167 = .ok (.aload_n 0, 1) := by decide +kernel
theorem dL_law_168 : decode cL_law 168 = .ok (.iload_n 3, 1) := by decide +kernel
theorem dL_law_169 : decode cL_law 169 = .ok (.iconst 3, 1) := by decide +kernel
theorem dL_law_170 : decode cL_law 170 = .ok (.iadd, 1) := by decide +kernel
theorem dL_law_171 : decode cL_law 171 = .ok (.iaload, 1) := by decide +kernel
theorem dL_law_172 : decode cL_law 172 = .ok (.i2l, 1) := by decide +kernel
theorem dL_law_173 : decode cL_law 173 = .ok (.ldc2_w 13, 3) := by decide +kernel
theorem dL_law_176 : decode cL_law 176 = .ok (.land, 1) := by decide +kernel
theorem dL_law_177 : decode cL_law 177 = .ok (.lor, 1) := by decide +kernel
theorem dL_law_178 : decode cL_law 178 = .ok (.invokevirtual 15, 3) := by decide +kernel
theorem dL_law_181 : decode cL_law 181 = .ok (.aload_n 2, 1) := by decide +kernel
theorem dL_law_182 : decode cL_law 182 = .ok (.aload_n 0, 1) := by decide +kernel
theorem dL_law_183 : decode cL_law 183 = .ok (.iload_n 3, 1) := by decide +kernel
theorem dL_law_184 : decode cL_law 184 = .ok (.iconst 1, 1) := by decide +kernel
theorem dL_law_185 : decode cL_law 185 = .ok (.iadd, 1) := by decide +kernel
theorem dL_law_186 : decode cL_law 186 = .ok (.iaload, 1) := by decide +kernel
theorem dL_law_187 : decode cL_law 187 = .ok (.aload_n 0, 1) := by decide +kernel
theorem dL_law_188 : decode cL_law 188 = .ok (.iload_n 3, 1) := by decide +kernel
theorem dL_law_189 : decode cL_law 189 = .ok (.iconst 2, 1) := by decide +kernel
theorem dL_law_190 : decode cL_law 190 = .ok (.iadd, 1) := by decide +kernel
theorem dL_law_191 : decode cL_law 191 = .ok (.iaload, 1) := by decide +kernel
theorem dL_law_192 : decode cL_law 192 = .ok (.i2l, 1) := by decide +kernel
theorem dL_law_193 : decode cL_law 193 = .ok (.bipush 32, 2) := by decide +kernel
theorem dL_law_195 : decode cL_law 195 = .ok (.lshl, 1) := by decide +kernel
theorem dL_law_196 : decode cL_law 196 = .ok (.aload_n 0, 1) := by decide +kernel
theorem dL_law_197 : decode cL_law 197 = .ok (.iload_n 3, 1) := by decide +kernel
theorem dL_law_198 : decode cL_law 198 = .ok (.iconst 3, 1) := by decide +kernel
theorem dL_law_199 : decode cL_law 199 = .ok (.iadd, 1) := by decide +kernel
theorem dL_law_200 : decode cL_law 200 = .ok (.iaload, 1) := by decide +kernel
theorem dL_law_201 : decode cL_law 201 = .ok (.i2l, 1) := by decide +kernel
theorem dL_law_202 : decode cL_law 202 = .ok (.ldc2_w 13, 3) := by decide +kernel
theorem dL_law_205 : decode cL_law 205 = .ok (.land, 1) := by decide +kernel
theorem dL_law_206 : decode cL_law 206 = .ok (.lor, 1) := by decide +kernel
theorem dL_law_207 : decode cL_law 207 = .ok (.invokevirtual 19, 3) := by decide +kernel
theorem dL_law_210 : decode cL_law 210 = .ok (.if_icmp .eq 741, 3) := by decide +kernel
theorem dL_law_213 : decode cL_law 213 = .ok (.iconst 0, 1) := by decide +kernel
theorem dL_law_214 : decode cL_law 214 = .ok (.ireturn, 1) := by decide +kernel
theorem dL_law_215 : decode cL_law 215 = .ok (.aload_n 1, 1) := by decide +kernel
theorem dL_law_216 : decode cL_law 216 = .ok (.invokevirtual 20, 3) := by decide +kernel
theorem dL_law_219 : decode cL_law 219 = .ok (.aload_n 2, 1) := by decide +kernel
theorem dL_law_220 : decode cL_law 220 = .ok (.invokevirtual 24, 3) := by decide +kernel
theorem dL_law_223 : decode cL_law 223 = .ok (.if_icmp .eq 728, 3) := by decide +kernel
theorem dL_law_226 : decode cL_law 226 = .ok (.iconst 0, 1) := by decide +kernel
theorem dL_law_227 : decode cL_law 227 = .ok (.ireturn, 1) := by decide +kernel
theorem dL_law_228 : decode cL_law 228 = .ok (.aload_n 1, 1) := by decide +kernel
theorem dL_law_229 : decode cL_law 229 = .ok (.invokevirtual 25, 3) := by decide +kernel
theorem dL_law_232 : decode cL_law 232 = .ok (.aload_n 2, 1) := by decide +kernel
theorem dL_law_233 : decode cL_law 233 = .ok (.invokevirtual 28, 3) := by decide +kernel
theorem dL_law_236 : decode cL_law 236 = .ok (.if_icmp .eq 715, 3) := by decide +kernel
theorem dL_law_239 : decode cL_law 239 = .ok (.iconst 0, 1) := by decide +kernel
theorem dL_law_240 : decode cL_law 240 = .ok (.ireturn, 1) := by decide +kernel
theorem dL_law_241 : decode cL_law 241 = .ok (.aload_n 1, 1) := by decide +kernel
theorem dL_law_242 : decode cL_law 242 = .ok (.aload_n 0, 1) := by decide +kernel
theorem dL_law_243 : decode cL_law 243 = .ok (.iload_n 3, 1) := by decide +kernel
theorem dL_law_244 : decode cL_law 244 = .ok (.iconst 1, 1) := by decide +kernel
theorem dL_law_245 : decode cL_law 245 = .ok (.iadd, 1) := by decide +kernel
theorem dL_law_246 : decode cL_law 246 = .ok (.iaload, 1) := by decide +kernel
theorem dL_law_247 : decode cL_law 247 = .ok (.invokevirtual 29, 3) := by decide +kernel
theorem dL_law_250 : decode cL_law 250 = .ok (.aload_n 2, 1) := by decide +kernel
theorem dL_law_251 : decode cL_law 251 = .ok (.aload_n 0, 1) := by decide +kernel
theorem dL_law_252 : decode cL_law 252 = .ok (.iload_n 3, 1) := by decide +kernel
theorem dL_law_253 : decode cL_law 253 = .ok (.iconst 1, 1) := by decide +kernel
theorem dL_law_254 : decode cL_law 254 = .ok (.iadd, 1) := by decide +kernel
theorem dL_law_255 : decode cL_law 255 = .ok (.iaload, 1) := by decide +kernel
theorem dL_law_256 : decode cL_law 256 = .ok (.invokevirtual 33, 3) := by decide +kernel
theorem dL_law_259 : decode cL_law 259 = .ok (.if_icmp .eq 692, 3) := by decide +kernel
theorem dL_law_262 : decode cL_law 262 = .ok (.iconst 0, 1) := by decide +kernel
theorem dL_law_263 : decode cL_law 263 = .ok (.ireturn, 1) := by decide +kernel
theorem dL_law_264 : decode cL_law 264 = .ok (.aload_n 1, 1) := by decide +kernel
theorem dL_law_265 : decode cL_law 265 = .ok (.aload_n 0, 1) := by decide +kernel
theorem dL_law_266 : decode cL_law 266 = .ok (.iload_n 3, 1) := by decide +kernel
theorem dL_law_267 : decode cL_law 267 = .ok (.iconst 1, 1) := by decide +kernel
theorem dL_law_268 : decode cL_law 268 = .ok (.iadd, 1) := by decide +kernel
theorem dL_law_269 : decode cL_law 269 = .ok (.iaload, 1) := by decide +kernel
theorem dL_law_270 : decode cL_law 270 = .ok (.invokevirtual 34, 3) := by decide +kernel
theorem dL_law_273 : decode cL_law 273 = .ok (.aload_n 2, 1) := by decide +kernel
theorem dL_law_274 : decode cL_law 274 = .ok (.aload_n 0, 1) := by decide +kernel
theorem dL_law_275 : decode cL_law 275 = .ok (.iload_n 3, 1) := by decide +kernel
theorem dL_law_276 : decode cL_law 276 = .ok (.iconst 1, 1) := by decide +kernel
theorem dL_law_277 : decode cL_law 277 = .ok (.iadd, 1) := by decide +kernel
theorem dL_law_278 : decode cL_law 278 = .ok (.iaload, 1) := by decide +kernel
theorem dL_law_279 : decode cL_law 279 = .ok (.invokevirtual 37, 3) := by decide +kernel
theorem dL_law_282 : decode cL_law 282 = .ok (.if_icmp .eq 669, 3) := by decide +kernel
theorem dL_law_285 : decode cL_law 285 = .ok (.iconst 0, 1) := by decide +kernel
theorem dL_law_286 : decode cL_law 286 = .ok (.ireturn, 1) := by decide +kernel
theorem dL_law_287 : decode cL_law 287 = .ok (.aload_n 1, 1) := by decide +kernel
theorem dL_law_288 : decode cL_law 288 = .ok (.aload_n 0, 1) := by decide +kernel
theorem dL_law_289 : decode cL_law 289 = .ok (.iload_n 3, 1) := by decide +kernel
theorem dL_law_290 : decode cL_law 290 = .ok (.iconst 1, 1) := by decide +kernel
theorem dL_law_291 : decode cL_law 291 = .ok (.iadd, 1) := by decide +kernel
theorem dL_law_292 : decode cL_law 292 = .ok (.iaload, 1) := by decide +kernel
theorem dL_law_293 : decode cL_law 293 = .ok (.aload_n 0, 1) := by decide +kernel
theorem dL_law_294 : decode cL_law 294 = .ok (.iload_n 3, 1) := by decide +kernel
theorem dL_law_295 : decode cL_law 295 = .ok (.iconst 2, 1) := by decide +kernel
theorem dL_law_296 : decode cL_law 296 = .ok (.iadd, 1) := by decide +kernel
theorem dL_law_297 : decode cL_law 297 = .ok (.iaload, 1) := by decide +kernel
theorem dL_law_298 : decode cL_law 298 = .ok (.aload_n 0, 1) := by decide +kernel
theorem dL_law_299 : decode cL_law 299 = .ok (.iload_n 3, 1) := by decide +kernel
theorem dL_law_300 : decode cL_law 300 = .ok (.iconst 3, 1) := by decide +kernel
theorem dL_law_301 : decode cL_law 301 = .ok (.iadd, 1) := by decide +kernel
theorem dL_law_302 : decode cL_law 302 = .ok (.iaload, 1) := by decide +kernel
theorem dL_law_303 : decode cL_law 303 = .ok (.aload_n 0, 1) := by decide +kernel
theorem dL_law_304 : decode cL_law 304 = .ok (.iload_n 3, 1) := by decide +kernel
theorem dL_law_305 : decode cL_law 305 = .ok (.iconst 4, 1) := by decide +kernel
theorem dL_law_306 : decode cL_law 306 = .ok (.iadd, 1) := by decide +kernel
theorem dL_law_307 : decode cL_law 307 = .ok (.iaload, 1) := by decide +kernel
theorem dL_law_308 : decode cL_law 308 = .ok (.invokevirtual 38, 3) := by decide +kernel
theorem dL_law_311 : decode cL_law 311 = .ok (.aload_n 2, 1) := by decide +kernel
theorem dL_law_312 : decode cL_law 312 = .ok (.aload_n 0, 1) := by decide +kernel
theorem dL_law_313 : decode cL_law 313 = .ok (.iload_n 3, 1) := by decide +kernel
theorem dL_law_314 : decode cL_law 314 = .ok (.iconst 1, 1) := by decide +kernel
theorem dL_law_315 : decode cL_law 315 = .ok (.iadd, 1) := by decide +kernel
theorem dL_law_316 : decode cL_law 316 = .ok (.iaload, 1) := by decide +kernel
theorem dL_law_317 : decode cL_law 317 = .ok (.aload_n 0, 1) := by decide +kernel
theorem dL_law_318 : decode cL_law 318 = .ok (.iload_n 3, 1) := by decide +kernel
theorem dL_law_319 : decode cL_law 319 = .ok (.iconst 2, 1) := by decide +kernel
theorem dL_law_320 : decode cL_law 320 = .ok (.iadd, 1) := by decide +kernel
theorem dL_law_321 : decode cL_law 321 = .ok (.iaload, 1) := by decide +kernel
theorem dL_law_322 : decode cL_law 322 = .ok (.aload_n 0, 1) := by decide +kernel
theorem dL_law_323 : decode cL_law 323 = .ok (.iload_n 3, 1) := by decide +kernel
theorem dL_law_324 : decode cL_law 324 = .ok (.iconst 3, 1) := by decide +kernel
theorem dL_law_325 : decode cL_law 325 = .ok (.iadd, 1) := by decide +kernel
theorem dL_law_326 : decode cL_law 326 = .ok (.iaload, 1) := by decide +kernel
theorem dL_law_327 : decode cL_law 327 = .ok (.aload_n 0, 1) := by decide +kernel
theorem dL_law_328 : decode cL_law 328 = .ok (.iload_n 3, 1) := by decide +kernel
theorem dL_law_329 : decode cL_law 329 = .ok (.iconst 4, 1) := by decide +kernel
theorem dL_law_330 : decode cL_law 330 = .ok (.iadd, 1) := by decide +kernel
theorem dL_law_331 : decode cL_law 331 = .ok (.iaload, 1) := by decide +kernel
theorem dL_law_332 : decode cL_law 332 = .ok (.invokevirtual 42, 3) := by decide +kernel
theorem dL_law_335 : decode cL_law 335 = .ok (.if_icmp .eq 616, 3) := by decide +kernel
theorem dL_law_338 : decode cL_law 338 = .ok (.iconst 0, 1) := by decide +kernel
theorem dL_law_339 : decode cL_law 339 = .ok (.ireturn, 1) := by decide +kernel
theorem dL_law_340 : decode cL_law 340 = .ok (.aload_n 1, 1) := by decide +kernel
theorem dL_law_341 : decode cL_law 341 = .ok (.aload_n 0, 1) := by decide +kernel
theorem dL_law_342 : decode cL_law 342 = .ok (.iload_n 3, 1) := by decide +kernel
theorem dL_law_343 : decode cL_law 343 = .ok (.iconst 1, 1) := by decide +kernel
theorem dL_law_344 : decode cL_law 344 = .ok (.iadd, 1) := by decide +kernel
theorem dL_law_345 : decode cL_law 345 = .ok (.iaload, 1) := by decide +kernel
theorem dL_law_346 : decode cL_law 346 = .ok (.aload_n 0, 1) := by decide +kernel
theorem dL_law_347 : decode cL_law 347 = .ok (.iload_n 3, 1) := by decide +kernel
theorem dL_law_348 : decode cL_law 348 = .ok (.iconst 2, 1) := by decide +kernel
theorem dL_law_349 : decode cL_law 349 = .ok (.iadd, 1) := by decide +kernel
theorem dL_law_350 : decode cL_law 350 = .ok (.iaload, 1) := by decide +kernel
theorem dL_law_351 : decode cL_law 351 = .ok (.invokevirtual 43, 3) := by decide +kernel
theorem dL_law_354 : decode cL_law 354 = .ok (.aload_n 2, 1) := by decide +kernel
theorem dL_law_355 : decode cL_law 355 = .ok (.aload_n 0, 1) := by decide +kernel
theorem dL_law_356 : decode cL_law 356 = .ok (.iload_n 3, 1) := by decide +kernel
theorem dL_law_357 : decode cL_law 357 = .ok (.iconst 1, 1) := by decide +kernel
theorem dL_law_358 : decode cL_law 358 = .ok (.iadd, 1) := by decide +kernel
theorem dL_law_359 : decode cL_law 359 = .ok (.iaload, 1) := by decide +kernel
theorem dL_law_360 : decode cL_law 360 = .ok (.aload_n 0, 1) := by decide +kernel
theorem dL_law_361 : decode cL_law 361 = .ok (.iload_n 3, 1) := by decide +kernel
theorem dL_law_362 : decode cL_law 362 = .ok (.iconst 2, 1) := by decide +kernel
theorem dL_law_363 : decode cL_law 363 = .ok (.iadd, 1) := by decide +kernel
theorem dL_law_364 : decode cL_law 364 = .ok (.iaload, 1) := by decide +kernel
theorem dL_law_365 : decode cL_law 365 = .ok (.invokevirtual 47, 3) := by decide +kernel
theorem dL_law_368 : decode cL_law 368 = .ok (.if_icmp .eq 583, 3) := by decide +kernel
theorem dL_law_371 : decode cL_law 371 = .ok (.iconst 0, 1) := by decide +kernel
theorem dL_law_372 : decode cL_law 372 = .ok (.ireturn, 1) := by decide +kernel
theorem dL_law_373 : decode cL_law 373 = .ok (.aload_n 1, 1) := by decide +kernel
theorem dL_law_374 : decode cL_law 374 = .ok (.aload_n 0, 1) := by decide +kernel
theorem dL_law_375 : decode cL_law 375 = .ok (.iload_n 3, 1) := by decide +kernel
theorem dL_law_376 : decode cL_law 376 = .ok (.iconst 1, 1) := by decide +kernel
theorem dL_law_377 : decode cL_law 377 = .ok (.iadd, 1) := by decide +kernel
theorem dL_law_378 : decode cL_law 378 = .ok (.iaload, 1) := by decide +kernel
theorem dL_law_379 : decode cL_law 379 = .ok (.aload_n 0, 1) := by decide +kernel
theorem dL_law_380 : decode cL_law 380 = .ok (.iload_n 3, 1) := by decide +kernel
theorem dL_law_381 : decode cL_law 381 = .ok (.iconst 2, 1) := by decide +kernel
theorem dL_law_382 : decode cL_law 382 = .ok (.iadd, 1) := by decide +kernel
theorem dL_law_383 : decode cL_law 383 = .ok (.iaload, 1) := by decide +kernel
theorem dL_law_384 : decode cL_law 384 = .ok (.aload_n 0, 1) := by decide +kernel
theorem dL_law_385 : decode cL_law 385 = .ok (.iload_n 3, 1) := by decide +kernel
theorem dL_law_386 : decode cL_law 386 = .ok (.iconst 3, 1) := by decide +kernel
theorem dL_law_387 : decode cL_law 387 = .ok (.iadd, 1) := by decide +kernel
theorem dL_law_388 : decode cL_law 388 = .ok (.iaload, 1) := by decide +kernel
theorem dL_law_389 : decode cL_law 389 = .ok (.invokevirtual 48, 3) := by decide +kernel
theorem dL_law_392 : decode cL_law 392 = .ok (.aload_n 2, 1) := by decide +kernel
theorem dL_law_393 : decode cL_law 393 = .ok (.aload_n 0, 1) := by decide +kernel
theorem dL_law_394 : decode cL_law 394 = .ok (.iload_n 3, 1) := by decide +kernel
theorem dL_law_395 : decode cL_law 395 = .ok (.iconst 1, 1) := by decide +kernel
theorem dL_law_396 : decode cL_law 396 = .ok (.iadd, 1) := by decide +kernel
theorem dL_law_397 : decode cL_law 397 = .ok (.iaload, 1) := by decide +kernel
theorem dL_law_398 : decode cL_law 398 = .ok (.aload_n 0, 1) := by decide +kernel
theorem dL_law_399 : decode cL_law 399 = .ok (.iload_n 3, 1) := by decide +kernel
theorem dL_law_400 : decode cL_law 400 = .ok (.iconst 2, 1) := by decide +kernel
theorem dL_law_401 : decode cL_law 401 = .ok (.iadd, 1) := by decide +kernel
theorem dL_law_402 : decode cL_law 402 = .ok (.iaload, 1) := by decide +kernel
theorem dL_law_403 : decode cL_law 403 = .ok (.aload_n 0, 1) := by decide +kernel
theorem dL_law_404 : decode cL_law 404 = .ok (.iload_n 3, 1) := by decide +kernel
theorem dL_law_405 : decode cL_law 405 = .ok (.iconst 3, 1) := by decide +kernel
theorem dL_law_406 : decode cL_law 406 = .ok (.iadd, 1) := by decide +kernel
theorem dL_law_407 : decode cL_law 407 = .ok (.iaload, 1) := by decide +kernel
theorem dL_law_408 : decode cL_law 408 = .ok (.invokevirtual 52, 3) := by decide +kernel
theorem dL_law_411 : decode cL_law 411 = .ok (.if_icmp .eq 540, 3) := by decide +kernel
theorem dL_law_414 : decode cL_law 414 = .ok (.iconst 0, 1) := by decide +kernel
theorem dL_law_415 : decode cL_law 415 = .ok (.ireturn, 1) := by decide +kernel
theorem dL_law_416 : decode cL_law 416 = .ok (.aload_n 1, 1) := by decide +kernel
theorem dL_law_417 : decode cL_law 417 = .ok (.aload_n 0, 1) := by decide +kernel
theorem dL_law_418 : decode cL_law 418 = .ok (.iload_n 3, 1) := by decide +kernel
theorem dL_law_419 : decode cL_law 419 = .ok (.iconst 1, 1) := by decide +kernel
theorem dL_law_420 : decode cL_law 420 = .ok (.iadd, 1) := by decide +kernel
theorem dL_law_421 : decode cL_law 421 = .ok (.iaload, 1) := by decide +kernel
theorem dL_law_422 : decode cL_law 422 = .ok (.aload_n 0, 1) := by decide +kernel
theorem dL_law_423 : decode cL_law 423 = .ok (.iload_n 3, 1) := by decide +kernel
theorem dL_law_424 : decode cL_law 424 = .ok (.iconst 2, 1) := by decide +kernel
theorem dL_law_425 : decode cL_law 425 = .ok (.iadd, 1) := by decide +kernel
theorem dL_law_426 : decode cL_law 426 = .ok (.iaload, 1) := by decide +kernel
theorem dL_law_427 : decode cL_law 427 = .ok (.invokevirtual 53, 3) := by decide +kernel
theorem dL_law_430 : decode cL_law 430 = .ok (.aload_n 2, 1) := by decide +kernel
theorem dL_law_431 : decode cL_law 431 = .ok (.aload_n 0, 1) := by decide +kernel
theorem dL_law_432 : decode cL_law 432 = .ok (.iload_n 3, 1) := by decide +kernel
theorem dL_law_433 : decode cL_law 433 = .ok (.iconst 1, 1) := by decide +kernel
theorem dL_law_434 : decode cL_law 434 = .ok (.iadd, 1) := by decide +kernel
theorem dL_law_435 : decode cL_law 435 = .ok (.iaload, 1) := by decide +kernel
theorem dL_law_436 : decode cL_law 436 = .ok (.aload_n 0, 1) := by decide +kernel
theorem dL_law_437 : decode cL_law 437 = .ok (.iload_n 3, 1) := by decide +kernel
theorem dL_law_438 : decode cL_law 438 = .ok (.iconst 2, 1) := by decide +kernel
theorem dL_law_439 : decode cL_law 439 = .ok (.iadd, 1) := by decide +kernel
theorem dL_law_440 : decode cL_law 440 = .ok (.iaload, 1) := by decide +kernel
theorem dL_law_441 : decode cL_law 441 = .ok (.invokevirtual 56, 3) := by decide +kernel
theorem dL_law_444 : decode cL_law 444 = .ok (.if_icmp .eq 507, 3) := by decide +kernel
theorem dL_law_447 : decode cL_law 447 = .ok (.iconst 0, 1) := by decide +kernel
theorem dL_law_448 : decode cL_law 448 = .ok (.ireturn, 1) := by decide +kernel
theorem dL_law_449 : decode cL_law 449 = .ok (.aload_n 1, 1) := by decide +kernel
theorem dL_law_450 : decode cL_law 450 = .ok (.aload_n 0, 1) := by decide +kernel
theorem dL_law_451 : decode cL_law 451 = .ok (.iload_n 3, 1) := by decide +kernel
theorem dL_law_452 : decode cL_law 452 = .ok (.iconst 1, 1) := by decide +kernel
theorem dL_law_453 : decode cL_law 453 = .ok (.iadd, 1) := by decide +kernel
theorem dL_law_454 : decode cL_law 454 = .ok (.iaload, 1) := by decide +kernel
theorem dL_law_455 : decode cL_law 455 = .ok (.aload_n 0, 1) := by decide +kernel
theorem dL_law_456 : decode cL_law 456 = .ok (.iload_n 3, 1) := by decide +kernel
theorem dL_law_457 : decode cL_law 457 = .ok (.iconst 2, 1) := by decide +kernel
theorem dL_law_458 : decode cL_law 458 = .ok (.iadd, 1) := by decide +kernel
theorem dL_law_459 : decode cL_law 459 = .ok (.iaload, 1) := by decide +kernel
theorem dL_law_460 : decode cL_law 460 = .ok (.invokevirtual 57, 3) := by decide +kernel
theorem dL_law_463 : decode cL_law 463 = .ok (.aload_n 2, 1) := by decide +kernel
theorem dL_law_464 : decode cL_law 464 = .ok (.aload_n 0, 1) := by decide +kernel
theorem dL_law_465 : decode cL_law 465 = .ok (.iload_n 3, 1) := by decide +kernel
theorem dL_law_466 : decode cL_law 466 = .ok (.iconst 1, 1) := by decide +kernel
theorem dL_law_467 : decode cL_law 467 = .ok (.iadd, 1) := by decide +kernel
theorem dL_law_468 : decode cL_law 468 = .ok (.iaload, 1) := by decide +kernel
theorem dL_law_469 : decode cL_law 469 = .ok (.aload_n 0, 1) := by decide +kernel
theorem dL_law_470 : decode cL_law 470 = .ok (.iload_n 3, 1) := by decide +kernel
theorem dL_law_471 : decode cL_law 471 = .ok (.iconst 2, 1) := by decide +kernel
theorem dL_law_472 : decode cL_law 472 = .ok (.iadd, 1) := by decide +kernel
theorem dL_law_473 : decode cL_law 473 = .ok (.iaload, 1) := by decide +kernel
theorem dL_law_474 : decode cL_law 474 = .ok (.invokevirtual 60, 3) := by decide +kernel
theorem dL_law_477 : decode cL_law 477 = .ok (.if_icmp .eq 474, 3) := by decide +kernel
theorem dL_law_480 : decode cL_law 480 = .ok (.iconst 0, 1) := by decide +kernel
theorem dL_law_481 : decode cL_law 481 = .ok (.ireturn, 1) := by decide +kernel
theorem dL_law_482 : decode cL_law 482 = .ok (.aload_n 1, 1) := by decide +kernel
theorem dL_law_483 : decode cL_law 483 = .ok (.aload_n 0, 1) := by decide +kernel
theorem dL_law_484 : decode cL_law 484 = .ok (.iload_n 3, 1) := by decide +kernel
theorem dL_law_485 : decode cL_law 485 = .ok (.iconst 1, 1) := by decide +kernel
theorem dL_law_486 : decode cL_law 486 = .ok (.iadd, 1) := by decide +kernel
theorem dL_law_487 : decode cL_law 487 = .ok (.iaload, 1) := by decide +kernel
theorem dL_law_488 : decode cL_law 488 = .ok (.aload_n 0, 1) := by decide +kernel
theorem dL_law_489 : decode cL_law 489 = .ok (.iload_n 3, 1) := by decide +kernel
theorem dL_law_490 : decode cL_law 490 = .ok (.iconst 2, 1) := by decide +kernel
theorem dL_law_491 : decode cL_law 491 = .ok (.iadd, 1) := by decide +kernel
theorem dL_law_492 : decode cL_law 492 = .ok (.iaload, 1) := by decide +kernel
theorem dL_law_493 : decode cL_law 493 = .ok (.aload_n 0, 1) := by decide +kernel
theorem dL_law_494 : decode cL_law 494 = .ok (.iload_n 3, 1) := by decide +kernel
theorem dL_law_495 : decode cL_law 495 = .ok (.iconst 3, 1) := by decide +kernel
theorem dL_law_496 : decode cL_law 496 = .ok (.iadd, 1) := by decide +kernel
theorem dL_law_497 : decode cL_law 497 = .ok (.iaload, 1) := by decide +kernel
theorem dL_law_498 : decode cL_law 498 = .ok (.aload_n 0, 1) := by decide +kernel
theorem dL_law_499 : decode cL_law 499 = .ok (.iload_n 3, 1) := by decide +kernel
theorem dL_law_500 : decode cL_law 500 = .ok (.iconst 4, 1) := by decide +kernel
theorem dL_law_501 : decode cL_law 501 = .ok (.iadd, 1) := by decide +kernel
theorem dL_law_502 : decode cL_law 502 = .ok (.iaload, 1) := by decide +kernel
theorem dL_law_503 : decode cL_law 503 = .ok (.invokevirtual 61, 3) := by decide +kernel
theorem dL_law_506 : decode cL_law 506 = .ok (.aload_n 2, 1) := by decide +kernel
theorem dL_law_507 : decode cL_law 507 = .ok (.aload_n 0, 1) := by decide +kernel
theorem dL_law_508 : decode cL_law 508 = .ok (.iload_n 3, 1) := by decide +kernel
theorem dL_law_509 : decode cL_law 509 = .ok (.iconst 1, 1) := by decide +kernel
theorem dL_law_510 : decode cL_law 510 = .ok (.iadd, 1) := by decide +kernel
theorem dL_law_511 : decode cL_law 511 = .ok (.iaload, 1) := by decide +kernel
theorem dL_law_512 : decode cL_law 512 = .ok (.aload_n 0, 1) := by decide +kernel
theorem dL_law_513 : decode cL_law 513 = .ok (.iload_n 3, 1) := by decide +kernel
theorem dL_law_514 : decode cL_law 514 = .ok (.iconst 2, 1) := by decide +kernel
theorem dL_law_515 : decode cL_law 515 = .ok (.iadd, 1) := by decide +kernel
theorem dL_law_516 : decode cL_law 516 = .ok (.iaload, 1) := by decide +kernel
theorem dL_law_517 : decode cL_law 517 = .ok (.aload_n 0, 1) := by decide +kernel
theorem dL_law_518 : decode cL_law 518 = .ok (.iload_n 3, 1) := by decide +kernel
theorem dL_law_519 : decode cL_law 519 = .ok (.iconst 3, 1) := by decide +kernel
theorem dL_law_520 : decode cL_law 520 = .ok (.iadd, 1) := by decide +kernel
theorem dL_law_521 : decode cL_law 521 = .ok (.iaload, 1) := by decide +kernel
theorem dL_law_522 : decode cL_law 522 = .ok (.aload_n 0, 1) := by decide +kernel
theorem dL_law_523 : decode cL_law 523 = .ok (.iload_n 3, 1) := by decide +kernel
theorem dL_law_524 : decode cL_law 524 = .ok (.iconst 4, 1) := by decide +kernel
theorem dL_law_525 : decode cL_law 525 = .ok (.iadd, 1) := by decide +kernel
theorem dL_law_526 : decode cL_law 526 = .ok (.iaload, 1) := by decide +kernel
theorem dL_law_527 : decode cL_law 527 = .ok (.invokevirtual 65, 3) := by decide +kernel
theorem dL_law_530 : decode cL_law 530 = .ok (.lcmp, 1) := by decide +kernel
theorem dL_law_531 : decode cL_law 531 = .ok (.ifCond .eq 420, 3) := by decide +kernel
theorem dL_law_534 : decode cL_law 534 = .ok (.iconst 0, 1) := by decide +kernel
theorem dL_law_535 : decode cL_law 535 = .ok (.ireturn, 1) := by decide +kernel
theorem dL_law_536 : decode cL_law 536 = .ok (.aload_n 1, 1) := by decide +kernel
theorem dL_law_537 : decode cL_law 537 = .ok (.aload_n 0, 1) := by decide +kernel
theorem dL_law_538 : decode cL_law 538 = .ok (.iload_n 3, 1) := by decide +kernel
theorem dL_law_539 : decode cL_law 539 = .ok (.iconst 1, 1) := by decide +kernel
theorem dL_law_540 : decode cL_law 540 = .ok (.iadd, 1) := by decide +kernel
theorem dL_law_541 : decode cL_law 541 = .ok (.iaload, 1) := by decide +kernel
theorem dL_law_542 : decode cL_law 542 = .ok (.aload_n 0, 1) := by decide +kernel
theorem dL_law_543 : decode cL_law 543 = .ok (.iload_n 3, 1) := by decide +kernel
theorem dL_law_544 : decode cL_law 544 = .ok (.iconst 2, 1) := by decide +kernel
theorem dL_law_545 : decode cL_law 545 = .ok (.iadd, 1) := by decide +kernel
theorem dL_law_546 : decode cL_law 546 = .ok (.iaload, 1) := by decide +kernel
theorem dL_law_547 : decode cL_law 547 = .ok (.aload_n 0, 1) := by decide +kernel
theorem dL_law_548 : decode cL_law 548 = .ok (.iload_n 3, 1) := by decide +kernel
theorem dL_law_549 : decode cL_law 549 = .ok (.iconst 3, 1) := by decide +kernel
theorem dL_law_550 : decode cL_law 550 = .ok (.iadd, 1) := by decide +kernel
theorem dL_law_551 : decode cL_law 551 = .ok (.iaload, 1) := by decide +kernel
theorem dL_law_552 : decode cL_law 552 = .ok (.invokevirtual 66, 3) := by decide +kernel
theorem dL_law_555 : decode cL_law 555 = .ok (.aload_n 2, 1) := by decide +kernel
theorem dL_law_556 : decode cL_law 556 = .ok (.aload_n 0, 1) := by decide +kernel
theorem dL_law_557 : decode cL_law 557 = .ok (.iload_n 3, 1) := by decide +kernel
theorem dL_law_558 : decode cL_law 558 = .ok (.iconst 1, 1) := by decide +kernel
theorem dL_law_559 : decode cL_law 559 = .ok (.iadd, 1) := by decide +kernel
theorem dL_law_560 : decode cL_law 560 = .ok (.iaload, 1) := by decide +kernel
theorem dL_law_561 : decode cL_law 561 = .ok (.aload_n 0, 1) := by decide +kernel
theorem dL_law_562 : decode cL_law 562 = .ok (.iload_n 3, 1) := by decide +kernel
theorem dL_law_563 : decode cL_law 563 = .ok (.iconst 2, 1) := by decide +kernel
theorem dL_law_564 : decode cL_law 564 = .ok (.iadd, 1) := by decide +kernel
theorem dL_law_565 : decode cL_law 565 = .ok (.iaload, 1) := by decide +kernel
theorem dL_law_566 : decode cL_law 566 = .ok (.aload_n 0, 1) := by decide +kernel
theorem dL_law_567 : decode cL_law 567 = .ok (.iload_n 3, 1) := by decide +kernel
theorem dL_law_568 : decode cL_law 568 = .ok (.iconst 3, 1) := by decide +kernel
theorem dL_law_569 : decode cL_law 569 = .ok (.iadd, 1) := by decide +kernel
theorem dL_law_570 : decode cL_law 570 = .ok (.iaload, 1) := by decide +kernel
theorem dL_law_571 : decode cL_law 571 = .ok (.invokevirtual 69, 3) := by decide +kernel
theorem dL_law_574 : decode cL_law 574 = .ok (.if_icmp .eq 377, 3) := by decide +kernel
theorem dL_law_577 : decode cL_law 577 = .ok (.iconst 0, 1) := by decide +kernel
theorem dL_law_578 : decode cL_law 578 = .ok (.ireturn, 1) := by decide +kernel
theorem dL_law_579 : decode cL_law 579 = .ok (.aload_n 1, 1) := by decide +kernel
theorem dL_law_580 : decode cL_law 580 = .ok (.aload_n 0, 1) := by decide +kernel
theorem dL_law_581 : decode cL_law 581 = .ok (.iload_n 3, 1) := by decide +kernel
theorem dL_law_582 : decode cL_law 582 = .ok (.iconst 1, 1) := by decide +kernel
theorem dL_law_583 : decode cL_law 583 = .ok (.iadd, 1) := by decide +kernel
theorem dL_law_584 : decode cL_law 584 = .ok (.iaload, 1) := by decide +kernel
theorem dL_law_585 : decode cL_law 585 = .ok (.invokevirtual 70, 3) := by decide +kernel
theorem dL_law_588 : decode cL_law 588 = .ok (.aload_n 2, 1) := by decide +kernel
theorem dL_law_589 : decode cL_law 589 = .ok (.aload_n 0, 1) := by decide +kernel
theorem dL_law_590 : decode cL_law 590 = .ok (.iload_n 3, 1) := by decide +kernel
theorem dL_law_591 : decode cL_law 591 = .ok (.iconst 1, 1) := by decide +kernel
theorem dL_law_592 : decode cL_law 592 = .ok (.iadd, 1) := by decide +kernel
theorem dL_law_593 : decode cL_law 593 = .ok (.iaload, 1) := by decide +kernel
theorem dL_law_594 : decode cL_law 594 = .ok (.invokevirtual 73, 3) := by decide +kernel
theorem dL_law_597 : decode cL_law 597 = .ok (.if_icmp .eq 354, 3) := by decide +kernel
theorem dL_law_600 : decode cL_law 600 = .ok (.iconst 0, 1) := by decide +kernel
theorem dL_law_601 : decode cL_law 601 = .ok (.ireturn, 1) := by decide +kernel
theorem dL_law_602 : decode cL_law 602 = .ok (.aload_n 1, 1) := by decide +kernel
theorem dL_law_603 : decode cL_law 603 = .ok (.aload_n 0, 1) := by decide +kernel
theorem dL_law_604 : decode cL_law 604 = .ok (.iload_n 3, 1) := by decide +kernel
theorem dL_law_605 : decode cL_law 605 = .ok (.iconst 1, 1) := by decide +kernel
theorem dL_law_606 : decode cL_law 606 = .ok (.iadd, 1) := by decide +kernel
theorem dL_law_607 : decode cL_law 607 = .ok (.iaload, 1) := by decide +kernel
theorem dL_law_608 : decode cL_law 608 = .ok (.invokevirtual 74, 3) := by decide +kernel
theorem dL_law_611 : decode cL_law 611 = .ok (.aload_n 2, 1) := by decide +kernel
theorem dL_law_612 : decode cL_law 612 = .ok (.aload_n 0, 1) := by decide +kernel
theorem dL_law_613 : decode cL_law 613 = .ok (.iload_n 3, 1) := by decide +kernel
theorem dL_law_614 : decode cL_law 614 = .ok (.iconst 1, 1) := by decide +kernel
theorem dL_law_615 : decode cL_law 615 = .ok (.iadd, 1) := by decide +kernel
theorem dL_law_616 : decode cL_law 616 = .ok (.iaload, 1) := by decide +kernel
theorem dL_law_617 : decode cL_law 617 = .ok (.invokevirtual 77, 3) := by decide +kernel
theorem dL_law_620 : decode cL_law 620 = .ok (.if_icmp .eq 331, 3) := by decide +kernel
theorem dL_law_623 : decode cL_law 623 = .ok (.iconst 0, 1) := by decide +kernel
theorem dL_law_624 : decode cL_law 624 = .ok (.ireturn, 1) := by decide +kernel
theorem dL_law_625 : decode cL_law 625 = .ok (.aload_n 1, 1) := by decide +kernel
theorem dL_law_626 : decode cL_law 626 = .ok (.aload_n 0, 1) := by decide +kernel
theorem dL_law_627 : decode cL_law 627 = .ok (.iload_n 3, 1) := by decide +kernel
theorem dL_law_628 : decode cL_law 628 = .ok (.iconst 1, 1) := by decide +kernel
theorem dL_law_629 : decode cL_law 629 = .ok (.iadd, 1) := by decide +kernel
theorem dL_law_630 : decode cL_law 630 = .ok (.iaload, 1) := by decide +kernel
theorem dL_law_631 : decode cL_law 631 = .ok (.invokevirtual 78, 3) := by decide +kernel
theorem dL_law_634 : decode cL_law 634 = .ok (.aload_n 2, 1) := by decide +kernel
theorem dL_law_635 : decode cL_law 635 = .ok (.aload_n 0, 1) := by decide +kernel
theorem dL_law_636 : decode cL_law 636 = .ok (.iload_n 3, 1) := by decide +kernel
theorem dL_law_637 : decode cL_law 637 = .ok (.iconst 1, 1) := by decide +kernel
theorem dL_law_638 : decode cL_law 638 = .ok (.iadd, 1) := by decide +kernel
theorem dL_law_639 : decode cL_law 639 = .ok (.iaload, 1) := by decide +kernel
theorem dL_law_640 : decode cL_law 640 = .ok (.invokevirtual 81, 3) := by decide +kernel
theorem dL_law_643 : decode cL_law 643 = .ok (.if_icmp .eq 308, 3) := by decide +kernel
theorem dL_law_646 : decode cL_law 646 = .ok (.iconst 0, 1) := by decide +kernel
theorem dL_law_647 : decode cL_law 647 = .ok (.ireturn, 1) := by decide +kernel
theorem dL_law_648 : decode cL_law 648 = .ok (.aload_n 1, 1) := by decide +kernel
theorem dL_law_649 : decode cL_law 649 = .ok (.aload_n 0, 1) := by decide +kernel
theorem dL_law_650 : decode cL_law 650 = .ok (.iload_n 3, 1) := by decide +kernel
theorem dL_law_651 : decode cL_law 651 = .ok (.iconst 1, 1) := by decide +kernel
theorem dL_law_652 : decode cL_law 652 = .ok (.iadd, 1) := by decide +kernel
theorem dL_law_653 : decode cL_law 653 = .ok (.iaload, 1) := by decide +kernel
theorem dL_law_654 : decode cL_law 654 = .ok (.invokevirtual 82, 3) := by decide +kernel
theorem dL_law_657 : decode cL_law 657 = .ok (.aload_n 2, 1) := by decide +kernel
theorem dL_law_658 : decode cL_law 658 = .ok (.aload_n 0, 1) := by decide +kernel
theorem dL_law_659 : decode cL_law 659 = .ok (.iload_n 3, 1) := by decide +kernel
theorem dL_law_660 : decode cL_law 660 = .ok (.iconst 1, 1) := by decide +kernel
theorem dL_law_661 : decode cL_law 661 = .ok (.iadd, 1) := by decide +kernel
theorem dL_law_662 : decode cL_law 662 = .ok (.iaload, 1) := by decide +kernel
theorem dL_law_663 : decode cL_law 663 = .ok (.invokevirtual 85, 3) := by decide +kernel
theorem dL_law_666 : decode cL_law 666 = .ok (.if_icmp .eq 285, 3) := by decide +kernel
theorem dL_law_669 : decode cL_law 669 = .ok (.iconst 0, 1) := by decide +kernel
theorem dL_law_670 : decode cL_law 670 = .ok (.ireturn, 1) := by decide +kernel
theorem dL_law_671 : decode cL_law 671 = .ok (.aload_n 1, 1) := by decide +kernel
theorem dL_law_672 : decode cL_law 672 = .ok (.aload_n 0, 1) := by decide +kernel
theorem dL_law_673 : decode cL_law 673 = .ok (.iload_n 3, 1) := by decide +kernel
theorem dL_law_674 : decode cL_law 674 = .ok (.iconst 1, 1) := by decide +kernel
theorem dL_law_675 : decode cL_law 675 = .ok (.iadd, 1) := by decide +kernel
theorem dL_law_676 : decode cL_law 676 = .ok (.iaload, 1) := by decide +kernel
theorem dL_law_677 : decode cL_law 677 = .ok (.invokevirtual 86, 3) := by decide +kernel
theorem dL_law_680 : decode cL_law 680 = .ok (.aload_n 2, 1) := by decide +kernel
theorem dL_law_681 : decode cL_law 681 = .ok (.aload_n 0, 1) := by decide +kernel
theorem dL_law_682 : decode cL_law 682 = .ok (.iload_n 3, 1) := by decide +kernel
theorem dL_law_683 : decode cL_law 683 = .ok (.iconst 1, 1) := by decide +kernel
theorem dL_law_684 : decode cL_law 684 = .ok (.iadd, 1) := by decide +kernel
theorem dL_law_685 : decode cL_law 685 = .ok (.iaload, 1) := by decide +kernel
theorem dL_law_686 : decode cL_law 686 = .ok (.invokevirtual 89, 3) := by decide +kernel
theorem dL_law_689 : decode cL_law 689 = .ok (.if_icmp .eq 262, 3) := by decide +kernel
theorem dL_law_692 : decode cL_law 692 = .ok (.iconst 0, 1) := by decide +kernel
theorem dL_law_693 : decode cL_law 693 = .ok (.ireturn, 1) := by decide +kernel
theorem dL_law_694 : decode cL_law 694 = .ok (.aload_n 1, 1) := by decide +kernel
theorem dL_law_695 : decode cL_law 695 = .ok (.aload_n 0, 1) := by decide +kernel
theorem dL_law_696 : decode cL_law 696 = .ok (.iload_n 3, 1) := by decide +kernel
theorem dL_law_697 : decode cL_law 697 = .ok (.iconst 1, 1) := by decide +kernel
theorem dL_law_698 : decode cL_law 698 = .ok (.iadd, 1) := by decide +kernel
theorem dL_law_699 : decode cL_law 699 = .ok (.iaload, 1) := by decide +kernel
theorem dL_law_700 : decode cL_law 700 = .ok (.invokevirtual 90, 3) := by decide +kernel
theorem dL_law_703 : decode cL_law 703 = .ok (.aload_n 2, 1) := by decide +kernel
theorem dL_law_704 : decode cL_law 704 = .ok (.aload_n 0, 1) := by decide +kernel
theorem dL_law_705 : decode cL_law 705 = .ok (.iload_n 3, 1) := by decide +kernel
theorem dL_law_706 : decode cL_law 706 = .ok (.iconst 1, 1) := by decide +kernel
theorem dL_law_707 : decode cL_law 707 = .ok (.iadd, 1) := by decide +kernel
theorem dL_law_708 : decode cL_law 708 = .ok (.iaload, 1) := by decide +kernel
theorem dL_law_709 : decode cL_law 709 = .ok (.invokevirtual 93, 3) := by decide +kernel
theorem dL_law_712 : decode cL_law 712 = .ok (.if_icmp .eq 239, 3) := by decide +kernel
theorem dL_law_715 : decode cL_law 715 = .ok (.iconst 0, 1) := by decide +kernel
theorem dL_law_716 : decode cL_law 716 = .ok (.ireturn, 1) := by decide +kernel
theorem dL_law_717 : decode cL_law 717 = .ok (.aload_n 1, 1) := by decide +kernel
theorem dL_law_718 : decode cL_law 718 = .ok (.invokevirtual 94, 3) := by decide +kernel
theorem dL_law_721 : decode cL_law 721 = .ok (.aload_n 2, 1) := by decide +kernel
theorem dL_law_722 : decode cL_law 722 = .ok (.invokevirtual 97, 3) := by decide +kernel
theorem dL_law_725 : decode cL_law 725 = .ok (.if_icmp .eq 226, 3) := by decide +kernel
theorem dL_law_728 : decode cL_law 728 = .ok (.iconst 0, 1) := by decide +kernel
theorem dL_law_729 : decode cL_law 729 = .ok (.ireturn, 1) := by decide +kernel
theorem dL_law_730 : decode cL_law 730 = .ok (.aload_n 1, 1) := by decide +kernel
theorem dL_law_731 : decode cL_law 731 = .ok (.aload_n 0, 1) := by decide +kernel
theorem dL_law_732 : decode cL_law 732 = .ok (.iload_n 3, 1) := by decide +kernel
theorem dL_law_733 : decode cL_law 733 = .ok (.iconst 1, 1) := by decide +kernel
theorem dL_law_734 : decode cL_law 734 = .ok (.iadd, 1) := by decide +kernel
theorem dL_law_735 : decode cL_law 735 = .ok (.iaload, 1) := by decide +kernel
theorem dL_law_736 : decode cL_law 736 = .ok (.aload_n 0, 1) := by decide +kernel
theorem dL_law_737 : decode cL_law 737 = .ok (.iload_n 3, 1) := by decide +kernel
theorem dL_law_738 : decode cL_law 738 = .ok (.iconst 2, 1) := by decide +kernel
theorem dL_law_739 : decode cL_law 739 = .ok (.iadd, 1) := by decide +kernel
theorem dL_law_740 : decode cL_law 740 = .ok (.iaload, 1) := by decide +kernel
theorem dL_law_741 : decode cL_law 741 = .ok (.invokevirtual 98, 3) := by decide +kernel
theorem dL_law_744 : decode cL_law 744 = .ok (.aload_n 2, 1) := by decide +kernel
theorem dL_law_745 : decode cL_law 745 = .ok (.aload_n 0, 1) := by decide +kernel
theorem dL_law_746 : decode cL_law 746 = .ok (.iload_n 3, 1) := by decide +kernel
theorem dL_law_747 : decode cL_law 747 = .ok (.iconst 1, 1) := by decide +kernel
theorem dL_law_748 : decode cL_law 748 = .ok (.iadd, 1) := by decide +kernel
theorem dL_law_749 : decode cL_law 749 = .ok (.iaload, 1) := by decide +kernel
theorem dL_law_750 : decode cL_law 750 = .ok (.aload_n 0, 1) := by decide +kernel
theorem dL_law_751 : decode cL_law 751 = .ok (.iload_n 3, 1) := by decide +kernel
theorem dL_law_752 : decode cL_law 752 = .ok (.iconst 2, 1) := by decide +kernel
theorem dL_law_753 : decode cL_law 753 = .ok (.iadd, 1) := by decide +kernel
theorem dL_law_754 : decode cL_law 754 = .ok (.iaload, 1) := by decide +kernel
theorem dL_law_755 : decode cL_law 755 = .ok (.invokevirtual 101, 3) := by decide +kernel
theorem dL_law_758 : decode cL_law 758 = .ok (.if_icmp .eq 193, 3) := by decide +kernel
theorem dL_law_761 : decode cL_law 761 = .ok (.iconst 0, 1) := by decide +kernel
theorem dL_law_762 : decode cL_law 762 = .ok (.ireturn, 1) := by decide +kernel
theorem dL_law_763 : decode cL_law 763 = .ok (.aload_n 1, 1) := by decide +kernel
theorem dL_law_764 : decode cL_law 764 = .ok (.aload_n 0, 1) := by decide +kernel
theorem dL_law_765 : decode cL_law 765 = .ok (.iload_n 3, 1) := by decide +kernel
theorem dL_law_766 : decode cL_law 766 = .ok (.iconst 1, 1) := by decide +kernel
theorem dL_law_767 : decode cL_law 767 = .ok (.iadd, 1) := by decide +kernel
theorem dL_law_768 : decode cL_law 768 = .ok (.iaload, 1) := by decide +kernel
theorem dL_law_769 : decode cL_law 769 = .ok (.aload_n 0, 1) := by decide +kernel
theorem dL_law_770 : decode cL_law 770 = .ok (.iload_n 3, 1) := by decide +kernel
theorem dL_law_771 : decode cL_law 771 = .ok (.iconst 2, 1) := by decide +kernel
theorem dL_law_772 : decode cL_law 772 = .ok (.iadd, 1) := by decide +kernel
theorem dL_law_773 : decode cL_law 773 = .ok (.iaload, 1) := by decide +kernel
theorem dL_law_774 : decode cL_law 774 = .ok (.aload_n 0, 1) := by decide +kernel
theorem dL_law_775 : decode cL_law 775 = .ok (.iload_n 3, 1) := by decide +kernel
theorem dL_law_776 : decode cL_law 776 = .ok (.iconst 3, 1) := by decide +kernel
theorem dL_law_777 : decode cL_law 777 = .ok (.iadd, 1) := by decide +kernel
theorem dL_law_778 : decode cL_law 778 = .ok (.iaload, 1) := by decide +kernel
theorem dL_law_779 : decode cL_law 779 = .ok (.invokevirtual 102, 3) := by decide +kernel
theorem dL_law_782 : decode cL_law 782 = .ok (.aload_n 2, 1) := by decide +kernel
theorem dL_law_783 : decode cL_law 783 = .ok (.aload_n 0, 1) := by decide +kernel
theorem dL_law_784 : decode cL_law 784 = .ok (.iload_n 3, 1) := by decide +kernel
theorem dL_law_785 : decode cL_law 785 = .ok (.iconst 1, 1) := by decide +kernel
theorem dL_law_786 : decode cL_law 786 = .ok (.iadd, 1) := by decide +kernel
theorem dL_law_787 : decode cL_law 787 = .ok (.iaload, 1) := by decide +kernel
theorem dL_law_788 : decode cL_law 788 = .ok (.aload_n 0, 1) := by decide +kernel
theorem dL_law_789 : decode cL_law 789 = .ok (.iload_n 3, 1) := by decide +kernel
theorem dL_law_790 : decode cL_law 790 = .ok (.iconst 2, 1) := by decide +kernel
theorem dL_law_791 : decode cL_law 791 = .ok (.iadd, 1) := by decide +kernel
theorem dL_law_792 : decode cL_law 792 = .ok (.iaload, 1) := by decide +kernel
theorem dL_law_793 : decode cL_law 793 = .ok (.aload_n 0, 1) := by decide +kernel
theorem dL_law_794 : decode cL_law 794 = .ok (.iload_n 3, 1) := by decide +kernel
theorem dL_law_795 : decode cL_law 795 = .ok (.iconst 3, 1) := by decide +kernel
theorem dL_law_796 : decode cL_law 796 = .ok (.iadd, 1) := by decide +kernel
theorem dL_law_797 : decode cL_law 797 = .ok (.iaload, 1) := by decide +kernel
theorem dL_law_798 : decode cL_law 798 = .ok (.invokevirtual 105, 3) := by decide +kernel
theorem dL_law_801 : decode cL_law 801 = .ok (.if_icmp .eq 150, 3) := by decide +kernel
theorem dL_law_804 : decode cL_law 804 = .ok (.iconst 0, 1) := by decide +kernel
theorem dL_law_805 : decode cL_law 805 = .ok (.ireturn, 1) := by decide +kernel
theorem dL_law_806 : decode cL_law 806 = .ok (.aload_n 1, 1) := by decide +kernel
theorem dL_law_807 : decode cL_law 807 = .ok (.aload_n 0, 1) := by decide +kernel
theorem dL_law_808 : decode cL_law 808 = .ok (.iload_n 3, 1) := by decide +kernel
theorem dL_law_809 : decode cL_law 809 = .ok (.iconst 1, 1) := by decide +kernel
theorem dL_law_810 : decode cL_law 810 = .ok (.iadd, 1) := by decide +kernel
theorem dL_law_811 : decode cL_law 811 = .ok (.iaload, 1) := by decide +kernel
theorem dL_law_812 : decode cL_law 812 = .ok (.aload_n 0, 1) := by decide +kernel
theorem dL_law_813 : decode cL_law 813 = .ok (.iload_n 3, 1) := by decide +kernel
theorem dL_law_814 : decode cL_law 814 = .ok (.iconst 2, 1) := by decide +kernel
theorem dL_law_815 : decode cL_law 815 = .ok (.iadd, 1) := by decide +kernel
theorem dL_law_816 : decode cL_law 816 = .ok (.iaload, 1) := by decide +kernel
theorem dL_law_817 : decode cL_law 817 = .ok (.aload_n 0, 1) := by decide +kernel
theorem dL_law_818 : decode cL_law 818 = .ok (.iload_n 3, 1) := by decide +kernel
theorem dL_law_819 : decode cL_law 819 = .ok (.iconst 3, 1) := by decide +kernel
theorem dL_law_820 : decode cL_law 820 = .ok (.iadd, 1) := by decide +kernel
theorem dL_law_821 : decode cL_law 821 = .ok (.iaload, 1) := by decide +kernel
theorem dL_law_822 : decode cL_law 822 = .ok (.invokevirtual 106, 3) := by decide +kernel
theorem dL_law_825 : decode cL_law 825 = .ok (.aload_n 2, 1) := by decide +kernel
theorem dL_law_826 : decode cL_law 826 = .ok (.aload_n 0, 1) := by decide +kernel
theorem dL_law_827 : decode cL_law 827 = .ok (.iload_n 3, 1) := by decide +kernel
theorem dL_law_828 : decode cL_law 828 = .ok (.iconst 1, 1) := by decide +kernel
theorem dL_law_829 : decode cL_law 829 = .ok (.iadd, 1) := by decide +kernel
theorem dL_law_830 : decode cL_law 830 = .ok (.iaload, 1) := by decide +kernel
theorem dL_law_831 : decode cL_law 831 = .ok (.aload_n 0, 1) := by decide +kernel
theorem dL_law_832 : decode cL_law 832 = .ok (.iload_n 3, 1) := by decide +kernel
theorem dL_law_833 : decode cL_law 833 = .ok (.iconst 2, 1) := by decide +kernel
theorem dL_law_834 : decode cL_law 834 = .ok (.iadd, 1) := by decide +kernel
theorem dL_law_835 : decode cL_law 835 = .ok (.iaload, 1) := by decide +kernel
theorem dL_law_836 : decode cL_law 836 = .ok (.aload_n 0, 1) := by decide +kernel
theorem dL_law_837 : decode cL_law 837 = .ok (.iload_n 3, 1) := by decide +kernel
theorem dL_law_838 : decode cL_law 838 = .ok (.iconst 3, 1) := by decide +kernel
theorem dL_law_839 : decode cL_law 839 = .ok (.iadd, 1) := by decide +kernel
theorem dL_law_840 : decode cL_law 840 = .ok (.iaload, 1) := by decide +kernel
theorem dL_law_841 : decode cL_law 841 = .ok (.invokevirtual 109, 3) := by decide +kernel
theorem dL_law_844 : decode cL_law 844 = .ok (.if_icmp .eq 107, 3) := by decide +kernel
theorem dL_law_847 : decode cL_law 847 = .ok (.iconst 0, 1) := by decide +kernel
theorem dL_law_848 : decode cL_law 848 = .ok (.ireturn, 1) := by decide +kernel
theorem dL_law_849 : decode cL_law 849 = .ok (.aload_n 1, 1) := by decide +kernel
theorem dL_law_850 : decode cL_law 850 = .ok (.aload_n 0, 1) := by decide +kernel
theorem dL_law_851 : decode cL_law 851 = .ok (.iload_n 3, 1) := by decide +kernel
theorem dL_law_852 : decode cL_law 852 = .ok (.iconst 1, 1) := by decide +kernel
theorem dL_law_853 : decode cL_law 853 = .ok (.iadd, 1) := by decide +kernel
theorem dL_law_854 : decode cL_law 854 = .ok (.iaload, 1) := by decide +kernel
theorem dL_law_855 : decode cL_law 855 = .ok (.aload_n 0, 1) := by decide +kernel
theorem dL_law_856 : decode cL_law 856 = .ok (.iload_n 3, 1) := by decide +kernel
theorem dL_law_857 : decode cL_law 857 = .ok (.iconst 2, 1) := by decide +kernel
theorem dL_law_858 : decode cL_law 858 = .ok (.iadd, 1) := by decide +kernel
theorem dL_law_859 : decode cL_law 859 = .ok (.iaload, 1) := by decide +kernel
theorem dL_law_860 : decode cL_law 860 = .ok (.invokevirtual 110, 3) := by decide +kernel
theorem dL_law_863 : decode cL_law 863 = .ok (.aload_n 2, 1) := by decide +kernel
theorem dL_law_864 : decode cL_law 864 = .ok (.aload_n 0, 1) := by decide +kernel
theorem dL_law_865 : decode cL_law 865 = .ok (.iload_n 3, 1) := by decide +kernel
theorem dL_law_866 : decode cL_law 866 = .ok (.iconst 1, 1) := by decide +kernel
theorem dL_law_867 : decode cL_law 867 = .ok (.iadd, 1) := by decide +kernel
theorem dL_law_868 : decode cL_law 868 = .ok (.iaload, 1) := by decide +kernel
theorem dL_law_869 : decode cL_law 869 = .ok (.aload_n 0, 1) := by decide +kernel
theorem dL_law_870 : decode cL_law 870 = .ok (.iload_n 3, 1) := by decide +kernel
theorem dL_law_871 : decode cL_law 871 = .ok (.iconst 2, 1) := by decide +kernel
theorem dL_law_872 : decode cL_law 872 = .ok (.iadd, 1) := by decide +kernel
theorem dL_law_873 : decode cL_law 873 = .ok (.iaload, 1) := by decide +kernel
theorem dL_law_874 : decode cL_law 874 = .ok (.invokevirtual 113, 3) := by decide +kernel
theorem dL_law_877 : decode cL_law 877 = .ok (.if_icmp .eq 74, 3) := by decide +kernel
theorem dL_law_880 : decode cL_law 880 = .ok (.iconst 0, 1) := by decide +kernel
theorem dL_law_881 : decode cL_law 881 = .ok (.ireturn, 1) := by decide +kernel
theorem dL_law_882 : decode cL_law 882 = .ok (.aload_n 1, 1) := by decide +kernel
theorem dL_law_883 : decode cL_law 883 = .ok (.aload_n 0, 1) := by decide +kernel
theorem dL_law_884 : decode cL_law 884 = .ok (.iload_n 3, 1) := by decide +kernel
theorem dL_law_885 : decode cL_law 885 = .ok (.iconst 1, 1) := by decide +kernel
theorem dL_law_886 : decode cL_law 886 = .ok (.iadd, 1) := by decide +kernel
theorem dL_law_887 : decode cL_law 887 = .ok (.iaload, 1) := by decide +kernel
theorem dL_law_888 : decode cL_law 888 = .ok (.aload_n 0, 1) := by decide +kernel
theorem dL_law_889 : decode cL_law 889 = .ok (.iload_n 3, 1) := by decide +kernel
theorem dL_law_890 : decode cL_law 890 = .ok (.iconst 2, 1) := by decide +kernel
theorem dL_law_891 : decode cL_law 891 = .ok (.iadd, 1) := by decide +kernel
theorem dL_law_892 : decode cL_law 892 = .ok (.iaload, 1) := by decide +kernel
theorem dL_law_893 : decode cL_law 893 = .ok (.invokevirtual 114, 3) := by decide +kernel
theorem dL_law_896 : decode cL_law 896 = .ok (.aload_n 2, 1) := by decide +kernel
theorem dL_law_897 : decode cL_law 897 = .ok (.aload_n 0, 1) := by decide +kernel
theorem dL_law_898 : decode cL_law 898 = .ok (.iload_n 3, 1) := by decide +kernel
theorem dL_law_899 : decode cL_law 899 = .ok (.iconst 1, 1) := by decide +kernel
theorem dL_law_900 : decode cL_law 900 = .ok (.iadd, 1) := by decide +kernel
theorem dL_law_901 : decode cL_law 901 = .ok (.iaload, 1) := by decide +kernel
theorem dL_law_902 : decode cL_law 902 = .ok (.aload_n 0, 1) := by decide +kernel
theorem dL_law_903 : decode cL_law 903 = .ok (.iload_n 3, 1) := by decide +kernel
theorem dL_law_904 : decode cL_law 904 = .ok (.iconst 2, 1) := by decide +kernel
theorem dL_law_905 : decode cL_law 905 = .ok (.iadd, 1) := by decide +kernel
theorem dL_law_906 : decode cL_law 906 = .ok (.iaload, 1) := by decide +kernel
theorem dL_law_907 : decode cL_law 907 = .ok (.invokevirtual 117, 3) := by decide +kernel
theorem dL_law_910 : decode cL_law 910 = .ok (.if_icmp .eq 41, 3) := by decide +kernel
theorem dL_law_913 : decode cL_law 913 = .ok (.iconst 0, 1) := by decide +kernel
theorem dL_law_914 : decode cL_law 914 = .ok (.ireturn, 1) := by decide +kernel
theorem dL_law_915 : decode cL_law 915 = .ok (.aload_n 1, 1) := by decide +kernel
theorem dL_law_916 : decode cL_law 916 = .ok (.aload_n 0, 1) := by decide +kernel
theorem dL_law_917 : decode cL_law 917 = .ok (.iload_n 3, 1) := by decide +kernel
theorem dL_law_918 : decode cL_law 918 = .ok (.iconst 1, 1) := by decide +kernel
theorem dL_law_919 : decode cL_law 919 = .ok (.iadd, 1) := by decide +kernel
theorem dL_law_920 : decode cL_law 920 = .ok (.iaload, 1) := by decide +kernel
theorem dL_law_921 : decode cL_law 921 = .ok (.invokevirtual 118, 3) := by decide +kernel
theorem dL_law_924 : decode cL_law 924 = .ok (.aload_n 2, 1) := by decide +kernel
theorem dL_law_925 : decode cL_law 925 = .ok (.aload_n 0, 1) := by decide +kernel
theorem dL_law_926 : decode cL_law 926 = .ok (.iload_n 3, 1) := by decide +kernel
theorem dL_law_927 : decode cL_law 927 = .ok (.iconst 1, 1) := by decide +kernel
theorem dL_law_928 : decode cL_law 928 = .ok (.iadd, 1) := by decide +kernel
theorem dL_law_929 : decode cL_law 929 = .ok (.iaload, 1) := by decide +kernel
theorem dL_law_930 : decode cL_law 930 = .ok (.invokevirtual 121, 3) := by decide +kernel
theorem dL_law_933 : decode cL_law 933 = .ok (.if_icmp .eq 18, 3) := by decide +kernel
theorem dL_law_936 : decode cL_law 936 = .ok (.iconst 0, 1) := by decide +kernel
theorem dL_law_937 : decode cL_law 937 = .ok (.ireturn, 1) := by decide +kernel
theorem dL_law_938 : decode cL_law 938 = .ok (.aload_n 1, 1) := by decide +kernel
theorem dL_law_939 : decode cL_law 939 = .ok (.invokevirtual 122, 3) := by decide +kernel
theorem dL_law_942 : decode cL_law 942 = .ok (.aload_n 2, 1) := by decide +kernel
theorem dL_law_943 : decode cL_law 943 = .ok (.invokevirtual 125, 3) := by decide +kernel
theorem dL_law_946 : decode cL_law 946 = .ok (.if_icmp .eq 5, 3) := by decide +kernel
theorem dL_law_949 : decode cL_law 949 = .ok (.iconst 0, 1) := by decide +kernel
theorem dL_law_950 : decode cL_law 950 = .ok (.ireturn, 1) := by decide +kernel
theorem dL_law_951 : decode cL_law 951 = .ok (.iinc 3 5, 3) := by decide +kernel
theorem dL_law_954 : decode cL_law 954 = .ok (.goto (-936), 3) := by decide +kernel
theorem dL_law_957 : decode cL_law 957 = .ok (.iconst 1, 1) := by decide +kernel
theorem dL_law_958 : decode cL_law 958 = .ok (.ireturn, 1) := by decide +kernel
