theorem dX5_pairsAlike_36 : decode cX5_pairsAlike 36 = .ok (.imul, 1) := by decide +kernel
theorem dX5_pairsAlike_37 : decode cX5_pairsAlike 37 = .ok (.iconst 2, 1) := by decide +kernel
theorem dX5_pairsAlike_38 : decode cX5_pairsAlike 38 = .ok (.idiv, 1) := by decide +kernel
theorem dX5_pairsAlike_39 : decode cX5_pairsAlike 39 = .ok (.iadd, 1) := by decide +kernel
theorem dX5_pairsAlike_40 : decode cX5_pairsAlike 40 = .ok (.iadd, 1) := by decide +kernel
theorem dX5_pairsAlike_41 : decode cX5_pairsAlike 41 = .ok (.istore_n 1, 1) := by decide +kernel
theorem dX5_pairsAlike_42 : decode cX5_pairsAlike 42 = .ok (.iinc 2 1, 3) := by decide +kernel
theorem dX5_pairsAlike_45 : decode cX5_pairsAlike 45 = .ok (.goto (-41), 3) := by decide +kernel
theorem dX5_pairsAlike_48 : decode cX5_pairsAlike 48 = .ok (.iload_n 1, 1) := by decide +kernel
theorem dX5_pairsAlike_49 : decode cX5_pairsAlike 49 = .ok (.ireturn, 1) := by decide +kernel
theorem dX5_calledAlike_0 : decode cX5_calledAlike 0 = .ok (.iconst 0, 1) := by decide +kernel
theorem dX5_calledAlike_1 : decode cX5_calledAlike 1 = .ok (.istore_n 1, 1) := by decide +kernel
theorem dX5_calledAlike_2 : decode cX5_calledAlike 2 = .ok (.iconst 0, 1) := by decide +kernel
theorem dX5_calledAlike_3 : decode cX5_calledAlike 3 = .ok (.istore_n 2, 1) := by decide +kernel
theorem dX5_calledAlike_4 : decode cX5_calledAlike 4 = .ok (.iload_n 2, 1) := by decide +kernel
theorem dX5_calledAlike_5 : decode cX5_calledAlike 5 = .ok (.bipush 6, 2) := by decide +kernel
theorem dX5_calledAlike_7 : decode cX5_calledAlike 7 = .ok (.if_icmp .ge 28, 3) := by decide +kernel
theorem dX5_calledAlike_10 : decode cX5_calledAlike 10 = .ok (.aload_n 0, 1) := by decide +kernel
theorem dX5_calledAlike_11 : decode cX5_calledAlike 11 = .ok (.iload_n 2, 1) := by decide +kernel
theorem dX5_calledAlike_12 : decode cX5_calledAlike 12 = .ok (.invokevirtual 56, 3) := by decide +kernel
theorem dX5_calledAlike_15 : decode cX5_calledAlike 15 = .ok (.istore_n 3, 1) := by decide +kernel
theorem dX5_calledAlike_16 : decode cX5_calledAlike 16 = .ok (.iload_n 3, 1) := by decide +kernel
theorem dX5_calledAlike_17 : decode cX5_calledAlike 17 = .ok (.ifCond .eq 9, 3) := by decide +kernel
theorem dX5_calledAlike_20 : decode cX5_calledAlike 20 = .ok (.iload_n 3, 1) := by decide +kernel
theorem dX5_calledAlike_21 : decode cX5_calledAlike 21 = .ok (.bipush 6, 2) := by decide +kernel
theorem dX5_calledAlike_23 : decode cX5_calledAlike 23 = .ok (.if_icmp .ne 6, 3) := by decide +kernel
theorem dX5_calledAlike_26 : decode cX5_calledAlike 26 = .ok (.iinc 1 1, 3) := by decide +kernel
theorem dX5_calledAlike_29 : decode cX5_calledAlike 29 = .ok (.iinc 2 1, 3) := by decide +kernel
theorem dX5_calledAlike_32 : decode cX5_calledAlike 32 = .ok (.goto (-28), 3) := by decide +kernel
theorem dX5_calledAlike_35 : decode cX5_calledAlike 35 = .ok (.iload_n 1, 1) := by decide +kernel
theorem dX5_calledAlike_36 : decode cX5_calledAlike 36 = .ok (.ireturn, 1) := by decide +kernel
theorem dX5_calledGood_0 : decode cX5_calledGood 0 = .ok (.iconst 0, 1) := by decide +kernel
theorem dX5_calledGood_1 : decode cX5_calledGood 1 = .ok (.istore_n 1, 1) := by decide +kernel
theorem dX5_calledGood_2 : decode cX5_calledGood 2 = .ok (.iconst 0, 1) := by decide +kernel
theorem dX5_calledGood_3 : decode cX5_calledGood 3 = .ok (.istore_n 2, 1) := by decide +kernel
theorem dX5_calledGood_4 : decode cX5_calledGood 4 = .ok (.iload_n 2, 1) := by decide +kernel
theorem dX5_calledGood_5 : decode cX5_calledGood 5 = .ok (.bipush 6, 2) := by decide +kernel
theorem dX5_calledGood_7 : decode cX5_calledGood 7 = .ok (.if_icmp .ge 22, 3) := by decide +kernel
theorem dX5_calledGood_10 : decode cX5_calledGood 10 = .ok (.aload_n 0, 1) := by decide +kernel
theorem dX5_calledGood_11 : decode cX5_calledGood 11 = .ok (.iload_n 2, 1) := by decide +kernel
theorem dX5_calledGood_12 : decode cX5_calledGood 12 = .ok (.invokevirtual 56, 3) := by decide +kernel
theorem dX5_calledGood_15 : decode cX5_calledGood 15 = .ok (.bipush 6, 2) := by decide +kernel
theorem dX5_calledGood_17 : decode cX5_calledGood 17 = .ok (.if_icmp .ne 6, 3) := by decide +kernel
theorem dX5_calledGood_20 : decode cX5_calledGood 20 = .ok (.iinc 1 1, 3) := by decide +kernel
theorem dX5_calledGood_23 : decode cX5_calledGood 23 = .ok (.iinc 2 1, 3) := by decide +kernel
theorem dX5_calledGood_26 : decode cX5_calledGood 26 = .ok (.goto (-22), 3) := by decide +kernel
theorem dX5_calledGood_29 : decode cX5_calledGood 29 = .ok (.iload_n 1, 1) := by decide +kernel
theorem dX5_calledGood_30 : decode cX5_calledGood 30 = .ok (.ireturn, 1) := by decide +kernel
theorem dX5_clear_0 : decode cX5_clear 0 = .ok (.iconst 0, 1) := by decide +kernel
theorem dX5_clear_1 : decode cX5_clear 1 = .ok (.istore_n 1, 1) := by decide +kernel
theorem dX5_clear_2 : decode cX5_clear 2 = .ok (.iconst 0, 1) := by decide +kernel
theorem dX5_clear_3 : decode cX5_clear 3 = .ok (.istore_n 2, 1) := by decide +kernel
theorem dX5_clear_4 : decode cX5_clear 4 = .ok (.iload_n 2, 1) := by decide +kernel
theorem dX5_clear_5 : decode cX5_clear 5 = .ok (.bipush 6, 2) := by decide +kernel
theorem dX5_clear_7 : decode cX5_clear 7 = .ok (.if_icmp .ge 39, 3) := by decide +kernel
theorem dX5_clear_10 : decode cX5_clear 10 = .ok (.iload_n 1, 1) := by decide +kernel
theorem dX5_clear_11 : decode cX5_clear 11 = .ok (.bipush 6, 2) := by decide +kernel
theorem dX5_clear_13 : decode cX5_clear 13 = .ok (.aload_n 0, 1) := by decide +kernel
theorem dX5_clear_14 : decode cX5_clear 14 = .ok (.getfield 9, 3) := by decide +kernel
theorem dX5_clear_17 : decode cX5_clear 17 = .ok (.iload_n 2, 1) := by decide +kernel
theorem dX5_clear_18 : decode cX5_clear 18 = .ok (.iaload, 1) := by decide +kernel
theorem dX5_clear_19 : decode cX5_clear 19 = .ok (.invokestatic 50, 3) := by decide +kernel
theorem dX5_clear_22 : decode cX5_clear 22 = .ok (.isub, 1) := by decide +kernel
theorem dX5_clear_23 : decode cX5_clear 23 = .ok (.iadd, 1) := by decide +kernel
theorem dX5_clear_24 : decode cX5_clear 24 = .ok (.istore_n 1, 1) := by decide +kernel
theorem dX5_clear_25 : decode cX5_clear 25 = .ok (.aload_n 0, 1) := by decide +kernel
theorem dX5_clear_26 : decode cX5_clear 26 = .ok (.getfield 9, 3) := by decide +kernel
theorem dX5_clear_29 : decode cX5_clear 29 = .ok (.iload_n 2, 1) := by decide +kernel
theorem dX5_clear_30 : decode cX5_clear 30 = .ok (.bipush 63, 2) := by decide +kernel
theorem dX5_clear_32 : decode cX5_clear 32 = .ok (.iastore, 1) := by decide +kernel
theorem dX5_clear_33 : decode cX5_clear 33 = .ok (.aload_n 0, 1) := by decide +kernel
theorem dX5_clear_34 : decode cX5_clear 34 = .ok (.getfield 13, 3) := by decide +kernel
theorem dX5_clear_37 : decode cX5_clear 37 = .ok (.iload_n 2, 1) := by decide +kernel
theorem dX5_clear_38 : decode cX5_clear 38 = .ok (.iconst 0, 1) := by decide +kernel
theorem dX5_clear_39 : decode cX5_clear 39 = .ok (.iastore, 1) := by decide +kernel
theorem dX5_clear_40 : decode cX5_clear 40 = .ok (.iinc 2 1, 3) := by decide +kernel
theorem dX5_clear_43 : decode cX5_clear 43 = .ok (.goto (-39), 3) := by decide +kernel
theorem dX5_clear_46 : decode cX5_clear 46 = .ok (.iload_n 1, 1) := by decide +kernel
theorem dX5_clear_47 : decode cX5_clear 47 = .ok (.ireturn, 1) := by decide +kernel
theorem dX6_init_0 : decode cX6_init 0 = .ok (.aload_n 0, 1) := by decide +kernel
theorem dX6_init_1 : decode cX6_init 1 = .ok (.invokespecial 1, 3) := by decide +kernel
theorem dX6_init_4 : decode cX6_init 4 = .ok (.aload_n 0, 1) := by decide +kernel
theorem dX6_init_5 : decode cX6_init 5 = .ok (.invokevirtual 7, 3) := by decide +kernel
theorem dX6_init_8 : decode cX6_init 8 = .ok (.return_, 1) := by decide +kernel
theorem dX6_asAtFirst_0 : decode cX6_asAtFirst 0 = .ok (.aload_n 0, 1) := by decide +kernel
theorem dX6_asAtFirst_1 : decode cX6_asAtFirst 1 = .ok (.iconst 1, 1) := by decide +kernel
theorem dX6_asAtFirst_2 : decode cX6_asAtFirst 2 = .ok (.putfield 12, 3) := by decide +kernel
theorem dX6_asAtFirst_5 : decode cX6_asAtFirst 5 = .ok (.aload_n 0, 1) := by decide +kernel
theorem dX6_asAtFirst_6 : decode cX6_asAtFirst 6 = .ok (.iconst 3, 1) := by decide +kernel
theorem dX6_asAtFirst_7 : decode cX6_asAtFirst 7 = .ok (.putfield 16, 3) := by decide +kernel
theorem dX6_asAtFirst_10 : decode cX6_asAtFirst 10 = .ok (.aload_n 0, 1) := by decide +kernel
theorem dX6_asAtFirst_11 : decode cX6_asAtFirst 11 = .ok (.iconst 1, 1) := by decide +kernel
theorem dX6_asAtFirst_12 : decode cX6_asAtFirst 12 = .ok (.putfield 19, 3) := by decide +kernel
theorem dX6_asAtFirst_15 : decode cX6_asAtFirst 15 = .ok (.aload_n 0, 1) := by decide +kernel
theorem dX6_asAtFirst_16 : decode cX6_asAtFirst 16 = .ok (.iconst 1, 1) := by decide +kernel
theorem dX6_asAtFirst_17 : decode cX6_asAtFirst 17 = .ok (.putfield 22, 3) := by decide +kernel
theorem dX6_asAtFirst_20 : decode cX6_asAtFirst 20 = .ok (.aload_n 0, 1) := by decide +kernel
theorem dX6_asAtFirst_21 : decode cX6_asAtFirst 21 = .ok (.iconst 0, 1) := by decide +kernel
theorem dX6_asAtFirst_22 : decode cX6_asAtFirst 22 = .ok (.putfield 25, 3) := by decide +kernel
theorem dX6_asAtFirst_25 : decode cX6_asAtFirst 25 = .ok (.aload_n 0, 1) := by decide +kernel
theorem dX6_asAtFirst_26 : decode cX6_asAtFirst 26 = .ok (.iconst 1, 1) := by decide +kernel
theorem dX6_asAtFirst_27 : decode cX6_asAtFirst 27 = .ok (.putfield 28, 3) := by decide +kernel
theorem dX6_asAtFirst_30 : decode cX6_asAtFirst 30 = .ok (.aload_n 0, 1) := by decide +kernel
theorem dX6_asAtFirst_31 : decode cX6_asAtFirst 31 = .ok (.bipush 10, 2) := by decide +kernel
theorem dX6_asAtFirst_33 : decode cX6_asAtFirst 33 = .ok (.putfield 31, 3) := by decide +kernel
theorem dX6_asAtFirst_36 : decode cX6_asAtFirst 36 = .ok (.aload_n 0, 1) := by decide +kernel
theorem dX6_asAtFirst_37 : decode cX6_asAtFirst 37 = .ok (.sipush 153, 3) := by decide +kernel
theorem dX6_asAtFirst_40 : decode cX6_asAtFirst 40 = .ok (.putfield 34, 3) := by decide +kernel
theorem dX6_asAtFirst_43 : decode cX6_asAtFirst 43 = .ok (.return_, 1) := by decide +kernel
theorem dX6_become_0 : decode cX6_become 0 = .ok (.aload_n 0, 1) := by decide +kernel
theorem dX6_become_1 : decode cX6_become 1 = .ok (.aload_n 1, 1) := by decide +kernel
theorem dX6_become_2 : decode cX6_become 2 = .ok (.getfield 12, 3) := by decide +kernel
theorem dX6_become_5 : decode cX6_become 5 = .ok (.putfield 12, 3) := by decide +kernel
theorem dX6_become_8 : decode cX6_become 8 = .ok (.aload_n 0, 1) := by decide +kernel
theorem dX6_become_9 : decode cX6_become 9 = .ok (.aload_n 1, 1) := by decide +kernel
theorem dX6_become_10 : decode cX6_become 10 = .ok (.getfield 16, 3) := by decide +kernel
theorem dX6_become_13 : decode cX6_become 13 = .ok (.putfield 16, 3) := by decide +kernel
theorem dX6_become_16 : decode cX6_become 16 = .ok (.aload_n 0, 1) := by decide +kernel
theorem dX6_become_17 : decode cX6_become 17 = .ok (.aload_n 1, 1) := by decide +kernel
theorem dX6_become_18 : decode cX6_become 18 = .ok (.getfield 19, 3) := by decide +kernel
theorem dX6_become_21 : decode cX6_become 21 = .ok (.putfield 19, 3) := by decide +kernel
theorem dX6_become_24 : decode cX6_become 24 = .ok (.aload_n 0, 1) := by decide +kernel
theorem dX6_become_25 : decode cX6_become 25 = .ok (.aload_n 1, 1) := by decide +kernel
theorem dX6_become_26 : decode cX6_become 26 = .ok (.getfield 22, 3) := by decide +kernel
theorem dX6_become_29 : decode cX6_become 29 = .ok (.putfield 22, 3) := by decide +kernel
theorem dX6_become_32 : decode cX6_become 32 = .ok (.aload_n 0, 1) := by decide +kernel
theorem dX6_become_33 : decode cX6_become 33 = .ok (.aload_n 1, 1) := by decide +kernel
theorem dX6_become_34 : decode cX6_become 34 = .ok (.getfield 25, 3) := by decide +kernel
theorem dX6_become_37 : decode cX6_become 37 = .ok (.putfield 25, 3) := by decide +kernel
theorem dX6_become_40 : decode cX6_become 40 = .ok (.aload_n 0, 1) := by decide +kernel
theorem dX6_become_41 : decode cX6_become 41 = .ok (.aload_n 1, 1) := by decide +kernel
theorem dX6_become_42 : decode cX6_become 42 = .ok (.getfield 28, 3) := by decide +kernel
theorem dX6_become_45 : decode cX6_become 45 = .ok (.putfield 28, 3) := by decide +kernel
theorem dX6_become_48 : decode cX6_become 48 = .ok (.aload_n 0, 1) := by decide +kernel
theorem dX6_become_49 : decode cX6_become 49 = .ok (.aload_n 1, 1) := by decide +kernel
theorem dX6_become_50 : decode cX6_become 50 = .ok (.getfield 31, 3) := by decide +kernel
theorem dX6_become_53 : decode cX6_become 53 = .ok (.putfield 31, 3) := by decide +kernel
theorem dX6_become_56 : decode cX6_become 56 = .ok (.aload_n 0, 1) := by decide +kernel
theorem dX6_become_57 : decode cX6_become 57 = .ok (.aload_n 1, 1) := by decide +kernel
theorem dX6_become_58 : decode cX6_become 58 = .ok (.getfield 34, 3) := by decide +kernel
theorem dX6_become_61 : decode cX6_become 61 = .ok (.putfield 34, 3) := by decide +kernel
theorem dX6_become_64 : decode cX6_become 64 = .ok (.return_, 1) := by decide +kernel
theorem dX7_init_0 : decode cX7_init 0 = .ok (.aload_n 0, 1) := by decide +kernel
theorem dX7_init_1 : decode cX7_init 1 = .ok (.invokespecial 3, 3) := by decide +kernel
theorem dX7_init_4 : decode cX7_init 4 = .ok (.aload_n 0, 1) := by decide +kernel
theorem dX7_init_5 : decode cX7_init 5 = .ok (.sipush 1001, 3) := by decide +kernel
theorem dX7_init_8 : decode cX7_init 8 = .ok (.newarray .int, 2) := by decide +kernel
theorem dX7_init_10 : decode cX7_init 10 = .ok (.putfield 9, 3) := by decide +kernel
theorem dX7_init_13 : decode cX7_init 13 = .ok (.aload_n 0, 1) := by decide +kernel
theorem dX7_init_14 : decode cX7_init 14 = .ok (.sipush 1001, 3) := by decide +kernel
theorem dX7_init_17 : decode cX7_init 17 = .ok (.newarray .int, 2) := by decide +kernel
theorem dX7_init_19 : decode cX7_init 19 = .ok (.putfield 15, 3) := by decide +kernel
theorem dX7_init_22 : decode cX7_init 22 = .ok (.return_, 1) := by decide +kernel
theorem dX7_go_0 : decode cX7_go 0 = .ok (.iload_n 2, 1) := by decide +kernel
theorem dX7_go_1 : decode cX7_go 1 = .ok (.istore_n 3, 1) := by decide +kernel
theorem dX7_go_2 : decode cX7_go 2 = .ok (.iconst 0, 1) := by decide +kernel
theorem dX7_go_3 : decode cX7_go 3 = .ok (.istore 4, 2) := by decide +kernel
theorem dX7_go_5 : decode cX7_go 5 = .ok (.iload 4, 2) := by decide +kernel
theorem dX7_go_7 : decode cX7_go 7 = .ok (.sipush 1000, 3) := by decide +kernel
theorem dX7_go_10 : decode cX7_go 10 = .ok (.if_icmp .gt 47, 3) := by decide +kernel
theorem dX7_go_13 : decode cX7_go 13 = .ok (.iload_n 3, 1) := by decide +kernel
theorem dX7_go_14 : decode cX7_go 14 = .ok (.invokestatic 18, 3) := by decide +kernel
theorem dX7_go_17 : decode cX7_go 17 = .ok (.ifCond .eq 40, 3) := by decide +kernel
theorem dX7_go_20 : decode cX7_go 20 = .ok (.aload_n 0, 1) := by decide +kernel
theorem dX7_go_21 : decode cX7_go 21 = .ok (.getfield 15, 3) := by decide +kernel
theorem dX7_go_24 : decode cX7_go 24 = .ok (.iload_n 3, 1) := by decide +kernel
theorem dX7_go_25 : decode cX7_go 25 = .ok (.iaload, 1) := by decide +kernel
theorem dX7_go_26 : decode cX7_go 26 = .ok (.ifCond .ne 31, 3) := by decide +kernel
theorem dX7_go_29 : decode cX7_go 29 = .ok (.aload_n 0, 1) := by decide +kernel
theorem dX7_go_30 : decode cX7_go 30 = .ok (.getfield 9, 3) := by decide +kernel
theorem dX7_go_33 : decode cX7_go 33 = .ok (.iload 4, 2) := by decide +kernel
theorem dX7_go_35 : decode cX7_go 35 = .ok (.iload_n 3, 1) := by decide +kernel
theorem dX7_go_36 : decode cX7_go 36 = .ok (.iastore, 1) := by decide +kernel
theorem dX7_go_37 : decode cX7_go 37 = .ok (.iinc 4 1, 3) := by decide +kernel
theorem dX7_go_40 : decode cX7_go 40 = .ok (.aload_n 0, 1) := by decide +kernel
theorem dX7_go_41 : decode cX7_go 41 = .ok (.getfield 15, 3) := by decide +kernel
theorem dX7_go_44 : decode cX7_go 44 = .ok (.iload_n 3, 1) := by decide +kernel
theorem dX7_go_45 : decode cX7_go 45 = .ok (.iload 4, 2) := by decide +kernel
theorem dX7_go_47 : decode cX7_go 47 = .ok (.iastore, 1) := by decide +kernel
theorem dX7_go_48 : decode cX7_go 48 = .ok (.aload_n 1, 1) := by decide +kernel
theorem dX7_go_49 : decode cX7_go 49 = .ok (.iload_n 3, 1) := by decide +kernel
theorem dX7_go_50 : decode cX7_go 50 = .ok (.invokevirtual 22, 3) := by decide +kernel
theorem dX7_go_53 : decode cX7_go 53 = .ok (.istore_n 3, 1) := by decide +kernel
theorem dX7_go_54 : decode cX7_go 54 = .ok (.goto (-49), 3) := by decide +kernel
theorem dX7_go_57 : decode cX7_go 57 = .ok (.aload_n 0, 1) := by decide +kernel
theorem dX7_go_58 : decode cX7_go 58 = .ok (.iload_n 3, 1) := by decide +kernel
theorem dX7_go_59 : decode cX7_go 59 = .ok (.putfield 28, 3) := by decide +kernel
theorem dX7_go_62 : decode cX7_go 62 = .ok (.aload_n 0, 1) := by decide +kernel
theorem dX7_go_63 : decode cX7_go 63 = .ok (.iload_n 3, 1) := by decide +kernel
theorem dX7_go_64 : decode cX7_go 64 = .ok (.invokestatic 18, 3) := by decide +kernel
theorem dX7_go_67 : decode cX7_go 67 = .ok (.ifCond .eq 14, 3) := by decide +kernel
theorem dX7_go_70 : decode cX7_go 70 = .ok (.aload_n 0, 1) := by decide +kernel
theorem dX7_go_71 : decode cX7_go 71 = .ok (.getfield 15, 3) := by decide +kernel
theorem dX7_go_74 : decode cX7_go 74 = .ok (.iload_n 3, 1) := by decide +kernel
theorem dX7_go_75 : decode cX7_go 75 = .ok (.iaload, 1) := by decide +kernel
theorem dX7_go_76 : decode cX7_go 76 = .ok (.iconst 1, 1) := by decide +kernel
theorem dX7_go_77 : decode cX7_go 77 = .ok (.isub, 1) := by decide +kernel
theorem dX7_go_78 : decode cX7_go 78 = .ok (.goto 5, 3) := by decide +kernel
theorem dX7_go_81 : decode cX7_go 81 = .ok (.iload 4, 2) := by decide +kernel
theorem dX7_go_83 : decode cX7_go 83 = .ok (.putfield 32, 3) := by decide +kernel
theorem dX7_go_86 : decode cX7_go 86 = .ok (.aload_n 0, 1) := by decide +kernel
theorem dX7_go_87 : decode cX7_go 87 = .ok (.iload 4, 2) := by decide +kernel
theorem dX7_go_89 : decode cX7_go 89 = .ok (.aload_n 0, 1) := by decide +kernel
theorem dX7_go_90 : decode cX7_go 90 = .ok (.getfield 32, 3) := by decide +kernel
theorem dX7_go_93 : decode cX7_go 93 = .ok (.isub, 1) := by decide +kernel
theorem dX7_go_94 : decode cX7_go 94 = .ok (.putfield 35, 3) := by decide +kernel
theorem dX7_go_97 : decode cX7_go 97 = .ok (.iconst 0, 1) := by decide +kernel
theorem dX7_go_98 : decode cX7_go 98 = .ok (.istore 5, 2) := by decide +kernel
theorem dX7_go_100 : decode cX7_go 100 = .ok (.iload 5, 2) := by decide +kernel
theorem dX7_go_102 : decode cX7_go 102 = .ok (.iload 4, 2) := by decide +kernel
theorem dX7_go_104 : decode cX7_go 104 = .ok (.if_icmp .ge 22, 3) := by decide +kernel
theorem dX7_go_107 : decode cX7_go 107 = .ok (.aload_n 0, 1) := by decide +kernel
theorem dX7_go_108 : decode cX7_go 108 = .ok (.getfield 15, 3) := by decide +kernel
theorem dX7_go_111 : decode cX7_go 111 = .ok (.aload_n 0, 1) := by decide +kernel
theorem dX7_go_112 : decode cX7_go 112 = .ok (.getfield 9, 3) := by decide +kernel
theorem dX7_go_115 : decode cX7_go 115 = .ok (.iload 5, 2) := by decide +kernel
theorem dX7_go_117 : decode cX7_go 117 = .ok (.iaload, 1) := by decide +kernel
theorem dX7_go_118 : decode cX7_go 118 = .ok (.iconst 0, 1) := by decide +kernel
theorem dX7_go_119 : decode cX7_go 119 = .ok (.iastore, 1) := by decide +kernel
theorem dX7_go_120 : decode cX7_go 120 = .ok (.iinc 5 1, 3) := by decide +kernel
theorem dX7_go_123 : decode cX7_go 123 = .ok (.goto (-23), 3) := by decide +kernel
theorem dX7_go_126 : decode cX7_go 126 = .ok (.return_, 1) := by decide +kernel
theorem dX7_rest_0 : decode cX7_rest 0 = .ok (.aload_n 0, 1) := by decide +kernel
theorem dX7_rest_1 : decode cX7_rest 1 = .ok (.getfield 35, 3) := by decide +kernel
theorem dX7_rest_4 : decode cX7_rest 4 = .ok (.iconst 1, 1) := by decide +kernel
theorem dX7_rest_5 : decode cX7_rest 5 = .ok (.if_icmp .ne 10, 3) := by decide +kernel
theorem dX7_rest_8 : decode cX7_rest 8 = .ok (.aload_n 0, 1) := by decide +kernel
theorem dX7_rest_9 : decode cX7_rest 9 = .ok (.getfield 28, 3) := by decide +kernel
theorem dX7_rest_12 : decode cX7_rest 12 = .ok (.goto 4, 3) := by decide +kernel
theorem dX7_rest_15 : decode cX7_rest 15 = .ok (.iconst (-1), 1) := by decide +kernel
theorem dX7_rest_16 : decode cX7_rest 16 = .ok (.ireturn, 1) := by decide +kernel
theorem dX8_init_0 : decode cX8_init 0 = .ok (.aload_n 0, 1) := by decide +kernel
theorem dX8_init_1 : decode cX8_init 1 = .ok (.invokespecial 1, 3) := by decide +kernel
theorem dX8_init_4 : decode cX8_init 4 = .ok (.aload_n 0, 1) := by decide +kernel
theorem dX8_init_5 : decode cX8_init 5 = .ok (.new 7, 3) := by decide +kernel
theorem dX8_init_8 : decode cX8_init 8 = .ok (.dup, 1) := by decide +kernel
theorem dX8_init_9 : decode cX8_init 9 = .ok (.invokespecial 9, 3) := by decide +kernel
theorem dX8_init_12 : decode cX8_init 12 = .ok (.putfield 10, 3) := by decide +kernel
theorem dX8_init_15 : decode cX8_init 15 = .ok (.aload_n 0, 1) := by decide +kernel
theorem dX8_init_16 : decode cX8_init 16 = .ok (.new 16, 3) := by decide +kernel
theorem dX8_init_19 : decode cX8_init 19 = .ok (.dup, 1) := by decide +kernel
theorem dX8_init_20 : decode cX8_init 20 = .ok (.invokespecial 18, 3) := by decide +kernel
theorem dX8_init_23 : decode cX8_init 23 = .ok (.putfield 19, 3) := by decide +kernel
theorem dX8_init_26 : decode cX8_init 26 = .ok (.aload_n 0, 1) := by decide +kernel
theorem dX8_init_27 : decode cX8_init 27 = .ok (.new 23, 3) := by decide +kernel
theorem dX8_init_30 : decode cX8_init 30 = .ok (.dup, 1) := by decide +kernel
theorem dX8_init_31 : decode cX8_init 31 = .ok (.invokespecial 25, 3) := by decide +kernel
theorem dX8_init_34 : decode cX8_init 34 = .ok (.putfield 26, 3) := by decide +kernel
theorem dX8_init_37 : decode cX8_init 37 = .ok (.aload_n 0, 1) := by decide +kernel
theorem dX8_init_38 : decode cX8_init 38 = .ok (.new 30, 3) := by decide +kernel
theorem dX8_init_41 : decode cX8_init 41 = .ok (.dup, 1) := by decide +kernel
theorem dX8_init_42 : decode cX8_init 42 = .ok (.invokespecial 32, 3) := by decide +kernel
theorem dX8_init_45 : decode cX8_init 45 = .ok (.putfield 33, 3) := by decide +kernel
theorem dX8_init_48 : decode cX8_init 48 = .ok (.aload_n 0, 1) := by decide +kernel
theorem dX8_init_49 : decode cX8_init 49 = .ok (.new 37, 3) := by decide +kernel
theorem dX8_init_52 : decode cX8_init 52 = .ok (.dup, 1) := by decide +kernel
theorem dX8_init_53 : decode cX8_init 53 = .ok (.invokespecial 39, 3) := by decide +kernel
theorem dX8_init_56 : decode cX8_init 56 = .ok (.putfield 40, 3) := by decide +kernel
theorem dX8_init_59 : decode cX8_init 59 = .ok (.aload_n 0, 1) := by decide +kernel
theorem dX8_init_60 : decode cX8_init 60 = .ok (.new 44, 3) := by decide +kernel
theorem dX8_init_63 : decode cX8_init 63 = .ok (.dup, 1) := by decide +kernel
theorem dX8_init_64 : decode cX8_init 64 = .ok (.aload_n 0, 1) := by decide +kernel
theorem dX8_init_65 : decode cX8_init 65 = .ok (.getfield 10, 3) := by decide +kernel
theorem dX8_init_68 : decode cX8_init 68 = .ok (.aload_n 0, 1) := by decide +kernel
theorem dX8_init_69 : decode cX8_init 69 = .ok (.getfield 26, 3) := by decide +kernel
theorem dX8_init_72 : decode cX8_init 72 = .ok (.aload_n 0, 1) := by decide +kernel
theorem dX8_init_73 : decode cX8_init 73 = .ok (.getfield 33, 3) := by decide +kernel
theorem dX8_init_76 : decode cX8_init 76 = .ok (.aload_n 0, 1) := by decide +kernel
theorem dX8_init_77 : decode cX8_init 77 = .ok (.getfield 40, 3) := by decide +kernel
theorem dX8_init_80 : decode cX8_init 80 = .ok (.invokespecial 46, 3) := by decide +kernel
theorem dX8_init_83 : decode cX8_init 83 = .ok (.putfield 49, 3) := by decide +kernel
theorem dX8_init_86 : decode cX8_init 86 = .ok (.aload_n 0, 1) := by decide +kernel
theorem dX8_init_87 : decode cX8_init 87 = .ok (.new 53, 3) := by decide +kernel
theorem dX8_init_90 : decode cX8_init 90 = .ok (.dup, 1) := by decide +kernel
theorem dX8_init_91 : decode cX8_init 91 = .ok (.aload_n 0, 1) := by decide +kernel
theorem dX8_init_92 : decode cX8_init 92 = .ok (.getfield 49, 3) := by decide +kernel
theorem dX8_init_95 : decode cX8_init 95 = .ok (.invokespecial 55, 3) := by decide +kernel
theorem dX8_init_98 : decode cX8_init 98 = .ok (.putfield 58, 3) := by decide +kernel
theorem dX8_init_101 : decode cX8_init 101 = .ok (.aload_n 0, 1) := by decide +kernel
theorem dX8_init_102 : decode cX8_init 102 = .ok (.new 62, 3) := by decide +kernel
theorem dX8_init_105 : decode cX8_init 105 = .ok (.dup, 1) := by decide +kernel
theorem dX8_init_106 : decode cX8_init 106 = .ok (.invokespecial 64, 3) := by decide +kernel
theorem dX8_init_109 : decode cX8_init 109 = .ok (.putfield 65, 3) := by decide +kernel
theorem dX8_init_112 : decode cX8_init 112 = .ok (.aload_n 0, 1) := by decide +kernel
theorem dX8_init_113 : decode cX8_init 113 = .ok (.iconst 0, 1) := by decide +kernel
theorem dX8_init_114 : decode cX8_init 114 = .ok (.putfield 69, 3) := by decide +kernel
theorem dX8_init_117 : decode cX8_init 117 = .ok (.return_, 1) := by decide +kernel
theorem dX8_feed_0 : decode cX8_feed 0 = .ok (.iload_n 1, 1) := by decide +kernel
theorem dX8_feed_1 : decode cX8_feed 1 = .ok (.iconst 1, 1) := by decide +kernel
theorem dX8_feed_2 : decode cX8_feed 2 = .ok (.bipush 8, 2) := by decide +kernel
theorem dX8_feed_4 : decode cX8_feed 4 = .ok (.invokestatic 73, 3) := by decide +kernel
theorem dX8_feed_7 : decode cX8_feed 7 = .ok (.ifCond .ne 7, 3) := by decide +kernel
theorem dX8_feed_10 : decode cX8_feed 10 = .ok (.sipush (-1002), 3) := by decide +kernel
theorem dX8_feed_13 : decode cX8_feed 13 = .ok (.ireturn, 1) := by decide +kernel
theorem dX8_feed_14 : decode cX8_feed 14 = .ok (.aload_n 0, 1) := by decide +kernel
theorem dX8_feed_15 : decode cX8_feed 15 = .ok (.getfield 19, 3) := by decide +kernel
theorem dX8_feed_18 : decode cX8_feed 18 = .ok (.iload_n 1, 1) := by decide +kernel
theorem dX8_feed_19 : decode cX8_feed 19 = .ok (.lload_n 2, 1) := by decide +kernel
theorem dX8_feed_20 : decode cX8_feed 20 = .ok (.invokevirtual 77, 3) := by decide +kernel
theorem dX8_feed_23 : decode cX8_feed 23 = .ok (.ireturn, 1) := by decide +kernel
theorem dX8_read_0 : decode cX8_read 0 = .ok (.aload_n 0, 1) := by decide +kernel
theorem dX8_read_1 : decode cX8_read 1 = .ok (.getfield 19, 3) := by decide +kernel
theorem dX8_read_4 : decode cX8_read 4 = .ok (.invokevirtual 81, 3) := by decide +kernel
theorem dX8_read_7 : decode cX8_read 7 = .ok (.istore_n 1, 1) := by decide +kernel
theorem dX8_read_8 : decode cX8_read 8 = .ok (.iload_n 1, 1) := by decide +kernel
theorem dX8_read_9 : decode cX8_read 9 = .ok (.ifCond .lt 24, 3) := by decide +kernel
theorem dX8_read_12 : decode cX8_read 12 = .ok (.aload_n 0, 1) := by decide +kernel
theorem dX8_read_13 : decode cX8_read 13 = .ok (.getfield 10, 3) := by decide +kernel
theorem dX8_read_16 : decode cX8_read 16 = .ok (.aload_n 0, 1) := by decide +kernel
theorem dX8_read_17 : decode cX8_read 17 = .ok (.getfield 19, 3) := by decide +kernel
theorem dX8_read_20 : decode cX8_read 20 = .ok (.getfield 85, 3) := by decide +kernel
theorem dX8_read_23 : decode cX8_read 23 = .ok (.invokevirtual 88, 3) := by decide +kernel
theorem dX8_read_26 : decode cX8_read 26 = .ok (.aload_n 0, 1) := by decide +kernel
theorem dX8_read_27 : decode cX8_read 27 = .ok (.getfield 58, 3) := by decide +kernel
theorem dX8_read_30 : decode cX8_read 30 = .ok (.invokevirtual 92, 3) := by decide +kernel
theorem dX8_read_33 : decode cX8_read 33 = .ok (.iload_n 1, 1) := by decide +kernel
theorem dX8_read_34 : decode cX8_read 34 = .ok (.ireturn, 1) := by decide +kernel
theorem dX8_fault_0 : decode cX8_fault 0 = .ok (.aload_n 0, 1) := by decide +kernel
theorem dX8_fault_1 : decode cX8_fault 1 = .ok (.getfield 19, 3) := by decide +kernel
theorem dX8_fault_4 : decode cX8_fault 4 = .ok (.getfield 95, 3) := by decide +kernel
theorem dX8_fault_7 : decode cX8_fault 7 = .ok (.ireturn, 1) := by decide +kernel
theorem dX8_village_0 : decode cX8_village 0 = .ok (.iload_n 1, 1) := by decide +kernel
theorem dX8_village_1 : decode cX8_village 1 = .ok (.tableswitch 132 0 9 #[55, 63, 71, 79, 87, 95, 103, 111, 119, 124], 55) := by decide +kernel
theorem dX8_village_56 : decode cX8_village 56 = .ok (.aload_n 0, 1) := by decide +kernel
theorem dX8_village_57 : decode cX8_village 57 = .ok (.getfield 10, 3) := by decide +kernel
theorem dX8_village_60 : decode cX8_village 60 = .ok (.getfield 98, 3) := by decide +kernel
theorem dX8_village_63 : decode cX8_village 63 = .ok (.ireturn, 1) := by decide +kernel
theorem dX8_village_64 : decode cX8_village 64 = .ok (.aload_n 0, 1) := by decide +kernel
theorem dX8_village_65 : decode cX8_village 65 = .ok (.getfield 10, 3) := by decide +kernel
theorem dX8_village_68 : decode cX8_village 68 = .ok (.getfield 101, 3) := by decide +kernel
theorem dX8_village_71 : decode cX8_village 71 = .ok (.ireturn, 1) := by decide +kernel
theorem dX8_village_72 : decode cX8_village 72 = .ok (.aload_n 0, 1) := by decide +kernel
theorem dX8_village_73 : decode cX8_village 73 = .ok (.getfield 10, 3) := by decide +kernel
theorem dX8_village_76 : decode cX8_village 76 = .ok (.getfield 104, 3) := by decide +kernel
theorem dX8_village_79 : decode cX8_village 79 = .ok (.ireturn, 1) := by decide +kernel
theorem dX8_village_80 : decode cX8_village 80 = .ok (.aload_n 0, 1) := by decide +kernel
theorem dX8_village_81 : decode cX8_village 81 = .ok (.getfield 10, 3) := by decide +kernel
theorem dX8_village_84 : decode cX8_village 84 = .ok (.getfield 107, 3) := by decide +kernel
theorem dX8_village_87 : decode cX8_village 87 = .ok (.ireturn, 1) := by decide +kernel
theorem dX8_village_88 : decode cX8_village 88 = .ok (.aload_n 0, 1) := by decide +kernel
theorem dX8_village_89 : decode cX8_village 89 = .ok (.getfield 10, 3) := by decide +kernel
theorem dX8_village_92 : decode cX8_village 92 = .ok (.getfield 110, 3) := by decide +kernel
theorem dX8_village_95 : decode cX8_village 95 = .ok (.ireturn, 1) := by decide +kernel
theorem dX8_village_96 : decode cX8_village 96 = .ok (.aload_n 0, 1) := by decide +kernel
theorem dX8_village_97 : decode cX8_village 97 = .ok (.getfield 10, 3) := by decide +kernel
theorem dX8_village_100 : decode cX8_village 100 = .ok (.getfield 113, 3) := by decide +kernel
theorem dX8_village_103 : decode cX8_village 103 = .ok (.ireturn, 1) := by decide +kernel
theorem dX8_village_104 : decode cX8_village 104 = .ok (.aload_n 0, 1) := by decide +kernel
theorem dX8_village_105 : decode cX8_village 105 = .ok (.getfield 10, 3) := by decide +kernel
theorem dX8_village_108 : decode cX8_village 108 = .ok (.getfield 116, 3) := by decide +kernel
theorem dX8_village_111 : decode cX8_village 111 = .ok (.ireturn, 1) := by decide +kernel
theorem dX8_village_112 : decode cX8_village 112 = .ok (.aload_n 0, 1) := by decide +kernel
theorem dX8_village_113 : decode cX8_village 113 = .ok (.getfield 10, 3) := by decide +kernel
theorem dX8_village_116 : decode cX8_village 116 = .ok (.getfield 119, 3) := by decide +kernel
theorem dX8_village_119 : decode cX8_village 119 = .ok (.ireturn, 1) := by decide +kernel
theorem dX8_village_120 : decode cX8_village 120 = .ok (.aload_n 0, 1) := by decide +kernel
theorem dX8_village_121 : decode cX8_village 121 = .ok (.getfield 69, 3) := by decide +kernel
theorem dX8_village_124 : decode cX8_village 124 = .ok (.ireturn, 1) := by decide +kernel
theorem dX8_village_125 : decode cX8_village 125 = .ok (.aload_n 0, 1) := by decide +kernel
theorem dX8_village_126 : decode cX8_village 126 = .ok (.getfield 19, 3) := by decide +kernel
theorem dX8_village_129 : decode cX8_village 129 = .ok (.getfield 122, 3) := by decide +kernel
theorem dX8_village_132 : decode cX8_village 132 = .ok (.ireturn, 1) := by decide +kernel
theorem dX8_village_133 : decode cX8_village 133 = .ok (.sipush (-1002), 3) := by decide +kernel
theorem dX8_village_136 : decode cX8_village 136 = .ok (.ireturn, 1) := by decide +kernel
theorem dX8_least_0 : decode cX8_least 0 = .ok (.iload_n 1, 1) := by decide +kernel
theorem dX8_least_1 : decode cX8_least 1 = .ok (.iconst 0, 1) := by decide +kernel
theorem dX8_least_2 : decode cX8_least 2 = .ok (.ldc 125, 2) := by decide +kernel
theorem dX8_least_4 : decode cX8_least 4 = .ok (.invokestatic 73, 3) := by decide +kernel
theorem dX8_least_7 : decode cX8_least 7 = .ok (.ifCond .ne 7, 3) := by decide +kernel
theorem dX8_least_10 : decode cX8_least 10 = .ok (.sipush (-1002), 3) := by decide +kernel
theorem dX8_least_13 : decode cX8_least 13 = .ok (.ireturn, 1) := by decide +kernel
theorem dX8_least_14 : decode cX8_least 14 = .ok (.aload_n 0, 1) := by decide +kernel
theorem dX8_least_15 : decode cX8_least 15 = .ok (.getfield 69, 3) := by decide +kernel
theorem dX8_least_18 : decode cX8_least 18 = .ok (.istore_n 2, 1) := by decide +kernel
theorem dX8_least_19 : decode cX8_least 19 = .ok (.aload_n 0, 1) := by decide +kernel
theorem dX8_least_20 : decode cX8_least 20 = .ok (.iload_n 1, 1) := by decide +kernel
theorem dX8_least_21 : decode cX8_least 21 = .ok (.putfield 69, 3) := by decide +kernel
theorem dX8_least_24 : decode cX8_least 24 = .ok (.iload_n 2, 1) := by decide +kernel
theorem dX8_least_25 : decode cX8_least 25 = .ok (.ireturn, 1) := by decide +kernel
theorem dX8_does_0 : decode cX8_does 0 = .ok (.iload_n 1, 1) := by decide +kernel
theorem dX8_does_1 : decode cX8_does 1 = .ok (.invokestatic 126, 3) := by decide +kernel
theorem dX8_does_4 : decode cX8_does 4 = .ok (.ifCond .eq 31, 3) := by decide +kernel
theorem dX8_does_7 : decode cX8_does 7 = .ok (.iload_n 2, 1) := by decide +kernel
theorem dX8_does_8 : decode cX8_does 8 = .ok (.iconst 0, 1) := by decide +kernel
theorem dX8_does_9 : decode cX8_does 9 = .ok (.iconst 1, 1) := by decide +kernel
theorem dX8_does_10 : decode cX8_does 10 = .ok (.invokestatic 73, 3) := by decide +kernel
theorem dX8_does_13 : decode cX8_does 13 = .ok (.ifCond .eq 22, 3) := by decide +kernel
theorem dX8_does_16 : decode cX8_does 16 = .ok (.iload_n 3, 1) := by decide +kernel
theorem dX8_does_17 : decode cX8_does 17 = .ok (.iconst 0, 1) := by decide +kernel
theorem dX8_does_18 : decode cX8_does 18 = .ok (.iconst 1, 1) := by decide +kernel
theorem dX8_does_19 : decode cX8_does 19 = .ok (.invokestatic 73, 3) := by decide +kernel
theorem dX8_does_22 : decode cX8_does 22 = .ok (.ifCond .eq 13, 3) := by decide +kernel
theorem dX8_does_25 : decode cX8_does 25 = .ok (.iload 4, 2) := by decide +kernel
theorem dX8_does_27 : decode cX8_does 27 = .ok (.iconst (-1), 1) := by decide +kernel
theorem dX8_does_28 : decode cX8_does 28 = .ok (.iconst 1, 1) := by decide +kernel
theorem dX8_does_29 : decode cX8_does 29 = .ok (.invokestatic 73, 3) := by decide +kernel
theorem dX8_does_32 : decode cX8_does 32 = .ok (.ifCond .ne 7, 3) := by decide +kernel
theorem dX8_does_35 : decode cX8_does 35 = .ok (.sipush (-1002), 3) := by decide +kernel
theorem dX8_does_38 : decode cX8_does 38 = .ok (.ireturn, 1) := by decide +kernel
theorem dX8_does_39 : decode cX8_does 39 = .ok (.iload 4, 2) := by decide +kernel
theorem dX8_does_41 : decode cX8_does 41 = .ok (.iconst (-1), 1) := by decide +kernel
theorem dX8_does_42 : decode cX8_does 42 = .ok (.if_icmp .ne 16, 3) := by decide +kernel
theorem dX8_does_45 : decode cX8_does 45 = .ok (.iload_n 1, 1) := by decide +kernel
theorem dX8_does_46 : decode cX8_does 46 = .ok (.invokestatic 130, 3) := by decide +kernel
theorem dX8_does_49 : decode cX8_does 49 = .ok (.iconst 2, 1) := by decide +kernel
theorem dX8_does_50 : decode cX8_does 50 = .ok (.iload_n 2, 1) := by decide +kernel
theorem dX8_does_51 : decode cX8_does 51 = .ok (.imul, 1) := by decide +kernel
theorem dX8_does_52 : decode cX8_does 52 = .ok (.iload_n 3, 1) := by decide +kernel
theorem dX8_does_53 : decode cX8_does 53 = .ok (.iadd, 1) := by decide +kernel
theorem dX8_does_54 : decode cX8_does 54 = .ok (.invokestatic 134, 3) := by decide +kernel
theorem dX8_does_57 : decode cX8_does 57 = .ok (.ireturn, 1) := by decide +kernel
theorem dX8_does_58 : decode cX8_does 58 = .ok (.iload_n 1, 1) := by decide +kernel
theorem dX8_does_59 : decode cX8_does 59 = .ok (.invokestatic 138, 3) := by decide +kernel
theorem dX8_does_62 : decode cX8_does 62 = .ok (.iconst 4, 1) := by decide +kernel
theorem dX8_does_63 : decode cX8_does 63 = .ok (.iload_n 2, 1) := by decide +kernel
theorem dX8_does_64 : decode cX8_does 64 = .ok (.imul, 1) := by decide +kernel
theorem dX8_does_65 : decode cX8_does 65 = .ok (.iconst 2, 1) := by decide +kernel
theorem dX8_does_66 : decode cX8_does 66 = .ok (.iload_n 3, 1) := by decide +kernel
theorem dX8_does_67 : decode cX8_does 67 = .ok (.imul, 1) := by decide +kernel
theorem dX8_does_68 : decode cX8_does 68 = .ok (.iadd, 1) := by decide +kernel
theorem dX8_does_69 : decode cX8_does 69 = .ok (.iload 4, 2) := by decide +kernel
theorem dX8_does_71 : decode cX8_does 71 = .ok (.iadd, 1) := by decide +kernel
theorem dX8_does_72 : decode cX8_does 72 = .ok (.invokestatic 134, 3) := by decide +kernel
theorem dX8_does_75 : decode cX8_does 75 = .ok (.ireturn, 1) := by decide +kernel
theorem dX8_step_0 : decode cX8_step 0 = .ok (.iload_n 1, 1) := by decide +kernel
theorem dX8_step_1 : decode cX8_step 1 = .ok (.invokestatic 126, 3) := by decide +kernel
theorem dX8_step_4 : decode cX8_step 4 = .ok (.ifCond .eq 10, 3) := by decide +kernel
theorem dX8_step_7 : decode cX8_step 7 = .ok (.iload_n 2, 1) := by decide +kernel
theorem dX8_step_8 : decode cX8_step 8 = .ok (.invokestatic 141, 3) := by decide +kernel
theorem dX8_step_11 : decode cX8_step 11 = .ok (.ifCond .ne 7, 3) := by decide +kernel
theorem dX8_step_14 : decode cX8_step 14 = .ok (.sipush (-1002), 3) := by decide +kernel
theorem dX8_step_17 : decode cX8_step 17 = .ok (.ireturn, 1) := by decide +kernel
theorem dX8_step_18 : decode cX8_step 18 = .ok (.aload_n 0, 1) := by decide +kernel
theorem dX8_step_19 : decode cX8_step 19 = .ok (.getfield 26, 3) := by decide +kernel
theorem dX8_step_22 : decode cX8_step 22 = .ok (.aload_n 0, 1) := by decide +kernel
theorem dX8_step_23 : decode cX8_step 23 = .ok (.getfield 10, 3) := by decide +kernel
theorem dX8_step_26 : decode cX8_step 26 = .ok (.iload_n 1, 1) := by decide +kernel
theorem dX8_step_27 : decode cX8_step 27 = .ok (.aload_n 0, 1) := by decide +kernel
theorem dX8_step_28 : decode cX8_step 28 = .ok (.getfield 10, 3) := by decide +kernel
theorem dX8_step_31 : decode cX8_step 31 = .ok (.getfield 107, 3) := by decide +kernel
theorem dX8_step_34 : decode cX8_step 34 = .ok (.invokevirtual 144, 3) := by decide +kernel
theorem dX8_step_37 : decode cX8_step 37 = .ok (.aload_n 0, 1) := by decide +kernel
theorem dX8_step_38 : decode cX8_step 38 = .ok (.getfield 26, 3) := by decide +kernel
theorem dX8_step_41 : decode cX8_step 41 = .ok (.iload_n 2, 1) := by decide +kernel
theorem dX8_step_42 : decode cX8_step 42 = .ok (.invokevirtual 148, 3) := by decide +kernel
theorem dX8_step_45 : decode cX8_step 45 = .ok (.ireturn, 1) := by decide +kernel
theorem dX8_from_0 : decode cX8_from 0 = .ok (.iload_n 1, 1) := by decide +kernel
theorem dX8_from_1 : decode cX8_from 1 = .ok (.invokestatic 126, 3) := by decide +kernel
theorem dX8_from_4 : decode cX8_from 4 = .ok (.ifCond .eq 19, 3) := by decide +kernel
theorem dX8_from_7 : decode cX8_from 7 = .ok (.iload_n 2, 1) := by decide +kernel
theorem dX8_from_8 : decode cX8_from 8 = .ok (.invokestatic 141, 3) := by decide +kernel
theorem dX8_from_11 : decode cX8_from 11 = .ok (.ifCond .eq 12, 3) := by decide +kernel
theorem dX8_from_14 : decode cX8_from 14 = .ok (.iload_n 3, 1) := by decide +kernel
theorem dX8_from_15 : decode cX8_from 15 = .ok (.iconst 0, 1) := by decide +kernel
theorem dX8_from_16 : decode cX8_from 16 = .ok (.iconst 2, 1) := by decide +kernel
theorem dX8_from_17 : decode cX8_from 17 = .ok (.invokestatic 73, 3) := by decide +kernel
theorem dX8_from_20 : decode cX8_from 20 = .ok (.ifCond .ne 7, 3) := by decide +kernel
theorem dX8_from_23 : decode cX8_from 23 = .ok (.sipush (-1002), 3) := by decide +kernel
theorem dX8_from_26 : decode cX8_from 26 = .ok (.ireturn, 1) := by decide +kernel
theorem dX8_from_27 : decode cX8_from 27 = .ok (.aload_n 0, 1) := by decide +kernel
theorem dX8_from_28 : decode cX8_from 28 = .ok (.getfield 26, 3) := by decide +kernel
theorem dX8_from_31 : decode cX8_from 31 = .ok (.aload_n 0, 1) := by decide +kernel
theorem dX8_from_32 : decode cX8_from 32 = .ok (.getfield 10, 3) := by decide +kernel
theorem dX8_from_35 : decode cX8_from 35 = .ok (.iload_n 1, 1) := by decide +kernel
theorem dX8_from_36 : decode cX8_from 36 = .ok (.aload_n 0, 1) := by decide +kernel
theorem dX8_from_37 : decode cX8_from 37 = .ok (.getfield 10, 3) := by decide +kernel
theorem dX8_from_40 : decode cX8_from 40 = .ok (.getfield 107, 3) := by decide +kernel
theorem dX8_from_43 : decode cX8_from 43 = .ok (.invokevirtual 144, 3) := by decide +kernel
theorem dX8_from_46 : decode cX8_from 46 = .ok (.aload_n 0, 1) := by decide +kernel
theorem dX8_from_47 : decode cX8_from 47 = .ok (.getfield 33, 3) := by decide +kernel
theorem dX8_from_50 : decode cX8_from 50 = .ok (.aload_n 0, 1) := by decide +kernel
theorem dX8_from_51 : decode cX8_from 51 = .ok (.getfield 26, 3) := by decide +kernel
theorem dX8_from_54 : decode cX8_from 54 = .ok (.iload_n 2, 1) := by decide +kernel
theorem dX8_from_55 : decode cX8_from 55 = .ok (.invokevirtual 151, 3) := by decide +kernel
theorem dX8_from_58 : decode cX8_from 58 = .ok (.iload_n 3, 1) := by decide +kernel
theorem dX8_from_59 : decode cX8_from 59 = .ok (.ifCond .ne 11, 3) := by decide +kernel
theorem dX8_from_62 : decode cX8_from 62 = .ok (.aload_n 0, 1) := by decide +kernel
theorem dX8_from_63 : decode cX8_from 63 = .ok (.getfield 33, 3) := by decide +kernel
theorem dX8_from_66 : decode cX8_from 66 = .ok (.invokevirtual 155, 3) := by decide +kernel
theorem dX8_from_69 : decode cX8_from 69 = .ok (.ireturn, 1) := by decide +kernel
theorem dX8_from_70 : decode cX8_from 70 = .ok (.iload_n 3, 1) := by decide +kernel
theorem dX8_from_71 : decode cX8_from 71 = .ok (.iconst 1, 1) := by decide +kernel
theorem dX8_from_72 : decode cX8_from 72 = .ok (.if_icmp .ne 13, 3) := by decide +kernel
theorem dX8_from_75 : decode cX8_from 75 = .ok (.aload_n 0, 1) := by decide +kernel
theorem dX8_from_76 : decode cX8_from 76 = .ok (.getfield 33, 3) := by decide +kernel
theorem dX8_from_79 : decode cX8_from 79 = .ok (.getfield 158, 3) := by decide +kernel
theorem dX8_from_82 : decode cX8_from 82 = .ok (.goto 10, 3) := by decide +kernel
theorem dX8_from_85 : decode cX8_from 85 = .ok (.aload_n 0, 1) := by decide +kernel
theorem dX8_from_86 : decode cX8_from 86 = .ok (.getfield 33, 3) := by decide +kernel
theorem dX8_from_89 : decode cX8_from 89 = .ok (.getfield 161, 3) := by decide +kernel
theorem dX8_from_92 : decode cX8_from 92 = .ok (.ireturn, 1) := by decide +kernel
theorem dX8_helped_0 : decode cX8_helped 0 = .ok (.iload_n 1, 1) := by decide +kernel
theorem dX8_helped_1 : decode cX8_helped 1 = .ok (.invokestatic 126, 3) := by decide +kernel
theorem dX8_helped_4 : decode cX8_helped 4 = .ok (.ifCond .eq 10, 3) := by decide +kernel
theorem dX8_helped_7 : decode cX8_helped 7 = .ok (.iload_n 2, 1) := by decide +kernel
theorem dX8_helped_8 : decode cX8_helped 8 = .ok (.invokestatic 141, 3) := by decide +kernel
theorem dX8_helped_11 : decode cX8_helped 11 = .ok (.ifCond .ne 7, 3) := by decide +kernel
theorem dX8_helped_14 : decode cX8_helped 14 = .ok (.sipush (-1002), 3) := by decide +kernel
theorem dX8_helped_17 : decode cX8_helped 17 = .ok (.ireturn, 1) := by decide +kernel
theorem dX8_helped_18 : decode cX8_helped 18 = .ok (.aload_n 0, 1) := by decide +kernel
theorem dX8_helped_19 : decode cX8_helped 19 = .ok (.getfield 26, 3) := by decide +kernel
theorem dX8_helped_22 : decode cX8_helped 22 = .ok (.aload_n 0, 1) := by decide +kernel
theorem dX8_helped_23 : decode cX8_helped 23 = .ok (.getfield 10, 3) := by decide +kernel
theorem dX8_helped_26 : decode cX8_helped 26 = .ok (.iload_n 1, 1) := by decide +kernel
theorem dX8_helped_27 : decode cX8_helped 27 = .ok (.aload_n 0, 1) := by decide +kernel
theorem dX8_helped_28 : decode cX8_helped 28 = .ok (.getfield 10, 3) := by decide +kernel
theorem dX8_helped_31 : decode cX8_helped 31 = .ok (.getfield 107, 3) := by decide +kernel
theorem dX8_helped_34 : decode cX8_helped 34 = .ok (.invokevirtual 144, 3) := by decide +kernel
theorem dX8_helped_37 : decode cX8_helped 37 = .ok (.aload_n 0, 1) := by decide +kernel
theorem dX8_helped_38 : decode cX8_helped 38 = .ok (.getfield 26, 3) := by decide +kernel
theorem dX8_helped_41 : decode cX8_helped 41 = .ok (.iload_n 2, 1) := by decide +kernel
theorem dX8_helped_42 : decode cX8_helped 42 = .ok (.invokevirtual 164, 3) := by decide +kernel
theorem dX8_helped_45 : decode cX8_helped 45 = .ok (.ireturn, 1) := by decide +kernel
theorem dX8_fit_0 : decode cX8_fit 0 = .ok (.iload_n 1, 1) := by decide +kernel
theorem dX8_fit_1 : decode cX8_fit 1 = .ok (.invokestatic 126, 3) := by decide +kernel
theorem dX8_fit_4 : decode cX8_fit 4 = .ok (.ifCond .ne 7, 3) := by decide +kernel
theorem dX8_fit_7 : decode cX8_fit 7 = .ok (.sipush (-1002), 3) := by decide +kernel
theorem dX8_fit_10 : decode cX8_fit 10 = .ok (.ireturn, 1) := by decide +kernel
theorem dX8_fit_11 : decode cX8_fit 11 = .ok (.aload_n 0, 1) := by decide +kernel
theorem dX8_fit_12 : decode cX8_fit 12 = .ok (.getfield 26, 3) := by decide +kernel
theorem dX8_fit_15 : decode cX8_fit 15 = .ok (.aload_n 0, 1) := by decide +kernel
theorem dX8_fit_16 : decode cX8_fit 16 = .ok (.getfield 10, 3) := by decide +kernel
theorem dX8_fit_19 : decode cX8_fit 19 = .ok (.iload_n 1, 1) := by decide +kernel
theorem dX8_fit_20 : decode cX8_fit 20 = .ok (.aload_n 0, 1) := by decide +kernel
theorem dX8_fit_21 : decode cX8_fit 21 = .ok (.getfield 10, 3) := by decide +kernel
theorem dX8_fit_24 : decode cX8_fit 24 = .ok (.getfield 107, 3) := by decide +kernel
theorem dX8_fit_27 : decode cX8_fit 27 = .ok (.invokevirtual 144, 3) := by decide +kernel
theorem dX8_fit_30 : decode cX8_fit 30 = .ok (.iconst 0, 1) := by decide +kernel
theorem dX8_fit_31 : decode cX8_fit 31 = .ok (.istore_n 3, 1) := by decide +kernel
theorem dX8_fit_32 : decode cX8_fit 32 = .ok (.iconst 0, 1) := by decide +kernel
theorem dX8_fit_33 : decode cX8_fit 33 = .ok (.istore 4, 2) := by decide +kernel
theorem dX8_fit_35 : decode cX8_fit 35 = .ok (.iload 4, 2) := by decide +kernel
theorem dX8_fit_37 : decode cX8_fit 37 = .ok (.sipush 1000, 3) := by decide +kernel
theorem dX8_fit_40 : decode cX8_fit 40 = .ok (.if_icmp .gt 37, 3) := by decide +kernel
theorem dX8_fit_43 : decode cX8_fit 43 = .ok (.aload_n 0, 1) := by decide +kernel
theorem dX8_fit_44 : decode cX8_fit 44 = .ok (.getfield 26, 3) := by decide +kernel
theorem dX8_fit_47 : decode cX8_fit 47 = .ok (.iload 4, 2) := by decide +kernel
theorem dX8_fit_49 : decode cX8_fit 49 = .ok (.invokevirtual 148, 3) := by decide +kernel
theorem dX8_fit_52 : decode cX8_fit 52 = .ok (.iload 4, 2) := by decide +kernel
theorem dX8_fit_54 : decode cX8_fit 54 = .ok (.if_icmp .eq 6, 3) := by decide +kernel
theorem dX8_fit_57 : decode cX8_fit 57 = .ok (.goto 14, 3) := by decide +kernel
theorem dX8_fit_60 : decode cX8_fit 60 = .ok (.iload_n 3, 1) := by decide +kernel
theorem dX8_fit_61 : decode cX8_fit 61 = .ok (.iload_n 2, 1) := by decide +kernel
theorem dX8_fit_62 : decode cX8_fit 62 = .ok (.if_icmp .ne 6, 3) := by decide +kernel
theorem dX8_fit_65 : decode cX8_fit 65 = .ok (.iload 4, 2) := by decide +kernel
theorem dX8_fit_67 : decode cX8_fit 67 = .ok (.ireturn, 1) := by decide +kernel
theorem dX8_fit_68 : decode cX8_fit 68 = .ok (.iinc 3 1, 3) := by decide +kernel
theorem dX8_fit_71 : decode cX8_fit 71 = .ok (.iinc 4 1, 3) := by decide +kernel
theorem dX8_fit_74 : decode cX8_fit 74 = .ok (.goto (-39), 3) := by decide +kernel
theorem dX8_fit_77 : decode cX8_fit 77 = .ok (.iload_n 2, 1) := by decide +kernel
theorem dX8_fit_78 : decode cX8_fit 78 = .ok (.iconst (-1), 1) := by decide +kernel
theorem dX8_fit_79 : decode cX8_fit 79 = .ok (.if_icmp .ne 7, 3) := by decide +kernel
theorem dX8_fit_82 : decode cX8_fit 82 = .ok (.iload_n 3, 1) := by decide +kernel
theorem dX8_fit_83 : decode cX8_fit 83 = .ok (.goto 4, 3) := by decide +kernel
theorem dX8_fit_86 : decode cX8_fit 86 = .ok (.iconst (-1), 1) := by decide +kernel
theorem dX8_fit_87 : decode cX8_fit 87 = .ok (.ireturn, 1) := by decide +kernel
theorem dX8_other_0 : decode cX8_other 0 = .ok (.iload_n 1, 1) := by decide +kernel
theorem dX8_other_1 : decode cX8_other 1 = .ok (.invokestatic 126, 3) := by decide +kernel
theorem dX8_other_4 : decode cX8_other 4 = .ok (.ifCond .eq 27, 3) := by decide +kernel
theorem dX8_other_7 : decode cX8_other 7 = .ok (.iload_n 2, 1) := by decide +kernel
theorem dX8_other_8 : decode cX8_other 8 = .ok (.invokestatic 167, 3) := by decide +kernel
theorem dX8_other_11 : decode cX8_other 11 = .ok (.ifCond .eq 20, 3) := by decide +kernel
theorem dX8_other_14 : decode cX8_other 14 = .ok (.iload_n 3, 1) := by decide +kernel
theorem dX8_other_15 : decode cX8_other 15 = .ok (.invokestatic 141, 3) := by decide +kernel
theorem dX8_other_18 : decode cX8_other 18 = .ok (.ifCond .eq 13, 3) := by decide +kernel
theorem dX8_other_21 : decode cX8_other 21 = .ok (.iload 4, 2) := by decide +kernel
theorem dX8_other_23 : decode cX8_other 23 = .ok (.iconst 0, 1) := by decide +kernel
theorem dX8_other_24 : decode cX8_other 24 = .ok (.iconst 3, 1) := by decide +kernel
theorem dX8_other_25 : decode cX8_other 25 = .ok (.invokestatic 73, 3) := by decide +kernel
theorem dX8_other_28 : decode cX8_other 28 = .ok (.ifCond .ne 7, 3) := by decide +kernel
theorem dX8_other_31 : decode cX8_other 31 = .ok (.ldc2_w 170, 3) := by decide +kernel
theorem dX8_other_34 : decode cX8_other 34 = .ok (.lreturn, 1) := by decide +kernel
theorem dX8_other_35 : decode cX8_other 35 = .ok (.aload_n 0, 1) := by decide +kernel
theorem dX8_other_36 : decode cX8_other 36 = .ok (.getfield 26, 3) := by decide +kernel
theorem dX8_other_39 : decode cX8_other 39 = .ok (.aload_n 0, 1) := by decide +kernel
theorem dX8_other_40 : decode cX8_other 40 = .ok (.getfield 10, 3) := by decide +kernel
theorem dX8_other_43 : decode cX8_other 43 = .ok (.iload_n 1, 1) := by decide +kernel
theorem dX8_other_44 : decode cX8_other 44 = .ok (.aload_n 0, 1) := by decide +kernel
theorem dX8_other_45 : decode cX8_other 45 = .ok (.getfield 10, 3) := by decide +kernel
theorem dX8_other_48 : decode cX8_other 48 = .ok (.getfield 107, 3) := by decide +kernel
theorem dX8_other_51 : decode cX8_other 51 = .ok (.invokevirtual 144, 3) := by decide +kernel
theorem dX8_other_54 : decode cX8_other 54 = .ok (.aload_n 0, 1) := by decide +kernel
theorem dX8_other_55 : decode cX8_other 55 = .ok (.getfield 40, 3) := by decide +kernel
theorem dX8_other_58 : decode cX8_other 58 = .ok (.aload_n 0, 1) := by decide +kernel
theorem dX8_other_59 : decode cX8_other 59 = .ok (.getfield 26, 3) := by decide +kernel
theorem dX8_other_62 : decode cX8_other 62 = .ok (.iload_n 2, 1) := by decide +kernel
theorem dX8_other_63 : decode cX8_other 63 = .ok (.iload_n 3, 1) := by decide +kernel
theorem dX8_other_64 : decode cX8_other 64 = .ok (.invokevirtual 172, 3) := by decide +kernel
theorem dX8_other_67 : decode cX8_other 67 = .ok (.iload 4, 2) := by decide +kernel
theorem dX8_other_69 : decode cX8_other 69 = .ok (.tableswitch 110 0 2 #[27, 52, 77], 27) := by decide +kernel
theorem dX8_other_96 : decode cX8_other 96 = .ok (.aload_n 0, 1) := by decide +kernel
theorem dX8_other_97 : decode cX8_other 97 = .ok (.getfield 40, 3) := by decide +kernel
theorem dX8_other_100 : decode cX8_other 100 = .ok (.getfield 175, 3) := by decide +kernel
theorem dX8_other_103 : decode cX8_other 103 = .ok (.aload_n 0, 1) := by decide +kernel
theorem dX8_other_104 : decode cX8_other 104 = .ok (.getfield 40, 3) := by decide +kernel
theorem dX8_other_107 : decode cX8_other 107 = .ok (.getfield 179, 3) := by decide +kernel
theorem dX8_other_110 : decode cX8_other 110 = .ok (.aload_n 0, 1) := by decide +kernel
theorem dX8_other_111 : decode cX8_other 111 = .ok (.getfield 40, 3) := by decide +kernel
theorem dX8_other_114 : decode cX8_other 114 = .ok (.getfield 175, 3) := by decide +kernel
theorem dX8_other_117 : decode cX8_other 117 = .ok (.invokestatic 182, 3) := by decide +kernel
theorem dX8_other_120 : decode cX8_other 120 = .ok (.lreturn, 1) := by decide +kernel
theorem dX8_other_121 : decode cX8_other 121 = .ok (.aload_n 0, 1) := by decide +kernel
theorem dX8_other_122 : decode cX8_other 122 = .ok (.getfield 40, 3) := by decide +kernel
theorem dX8_other_125 : decode cX8_other 125 = .ok (.getfield 175, 3) := by decide +kernel
theorem dX8_other_128 : decode cX8_other 128 = .ok (.aload_n 0, 1) := by decide +kernel
theorem dX8_other_129 : decode cX8_other 129 = .ok (.getfield 40, 3) := by decide +kernel
theorem dX8_other_132 : decode cX8_other 132 = .ok (.getfield 179, 3) := by decide +kernel
theorem dX8_other_135 : decode cX8_other 135 = .ok (.aload_n 0, 1) := by decide +kernel
theorem dX8_other_136 : decode cX8_other 136 = .ok (.getfield 40, 3) := by decide +kernel
theorem dX8_other_139 : decode cX8_other 139 = .ok (.getfield 179, 3) := by decide +kernel
theorem dX8_other_142 : decode cX8_other 142 = .ok (.invokestatic 182, 3) := by decide +kernel
theorem dX8_other_145 : decode cX8_other 145 = .ok (.lreturn, 1) := by decide +kernel
theorem dX8_other_146 : decode cX8_other 146 = .ok (.aload_n 0, 1) := by decide +kernel
theorem dX8_other_147 : decode cX8_other 147 = .ok (.getfield 40, 3) := by decide +kernel
theorem dX8_other_150 : decode cX8_other 150 = .ok (.aload_n 0, 1) := by decide +kernel
theorem dX8_other_151 : decode cX8_other 151 = .ok (.getfield 26, 3) := by decide +kernel
theorem dX8_other_154 : decode cX8_other 154 = .ok (.invokevirtual 186, 3) := by decide +kernel
theorem dX8_other_157 : decode cX8_other 157 = .ok (.aload_n 0, 1) := by decide +kernel
theorem dX8_other_158 : decode cX8_other 158 = .ok (.getfield 40, 3) := by decide +kernel
theorem dX8_other_161 : decode cX8_other 161 = .ok (.invokevirtual 190, 3) := by decide +kernel
theorem dX8_other_164 : decode cX8_other 164 = .ok (.aload_n 0, 1) := by decide +kernel
theorem dX8_other_165 : decode cX8_other 165 = .ok (.getfield 40, 3) := by decide +kernel
theorem dX8_other_168 : decode cX8_other 168 = .ok (.aload_n 0, 1) := by decide +kernel
theorem dX8_other_169 : decode cX8_other 169 = .ok (.getfield 26, 3) := by decide +kernel
theorem dX8_other_172 : decode cX8_other 172 = .ok (.invokevirtual 186, 3) := by decide +kernel
theorem dX8_other_175 : decode cX8_other 175 = .ok (.invokestatic 182, 3) := by decide +kernel
theorem dX8_other_178 : decode cX8_other 178 = .ok (.lreturn, 1) := by decide +kernel
theorem dX8_other_179 : decode cX8_other 179 = .ok (.aload_n 0, 1) := by decide +kernel
theorem dX8_other_180 : decode cX8_other 180 = .ok (.getfield 40, 3) := by decide +kernel
theorem dX8_other_183 : decode cX8_other 183 = .ok (.aload_n 0, 1) := by decide +kernel
theorem dX8_other_184 : decode cX8_other 184 = .ok (.getfield 26, 3) := by decide +kernel
theorem dX8_other_187 : decode cX8_other 187 = .ok (.invokevirtual 186, 3) := by decide +kernel
theorem dX8_other_190 : decode cX8_other 190 = .ok (.aload_n 0, 1) := by decide +kernel
theorem dX8_other_191 : decode cX8_other 191 = .ok (.getfield 40, 3) := by decide +kernel
theorem dX8_other_194 : decode cX8_other 194 = .ok (.invokevirtual 190, 3) := by decide +kernel
theorem dX8_other_197 : decode cX8_other 197 = .ok (.aload_n 0, 1) := by decide +kernel
theorem dX8_other_198 : decode cX8_other 198 = .ok (.getfield 40, 3) := by decide +kernel
theorem dX8_other_201 : decode cX8_other 201 = .ok (.invokevirtual 190, 3) := by decide +kernel
theorem dX8_other_204 : decode cX8_other 204 = .ok (.invokestatic 182, 3) := by decide +kernel
theorem dX8_other_207 : decode cX8_other 207 = .ok (.lreturn, 1) := by decide +kernel
theorem dX8_gain_0 : decode cX8_gain 0 = .ok (.iload_n 1, 1) := by decide +kernel
theorem dX8_gain_1 : decode cX8_gain 1 = .ok (.invokestatic 126, 3) := by decide +kernel
theorem dX8_gain_4 : decode cX8_gain 4 = .ok (.ifCond .eq 17, 3) := by decide +kernel
theorem dX8_gain_7 : decode cX8_gain 7 = .ok (.iload_n 2, 1) := by decide +kernel
theorem dX8_gain_8 : decode cX8_gain 8 = .ok (.invokestatic 167, 3) := by decide +kernel
theorem dX8_gain_11 : decode cX8_gain 11 = .ok (.ifCond .eq 10, 3) := by decide +kernel
theorem dX8_gain_14 : decode cX8_gain 14 = .ok (.iload_n 3, 1) := by decide +kernel
theorem dX8_gain_15 : decode cX8_gain 15 = .ok (.invokestatic 141, 3) := by decide +kernel
theorem dX8_gain_18 : decode cX8_gain 18 = .ok (.ifCond .ne 7, 3) := by decide +kernel
theorem dX8_gain_21 : decode cX8_gain 21 = .ok (.sipush (-1002), 3) := by decide +kernel
theorem dX8_gain_24 : decode cX8_gain 24 = .ok (.ireturn, 1) := by decide +kernel
theorem dX8_gain_25 : decode cX8_gain 25 = .ok (.aload_n 0, 1) := by decide +kernel
theorem dX8_gain_26 : decode cX8_gain 26 = .ok (.getfield 26, 3) := by decide +kernel
theorem dX8_gain_29 : decode cX8_gain 29 = .ok (.aload_n 0, 1) := by decide +kernel
theorem dX8_gain_30 : decode cX8_gain 30 = .ok (.getfield 10, 3) := by decide +kernel
theorem dX8_gain_33 : decode cX8_gain 33 = .ok (.iload_n 1, 1) := by decide +kernel
theorem dX8_gain_34 : decode cX8_gain 34 = .ok (.aload_n 0, 1) := by decide +kernel
theorem dX8_gain_35 : decode cX8_gain 35 = .ok (.getfield 10, 3) := by decide +kernel
theorem dX8_gain_38 : decode cX8_gain 38 = .ok (.getfield 107, 3) := by decide +kernel
theorem dX8_gain_41 : decode cX8_gain 41 = .ok (.invokevirtual 144, 3) := by decide +kernel
theorem dX8_gain_44 : decode cX8_gain 44 = .ok (.aload_n 0, 1) := by decide +kernel
theorem dX8_gain_45 : decode cX8_gain 45 = .ok (.getfield 49, 3) := by decide +kernel
theorem dX8_gain_48 : decode cX8_gain 48 = .ok (.iload_n 3, 1) := by decide +kernel
theorem dX8_gain_49 : decode cX8_gain 49 = .ok (.invokevirtual 194, 3) := by decide +kernel
theorem dX8_gain_52 : decode cX8_gain 52 = .ok (.aload_n 0, 1) := by decide +kernel
theorem dX8_gain_53 : decode cX8_gain 53 = .ok (.getfield 49, 3) := by decide +kernel
theorem dX8_gain_56 : decode cX8_gain 56 = .ok (.iload_n 2, 1) := by decide +kernel
theorem dX8_gain_57 : decode cX8_gain 57 = .ok (.iload_n 3, 1) := by decide +kernel
theorem dX8_gain_58 : decode cX8_gain 58 = .ok (.invokevirtual 198, 3) := by decide +kernel
theorem dX8_gain_61 : decode cX8_gain 61 = .ok (.ireturn, 1) := by decide +kernel
theorem dX8_holds_0 : decode cX8_holds 0 = .ok (.iload_n 1, 1) := by decide +kernel
theorem dX8_holds_1 : decode cX8_holds 1 = .ok (.invokestatic 126, 3) := by decide +kernel
theorem dX8_holds_4 : decode cX8_holds 4 = .ok (.ifCond .ne 7, 3) := by decide +kernel
theorem dX8_holds_7 : decode cX8_holds 7 = .ok (.sipush (-1002), 3) := by decide +kernel
theorem dX8_holds_10 : decode cX8_holds 10 = .ok (.ireturn, 1) := by decide +kernel
theorem dX8_holds_11 : decode cX8_holds 11 = .ok (.aload_n 0, 1) := by decide +kernel
theorem dX8_holds_12 : decode cX8_holds 12 = .ok (.getfield 49, 3) := by decide +kernel
theorem dX8_holds_15 : decode cX8_holds 15 = .ok (.iload_n 1, 1) := by decide +kernel
theorem dX8_holds_16 : decode cX8_holds 16 = .ok (.aload_n 0, 1) := by decide +kernel
theorem dX8_holds_17 : decode cX8_holds 17 = .ok (.getfield 10, 3) := by decide +kernel
theorem dX8_holds_20 : decode cX8_holds 20 = .ok (.getfield 107, 3) := by decide +kernel
theorem dX8_holds_23 : decode cX8_holds 23 = .ok (.invokevirtual 201, 3) := by decide +kernel
theorem dX8_holds_26 : decode cX8_holds 26 = .ok (.ireturn, 1) := by decide +kernel
theorem dX8_all_0 : decode cX8_all 0 = .ok (.aload_n 0, 1) := by decide +kernel
theorem dX8_all_1 : decode cX8_all 1 = .ok (.getfield 58, 3) := by decide +kernel
theorem dX8_all_4 : decode cX8_all 4 = .ok (.invokevirtual 204, 3) := by decide +kernel
theorem dX8_all_7 : decode cX8_all 7 = .ok (.iload_n 1, 1) := by decide +kernel
theorem dX8_all_8 : decode cX8_all 8 = .ok (.iconst (-1), 1) := by decide +kernel
theorem dX8_all_9 : decode cX8_all 9 = .ok (.if_icmp .ne 17, 3) := by decide +kernel
theorem dX8_all_12 : decode cX8_all 12 = .ok (.aload_n 0, 1) := by decide +kernel
theorem dX8_all_13 : decode cX8_all 13 = .ok (.getfield 58, 3) := by decide +kernel
theorem dX8_all_16 : decode cX8_all 16 = .ok (.aload_n 0, 1) := by decide +kernel
theorem dX8_all_17 : decode cX8_all 17 = .ok (.getfield 69, 3) := by decide +kernel
theorem dX8_all_20 : decode cX8_all 20 = .ok (.invokevirtual 207, 3) := by decide +kernel
theorem dX8_all_23 : decode cX8_all 23 = .ok (.goto 15, 3) := by decide +kernel
theorem dX8_all_26 : decode cX8_all 26 = .ok (.aload_n 0, 1) := by decide +kernel
theorem dX8_all_27 : decode cX8_all 27 = .ok (.getfield 58, 3) := by decide +kernel
theorem dX8_all_30 : decode cX8_all 30 = .ok (.iload_n 1, 1) := by decide +kernel
theorem dX8_all_31 : decode cX8_all 31 = .ok (.aload_n 0, 1) := by decide +kernel
theorem dX8_all_32 : decode cX8_all 32 = .ok (.getfield 69, 3) := by decide +kernel
theorem dX8_all_35 : decode cX8_all 35 = .ok (.invokevirtual 210, 3) := by decide +kernel
theorem dX8_all_38 : decode cX8_all 38 = .ok (.ireturn, 1) := by decide +kernel
theorem dX8_best_0 : decode cX8_best 0 = .ok (.iload_n 1, 1) := by decide +kernel
theorem dX8_best_1 : decode cX8_best 1 = .ok (.iconst 0, 1) := by decide +kernel
theorem dX8_best_2 : decode cX8_best 2 = .ok (.iconst 2, 1) := by decide +kernel
theorem dX8_best_3 : decode cX8_best 3 = .ok (.invokestatic 73, 3) := by decide +kernel
theorem dX8_best_6 : decode cX8_best 6 = .ok (.ifCond .ne 7, 3) := by decide +kernel
theorem dX8_best_9 : decode cX8_best 9 = .ok (.sipush (-1002), 3) := by decide +kernel
theorem dX8_best_12 : decode cX8_best 12 = .ok (.ireturn, 1) := by decide +kernel
theorem dX8_best_13 : decode cX8_best 13 = .ok (.aload_n 0, 1) := by decide +kernel
theorem dX8_best_14 : decode cX8_best 14 = .ok (.getfield 58, 3) := by decide +kernel
theorem dX8_best_17 : decode cX8_best 17 = .ok (.invokevirtual 204, 3) := by decide +kernel
theorem dX8_best_20 : decode cX8_best 20 = .ok (.iload_n 1, 1) := by decide +kernel
theorem dX8_best_21 : decode cX8_best 21 = .ok (.ifCond .ne 15, 3) := by decide +kernel
theorem dX8_best_24 : decode cX8_best 24 = .ok (.aload_n 0, 1) := by decide +kernel
theorem dX8_best_25 : decode cX8_best 25 = .ok (.getfield 58, 3) := by decide +kernel
theorem dX8_best_28 : decode cX8_best 28 = .ok (.aload_n 0, 1) := by decide +kernel
theorem dX8_best_29 : decode cX8_best 29 = .ok (.getfield 69, 3) := by decide +kernel
theorem dX8_best_32 : decode cX8_best 32 = .ok (.invokevirtual 213, 3) := by decide +kernel
theorem dX8_best_35 : decode cX8_best 35 = .ok (.ireturn, 1) := by decide +kernel
theorem dX8_best_36 : decode cX8_best 36 = .ok (.iload_n 1, 1) := by decide +kernel
theorem dX8_best_37 : decode cX8_best 37 = .ok (.iconst 1, 1) := by decide +kernel
theorem dX8_best_38 : decode cX8_best 38 = .ok (.if_icmp .ne 17, 3) := by decide +kernel
theorem dX8_best_41 : decode cX8_best 41 = .ok (.aload_n 0, 1) := by decide +kernel
theorem dX8_best_42 : decode cX8_best 42 = .ok (.getfield 58, 3) := by decide +kernel
theorem dX8_best_45 : decode cX8_best 45 = .ok (.aload_n 0, 1) := by decide +kernel
theorem dX8_best_46 : decode cX8_best 46 = .ok (.getfield 69, 3) := by decide +kernel
theorem dX8_best_49 : decode cX8_best 49 = .ok (.invokevirtual 216, 3) := by decide +kernel
theorem dX8_best_52 : decode cX8_best 52 = .ok (.goto 14, 3) := by decide +kernel
theorem dX8_best_55 : decode cX8_best 55 = .ok (.aload_n 0, 1) := by decide +kernel
theorem dX8_best_56 : decode cX8_best 56 = .ok (.getfield 58, 3) := by decide +kernel
theorem dX8_best_59 : decode cX8_best 59 = .ok (.aload_n 0, 1) := by decide +kernel
theorem dX8_best_60 : decode cX8_best 60 = .ok (.getfield 69, 3) := by decide +kernel
theorem dX8_best_63 : decode cX8_best 63 = .ok (.invokevirtual 219, 3) := by decide +kernel
theorem dX8_best_66 : decode cX8_best 66 = .ok (.ireturn, 1) := by decide +kernel
theorem dX8_plain_0 : decode cX8_plain 0 = .ok (.iload_n 1, 1) := by decide +kernel
theorem dX8_plain_1 : decode cX8_plain 1 = .ok (.invokestatic 126, 3) := by decide +kernel
theorem dX8_plain_4 : decode cX8_plain 4 = .ok (.ifCond .eq 10, 3) := by decide +kernel
theorem dX8_plain_7 : decode cX8_plain 7 = .ok (.iload_n 1, 1) := by decide +kernel
theorem dX8_plain_8 : decode cX8_plain 8 = .ok (.invokestatic 222, 3) := by decide +kernel
theorem dX8_plain_11 : decode cX8_plain 11 = .ok (.goto 6, 3) := by decide +kernel
theorem dX8_plain_14 : decode cX8_plain 14 = .ok (.sipush (-1002), 3) := by decide +kernel
theorem dX8_plain_17 : decode cX8_plain 17 = .ok (.ireturn, 1) := by decide +kernel
theorem dX8_bears_0 : decode cX8_bears 0 = .ok (.iload_n 1, 1) := by decide +kernel
theorem dX8_bears_1 : decode cX8_bears 1 = .ok (.invokestatic 126, 3) := by decide +kernel
theorem dX8_bears_4 : decode cX8_bears 4 = .ok (.ifCond .eq 14, 3) := by decide +kernel
theorem dX8_bears_7 : decode cX8_bears 7 = .ok (.aload_n 0, 1) := by decide +kernel
theorem dX8_bears_8 : decode cX8_bears 8 = .ok (.getfield 49, 3) := by decide +kernel
theorem dX8_bears_11 : decode cX8_bears 11 = .ok (.iload_n 1, 1) := by decide +kernel
theorem dX8_bears_12 : decode cX8_bears 12 = .ok (.invokevirtual 225, 3) := by decide +kernel
theorem dX8_bears_15 : decode cX8_bears 15 = .ok (.goto 6, 3) := by decide +kernel
theorem dX8_bears_18 : decode cX8_bears 18 = .ok (.sipush (-1002), 3) := by decide +kernel
theorem dX8_bears_21 : decode cX8_bears 21 = .ok (.ireturn, 1) := by decide +kernel
theorem dX8_turned_0 : decode cX8_turned 0 = .ok (.iload_n 1, 1) := by decide +kernel
theorem dX8_turned_1 : decode cX8_turned 1 = .ok (.invokestatic 126, 3) := by decide +kernel
theorem dX8_turned_4 : decode cX8_turned 4 = .ok (.ifCond .eq 10, 3) := by decide +kernel
theorem dX8_turned_7 : decode cX8_turned 7 = .ok (.iload_n 1, 1) := by decide +kernel
theorem dX8_turned_8 : decode cX8_turned 8 = .ok (.invokestatic 228, 3) := by decide +kernel
theorem dX8_turned_11 : decode cX8_turned 11 = .ok (.goto 6, 3) := by decide +kernel
theorem dX8_turned_14 : decode cX8_turned 14 = .ok (.sipush (-1002), 3) := by decide +kernel
theorem dX8_turned_17 : decode cX8_turned 17 = .ok (.ireturn, 1) := by decide +kernel
theorem dX8_kinds_0 : decode cX8_kinds 0 = .ok (.aload_n 0, 1) := by decide +kernel
theorem dX8_kinds_1 : decode cX8_kinds 1 = .ok (.getfield 58, 3) := by decide +kernel
theorem dX8_kinds_4 : decode cX8_kinds 4 = .ok (.invokevirtual 204, 3) := by decide +kernel
theorem dX8_kinds_7 : decode cX8_kinds 7 = .ok (.aload_n 0, 1) := by decide +kernel
theorem dX8_kinds_8 : decode cX8_kinds 8 = .ok (.getfield 58, 3) := by decide +kernel
theorem dX8_kinds_11 : decode cX8_kinds 11 = .ok (.aload_n 0, 1) := by decide +kernel
theorem dX8_kinds_12 : decode cX8_kinds 12 = .ok (.getfield 69, 3) := by decide +kernel
theorem dX8_kinds_15 : decode cX8_kinds 15 = .ok (.invokevirtual 231, 3) := by decide +kernel
theorem dX8_kinds_18 : decode cX8_kinds 18 = .ok (.ireturn, 1) := by decide +kernel
theorem dX8_view_0 : decode cX8_view 0 = .ok (.iload_n 1, 1) := by decide +kernel
theorem dX8_view_1 : decode cX8_view 1 = .ok (.invokestatic 234, 3) := by decide +kernel
theorem dX8_view_4 : decode cX8_view 4 = .ok (.ifCond .eq 10, 3) := by decide +kernel
theorem dX8_view_7 : decode cX8_view 7 = .ok (.iload_n 2, 1) := by decide +kernel
theorem dX8_view_8 : decode cX8_view 8 = .ok (.invokestatic 234, 3) := by decide +kernel
theorem dX8_view_11 : decode cX8_view 11 = .ok (.ifCond .ne 7, 3) := by decide +kernel
theorem dX8_view_14 : decode cX8_view 14 = .ok (.sipush (-1001), 3) := by decide +kernel
theorem dX8_view_17 : decode cX8_view 17 = .ok (.ireturn, 1) := by decide +kernel
theorem dX8_view_18 : decode cX8_view 18 = .ok (.aload_n 0, 1) := by decide +kernel
theorem dX8_view_19 : decode cX8_view 19 = .ok (.getfield 65, 3) := by decide +kernel
theorem dX8_view_22 : decode cX8_view 22 = .ok (.iload_n 1, 1) := by decide +kernel
theorem dX8_view_23 : decode cX8_view 23 = .ok (.iload_n 2, 1) := by decide +kernel
theorem dX8_view_24 : decode cX8_view 24 = .ok (.invokevirtual 237, 3) := by decide +kernel
theorem dX8_view_27 : decode cX8_view 27 = .ok (.ireturn, 1) := by decide +kernel
theorem dX8_call_0 : decode cX8_call 0 = .ok (.iload_n 1, 1) := by decide +kernel
theorem dX8_call_1 : decode cX8_call 1 = .ok (.invokestatic 234, 3) := by decide +kernel
theorem dX8_call_4 : decode cX8_call 4 = .ok (.ifCond .eq 10, 3) := by decide +kernel
theorem dX8_call_7 : decode cX8_call 7 = .ok (.iload_n 2, 1) := by decide +kernel
theorem dX8_call_8 : decode cX8_call 8 = .ok (.invokestatic 234, 3) := by decide +kernel
theorem dX8_call_11 : decode cX8_call 11 = .ok (.ifCond .ne 7, 3) := by decide +kernel
theorem dX8_call_14 : decode cX8_call 14 = .ok (.sipush (-1001), 3) := by decide +kernel
theorem dX8_call_17 : decode cX8_call 17 = .ok (.ireturn, 1) := by decide +kernel
theorem dX8_call_18 : decode cX8_call 18 = .ok (.iload_n 3, 1) := by decide +kernel
theorem dX8_call_19 : decode cX8_call 19 = .ok (.iconst 0, 1) := by decide +kernel
theorem dX8_call_20 : decode cX8_call 20 = .ok (.iconst 1, 1) := by decide +kernel
theorem dX8_call_21 : decode cX8_call 21 = .ok (.invokestatic 73, 3) := by decide +kernel
theorem dX8_call_24 : decode cX8_call 24 = .ok (.ifCond .ne 7, 3) := by decide +kernel
theorem dX8_call_27 : decode cX8_call 27 = .ok (.sipush (-1002), 3) := by decide +kernel
theorem dX8_call_30 : decode cX8_call 30 = .ok (.ireturn, 1) := by decide +kernel
theorem dX8_call_31 : decode cX8_call 31 = .ok (.aload_n 0, 1) := by decide +kernel
theorem dX8_call_32 : decode cX8_call 32 = .ok (.getfield 65, 3) := by decide +kernel
theorem dX8_call_35 : decode cX8_call 35 = .ok (.iload_n 1, 1) := by decide +kernel
theorem dX8_call_36 : decode cX8_call 36 = .ok (.iload_n 2, 1) := by decide +kernel
theorem dX8_call_37 : decode cX8_call 37 = .ok (.invokevirtual 237, 3) := by decide +kernel
theorem dX8_call_40 : decode cX8_call 40 = .ok (.istore 4, 2) := by decide +kernel
theorem dX8_call_42 : decode cX8_call 42 = .ok (.aload_n 0, 1) := by decide +kernel
theorem dX8_call_43 : decode cX8_call 43 = .ok (.getfield 65, 3) := by decide +kernel
theorem dX8_call_46 : decode cX8_call 46 = .ok (.iload_n 1, 1) := by decide +kernel
theorem dX8_call_47 : decode cX8_call 47 = .ok (.iload_n 2, 1) := by decide +kernel
theorem dX8_call_48 : decode cX8_call 48 = .ok (.iload_n 3, 1) := by decide +kernel
theorem dX8_call_49 : decode cX8_call 49 = .ok (.invokevirtual 240, 3) := by decide +kernel
theorem dX8_call_52 : decode cX8_call 52 = .ok (.iload 4, 2) := by decide +kernel
theorem dX8_call_54 : decode cX8_call 54 = .ok (.ireturn, 1) := by decide +kernel
theorem dX8_meet_0 : decode cX8_meet 0 = .ok (.iload_n 1, 1) := by decide +kernel
theorem dX8_meet_1 : decode cX8_meet 1 = .ok (.iload_n 2, 1) := by decide +kernel
theorem dX8_meet_2 : decode cX8_meet 2 = .ok (.invokestatic 244, 3) := by decide +kernel
theorem dX8_meet_5 : decode cX8_meet 5 = .ok (.ifCond .eq 10, 3) := by decide +kernel
theorem dX8_meet_8 : decode cX8_meet 8 = .ok (.iload_n 3, 1) := by decide +kernel
theorem dX8_meet_9 : decode cX8_meet 9 = .ok (.invokestatic 248, 3) := by decide +kernel
theorem dX8_meet_12 : decode cX8_meet 12 = .ok (.ifCond .ne 7, 3) := by decide +kernel
theorem dX8_meet_15 : decode cX8_meet 15 = .ok (.sipush (-1001), 3) := by decide +kernel
theorem dX8_meet_18 : decode cX8_meet 18 = .ok (.ireturn, 1) := by decide +kernel
theorem dX8_meet_19 : decode cX8_meet 19 = .ok (.aload_n 0, 1) := by decide +kernel
theorem dX8_meet_20 : decode cX8_meet 20 = .ok (.getfield 65, 3) := by decide +kernel
theorem dX8_meet_23 : decode cX8_meet 23 = .ok (.iload_n 1, 1) := by decide +kernel
theorem dX8_meet_24 : decode cX8_meet 24 = .ok (.iload_n 2, 1) := by decide +kernel
theorem dX8_meet_25 : decode cX8_meet 25 = .ok (.iload_n 3, 1) := by decide +kernel
theorem dX8_meet_26 : decode cX8_meet 26 = .ok (.aload_n 0, 1) := by decide +kernel
theorem dX8_meet_27 : decode cX8_meet 27 = .ok (.getfield 10, 3) := by decide +kernel
theorem dX8_meet_30 : decode cX8_meet 30 = .ok (.invokevirtual 251, 3) := by decide +kernel
theorem dX8_meet_33 : decode cX8_meet 33 = .ok (.ireturn, 1) := by decide +kernel
theorem dX8_kin_0 : decode cX8_kin 0 = .ok (.iload_n 1, 1) := by decide +kernel
theorem dX8_kin_1 : decode cX8_kin 1 = .ok (.invokestatic 234, 3) := by decide +kernel
theorem dX8_kin_4 : decode cX8_kin 4 = .ok (.ifCond .eq 19, 3) := by decide +kernel
theorem dX8_kin_7 : decode cX8_kin 7 = .ok (.iload_n 2, 1) := by decide +kernel
theorem dX8_kin_8 : decode cX8_kin 8 = .ok (.invokestatic 248, 3) := by decide +kernel
theorem dX8_kin_11 : decode cX8_kin 11 = .ok (.ifCond .eq 12, 3) := by decide +kernel
theorem dX8_kin_14 : decode cX8_kin 14 = .ok (.iload_n 2, 1) := by decide +kernel
theorem dX8_kin_15 : decode cX8_kin 15 = .ok (.iload_n 1, 1) := by decide +kernel
theorem dX8_kin_16 : decode cX8_kin 16 = .ok (.invokestatic 134, 3) := by decide +kernel
theorem dX8_kin_19 : decode cX8_kin 19 = .ok (.iconst 1, 1) := by decide +kernel
theorem dX8_kin_20 : decode cX8_kin 20 = .ok (.if_icmp .ne 7, 3) := by decide +kernel
theorem dX8_kin_23 : decode cX8_kin 23 = .ok (.sipush (-1001), 3) := by decide +kernel
theorem dX8_kin_26 : decode cX8_kin 26 = .ok (.ireturn, 1) := by decide +kernel
theorem dX8_kin_27 : decode cX8_kin 27 = .ok (.aload_n 0, 1) := by decide +kernel
theorem dX8_kin_28 : decode cX8_kin 28 = .ok (.getfield 65, 3) := by decide +kernel
theorem dX8_kin_31 : decode cX8_kin 31 = .ok (.iload_n 1, 1) := by decide +kernel
theorem dX8_kin_32 : decode cX8_kin 32 = .ok (.iload_n 2, 1) := by decide +kernel
theorem dX8_kin_33 : decode cX8_kin 33 = .ok (.invokevirtual 255, 3) := by decide +kernel
theorem dX8_kin_36 : decode cX8_kin 36 = .ok (.ireturn, 1) := by decide +kernel
theorem dX8_talk_0 : decode cX8_talk 0 = .ok (.iload_n 1, 1) := by decide +kernel
theorem dX8_talk_1 : decode cX8_talk 1 = .ok (.iload_n 2, 1) := by decide +kernel
theorem dX8_talk_2 : decode cX8_talk 2 = .ok (.invokestatic 244, 3) := by decide +kernel
theorem dX8_talk_5 : decode cX8_talk 5 = .ok (.ifCond .ne 7, 3) := by decide +kernel
theorem dX8_talk_8 : decode cX8_talk 8 = .ok (.sipush (-1001), 3) := by decide +kernel
theorem dX8_talk_11 : decode cX8_talk 11 = .ok (.ireturn, 1) := by decide +kernel
theorem dX8_talk_12 : decode cX8_talk 12 = .ok (.aload_n 0, 1) := by decide +kernel
theorem dX8_talk_13 : decode cX8_talk 13 = .ok (.getfield 65, 3) := by decide +kernel
theorem dX8_talk_16 : decode cX8_talk 16 = .ok (.iload_n 1, 1) := by decide +kernel
theorem dX8_talk_17 : decode cX8_talk 17 = .ok (.iload_n 2, 1) := by decide +kernel
theorem dX8_talk_18 : decode cX8_talk 18 = .ok (.invokevirtual 258, 3) := by decide +kernel
theorem dX8_talk_21 : decode cX8_talk 21 = .ok (.ireturn, 1) := by decide +kernel
theorem dX8_agreed_0 : decode cX8_agreed 0 = .ok (.iload_n 1, 1) := by decide +kernel
theorem dX8_agreed_1 : decode cX8_agreed 1 = .ok (.tableswitch 51 0 2 #[27, 35, 43], 27) := by decide +kernel
theorem dX8_agreed_28 : decode cX8_agreed 28 = .ok (.aload_n 0, 1) := by decide +kernel
theorem dX8_agreed_29 : decode cX8_agreed 29 = .ok (.getfield 65, 3) := by decide +kernel
theorem dX8_agreed_32 : decode cX8_agreed 32 = .ok (.invokevirtual 261, 3) := by decide +kernel
theorem dX8_agreed_35 : decode cX8_agreed 35 = .ok (.ireturn, 1) := by decide +kernel
theorem dX8_agreed_36 : decode cX8_agreed 36 = .ok (.aload_n 0, 1) := by decide +kernel
theorem dX8_agreed_37 : decode cX8_agreed 37 = .ok (.getfield 65, 3) := by decide +kernel
theorem dX8_agreed_40 : decode cX8_agreed 40 = .ok (.invokevirtual 264, 3) := by decide +kernel
theorem dX8_agreed_43 : decode cX8_agreed 43 = .ok (.ireturn, 1) := by decide +kernel
theorem dX8_agreed_44 : decode cX8_agreed 44 = .ok (.aload_n 0, 1) := by decide +kernel
theorem dX8_agreed_45 : decode cX8_agreed 45 = .ok (.getfield 65, 3) := by decide +kernel
theorem dX8_agreed_48 : decode cX8_agreed 48 = .ok (.invokevirtual 267, 3) := by decide +kernel
theorem dX8_agreed_51 : decode cX8_agreed 51 = .ok (.ireturn, 1) := by decide +kernel
theorem dX8_agreed_52 : decode cX8_agreed 52 = .ok (.sipush (-1002), 3) := by decide +kernel
theorem dX8_agreed_55 : decode cX8_agreed 55 = .ok (.ireturn, 1) := by decide +kernel
theorem dX8_forget_0 : decode cX8_forget 0 = .ok (.aload_n 0, 1) := by decide +kernel
theorem dX8_forget_1 : decode cX8_forget 1 = .ok (.getfield 65, 3) := by decide +kernel
theorem dX8_forget_4 : decode cX8_forget 4 = .ok (.invokevirtual 270, 3) := by decide +kernel
theorem dX8_forget_7 : decode cX8_forget 7 = .ok (.ireturn, 1) := by decide +kernel
theorem dX8_within_0 : decode cX8_within 0 = .ok (.iload_n 0, 1) := by decide +kernel
theorem dX8_within_1 : decode cX8_within 1 = .ok (.iload_n 1, 1) := by decide +kernel
theorem dX8_within_2 : decode cX8_within 2 = .ok (.if_icmp .lt 12, 3) := by decide +kernel
theorem dX8_within_5 : decode cX8_within 5 = .ok (.iload_n 0, 1) := by decide +kernel
theorem dX8_within_6 : decode cX8_within 6 = .ok (.iload_n 2, 1) := by decide +kernel
theorem dX8_within_7 : decode cX8_within 7 = .ok (.if_icmp .gt 7, 3) := by decide +kernel
theorem dX8_within_10 : decode cX8_within 10 = .ok (.iconst 1, 1) := by decide +kernel
theorem dX8_within_11 : decode cX8_within 11 = .ok (.goto 4, 3) := by decide +kernel
theorem dX8_within_14 : decode cX8_within 14 = .ok (.iconst 0, 1) := by decide +kernel
theorem dX8_within_15 : decode cX8_within 15 = .ok (.ireturn, 1) := by decide +kernel
theorem dX8_isRule_0 : decode cX8_isRule 0 = .ok (.iload_n 0, 1) := by decide +kernel
theorem dX8_isRule_1 : decode cX8_isRule 1 = .ok (.iconst 0, 1) := by decide +kernel
theorem dX8_isRule_2 : decode cX8_isRule 2 = .ok (.sipush 4095, 3) := by decide +kernel
theorem dX8_isRule_5 : decode cX8_isRule 5 = .ok (.invokestatic 73, 3) := by decide +kernel
theorem dX8_isRule_8 : decode cX8_isRule 8 = .ok (.ireturn, 1) := by decide +kernel
theorem dX8_isWay_0 : decode cX8_isWay 0 = .ok (.iload_n 0, 1) := by decide +kernel
theorem dX8_isWay_1 : decode cX8_isWay 1 = .ok (.iconst 0, 1) := by decide +kernel
theorem dX8_isWay_2 : decode cX8_isWay 2 = .ok (.bipush 15, 2) := by decide +kernel
theorem dX8_isWay_4 : decode cX8_isWay 4 = .ok (.invokestatic 73, 3) := by decide +kernel
theorem dX8_isWay_7 : decode cX8_isWay 7 = .ok (.ireturn, 1) := by decide +kernel
theorem dX8_isShare_0 : decode cX8_isShare 0 = .ok (.iload_n 0, 1) := by decide +kernel
theorem dX8_isShare_1 : decode cX8_isShare 1 = .ok (.iconst 0, 1) := by decide +kernel
theorem dX8_isShare_2 : decode cX8_isShare 2 = .ok (.sipush 1000, 3) := by decide +kernel
theorem dX8_isShare_5 : decode cX8_isShare 5 = .ok (.invokestatic 73, 3) := by decide +kernel
theorem dX8_isShare_8 : decode cX8_isShare 8 = .ok (.ireturn, 1) := by decide +kernel
theorem dX8_bit_0 : decode cX8_bit 0 = .ok (.iload_n 0, 1) := by decide +kernel
theorem dX8_bit_1 : decode cX8_bit 1 = .ok (.iload_n 1, 1) := by decide +kernel
theorem dX8_bit_2 : decode cX8_bit 2 = .ok (.ishr, 1) := by decide +kernel
theorem dX8_bit_3 : decode cX8_bit 3 = .ok (.iconst 1, 1) := by decide +kernel
theorem dX8_bit_4 : decode cX8_bit 4 = .ok (.iand, 1) := by decide +kernel
theorem dX8_bit_5 : decode cX8_bit 5 = .ok (.ireturn, 1) := by decide +kernel
theorem dX8_wayOf_0 : decode cX8_wayOf 0 = .ok (.iload_n 0, 1) := by decide +kernel
theorem dX8_wayOf_1 : decode cX8_wayOf 1 = .ok (.bipush 15, 2) := by decide +kernel
theorem dX8_wayOf_3 : decode cX8_wayOf 3 = .ok (.iand, 1) := by decide +kernel
theorem dX8_wayOf_4 : decode cX8_wayOf 4 = .ok (.ireturn, 1) := by decide +kernel
theorem dX8_namingOf_0 : decode cX8_namingOf 0 = .ok (.iload_n 0, 1) := by decide +kernel
theorem dX8_namingOf_1 : decode cX8_namingOf 1 = .ok (.iconst 4, 1) := by decide +kernel
theorem dX8_namingOf_2 : decode cX8_namingOf 2 = .ok (.ishr, 1) := by decide +kernel
theorem dX8_namingOf_3 : decode cX8_namingOf 3 = .ok (.ireturn, 1) := by decide +kernel
theorem dX8_plainness_0 : decode cX8_plainness 0 = .ok (.iload_n 0, 1) := by decide +kernel
theorem dX8_plainness_1 : decode cX8_plainness 1 = .ok (.invokestatic 130, 3) := by decide +kernel
theorem dX8_plainness_4 : decode cX8_plainness 4 = .ok (.istore_n 1, 1) := by decide +kernel
theorem dX8_plainness_5 : decode cX8_plainness 5 = .ok (.iload_n 0, 1) := by decide +kernel
theorem dX8_plainness_6 : decode cX8_plainness 6 = .ok (.invokestatic 138, 3) := by decide +kernel
theorem dX8_plainness_9 : decode cX8_plainness 9 = .ok (.istore_n 2, 1) := by decide +kernel
theorem dX8_plainness_10 : decode cX8_plainness 10 = .ok (.iload_n 1, 1) := by decide +kernel
theorem dX8_plainness_11 : decode cX8_plainness 11 = .ok (.iconst 4, 1) := by decide +kernel
theorem dX8_plainness_12 : decode cX8_plainness 12 = .ok (.iconst 2, 1) := by decide +kernel
theorem dX8_plainness_13 : decode cX8_plainness 13 = .ok (.invokestatic 273, 3) := by decide +kernel
theorem dX8_plainness_16 : decode cX8_plainness 16 = .ok (.iload_n 1, 1) := by decide +kernel
theorem dX8_plainness_17 : decode cX8_plainness 17 = .ok (.iconst 4, 1) := by decide +kernel
theorem dX8_plainness_18 : decode cX8_plainness 18 = .ok (.iconst 1, 1) := by decide +kernel
theorem dX8_plainness_19 : decode cX8_plainness 19 = .ok (.invokestatic 273, 3) := by decide +kernel
theorem dX8_plainness_22 : decode cX8_plainness 22 = .ok (.iadd, 1) := by decide +kernel
theorem dX8_plainness_23 : decode cX8_plainness 23 = .ok (.iload_n 2, 1) := by decide +kernel
theorem dX8_plainness_24 : decode cX8_plainness 24 = .ok (.bipush 8, 2) := by decide +kernel
theorem dX8_plainness_26 : decode cX8_plainness 26 = .ok (.iconst 4, 1) := by decide +kernel
theorem dX8_plainness_27 : decode cX8_plainness 27 = .ok (.invokestatic 273, 3) := by decide +kernel
theorem dX8_plainness_30 : decode cX8_plainness 30 = .ok (.iadd, 1) := by decide +kernel
theorem dX8_plainness_31 : decode cX8_plainness 31 = .ok (.iload_n 2, 1) := by decide +kernel
theorem dX8_plainness_32 : decode cX8_plainness 32 = .ok (.bipush 8, 2) := by decide +kernel
theorem dX8_plainness_34 : decode cX8_plainness 34 = .ok (.iconst 2, 1) := by decide +kernel
theorem dX8_plainness_35 : decode cX8_plainness 35 = .ok (.invokestatic 273, 3) := by decide +kernel
theorem dX8_plainness_38 : decode cX8_plainness 38 = .ok (.iadd, 1) := by decide +kernel
theorem dX8_plainness_39 : decode cX8_plainness 39 = .ok (.iload_n 2, 1) := by decide +kernel
theorem dX8_plainness_40 : decode cX8_plainness 40 = .ok (.bipush 8, 2) := by decide +kernel
theorem dX8_plainness_42 : decode cX8_plainness 42 = .ok (.iconst 1, 1) := by decide +kernel
theorem dX8_plainness_43 : decode cX8_plainness 43 = .ok (.invokestatic 273, 3) := by decide +kernel
theorem dX8_plainness_46 : decode cX8_plainness 46 = .ok (.iadd, 1) := by decide +kernel
theorem dX8_plainness_47 : decode cX8_plainness 47 = .ok (.ireturn, 1) := by decide +kernel
theorem dX8_hangs_0 : decode cX8_hangs 0 = .ok (.iconst 0, 1) := by decide +kernel
theorem dX8_hangs_1 : decode cX8_hangs 1 = .ok (.istore_n 3, 1) := by decide +kernel
theorem dX8_hangs_2 : decode cX8_hangs 2 = .ok (.iload_n 3, 1) := by decide +kernel
theorem dX8_hangs_3 : decode cX8_hangs 3 = .ok (.iload_n 1, 1) := by decide +kernel
theorem dX8_hangs_4 : decode cX8_hangs 4 = .ok (.if_icmp .ge 26, 3) := by decide +kernel
theorem dX8_hangs_7 : decode cX8_hangs 7 = .ok (.iload_n 0, 1) := by decide +kernel
theorem dX8_hangs_8 : decode cX8_hangs 8 = .ok (.iload_n 3, 1) := by decide +kernel
theorem dX8_hangs_9 : decode cX8_hangs 9 = .ok (.invokestatic 134, 3) := by decide +kernel
theorem dX8_hangs_12 : decode cX8_hangs 12 = .ok (.iload_n 0, 1) := by decide +kernel
theorem dX8_hangs_13 : decode cX8_hangs 13 = .ok (.iload_n 3, 1) := by decide +kernel
theorem dX8_hangs_14 : decode cX8_hangs 14 = .ok (.iload_n 2, 1) := by decide +kernel
theorem dX8_hangs_15 : decode cX8_hangs 15 = .ok (.ixor, 1) := by decide +kernel
theorem dX8_hangs_16 : decode cX8_hangs 16 = .ok (.invokestatic 134, 3) := by decide +kernel
theorem dX8_hangs_19 : decode cX8_hangs 19 = .ok (.if_icmp .eq 5, 3) := by decide +kernel
theorem dX8_hangs_22 : decode cX8_hangs 22 = .ok (.iconst 1, 1) := by decide +kernel
theorem dX8_hangs_23 : decode cX8_hangs 23 = .ok (.ireturn, 1) := by decide +kernel
theorem dX8_hangs_24 : decode cX8_hangs 24 = .ok (.iinc 3 1, 3) := by decide +kernel
theorem dX8_hangs_27 : decode cX8_hangs 27 = .ok (.goto (-25), 3) := by decide +kernel
theorem dX8_hangs_30 : decode cX8_hangs 30 = .ok (.iconst 0, 1) := by decide +kernel
theorem dX8_hangs_31 : decode cX8_hangs 31 = .ok (.ireturn, 1) := by decide +kernel
theorem dX8_turnedAbout_0 : decode cX8_turnedAbout 0 = .ok (.iconst 0, 1) := by decide +kernel
theorem dX8_turnedAbout_1 : decode cX8_turnedAbout 1 = .ok (.istore_n 1, 1) := by decide +kernel
theorem dX8_turnedAbout_2 : decode cX8_turnedAbout 2 = .ok (.iconst 0, 1) := by decide +kernel
theorem dX8_turnedAbout_3 : decode cX8_turnedAbout 3 = .ok (.istore_n 2, 1) := by decide +kernel
theorem dX8_turnedAbout_4 : decode cX8_turnedAbout 4 = .ok (.iload_n 2, 1) := by decide +kernel
theorem dX8_turnedAbout_5 : decode cX8_turnedAbout 5 = .ok (.iconst 4, 1) := by decide +kernel
theorem dX8_turnedAbout_6 : decode cX8_turnedAbout 6 = .ok (.if_icmp .ge 24, 3) := by decide +kernel
theorem dX8_turnedAbout_9 : decode cX8_turnedAbout 9 = .ok (.iload_n 1, 1) := by decide +kernel
theorem dX8_turnedAbout_10 : decode cX8_turnedAbout 10 = .ok (.iload_n 0, 1) := by decide +kernel
theorem dX8_turnedAbout_11 : decode cX8_turnedAbout 11 = .ok (.invokestatic 130, 3) := by decide +kernel
theorem dX8_turnedAbout_14 : decode cX8_turnedAbout 14 = .ok (.iload_n 2, 1) := by decide +kernel
theorem dX8_turnedAbout_15 : decode cX8_turnedAbout 15 = .ok (.iconst 3, 1) := by decide +kernel
theorem dX8_turnedAbout_16 : decode cX8_turnedAbout 16 = .ok (.ixor, 1) := by decide +kernel
theorem dX8_turnedAbout_17 : decode cX8_turnedAbout 17 = .ok (.invokestatic 134, 3) := by decide +kernel
theorem dX8_turnedAbout_20 : decode cX8_turnedAbout 20 = .ok (.iload_n 2, 1) := by decide +kernel
theorem dX8_turnedAbout_21 : decode cX8_turnedAbout 21 = .ok (.ishl, 1) := by decide +kernel
theorem dX8_turnedAbout_22 : decode cX8_turnedAbout 22 = .ok (.ior, 1) := by decide +kernel
theorem dX8_turnedAbout_23 : decode cX8_turnedAbout 23 = .ok (.istore_n 1, 1) := by decide +kernel
theorem dX8_turnedAbout_24 : decode cX8_turnedAbout 24 = .ok (.iinc 2 1, 3) := by decide +kernel
theorem dX8_turnedAbout_27 : decode cX8_turnedAbout 27 = .ok (.goto (-23), 3) := by decide +kernel
theorem dX8_turnedAbout_30 : decode cX8_turnedAbout 30 = .ok (.iconst 0, 1) := by decide +kernel
theorem dX8_turnedAbout_31 : decode cX8_turnedAbout 31 = .ok (.istore_n 2, 1) := by decide +kernel
theorem dX8_turnedAbout_32 : decode cX8_turnedAbout 32 = .ok (.iconst 0, 1) := by decide +kernel
theorem dX8_turnedAbout_33 : decode cX8_turnedAbout 33 = .ok (.istore_n 3, 1) := by decide +kernel
theorem dX8_turnedAbout_34 : decode cX8_turnedAbout 34 = .ok (.iload_n 3, 1) := by decide +kernel
theorem dX8_turnedAbout_35 : decode cX8_turnedAbout 35 = .ok (.bipush 8, 2) := by decide +kernel
theorem dX8_turnedAbout_37 : decode cX8_turnedAbout 37 = .ok (.if_icmp .ge 27, 3) := by decide +kernel
theorem dX8_turnedAbout_40 : decode cX8_turnedAbout 40 = .ok (.iload_n 2, 1) := by decide +kernel
theorem dX8_turnedAbout_41 : decode cX8_turnedAbout 41 = .ok (.iconst 1, 1) := by decide +kernel
theorem dX8_turnedAbout_42 : decode cX8_turnedAbout 42 = .ok (.iload_n 0, 1) := by decide +kernel
theorem dX8_turnedAbout_43 : decode cX8_turnedAbout 43 = .ok (.invokestatic 138, 3) := by decide +kernel
theorem dX8_turnedAbout_46 : decode cX8_turnedAbout 46 = .ok (.iload_n 3, 1) := by decide +kernel
theorem dX8_turnedAbout_47 : decode cX8_turnedAbout 47 = .ok (.bipush 6, 2) := by decide +kernel
theorem dX8_turnedAbout_49 : decode cX8_turnedAbout 49 = .ok (.ixor, 1) := by decide +kernel
theorem dX8_turnedAbout_50 : decode cX8_turnedAbout 50 = .ok (.invokestatic 134, 3) := by decide +kernel
theorem dX8_turnedAbout_53 : decode cX8_turnedAbout 53 = .ok (.isub, 1) := by decide +kernel
theorem dX8_turnedAbout_54 : decode cX8_turnedAbout 54 = .ok (.iload_n 3, 1) := by decide +kernel
theorem dX8_turnedAbout_55 : decode cX8_turnedAbout 55 = .ok (.ishl, 1) := by decide +kernel
theorem dX8_turnedAbout_56 : decode cX8_turnedAbout 56 = .ok (.ior, 1) := by decide +kernel
theorem dX8_turnedAbout_57 : decode cX8_turnedAbout 57 = .ok (.istore_n 2, 1) := by decide +kernel
theorem dX8_turnedAbout_58 : decode cX8_turnedAbout 58 = .ok (.iinc 3 1, 3) := by decide +kernel
theorem dX8_turnedAbout_61 : decode cX8_turnedAbout 61 = .ok (.goto (-27), 3) := by decide +kernel
theorem dX8_turnedAbout_64 : decode cX8_turnedAbout 64 = .ok (.bipush 16, 2) := by decide +kernel
theorem dX8_turnedAbout_66 : decode cX8_turnedAbout 66 = .ok (.iload_n 2, 1) := by decide +kernel
theorem dX8_turnedAbout_67 : decode cX8_turnedAbout 67 = .ok (.imul, 1) := by decide +kernel
theorem dX8_turnedAbout_68 : decode cX8_turnedAbout 68 = .ok (.iload_n 1, 1) := by decide +kernel
theorem dX8_turnedAbout_69 : decode cX8_turnedAbout 69 = .ok (.iadd, 1) := by decide +kernel
theorem dX8_turnedAbout_70 : decode cX8_turnedAbout 70 = .ok (.ireturn, 1) := by decide +kernel
theorem dX8_leastTerm_0 : decode cX8_leastTerm 0 = .ok (.lload_n 0, 1) := by decide +kernel
theorem dX8_leastTerm_1 : decode cX8_leastTerm 1 = .ok (.invokestatic 277, 3) := by decide +kernel
theorem dX8_leastTerm_4 : decode cX8_leastTerm 4 = .ok (.lstore 6, 2) := by decide +kernel
theorem dX8_leastTerm_6 : decode cX8_leastTerm 6 = .ok (.lload_n 2, 1) := by decide +kernel
theorem dX8_leastTerm_7 : decode cX8_leastTerm 7 = .ok (.lstore 8, 2) := by decide +kernel
theorem dX8_leastTerm_9 : decode cX8_leastTerm 9 = .ok (.iconst 0, 1) := by decide +kernel
theorem dX8_leastTerm_10 : decode cX8_leastTerm 10 = .ok (.istore 10, 2) := by decide +kernel
theorem dX8_leastTerm_12 : decode cX8_leastTerm 12 = .ok (.iload 10, 2) := by decide +kernel
theorem dX8_leastTerm_14 : decode cX8_leastTerm 14 = .ok (.bipush 100, 2) := by decide +kernel
theorem dX8_leastTerm_16 : decode cX8_leastTerm 16 = .ok (.if_icmp .ge 31, 3) := by decide +kernel
theorem dX8_leastTerm_19 : decode cX8_leastTerm 19 = .ok (.lload 8, 2) := by decide +kernel
theorem dX8_leastTerm_21 : decode cX8_leastTerm 21 = .ok (.lconst 0, 1) := by decide +kernel
theorem dX8_leastTerm_22 : decode cX8_leastTerm 22 = .ok (.lcmp, 1) := by decide +kernel
theorem dX8_leastTerm_23 : decode cX8_leastTerm 23 = .ok (.ifCond .eq 24, 3) := by decide +kernel
theorem dX8_leastTerm_26 : decode cX8_leastTerm 26 = .ok (.lload 6, 2) := by decide +kernel
theorem dX8_leastTerm_28 : decode cX8_leastTerm 28 = .ok (.lload 8, 2) := by decide +kernel
theorem dX8_leastTerm_30 : decode cX8_leastTerm 30 = .ok (.lrem, 1) := by decide +kernel
theorem dX8_leastTerm_31 : decode cX8_leastTerm 31 = .ok (.lstore 11, 2) := by decide +kernel
theorem dX8_leastTerm_33 : decode cX8_leastTerm 33 = .ok (.lload 8, 2) := by decide +kernel
theorem dX8_leastTerm_35 : decode cX8_leastTerm 35 = .ok (.lstore 6, 2) := by decide +kernel
theorem dX8_leastTerm_37 : decode cX8_leastTerm 37 = .ok (.lload 11, 2) := by decide +kernel
theorem dX8_leastTerm_39 : decode cX8_leastTerm 39 = .ok (.lstore 8, 2) := by decide +kernel
theorem dX8_leastTerm_41 : decode cX8_leastTerm 41 = .ok (.iinc 10 1, 3) := by decide +kernel
theorem dX8_leastTerm_44 : decode cX8_leastTerm 44 = .ok (.goto (-32), 3) := by decide +kernel
theorem dX8_leastTerm_47 : decode cX8_leastTerm 47 = .ok (.lload 6, 2) := by decide +kernel
theorem dX8_leastTerm_49 : decode cX8_leastTerm 49 = .ok (.lconst 0, 1) := by decide +kernel
theorem dX8_leastTerm_50 : decode cX8_leastTerm 50 = .ok (.lcmp, 1) := by decide +kernel
theorem dX8_leastTerm_51 : decode cX8_leastTerm 51 = .ok (.ifCond .ne 8, 3) := by decide +kernel
theorem dX8_leastTerm_54 : decode cX8_leastTerm 54 = .ok (.lload 4, 2) := by decide +kernel
theorem dX8_leastTerm_56 : decode cX8_leastTerm 56 = .ok (.goto 8, 3) := by decide +kernel
theorem dX8_leastTerm_59 : decode cX8_leastTerm 59 = .ok (.lload 4, 2) := by decide +kernel
theorem dX8_leastTerm_61 : decode cX8_leastTerm 61 = .ok (.lload 6, 2) := by decide +kernel
theorem dX8_leastTerm_63 : decode cX8_leastTerm 63 = .ok (.ldiv, 1) := by decide +kernel
theorem dX8_leastTerm_64 : decode cX8_leastTerm 64 = .ok (.lreturn, 1) := by decide +kernel
theorem dX9_init_0 : decode cX9_init 0 = .ok (.aload_n 0, 1) := by decide +kernel
theorem dX9_init_1 : decode cX9_init 1 = .ok (.invokespecial 1, 3) := by decide +kernel
theorem dX9_init_4 : decode cX9_init 4 = .ok (.aload_n 0, 1) := by decide +kernel
theorem dX9_init_5 : decode cX9_init 5 = .ok (.bipush 8, 2) := by decide +kernel
theorem dX9_init_7 : decode cX9_init 7 = .ok (.newarray .int, 2) := by decide +kernel
theorem dX9_init_9 : decode cX9_init 9 = .ok (.putfield 7, 3) := by decide +kernel
theorem dX9_init_12 : decode cX9_init 12 = .ok (.aload_n 0, 1) := by decide +kernel
theorem dX9_init_13 : decode cX9_init 13 = .ok (.bipush 8, 2) := by decide +kernel
theorem dX9_init_15 : decode cX9_init 15 = .ok (.newarray .int, 2) := by decide +kernel
theorem dX9_init_17 : decode cX9_init 17 = .ok (.putfield 13, 3) := by decide +kernel
theorem dX9_init_20 : decode cX9_init 20 = .ok (.aload_n 0, 1) := by decide +kernel
theorem dX9_init_21 : decode cX9_init 21 = .ok (.bipush 120, 2) := by decide +kernel
theorem dX9_init_23 : decode cX9_init 23 = .ok (.newarray .int, 2) := by decide +kernel
theorem dX9_init_25 : decode cX9_init 25 = .ok (.putfield 16, 3) := by decide +kernel
theorem dX9_init_28 : decode cX9_init 28 = .ok (.aload_n 0, 1) := by decide +kernel
theorem dX9_init_29 : decode cX9_init 29 = .ok (.iconst (-1), 1) := by decide +kernel
theorem dX9_init_30 : decode cX9_init 30 = .ok (.putfield 19, 3) := by decide +kernel
theorem dX9_init_33 : decode cX9_init 33 = .ok (.aload_n 0, 1) := by decide +kernel
theorem dX9_init_34 : decode cX9_init 34 = .ok (.sipush 1001, 3) := by decide +kernel
theorem dX9_init_37 : decode cX9_init 37 = .ok (.newarray .int, 2) := by decide +kernel
theorem dX9_init_39 : decode cX9_init 39 = .ok (.putfield 23, 3) := by decide +kernel
theorem dX9_init_42 : decode cX9_init 42 = .ok (.aload_n 0, 1) := by decide +kernel
theorem dX9_init_43 : decode cX9_init 43 = .ok (.bipush 36, 2) := by decide +kernel
theorem dX9_init_45 : decode cX9_init 45 = .ok (.newarray .boolean, 2) := by decide +kernel
theorem dX9_init_47 : decode cX9_init 47 = .ok (.putfield 26, 3) := by decide +kernel
theorem dX9_init_50 : decode cX9_init 50 = .ok (.aload_n 0, 1) := by decide +kernel
theorem dX9_init_51 : decode cX9_init 51 = .ok (.bipush 6, 2) := by decide +kernel
theorem dX9_init_53 : decode cX9_init 53 = .ok (.newarray .int, 2) := by decide +kernel
theorem dX9_init_55 : decode cX9_init 55 = .ok (.putfield 30, 3) := by decide +kernel
theorem dX9_init_58 : decode cX9_init 58 = .ok (.iconst 0, 1) := by decide +kernel
theorem dX9_init_59 : decode cX9_init 59 = .ok (.istore_n 1, 1) := by decide +kernel
theorem dX9_init_60 : decode cX9_init 60 = .ok (.iload_n 1, 1) := by decide +kernel
theorem dX9_init_61 : decode cX9_init 61 = .ok (.bipush 8, 2) := by decide +kernel
theorem dX9_init_63 : decode cX9_init 63 = .ok (.if_icmp .ge 19, 3) := by decide +kernel
theorem dX9_init_66 : decode cX9_init 66 = .ok (.aload_n 0, 1) := by decide +kernel
theorem dX9_init_67 : decode cX9_init 67 = .ok (.getfield 7, 3) := by decide +kernel
theorem dX9_init_70 : decode cX9_init 70 = .ok (.iload_n 1, 1) := by decide +kernel
theorem dX9_init_71 : decode cX9_init 71 = .ok (.iload_n 1, 1) := by decide +kernel
theorem dX9_init_72 : decode cX9_init 72 = .ok (.invokestatic 33, 3) := by decide +kernel
theorem dX9_init_75 : decode cX9_init 75 = .ok (.iastore, 1) := by decide +kernel
theorem dX9_init_76 : decode cX9_init 76 = .ok (.iinc 1 1, 3) := by decide +kernel
theorem dX9_init_79 : decode cX9_init 79 = .ok (.goto (-19), 3) := by decide +kernel
theorem dX9_init_82 : decode cX9_init 82 = .ok (.iconst 0, 1) := by decide +kernel
theorem dX9_init_83 : decode cX9_init 83 = .ok (.istore_n 1, 1) := by decide +kernel
theorem dX9_init_84 : decode cX9_init 84 = .ok (.iload_n 1, 1) := by decide +kernel
theorem dX9_init_85 : decode cX9_init 85 = .ok (.bipush 36, 2) := by decide +kernel
theorem dX9_init_87 : decode cX9_init 87 = .ok (.if_icmp .ge 16, 3) := by decide +kernel
theorem dX9_init_90 : decode cX9_init 90 = .ok (.aload_n 0, 1) := by decide +kernel
theorem dX9_init_91 : decode cX9_init 91 = .ok (.getfield 26, 3) := by decide +kernel
theorem dX9_init_94 : decode cX9_init 94 = .ok (.iload_n 1, 1) := by decide +kernel
theorem dX9_init_95 : decode cX9_init 95 = .ok (.iconst 1, 1) := by decide +kernel
theorem dX9_init_96 : decode cX9_init 96 = .ok (.bastore, 1) := by decide +kernel
theorem dX9_init_97 : decode cX9_init 97 = .ok (.iinc 1 1, 3) := by decide +kernel
theorem dX9_init_100 : decode cX9_init 100 = .ok (.goto (-16), 3) := by decide +kernel
theorem dX9_init_103 : decode cX9_init 103 = .ok (.return_, 1) := by decide +kernel
theorem dX9_in_0 : decode cX9_in 0 = .ok (.lload_n 0, 1) := by decide +kernel
theorem dX9_in_1 : decode cX9_in 1 = .ok (.lload_n 2, 1) := by decide +kernel
theorem dX9_in_2 : decode cX9_in 2 = .ok (.lcmp, 1) := by decide +kernel
theorem dX9_in_3 : decode cX9_in 3 = .ok (.ifCond .lt 14, 3) := by decide +kernel
theorem dX9_in_6 : decode cX9_in 6 = .ok (.lload_n 0, 1) := by decide +kernel
theorem dX9_in_7 : decode cX9_in 7 = .ok (.lload 4, 2) := by decide +kernel
theorem dX9_in_9 : decode cX9_in 9 = .ok (.lcmp, 1) := by decide +kernel
theorem dX9_in_10 : decode cX9_in 10 = .ok (.ifCond .gt 7, 3) := by decide +kernel
theorem dX9_in_13 : decode cX9_in 13 = .ok (.iconst 1, 1) := by decide +kernel
theorem dX9_in_14 : decode cX9_in 14 = .ok (.goto 4, 3) := by decide +kernel
theorem dX9_in_17 : decode cX9_in 17 = .ok (.iconst 0, 1) := by decide +kernel
theorem dX9_in_18 : decode cX9_in 18 = .ok (.ireturn, 1) := by decide +kernel
theorem dX9_one_0 : decode cX9_one 0 = .ok (.iload_n 0, 1) := by decide +kernel
theorem dX9_one_1 : decode cX9_one 1 = .ok (.ifCond .eq 7, 3) := by decide +kernel
theorem dX9_one_4 : decode cX9_one 4 = .ok (.iconst 1, 1) := by decide +kernel
theorem dX9_one_5 : decode cX9_one 5 = .ok (.goto 4, 3) := by decide +kernel
theorem dX9_one_8 : decode cX9_one 8 = .ok (.iconst 0, 1) := by decide +kernel
theorem dX9_one_9 : decode cX9_one 9 = .ok (.ireturn, 1) := by decide +kernel
theorem dX9_atFirst_0 : decode cX9_atFirst 0 = .ok (.iload_n 0, 1) := by decide +kernel
theorem dX9_atFirst_1 : decode cX9_atFirst 1 = .ok (.ifCond .eq 18, 3) := by decide +kernel
theorem dX9_atFirst_4 : decode cX9_atFirst 4 = .ok (.iload_n 0, 1) := by decide +kernel
theorem dX9_atFirst_5 : decode cX9_atFirst 5 = .ok (.iconst 2, 1) := by decide +kernel
theorem dX9_atFirst_6 : decode cX9_atFirst 6 = .ok (.if_icmp .eq 13, 3) := by decide +kernel
theorem dX9_atFirst_9 : decode cX9_atFirst 9 = .ok (.iload_n 0, 1) := by decide +kernel
theorem dX9_atFirst_10 : decode cX9_atFirst 10 = .ok (.iconst 3, 1) := by decide +kernel
theorem dX9_atFirst_11 : decode cX9_atFirst 11 = .ok (.if_icmp .eq 8, 3) := by decide +kernel
theorem dX9_atFirst_14 : decode cX9_atFirst 14 = .ok (.iload_n 0, 1) := by decide +kernel
theorem dX9_atFirst_15 : decode cX9_atFirst 15 = .ok (.iconst 5, 1) := by decide +kernel
theorem dX9_atFirst_16 : decode cX9_atFirst 16 = .ok (.if_icmp .ne 7, 3) := by decide +kernel
theorem dX9_atFirst_19 : decode cX9_atFirst 19 = .ok (.iconst 1, 1) := by decide +kernel
theorem dX9_atFirst_20 : decode cX9_atFirst 20 = .ok (.goto 36, 3) := by decide +kernel
theorem dX9_atFirst_23 : decode cX9_atFirst 23 = .ok (.iload_n 0, 1) := by decide +kernel
theorem dX9_atFirst_24 : decode cX9_atFirst 24 = .ok (.iconst 1, 1) := by decide +kernel
theorem dX9_atFirst_25 : decode cX9_atFirst 25 = .ok (.if_icmp .ne 7, 3) := by decide +kernel
theorem dX9_atFirst_28 : decode cX9_atFirst 28 = .ok (.iconst 3, 1) := by decide +kernel
theorem dX9_atFirst_29 : decode cX9_atFirst 29 = .ok (.goto 27, 3) := by decide +kernel
theorem dX9_atFirst_32 : decode cX9_atFirst 32 = .ok (.iload_n 0, 1) := by decide +kernel
theorem dX9_atFirst_33 : decode cX9_atFirst 33 = .ok (.bipush 6, 2) := by decide +kernel
theorem dX9_atFirst_35 : decode cX9_atFirst 35 = .ok (.if_icmp .ne 8, 3) := by decide +kernel
theorem dX9_atFirst_38 : decode cX9_atFirst 38 = .ok (.bipush 10, 2) := by decide +kernel
theorem dX9_atFirst_40 : decode cX9_atFirst 40 = .ok (.goto 16, 3) := by decide +kernel
theorem dX9_atFirst_43 : decode cX9_atFirst 43 = .ok (.iload_n 0, 1) := by decide +kernel
theorem dX9_atFirst_44 : decode cX9_atFirst 44 = .ok (.bipush 7, 2) := by decide +kernel
theorem dX9_atFirst_46 : decode cX9_atFirst 46 = .ok (.if_icmp .ne 9, 3) := by decide +kernel
theorem dX9_atFirst_49 : decode cX9_atFirst 49 = .ok (.sipush 153, 3) := by decide +kernel
theorem dX9_atFirst_52 : decode cX9_atFirst 52 = .ok (.goto 4, 3) := by decide +kernel
theorem dX9_atFirst_55 : decode cX9_atFirst 55 = .ok (.iconst 0, 1) := by decide +kernel
theorem dX9_atFirst_56 : decode cX9_atFirst 56 = .ok (.ireturn, 1) := by decide +kernel
theorem dX9_isRule_0 : decode cX9_isRule 0 = .ok (.iload_n 0, 1) := by decide +kernel
theorem dX9_isRule_1 : decode cX9_isRule 1 = .ok (.i2l, 1) := by decide +kernel
theorem dX9_isRule_2 : decode cX9_isRule 2 = .ok (.lconst 0, 1) := by decide +kernel
theorem dX9_isRule_3 : decode cX9_isRule 3 = .ok (.ldc2_w 37, 3) := by decide +kernel
theorem dX9_isRule_6 : decode cX9_isRule 6 = .ok (.invokestatic 39, 3) := by decide +kernel
theorem dX9_isRule_9 : decode cX9_isRule 9 = .ok (.ireturn, 1) := by decide +kernel
theorem dX9_isShare_0 : decode cX9_isShare 0 = .ok (.iload_n 0, 1) := by decide +kernel
theorem dX9_isShare_1 : decode cX9_isShare 1 = .ok (.i2l, 1) := by decide +kernel
theorem dX9_isShare_2 : decode cX9_isShare 2 = .ok (.lconst 0, 1) := by decide +kernel
theorem dX9_isShare_3 : decode cX9_isShare 3 = .ok (.ldc2_w 43, 3) := by decide +kernel
theorem dX9_isShare_6 : decode cX9_isShare 6 = .ok (.invokestatic 39, 3) := by decide +kernel
theorem dX9_isShare_9 : decode cX9_isShare 9 = .ok (.ireturn, 1) := by decide +kernel
theorem dX9_feed_0 : decode cX9_feed 0 = .ok (.iload_n 1, 1) := by decide +kernel
theorem dX9_feed_1 : decode cX9_feed 1 = .ok (.i2l, 1) := by decide +kernel
theorem dX9_feed_2 : decode cX9_feed 2 = .ok (.lconst 1, 1) := by decide +kernel
theorem dX9_feed_3 : decode cX9_feed 3 = .ok (.ldc2_w 45, 3) := by decide +kernel
theorem dX9_feed_6 : decode cX9_feed 6 = .ok (.invokestatic 39, 3) := by decide +kernel
theorem dX9_feed_9 : decode cX9_feed 9 = .ok (.ifCond .ne 7, 3) := by decide +kernel
theorem dX9_feed_12 : decode cX9_feed 12 = .ok (.sipush (-1002), 3) := by decide +kernel
theorem dX9_feed_15 : decode cX9_feed 15 = .ok (.ireturn, 1) := by decide +kernel
theorem dX9_feed_16 : decode cX9_feed 16 = .ok (.aload_n 0, 1) := by decide +kernel
theorem dX9_feed_17 : decode cX9_feed 17 = .ok (.getfield 47, 3) := by decide +kernel
theorem dX9_feed_20 : decode cX9_feed 20 = .ok (.iload_n 1, 1) := by decide +kernel
theorem dX9_feed_21 : decode cX9_feed 21 = .ok (.iadd, 1) := by decide +kernel
theorem dX9_feed_22 : decode cX9_feed 22 = .ok (.bipush 120, 2) := by decide +kernel
theorem dX9_feed_24 : decode cX9_feed 24 = .ok (.if_icmp .le 7, 3) := by decide +kernel
theorem dX9_feed_27 : decode cX9_feed 27 = .ok (.sipush (-1004), 3) := by decide +kernel
theorem dX9_feed_30 : decode cX9_feed 30 = .ok (.ireturn, 1) := by decide +kernel
theorem dX9_feed_31 : decode cX9_feed 31 = .ok (.iload_n 1, 1) := by decide +kernel
theorem dX9_feed_32 : decode cX9_feed 32 = .ok (.iconst 1, 1) := by decide +kernel
theorem dX9_feed_33 : decode cX9_feed 33 = .ok (.isub, 1) := by decide +kernel
theorem dX9_feed_34 : decode cX9_feed 34 = .ok (.istore 4, 2) := by decide +kernel
theorem dX9_feed_36 : decode cX9_feed 36 = .ok (.iload 4, 2) := by decide +kernel
theorem dX9_feed_38 : decode cX9_feed 38 = .ok (.ifCond .lt 40, 3) := by decide +kernel
theorem dX9_feed_41 : decode cX9_feed 41 = .ok (.aload_n 0, 1) := by decide +kernel
theorem dX9_feed_42 : decode cX9_feed 42 = .ok (.getfield 16, 3) := by decide +kernel
theorem dX9_feed_45 : decode cX9_feed 45 = .ok (.aload_n 0, 1) := by decide +kernel
theorem dX9_feed_46 : decode cX9_feed 46 = .ok (.getfield 47, 3) := by decide +kernel
theorem dX9_feed_49 : decode cX9_feed 49 = .ok (.lload_n 2, 1) := by decide +kernel
theorem dX9_feed_50 : decode cX9_feed 50 = .ok (.bipush 8, 2) := by decide +kernel
theorem dX9_feed_52 : decode cX9_feed 52 = .ok (.iload 4, 2) := by decide +kernel
theorem dX9_feed_54 : decode cX9_feed 54 = .ok (.imul, 1) := by decide +kernel
theorem dX9_feed_55 : decode cX9_feed 55 = .ok (.lshr, 1) := by decide +kernel
theorem dX9_feed_56 : decode cX9_feed 56 = .ok (.ldc2_w 50, 3) := by decide +kernel
theorem dX9_feed_59 : decode cX9_feed 59 = .ok (.land, 1) := by decide +kernel
theorem dX9_feed_60 : decode cX9_feed 60 = .ok (.l2i, 1) := by decide +kernel
theorem dX9_feed_61 : decode cX9_feed 61 = .ok (.iastore, 1) := by decide +kernel
theorem dX9_feed_62 : decode cX9_feed 62 = .ok (.aload_n 0, 1) := by decide +kernel
theorem dX9_feed_63 : decode cX9_feed 63 = .ok (.dup, 1) := by decide +kernel
theorem dX9_feed_64 : decode cX9_feed 64 = .ok (.getfield 47, 3) := by decide +kernel
theorem dX9_feed_67 : decode cX9_feed 67 = .ok (.iconst 1, 1) := by decide +kernel
theorem dX9_feed_68 : decode cX9_feed 68 = .ok (.iadd, 1) := by decide +kernel
theorem dX9_feed_69 : decode cX9_feed 69 = .ok (.putfield 47, 3) := by decide +kernel
theorem dX9_feed_72 : decode cX9_feed 72 = .ok (.iinc 4 (-1), 3) := by decide +kernel
theorem dX9_feed_75 : decode cX9_feed 75 = .ok (.goto (-39), 3) := by decide +kernel
theorem dX9_feed_78 : decode cX9_feed 78 = .ok (.aload_n 0, 1) := by decide +kernel
theorem dX9_feed_79 : decode cX9_feed 79 = .ok (.getfield 47, 3) := by decide +kernel
theorem dX9_feed_82 : decode cX9_feed 82 = .ok (.ireturn, 1) := by decide +kernel
theorem dX9_here_0 : decode cX9_here 0 = .ok (.aload_n 0, 1) := by decide +kernel
theorem dX9_here_1 : decode cX9_here 1 = .ok (.getfield 52, 3) := by decide +kernel
theorem dX9_here_4 : decode cX9_here 4 = .ok (.aload_n 0, 1) := by decide +kernel
theorem dX9_here_5 : decode cX9_here 5 = .ok (.getfield 47, 3) := by decide +kernel
theorem dX9_here_8 : decode cX9_here 8 = .ok (.if_icmp .ge 30, 3) := by decide +kernel
theorem dX9_here_11 : decode cX9_here 11 = .ok (.aload_n 0, 1) := by decide +kernel
theorem dX9_here_12 : decode cX9_here 12 = .ok (.getfield 16, 3) := by decide +kernel
theorem dX9_here_15 : decode cX9_here 15 = .ok (.aload_n 0, 1) := by decide +kernel
theorem dX9_here_16 : decode cX9_here 16 = .ok (.getfield 52, 3) := by decide +kernel
theorem dX9_here_19 : decode cX9_here 19 = .ok (.iaload, 1) := by decide +kernel
theorem dX9_here_20 : decode cX9_here 20 = .ok (.bipush 32, 2) := by decide +kernel
theorem dX9_here_22 : decode cX9_here 22 = .ok (.if_icmp .ne 16, 3) := by decide +kernel
theorem dX9_here_25 : decode cX9_here 25 = .ok (.aload_n 0, 1) := by decide +kernel
theorem dX9_here_26 : decode cX9_here 26 = .ok (.dup, 1) := by decide +kernel
theorem dX9_here_27 : decode cX9_here 27 = .ok (.getfield 52, 3) := by decide +kernel
theorem dX9_here_30 : decode cX9_here 30 = .ok (.iconst 1, 1) := by decide +kernel
theorem dX9_here_31 : decode cX9_here 31 = .ok (.iadd, 1) := by decide +kernel
theorem dX9_here_32 : decode cX9_here 32 = .ok (.putfield 52, 3) := by decide +kernel
theorem dX9_here_35 : decode cX9_here 35 = .ok (.goto (-35), 3) := by decide +kernel
theorem dX9_here_38 : decode cX9_here 38 = .ok (.aload_n 0, 1) := by decide +kernel
theorem dX9_here_39 : decode cX9_here 39 = .ok (.getfield 52, 3) := by decide +kernel
theorem dX9_here_42 : decode cX9_here 42 = .ok (.aload_n 0, 1) := by decide +kernel
theorem dX9_here_43 : decode cX9_here 43 = .ok (.getfield 47, 3) := by decide +kernel
theorem dX9_here_46 : decode cX9_here 46 = .ok (.if_icmp .ge 15, 3) := by decide +kernel
theorem dX9_here_49 : decode cX9_here 49 = .ok (.aload_n 0, 1) := by decide +kernel
theorem dX9_here_50 : decode cX9_here 50 = .ok (.getfield 16, 3) := by decide +kernel
theorem dX9_here_53 : decode cX9_here 53 = .ok (.aload_n 0, 1) := by decide +kernel
theorem dX9_here_54 : decode cX9_here 54 = .ok (.getfield 52, 3) := by decide +kernel
theorem dX9_here_57 : decode cX9_here 57 = .ok (.iaload, 1) := by decide +kernel
theorem dX9_here_58 : decode cX9_here 58 = .ok (.goto 4, 3) := by decide +kernel
theorem dX9_here_61 : decode cX9_here 61 = .ok (.iconst (-1), 1) := by decide +kernel
theorem dX9_here_62 : decode cX9_here 62 = .ok (.ireturn, 1) := by decide +kernel
theorem dX9_want_0 : decode cX9_want 0 = .ok (.iload_n 1, 1) := by decide +kernel
theorem dX9_want_1 : decode cX9_want 1 = .ok (.ifCond .ne 20, 3) := by decide +kernel
theorem dX9_want_4 : decode cX9_want 4 = .ok (.aload_n 0, 1) := by decide +kernel
theorem dX9_want_5 : decode cX9_want 5 = .ok (.getfield 55, 3) := by decide +kernel
theorem dX9_want_8 : decode cX9_want 8 = .ok (.ifCond .ne 13, 3) := by decide +kernel
theorem dX9_want_11 : decode cX9_want 11 = .ok (.aload_n 0, 1) := by decide +kernel
theorem dX9_want_12 : decode cX9_want 12 = .ok (.iload_n 2, 1) := by decide +kernel
theorem dX9_want_13 : decode cX9_want 13 = .ok (.putfield 55, 3) := by decide +kernel
theorem dX9_want_16 : decode cX9_want 16 = .ok (.aload_n 0, 1) := by decide +kernel
theorem dX9_want_17 : decode cX9_want 17 = .ok (.iload_n 3, 1) := by decide +kernel
theorem dX9_want_18 : decode cX9_want 18 = .ok (.putfield 19, 3) := by decide +kernel
theorem dX9_want_21 : decode cX9_want 21 = .ok (.aload_n 0, 1) := by decide +kernel
theorem dX9_want_22 : decode cX9_want 22 = .ok (.getfield 55, 3) := by decide +kernel
theorem dX9_want_25 : decode cX9_want 25 = .ok (.ifCond .ne 7, 3) := by decide +kernel
theorem dX9_want_28 : decode cX9_want 28 = .ok (.iconst 1, 1) := by decide +kernel
theorem dX9_want_29 : decode cX9_want 29 = .ok (.goto 4, 3) := by decide +kernel
theorem dX9_want_32 : decode cX9_want 32 = .ok (.iconst 0, 1) := by decide +kernel
theorem dX9_want_33 : decode cX9_want 33 = .ok (.ireturn, 1) := by decide +kernel
theorem dX9_takeWord_0 : decode cX9_takeWord 0 = .ok (.aload_n 0, 1) := by decide +kernel
theorem dX9_takeWord_1 : decode cX9_takeWord 1 = .ok (.invokevirtual 58, 3) := by decide +kernel
theorem dX9_takeWord_4 : decode cX9_takeWord 4 = .ok (.istore_n 1, 1) := by decide +kernel
theorem dX9_takeWord_5 : decode cX9_takeWord 5 = .ok (.aload_n 0, 1) := by decide +kernel
theorem dX9_takeWord_6 : decode cX9_takeWord 6 = .ok (.aload_n 0, 1) := by decide +kernel
theorem dX9_takeWord_7 : decode cX9_takeWord 7 = .ok (.getfield 52, 3) := by decide +kernel
theorem dX9_takeWord_10 : decode cX9_takeWord 10 = .ok (.putfield 62, 3) := by decide +kernel
theorem dX9_takeWord_13 : decode cX9_takeWord 13 = .ok (.aload_n 0, 1) := by decide +kernel
theorem dX9_takeWord_14 : decode cX9_takeWord 14 = .ok (.getfield 52, 3) := by decide +kernel
theorem dX9_takeWord_17 : decode cX9_takeWord 17 = .ok (.aload_n 0, 1) := by decide +kernel
theorem dX9_takeWord_18 : decode cX9_takeWord 18 = .ok (.getfield 47, 3) := by decide +kernel
theorem dX9_takeWord_21 : decode cX9_takeWord 21 = .ok (.if_icmp .ge 38, 3) := by decide +kernel
theorem dX9_takeWord_24 : decode cX9_takeWord 24 = .ok (.aload_n 0, 1) := by decide +kernel
theorem dX9_takeWord_25 : decode cX9_takeWord 25 = .ok (.getfield 16, 3) := by decide +kernel
theorem dX9_takeWord_28 : decode cX9_takeWord 28 = .ok (.aload_n 0, 1) := by decide +kernel
theorem dX9_takeWord_29 : decode cX9_takeWord 29 = .ok (.getfield 52, 3) := by decide +kernel
theorem dX9_takeWord_32 : decode cX9_takeWord 32 = .ok (.iaload, 1) := by decide +kernel
theorem dX9_takeWord_33 : decode cX9_takeWord 33 = .ok (.i2l, 1) := by decide +kernel
theorem dX9_takeWord_34 : decode cX9_takeWord 34 = .ok (.ldc2_w 65, 3) := by decide +kernel
theorem dX9_takeWord_37 : decode cX9_takeWord 37 = .ok (.ldc2_w 67, 3) := by decide +kernel
theorem dX9_takeWord_40 : decode cX9_takeWord 40 = .ok (.invokestatic 39, 3) := by decide +kernel
theorem dX9_takeWord_43 : decode cX9_takeWord 43 = .ok (.ifCond .eq 16, 3) := by decide +kernel
theorem dX9_takeWord_46 : decode cX9_takeWord 46 = .ok (.aload_n 0, 1) := by decide +kernel
theorem dX9_takeWord_47 : decode cX9_takeWord 47 = .ok (.dup, 1) := by decide +kernel
theorem dX9_takeWord_48 : decode cX9_takeWord 48 = .ok (.getfield 52, 3) := by decide +kernel
theorem dX9_takeWord_51 : decode cX9_takeWord 51 = .ok (.iconst 1, 1) := by decide +kernel
theorem dX9_takeWord_52 : decode cX9_takeWord 52 = .ok (.iadd, 1) := by decide +kernel
theorem dX9_takeWord_53 : decode cX9_takeWord 53 = .ok (.putfield 52, 3) := by decide +kernel
theorem dX9_takeWord_56 : decode cX9_takeWord 56 = .ok (.goto (-43), 3) := by decide +kernel
theorem dX9_takeWord_59 : decode cX9_takeWord 59 = .ok (.aload_n 0, 1) := by decide +kernel
theorem dX9_takeWord_60 : decode cX9_takeWord 60 = .ok (.aload_n 0, 1) := by decide +kernel
theorem dX9_takeWord_61 : decode cX9_takeWord 61 = .ok (.getfield 52, 3) := by decide +kernel
theorem dX9_takeWord_64 : decode cX9_takeWord 64 = .ok (.aload_n 0, 1) := by decide +kernel
theorem dX9_takeWord_65 : decode cX9_takeWord 65 = .ok (.getfield 62, 3) := by decide +kernel
theorem dX9_takeWord_68 : decode cX9_takeWord 68 = .ok (.isub, 1) := by decide +kernel
theorem dX9_takeWord_69 : decode cX9_takeWord 69 = .ok (.putfield 69, 3) := by decide +kernel
theorem dX9_takeWord_72 : decode cX9_takeWord 72 = .ok (.return_, 1) := by decide +kernel
theorem dX9_isWord_0 : decode cX9_isWord 0 = .ok (.aload_n 0, 1) := by decide +kernel
theorem dX9_isWord_1 : decode cX9_isWord 1 = .ok (.getfield 69, 3) := by decide +kernel
theorem dX9_isWord_4 : decode cX9_isWord 4 = .ok (.iload_n 1, 1) := by decide +kernel
theorem dX9_isWord_5 : decode cX9_isWord 5 = .ok (.if_icmp .ne 7, 3) := by decide +kernel
theorem dX9_isWord_8 : decode cX9_isWord 8 = .ok (.iconst 1, 1) := by decide +kernel
theorem dX9_isWord_9 : decode cX9_isWord 9 = .ok (.goto 4, 3) := by decide +kernel
theorem dX9_isWord_12 : decode cX9_isWord 12 = .ok (.iconst 0, 1) := by decide +kernel
theorem dX9_isWord_13 : decode cX9_isWord 13 = .ok (.istore 8, 2) := by decide +kernel
theorem dX9_isWord_15 : decode cX9_isWord 15 = .ok (.iconst 0, 1) := by decide +kernel
theorem dX9_isWord_16 : decode cX9_isWord 16 = .ok (.istore 9, 2) := by decide +kernel
theorem dX9_isWord_18 : decode cX9_isWord 18 = .ok (.iload 9, 2) := by decide +kernel
theorem dX9_isWord_20 : decode cX9_isWord 20 = .ok (.iload_n 1, 1) := by decide +kernel
theorem dX9_isWord_21 : decode cX9_isWord 21 = .ok (.if_icmp .ge 90, 3) := by decide +kernel
theorem dX9_isWord_24 : decode cX9_isWord 24 = .ok (.iload 8, 2) := by decide +kernel
theorem dX9_isWord_26 : decode cX9_isWord 26 = .ok (.ifCond .eq 85, 3) := by decide +kernel
theorem dX9_isWord_29 : decode cX9_isWord 29 = .ok (.aload_n 0, 1) := by decide +kernel
theorem dX9_isWord_30 : decode cX9_isWord 30 = .ok (.getfield 16, 3) := by decide +kernel
theorem dX9_isWord_33 : decode cX9_isWord 33 = .ok (.aload_n 0, 1) := by decide +kernel
theorem dX9_isWord_34 : decode cX9_isWord 34 = .ok (.getfield 62, 3) := by decide +kernel
theorem dX9_isWord_37 : decode cX9_isWord 37 = .ok (.iload 9, 2) := by decide +kernel
theorem dX9_isWord_39 : decode cX9_isWord 39 = .ok (.iadd, 1) := by decide +kernel
theorem dX9_isWord_40 : decode cX9_isWord 40 = .ok (.iaload, 1) := by decide +kernel
theorem dX9_isWord_41 : decode cX9_isWord 41 = .ok (.iload 9, 2) := by decide +kernel
theorem dX9_isWord_43 : decode cX9_isWord 43 = .ok (.ifCond .ne 7, 3) := by decide +kernel
theorem dX9_isWord_46 : decode cX9_isWord 46 = .ok (.iload_n 2, 1) := by decide +kernel
theorem dX9_isWord_47 : decode cX9_isWord 47 = .ok (.goto 48, 3) := by decide +kernel
theorem dX9_isWord_50 : decode cX9_isWord 50 = .ok (.iload 9, 2) := by decide +kernel
theorem dX9_isWord_52 : decode cX9_isWord 52 = .ok (.iconst 1, 1) := by decide +kernel
theorem dX9_isWord_53 : decode cX9_isWord 53 = .ok (.if_icmp .ne 7, 3) := by decide +kernel
theorem dX9_isWord_56 : decode cX9_isWord 56 = .ok (.iload_n 3, 1) := by decide +kernel
theorem dX9_isWord_57 : decode cX9_isWord 57 = .ok (.goto 38, 3) := by decide +kernel
theorem dX9_isWord_60 : decode cX9_isWord 60 = .ok (.iload 9, 2) := by decide +kernel
theorem dX9_isWord_62 : decode cX9_isWord 62 = .ok (.iconst 2, 1) := by decide +kernel
theorem dX9_isWord_63 : decode cX9_isWord 63 = .ok (.if_icmp .ne 8, 3) := by decide +kernel
theorem dX9_isWord_66 : decode cX9_isWord 66 = .ok (.iload 4, 2) := by decide +kernel
theorem dX9_isWord_68 : decode cX9_isWord 68 = .ok (.goto 27, 3) := by decide +kernel
theorem dX9_isWord_71 : decode cX9_isWord 71 = .ok (.iload 9, 2) := by decide +kernel
theorem dX9_isWord_73 : decode cX9_isWord 73 = .ok (.iconst 3, 1) := by decide +kernel
theorem dX9_isWord_74 : decode cX9_isWord 74 = .ok (.if_icmp .ne 8, 3) := by decide +kernel
theorem dX9_isWord_77 : decode cX9_isWord 77 = .ok (.iload 5, 2) := by decide +kernel
theorem dX9_isWord_79 : decode cX9_isWord 79 = .ok (.goto 16, 3) := by decide +kernel
theorem dX9_isWord_82 : decode cX9_isWord 82 = .ok (.iload 9, 2) := by decide +kernel
theorem dX9_isWord_84 : decode cX9_isWord 84 = .ok (.iconst 4, 1) := by decide +kernel
theorem dX9_isWord_85 : decode cX9_isWord 85 = .ok (.if_icmp .ne 8, 3) := by decide +kernel
theorem dX9_isWord_88 : decode cX9_isWord 88 = .ok (.iload 6, 2) := by decide +kernel
theorem dX9_isWord_90 : decode cX9_isWord 90 = .ok (.goto 5, 3) := by decide +kernel
theorem dX9_isWord_93 : decode cX9_isWord 93 = .ok (.iload 7, 2) := by decide +kernel
theorem dX9_isWord_95 : decode cX9_isWord 95 = .ok (.if_icmp .ne 7, 3) := by decide +kernel
theorem dX9_isWord_98 : decode cX9_isWord 98 = .ok (.iconst 1, 1) := by decide +kernel
theorem dX9_isWord_99 : decode cX9_isWord 99 = .ok (.goto 4, 3) := by decide +kernel
theorem dX9_isWord_102 : decode cX9_isWord 102 = .ok (.iconst 0, 1) := by decide +kernel
theorem dX9_isWord_103 : decode cX9_isWord 103 = .ok (.istore 8, 2) := by decide +kernel
theorem dX9_isWord_105 : decode cX9_isWord 105 = .ok (.iinc 9 1, 3) := by decide +kernel
theorem dX9_isWord_108 : decode cX9_isWord 108 = .ok (.goto (-90), 3) := by decide +kernel
theorem dX9_isWord_111 : decode cX9_isWord 111 = .ok (.iload 8, 2) := by decide +kernel
theorem dX9_isWord_113 : decode cX9_isWord 113 = .ok (.ireturn, 1) := by decide +kernel
theorem dX9_takeNumber_0 : decode cX9_takeNumber 0 = .ok (.aload_n 0, 1) := by decide +kernel
theorem dX9_takeNumber_1 : decode cX9_takeNumber 1 = .ok (.getfield 55, 3) := by decide +kernel
theorem dX9_takeNumber_4 : decode cX9_takeNumber 4 = .ok (.ifCond .le 5, 3) := by decide +kernel
theorem dX9_takeNumber_7 : decode cX9_takeNumber 7 = .ok (.iconst 0, 1) := by decide +kernel
theorem dX9_takeNumber_8 : decode cX9_takeNumber 8 = .ok (.ireturn, 1) := by decide +kernel
theorem dX9_takeNumber_9 : decode cX9_takeNumber 9 = .ok (.aload_n 0, 1) := by decide +kernel
theorem dX9_takeNumber_10 : decode cX9_takeNumber 10 = .ok (.invokevirtual 58, 3) := by decide +kernel
theorem dX9_takeNumber_13 : decode cX9_takeNumber 13 = .ok (.istore_n 3, 1) := by decide +kernel
theorem dX9_takeNumber_14 : decode cX9_takeNumber 14 = .ok (.aload_n 0, 1) := by decide +kernel
theorem dX9_takeNumber_15 : decode cX9_takeNumber 15 = .ok (.aload_n 0, 1) := by decide +kernel
theorem dX9_takeNumber_16 : decode cX9_takeNumber 16 = .ok (.getfield 52, 3) := by decide +kernel
theorem dX9_takeNumber_19 : decode cX9_takeNumber 19 = .ok (.putfield 62, 3) := by decide +kernel
theorem dX9_takeNumber_22 : decode cX9_takeNumber 22 = .ok (.aload_n 0, 1) := by decide +kernel
theorem dX9_takeNumber_23 : decode cX9_takeNumber 23 = .ok (.iload_n 3, 1) := by decide +kernel
theorem dX9_takeNumber_24 : decode cX9_takeNumber 24 = .ok (.i2l, 1) := by decide +kernel
theorem dX9_takeNumber_25 : decode cX9_takeNumber 25 = .ok (.ldc2_w 72, 3) := by decide +kernel
theorem dX9_takeNumber_28 : decode cX9_takeNumber 28 = .ok (.ldc2_w 74, 3) := by decide +kernel
theorem dX9_takeNumber_31 : decode cX9_takeNumber 31 = .ok (.invokestatic 39, 3) := by decide +kernel
theorem dX9_takeNumber_34 : decode cX9_takeNumber 34 = .ok (.iconst 1, 1) := by decide +kernel
theorem dX9_takeNumber_35 : decode cX9_takeNumber 35 = .ok (.aload_n 0, 1) := by decide +kernel
theorem dX9_takeNumber_36 : decode cX9_takeNumber 36 = .ok (.getfield 52, 3) := by decide +kernel
theorem dX9_takeNumber_39 : decode cX9_takeNumber 39 = .ok (.invokevirtual 76, 3) := by decide +kernel
theorem dX9_takeNumber_42 : decode cX9_takeNumber 42 = .ok (.ifCond .ne 5, 3) := by decide +kernel
theorem dX9_takeNumber_45 : decode cX9_takeNumber 45 = .ok (.iconst 0, 1) := by decide +kernel
theorem dX9_takeNumber_46 : decode cX9_takeNumber 46 = .ok (.ireturn, 1) := by decide +kernel
theorem dX9_takeNumber_47 : decode cX9_takeNumber 47 = .ok (.iconst 0, 1) := by decide +kernel
theorem dX9_takeNumber_48 : decode cX9_takeNumber 48 = .ok (.istore 4, 2) := by decide +kernel
theorem dX9_takeNumber_50 : decode cX9_takeNumber 50 = .ok (.aload_n 0, 1) := by decide +kernel
theorem dX9_takeNumber_51 : decode cX9_takeNumber 51 = .ok (.getfield 52, 3) := by decide +kernel
theorem dX9_takeNumber_54 : decode cX9_takeNumber 54 = .ok (.aload_n 0, 1) := by decide +kernel
theorem dX9_takeNumber_55 : decode cX9_takeNumber 55 = .ok (.getfield 47, 3) := by decide +kernel
theorem dX9_takeNumber_58 : decode cX9_takeNumber 58 = .ok (.if_icmp .ge 71, 3) := by decide +kernel
theorem dX9_takeNumber_61 : decode cX9_takeNumber 61 = .ok (.aload_n 0, 1) := by decide +kernel
theorem dX9_takeNumber_62 : decode cX9_takeNumber 62 = .ok (.getfield 16, 3) := by decide +kernel
theorem dX9_takeNumber_65 : decode cX9_takeNumber 65 = .ok (.aload_n 0, 1) := by decide +kernel
theorem dX9_takeNumber_66 : decode cX9_takeNumber 66 = .ok (.getfield 52, 3) := by decide +kernel
theorem dX9_takeNumber_69 : decode cX9_takeNumber 69 = .ok (.iaload, 1) := by decide +kernel
theorem dX9_takeNumber_70 : decode cX9_takeNumber 70 = .ok (.i2l, 1) := by decide +kernel
theorem dX9_takeNumber_71 : decode cX9_takeNumber 71 = .ok (.ldc2_w 72, 3) := by decide +kernel
theorem dX9_takeNumber_74 : decode cX9_takeNumber 74 = .ok (.ldc2_w 74, 3) := by decide +kernel
theorem dX9_takeNumber_77 : decode cX9_takeNumber 77 = .ok (.invokestatic 39, 3) := by decide +kernel
theorem dX9_takeNumber_80 : decode cX9_takeNumber 80 = .ok (.ifCond .eq 49, 3) := by decide +kernel
theorem dX9_takeNumber_83 : decode cX9_takeNumber 83 = .ok (.iload 4, 2) := by decide +kernel
theorem dX9_takeNumber_85 : decode cX9_takeNumber 85 = .ok (.sipush 999, 3) := by decide +kernel
theorem dX9_takeNumber_88 : decode cX9_takeNumber 88 = .ok (.if_icmp .le 8, 3) := by decide +kernel
theorem dX9_takeNumber_91 : decode cX9_takeNumber 91 = .ok (.iload 4, 2) := by decide +kernel
theorem dX9_takeNumber_93 : decode cX9_takeNumber 93 = .ok (.goto 21, 3) := by decide +kernel
theorem dX9_takeNumber_96 : decode cX9_takeNumber 96 = .ok (.bipush 10, 2) := by decide +kernel
theorem dX9_takeNumber_98 : decode cX9_takeNumber 98 = .ok (.iload 4, 2) := by decide +kernel
theorem dX9_takeNumber_100 : decode cX9_takeNumber 100 = .ok (.imul, 1) := by decide +kernel
theorem dX9_takeNumber_101 : decode cX9_takeNumber 101 = .ok (.aload_n 0, 1) := by decide +kernel
theorem dX9_takeNumber_102 : decode cX9_takeNumber 102 = .ok (.getfield 16, 3) := by decide +kernel
theorem dX9_takeNumber_105 : decode cX9_takeNumber 105 = .ok (.aload_n 0, 1) := by decide +kernel
theorem dX9_takeNumber_106 : decode cX9_takeNumber 106 = .ok (.getfield 52, 3) := by decide +kernel
theorem dX9_takeNumber_109 : decode cX9_takeNumber 109 = .ok (.iaload, 1) := by decide +kernel
theorem dX9_takeNumber_110 : decode cX9_takeNumber 110 = .ok (.iadd, 1) := by decide +kernel
theorem dX9_takeNumber_111 : decode cX9_takeNumber 111 = .ok (.bipush 48, 2) := by decide +kernel
theorem dX9_takeNumber_113 : decode cX9_takeNumber 113 = .ok (.isub, 1) := by decide +kernel
theorem dX9_takeNumber_114 : decode cX9_takeNumber 114 = .ok (.istore 4, 2) := by decide +kernel
theorem dX9_takeNumber_116 : decode cX9_takeNumber 116 = .ok (.aload_n 0, 1) := by decide +kernel
theorem dX9_takeNumber_117 : decode cX9_takeNumber 117 = .ok (.dup, 1) := by decide +kernel
theorem dX9_takeNumber_118 : decode cX9_takeNumber 118 = .ok (.getfield 52, 3) := by decide +kernel
theorem dX9_takeNumber_121 : decode cX9_takeNumber 121 = .ok (.iconst 1, 1) := by decide +kernel
theorem dX9_takeNumber_122 : decode cX9_takeNumber 122 = .ok (.iadd, 1) := by decide +kernel
theorem dX9_takeNumber_123 : decode cX9_takeNumber 123 = .ok (.putfield 52, 3) := by decide +kernel
theorem dX9_takeNumber_126 : decode cX9_takeNumber 126 = .ok (.goto (-76), 3) := by decide +kernel
theorem dX9_takeNumber_129 : decode cX9_takeNumber 129 = .ok (.aload_n 0, 1) := by decide +kernel
theorem dX9_takeNumber_130 : decode cX9_takeNumber 130 = .ok (.aload_n 0, 1) := by decide +kernel
theorem dX9_takeNumber_131 : decode cX9_takeNumber 131 = .ok (.getfield 52, 3) := by decide +kernel
theorem dX9_takeNumber_134 : decode cX9_takeNumber 134 = .ok (.aload_n 0, 1) := by decide +kernel
theorem dX9_takeNumber_135 : decode cX9_takeNumber 135 = .ok (.getfield 62, 3) := by decide +kernel
theorem dX9_takeNumber_138 : decode cX9_takeNumber 138 = .ok (.isub, 1) := by decide +kernel
theorem dX9_takeNumber_139 : decode cX9_takeNumber 139 = .ok (.iconst 3, 1) := by decide +kernel
theorem dX9_takeNumber_140 : decode cX9_takeNumber 140 = .ok (.if_icmp .ge 20, 3) := by decide +kernel
theorem dX9_takeNumber_143 : decode cX9_takeNumber 143 = .ok (.iload 4, 2) := by decide +kernel
theorem dX9_takeNumber_145 : decode cX9_takeNumber 145 = .ok (.i2l, 1) := by decide +kernel
theorem dX9_takeNumber_146 : decode cX9_takeNumber 146 = .ok (.iload_n 1, 1) := by decide +kernel
theorem dX9_takeNumber_147 : decode cX9_takeNumber 147 = .ok (.i2l, 1) := by decide +kernel
theorem dX9_takeNumber_148 : decode cX9_takeNumber 148 = .ok (.iload_n 2, 1) := by decide +kernel
theorem dX9_takeNumber_149 : decode cX9_takeNumber 149 = .ok (.i2l, 1) := by decide +kernel
theorem dX9_takeNumber_150 : decode cX9_takeNumber 150 = .ok (.invokestatic 39, 3) := by decide +kernel
theorem dX9_takeNumber_153 : decode cX9_takeNumber 153 = .ok (.ifCond .eq 7, 3) := by decide +kernel
theorem dX9_takeNumber_156 : decode cX9_takeNumber 156 = .ok (.iconst 1, 1) := by decide +kernel
theorem dX9_takeNumber_157 : decode cX9_takeNumber 157 = .ok (.goto 4, 3) := by decide +kernel
theorem dX9_takeNumber_160 : decode cX9_takeNumber 160 = .ok (.iconst 0, 1) := by decide +kernel
theorem dX9_takeNumber_161 : decode cX9_takeNumber 161 = .ok (.iconst 2, 1) := by decide +kernel
theorem dX9_takeNumber_162 : decode cX9_takeNumber 162 = .ok (.aload_n 0, 1) := by decide +kernel
theorem dX9_takeNumber_163 : decode cX9_takeNumber 163 = .ok (.getfield 62, 3) := by decide +kernel
theorem dX9_takeNumber_166 : decode cX9_takeNumber 166 = .ok (.invokevirtual 76, 3) := by decide +kernel
theorem dX9_takeNumber_169 : decode cX9_takeNumber 169 = .ok (.istore 5, 2) := by decide +kernel
theorem dX9_takeNumber_171 : decode cX9_takeNumber 171 = .ok (.iload 4, 2) := by decide +kernel
theorem dX9_takeNumber_173 : decode cX9_takeNumber 173 = .ok (.ireturn, 1) := by decide +kernel
theorem dX9_kindOf_0 : decode cX9_kindOf 0 = .ok (.aload_n 0, 1) := by decide +kernel
theorem dX9_kindOf_1 : decode cX9_kindOf 1 = .ok (.iconst 4, 1) := by decide +kernel
theorem dX9_kindOf_2 : decode cX9_kindOf 2 = .ok (.bipush 99, 2) := by decide +kernel
theorem dX9_kindOf_4 : decode cX9_kindOf 4 = .ok (.bipush 111, 2) := by decide +kernel
theorem dX9_kindOf_6 : decode cX9_kindOf 6 = .ok (.bipush 115, 2) := by decide +kernel
theorem dX9_kindOf_8 : decode cX9_kindOf 8 = .ok (.bipush 116, 2) := by decide +kernel
theorem dX9_kindOf_10 : decode cX9_kindOf 10 = .ok (.iconst 0, 1) := by decide +kernel
theorem dX9_kindOf_11 : decode cX9_kindOf 11 = .ok (.iconst 0, 1) := by decide +kernel
theorem dX9_kindOf_12 : decode cX9_kindOf 12 = .ok (.invokevirtual 80, 3) := by decide +kernel
theorem dX9_kindOf_15 : decode cX9_kindOf 15 = .ok (.ifCond .eq 5, 3) := by decide +kernel
theorem dX9_kindOf_18 : decode cX9_kindOf 18 = .ok (.iconst 0, 1) := by decide +kernel
theorem dX9_kindOf_19 : decode cX9_kindOf 19 = .ok (.ireturn, 1) := by decide +kernel
theorem dX9_kindOf_20 : decode cX9_kindOf 20 = .ok (.aload_n 0, 1) := by decide +kernel
theorem dX9_kindOf_21 : decode cX9_kindOf 21 = .ok (.iconst 5, 1) := by decide +kernel
theorem dX9_kindOf_22 : decode cX9_kindOf 22 = .ok (.bipush 119, 2) := by decide +kernel
theorem dX9_kindOf_24 : decode cX9_kindOf 24 = .ok (.bipush 111, 2) := by decide +kernel
theorem dX9_kindOf_26 : decode cX9_kindOf 26 = .ok (.bipush 114, 2) := by decide +kernel
theorem dX9_kindOf_28 : decode cX9_kindOf 28 = .ok (.bipush 116, 2) := by decide +kernel
theorem dX9_kindOf_30 : decode cX9_kindOf 30 = .ok (.bipush 104, 2) := by decide +kernel
theorem dX9_kindOf_32 : decode cX9_kindOf 32 = .ok (.iconst 0, 1) := by decide +kernel
theorem dX9_kindOf_33 : decode cX9_kindOf 33 = .ok (.invokevirtual 80, 3) := by decide +kernel
theorem dX9_kindOf_36 : decode cX9_kindOf 36 = .ok (.ifCond .eq 5, 3) := by decide +kernel
theorem dX9_kindOf_39 : decode cX9_kindOf 39 = .ok (.iconst 1, 1) := by decide +kernel
theorem dX9_kindOf_40 : decode cX9_kindOf 40 = .ok (.ireturn, 1) := by decide +kernel
theorem dX9_kindOf_41 : decode cX9_kindOf 41 = .ok (.aload_n 0, 1) := by decide +kernel
theorem dX9_kindOf_42 : decode cX9_kindOf 42 = .ok (.iconst 4, 1) := by decide +kernel
theorem dX9_kindOf_43 : decode cX9_kindOf 43 = .ok (.bipush 104, 2) := by decide +kernel
theorem dX9_kindOf_45 : decode cX9_kindOf 45 = .ok (.bipush 97, 2) := by decide +kernel
theorem dX9_kindOf_47 : decode cX9_kindOf 47 = .ok (.bipush 110, 2) := by decide +kernel
theorem dX9_kindOf_49 : decode cX9_kindOf 49 = .ok (.bipush 100, 2) := by decide +kernel
theorem dX9_kindOf_51 : decode cX9_kindOf 51 = .ok (.iconst 0, 1) := by decide +kernel
theorem dX9_kindOf_52 : decode cX9_kindOf 52 = .ok (.iconst 0, 1) := by decide +kernel
theorem dX9_kindOf_53 : decode cX9_kindOf 53 = .ok (.invokevirtual 80, 3) := by decide +kernel
theorem dX9_kindOf_56 : decode cX9_kindOf 56 = .ok (.ifCond .eq 5, 3) := by decide +kernel
theorem dX9_kindOf_59 : decode cX9_kindOf 59 = .ok (.iconst 2, 1) := by decide +kernel
theorem dX9_kindOf_60 : decode cX9_kindOf 60 = .ok (.ireturn, 1) := by decide +kernel
theorem dX9_kindOf_61 : decode cX9_kindOf 61 = .ok (.aload_n 0, 1) := by decide +kernel
theorem dX9_kindOf_62 : decode cX9_kindOf 62 = .ok (.iconst 3, 1) := by decide +kernel
theorem dX9_kindOf_63 : decode cX9_kindOf 63 = .ok (.bipush 101, 2) := by decide +kernel
theorem dX9_kindOf_65 : decode cX9_kindOf 65 = .ok (.bipush 121, 2) := by decide +kernel
theorem dX9_kindOf_67 : decode cX9_kindOf 67 = .ok (.bipush 101, 2) := by decide +kernel
theorem dX9_kindOf_69 : decode cX9_kindOf 69 = .ok (.iconst 0, 1) := by decide +kernel
theorem dX9_kindOf_70 : decode cX9_kindOf 70 = .ok (.iconst 0, 1) := by decide +kernel
theorem dX9_kindOf_71 : decode cX9_kindOf 71 = .ok (.iconst 0, 1) := by decide +kernel
theorem dX9_kindOf_72 : decode cX9_kindOf 72 = .ok (.invokevirtual 80, 3) := by decide +kernel
theorem dX9_kindOf_75 : decode cX9_kindOf 75 = .ok (.ifCond .eq 5, 3) := by decide +kernel
theorem dX9_kindOf_78 : decode cX9_kindOf 78 = .ok (.iconst 3, 1) := by decide +kernel
theorem dX9_kindOf_79 : decode cX9_kindOf 79 = .ok (.ireturn, 1) := by decide +kernel
theorem dX9_kindOf_80 : decode cX9_kindOf 80 = .ok (.aload_n 0, 1) := by decide +kernel
theorem dX9_kindOf_81 : decode cX9_kindOf 81 = .ok (.iconst 4, 1) := by decide +kernel
