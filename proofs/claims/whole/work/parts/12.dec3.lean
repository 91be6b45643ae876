theorem dX9_use_65 : decode cX9_use 65 = .ok (.aload_n 0, 1) := by decide +kernel
theorem dX9_use_66 : decode cX9_use 66 = .ok (.dup, 1) := by decide +kernel
theorem dX9_use_67 : decode cX9_use 67 = .ok (.getfield 331, 3) := by decide +kernel
theorem dX9_use_70 : decode cX9_use 70 = .ok (.iload_n 2, 1) := by decide +kernel
theorem dX9_use_71 : decode cX9_use 71 = .ok (.ifCond .ne 7, 3) := by decide +kernel
theorem dX9_use_74 : decode cX9_use 74 = .ok (.iconst 0, 1) := by decide +kernel
theorem dX9_use_75 : decode cX9_use 75 = .ok (.goto 15, 3) := by decide +kernel
theorem dX9_use_78 : decode cX9_use 78 = .ok (.iload_n 3, 1) := by decide +kernel
theorem dX9_use_79 : decode cX9_use 79 = .ok (.aload_n 0, 1) := by decide +kernel
theorem dX9_use_80 : decode cX9_use 80 = .ok (.aload_n 0, 1) := by decide +kernel
theorem dX9_use_81 : decode cX9_use 81 = .ok (.getfield 69, 3) := by decide +kernel
theorem dX9_use_84 : decode cX9_use 84 = .ok (.iload_n 1, 1) := by decide +kernel
theorem dX9_use_85 : decode cX9_use 85 = .ok (.iaload, 1) := by decide +kernel
theorem dX9_use_86 : decode cX9_use 86 = .ok (.invokevirtual 281, 3) := by decide +kernel
theorem dX9_use_89 : decode cX9_use 89 = .ok (.imul, 1) := by decide +kernel
theorem dX9_use_90 : decode cX9_use 90 = .ok (.iadd, 1) := by decide +kernel
theorem dX9_use_91 : decode cX9_use 91 = .ok (.putfield 331, 3) := by decide +kernel
theorem dX9_use_94 : decode cX9_use 94 = .ok (.return_, 1) := by decide +kernel
theorem dX9_fits_0 : decode cX9_fits 0 = .ok (.aload_n 0, 1) := by decide +kernel
theorem dX9_fits_1 : decode cX9_fits 1 = .ok (.iload_n 1, 1) := by decide +kernel
theorem dX9_fits_2 : decode cX9_fits 2 = .ok (.iload_n 2, 1) := by decide +kernel
theorem dX9_fits_3 : decode cX9_fits 3 = .ok (.invokevirtual 322, 3) := by decide +kernel
theorem dX9_fits_6 : decode cX9_fits 6 = .ok (.istore_n 3, 1) := by decide +kernel
theorem dX9_fits_7 : decode cX9_fits 7 = .ok (.iload_n 2, 1) := by decide +kernel
theorem dX9_fits_8 : decode cX9_fits 8 = .ok (.ifCond .eq 33, 3) := by decide +kernel
theorem dX9_fits_11 : decode cX9_fits 11 = .ok (.iload_n 2, 1) := by decide +kernel
theorem dX9_fits_12 : decode cX9_fits 12 = .ok (.iconst 4, 1) := by decide +kernel
theorem dX9_fits_13 : decode cX9_fits 13 = .ok (.if_icmp .ne 24, 3) := by decide +kernel
theorem dX9_fits_16 : decode cX9_fits 16 = .ok (.aload_n 0, 1) := by decide +kernel
theorem dX9_fits_17 : decode cX9_fits 17 = .ok (.getfield 28, 3) := by decide +kernel
theorem dX9_fits_20 : decode cX9_fits 20 = .ok (.aload_n 0, 1) := by decide +kernel
theorem dX9_fits_21 : decode cX9_fits 21 = .ok (.aload_n 0, 1) := by decide +kernel
theorem dX9_fits_22 : decode cX9_fits 22 = .ok (.getfield 69, 3) := by decide +kernel
theorem dX9_fits_25 : decode cX9_fits 25 = .ok (.iload_n 1, 1) := by decide +kernel
theorem dX9_fits_26 : decode cX9_fits 26 = .ok (.iaload, 1) := by decide +kernel
theorem dX9_fits_27 : decode cX9_fits 27 = .ok (.invokevirtual 268, 3) := by decide +kernel
theorem dX9_fits_30 : decode cX9_fits 30 = .ok (.baload, 1) := by decide +kernel
theorem dX9_fits_31 : decode cX9_fits 31 = .ok (.ifCond .eq 14, 3) := by decide +kernel
theorem dX9_fits_34 : decode cX9_fits 34 = .ok (.goto 7, 3) := by decide +kernel
theorem dX9_fits_37 : decode cX9_fits 37 = .ok (.iload_n 3, 1) := by decide +kernel
theorem dX9_fits_38 : decode cX9_fits 38 = .ok (.ifCond .eq 7, 3) := by decide +kernel
theorem dX9_fits_41 : decode cX9_fits 41 = .ok (.iconst 1, 1) := by decide +kernel
theorem dX9_fits_42 : decode cX9_fits 42 = .ok (.goto 4, 3) := by decide +kernel
theorem dX9_fits_45 : decode cX9_fits 45 = .ok (.iconst 0, 1) := by decide +kernel
theorem dX9_fits_46 : decode cX9_fits 46 = .ok (.istore 4, 2) := by decide +kernel
theorem dX9_fits_48 : decode cX9_fits 48 = .ok (.iconst 0, 1) := by decide +kernel
theorem dX9_fits_49 : decode cX9_fits 49 = .ok (.istore 5, 2) := by decide +kernel
theorem dX9_fits_51 : decode cX9_fits 51 = .ok (.iload 5, 2) := by decide +kernel
theorem dX9_fits_53 : decode cX9_fits 53 = .ok (.bipush 8, 2) := by decide +kernel
theorem dX9_fits_55 : decode cX9_fits 55 = .ok (.if_icmp .ge 47, 3) := by decide +kernel
theorem dX9_fits_58 : decode cX9_fits 58 = .ok (.iload 4, 2) := by decide +kernel
theorem dX9_fits_60 : decode cX9_fits 60 = .ok (.ifCond .eq 33, 3) := by decide +kernel
theorem dX9_fits_63 : decode cX9_fits 63 = .ok (.iload_n 3, 1) := by decide +kernel
theorem dX9_fits_64 : decode cX9_fits 64 = .ok (.iload 5, 2) := by decide +kernel
theorem dX9_fits_66 : decode cX9_fits 66 = .ok (.invokestatic 178, 3) := by decide +kernel
theorem dX9_fits_69 : decode cX9_fits 69 = .ok (.ifCond .eq 20, 3) := by decide +kernel
theorem dX9_fits_72 : decode cX9_fits 72 = .ok (.aload_n 0, 1) := by decide +kernel
theorem dX9_fits_73 : decode cX9_fits 73 = .ok (.getfield 78, 3) := by decide +kernel
theorem dX9_fits_76 : decode cX9_fits 76 = .ok (.iload 5, 2) := by decide +kernel
theorem dX9_fits_78 : decode cX9_fits 78 = .ok (.iaload, 1) := by decide +kernel
theorem dX9_fits_79 : decode cX9_fits 79 = .ok (.aload_n 0, 1) := by decide +kernel
theorem dX9_fits_80 : decode cX9_fits 80 = .ok (.getfield 81, 3) := by decide +kernel
theorem dX9_fits_83 : decode cX9_fits 83 = .ok (.iload 5, 2) := by decide +kernel
theorem dX9_fits_85 : decode cX9_fits 85 = .ok (.iaload, 1) := by decide +kernel
theorem dX9_fits_86 : decode cX9_fits 86 = .ok (.if_icmp .ge 7, 3) := by decide +kernel
theorem dX9_fits_89 : decode cX9_fits 89 = .ok (.iconst 1, 1) := by decide +kernel
theorem dX9_fits_90 : decode cX9_fits 90 = .ok (.goto 4, 3) := by decide +kernel
theorem dX9_fits_93 : decode cX9_fits 93 = .ok (.iconst 0, 1) := by decide +kernel
theorem dX9_fits_94 : decode cX9_fits 94 = .ok (.istore 4, 2) := by decide +kernel
theorem dX9_fits_96 : decode cX9_fits 96 = .ok (.iinc 5 1, 3) := by decide +kernel
theorem dX9_fits_99 : decode cX9_fits 99 = .ok (.goto (-48), 3) := by decide +kernel
theorem dX9_fits_102 : decode cX9_fits 102 = .ok (.iload 4, 2) := by decide +kernel
theorem dX9_fits_104 : decode cX9_fits 104 = .ok (.ireturn, 1) := by decide +kernel
theorem dX9_nextPick_0 : decode cX9_nextPick 0 = .ok (.aload_n 0, 1) := by decide +kernel
theorem dX9_nextPick_1 : decode cX9_nextPick 1 = .ok (.getfield 75, 3) := by decide +kernel
theorem dX9_nextPick_4 : decode cX9_nextPick 4 = .ok (.iload_n 1, 1) := by decide +kernel
theorem dX9_nextPick_5 : decode cX9_nextPick 5 = .ok (.iaload, 1) := by decide +kernel
theorem dX9_nextPick_6 : decode cX9_nextPick 6 = .ok (.iconst 1, 1) := by decide +kernel
theorem dX9_nextPick_7 : decode cX9_nextPick 7 = .ok (.iadd, 1) := by decide +kernel
theorem dX9_nextPick_8 : decode cX9_nextPick 8 = .ok (.istore_n 2, 1) := by decide +kernel
theorem dX9_nextPick_9 : decode cX9_nextPick 9 = .ok (.iload_n 2, 1) := by decide +kernel
theorem dX9_nextPick_10 : decode cX9_nextPick 10 = .ok (.iconst 5, 1) := by decide +kernel
theorem dX9_nextPick_11 : decode cX9_nextPick 11 = .ok (.if_icmp .ge 27, 3) := by decide +kernel
theorem dX9_nextPick_14 : decode cX9_nextPick 14 = .ok (.aload_n 0, 1) := by decide +kernel
theorem dX9_nextPick_15 : decode cX9_nextPick 15 = .ok (.iload_n 1, 1) := by decide +kernel
theorem dX9_nextPick_16 : decode cX9_nextPick 16 = .ok (.iload_n 2, 1) := by decide +kernel
theorem dX9_nextPick_17 : decode cX9_nextPick 17 = .ok (.invokevirtual 334, 3) := by decide +kernel
theorem dX9_nextPick_20 : decode cX9_nextPick 20 = .ok (.ifCond .eq 12, 3) := by decide +kernel
theorem dX9_nextPick_23 : decode cX9_nextPick 23 = .ok (.aload_n 0, 1) := by decide +kernel
theorem dX9_nextPick_24 : decode cX9_nextPick 24 = .ok (.iload_n 1, 1) := by decide +kernel
theorem dX9_nextPick_25 : decode cX9_nextPick 25 = .ok (.iload_n 2, 1) := by decide +kernel
theorem dX9_nextPick_26 : decode cX9_nextPick 26 = .ok (.iconst 1, 1) := by decide +kernel
theorem dX9_nextPick_27 : decode cX9_nextPick 27 = .ok (.invokevirtual 337, 3) := by decide +kernel
theorem dX9_nextPick_30 : decode cX9_nextPick 30 = .ok (.iload_n 2, 1) := by decide +kernel
theorem dX9_nextPick_31 : decode cX9_nextPick 31 = .ok (.ireturn, 1) := by decide +kernel
theorem dX9_nextPick_32 : decode cX9_nextPick 32 = .ok (.iinc 2 1, 3) := by decide +kernel
theorem dX9_nextPick_35 : decode cX9_nextPick 35 = .ok (.goto (-26), 3) := by decide +kernel
theorem dX9_nextPick_38 : decode cX9_nextPick 38 = .ok (.iconst 5, 1) := by decide +kernel
theorem dX9_nextPick_39 : decode cX9_nextPick 39 = .ok (.ireturn, 1) := by decide +kernel
theorem dX9_comparePlan_0 : decode cX9_comparePlan 0 = .ok (.aload_n 0, 1) := by decide +kernel
theorem dX9_comparePlan_1 : decode cX9_comparePlan 1 = .ok (.getfield 331, 3) := by decide +kernel
theorem dX9_comparePlan_4 : decode cX9_comparePlan 4 = .ok (.aload_n 0, 1) := by decide +kernel
theorem dX9_comparePlan_5 : decode cX9_comparePlan 5 = .ok (.getfield 341, 3) := by decide +kernel
theorem dX9_comparePlan_8 : decode cX9_comparePlan 8 = .ok (.if_icmp .gt 25, 3) := by decide +kernel
theorem dX9_comparePlan_11 : decode cX9_comparePlan 11 = .ok (.aload_n 0, 1) := by decide +kernel
theorem dX9_comparePlan_12 : decode cX9_comparePlan 12 = .ok (.getfield 331, 3) := by decide +kernel
theorem dX9_comparePlan_15 : decode cX9_comparePlan 15 = .ok (.aload_n 0, 1) := by decide +kernel
theorem dX9_comparePlan_16 : decode cX9_comparePlan 16 = .ok (.getfield 341, 3) := by decide +kernel
theorem dX9_comparePlan_19 : decode cX9_comparePlan 19 = .ok (.if_icmp .ne 58, 3) := by decide +kernel
theorem dX9_comparePlan_22 : decode cX9_comparePlan 22 = .ok (.aload_n 0, 1) := by decide +kernel
theorem dX9_comparePlan_23 : decode cX9_comparePlan 23 = .ok (.getfield 325, 3) := by decide +kernel
theorem dX9_comparePlan_26 : decode cX9_comparePlan 26 = .ok (.aload_n 0, 1) := by decide +kernel
theorem dX9_comparePlan_27 : decode cX9_comparePlan 27 = .ok (.getfield 344, 3) := by decide +kernel
theorem dX9_comparePlan_30 : decode cX9_comparePlan 30 = .ok (.if_icmp .ge 47, 3) := by decide +kernel
theorem dX9_comparePlan_33 : decode cX9_comparePlan 33 = .ok (.aload_n 0, 1) := by decide +kernel
theorem dX9_comparePlan_34 : decode cX9_comparePlan 34 = .ok (.aload_n 0, 1) := by decide +kernel
theorem dX9_comparePlan_35 : decode cX9_comparePlan 35 = .ok (.getfield 331, 3) := by decide +kernel
theorem dX9_comparePlan_38 : decode cX9_comparePlan 38 = .ok (.putfield 341, 3) := by decide +kernel
theorem dX9_comparePlan_41 : decode cX9_comparePlan 41 = .ok (.aload_n 0, 1) := by decide +kernel
theorem dX9_comparePlan_42 : decode cX9_comparePlan 42 = .ok (.aload_n 0, 1) := by decide +kernel
theorem dX9_comparePlan_43 : decode cX9_comparePlan 43 = .ok (.getfield 325, 3) := by decide +kernel
theorem dX9_comparePlan_46 : decode cX9_comparePlan 46 = .ok (.putfield 344, 3) := by decide +kernel
theorem dX9_comparePlan_49 : decode cX9_comparePlan 49 = .ok (.iconst 0, 1) := by decide +kernel
theorem dX9_comparePlan_50 : decode cX9_comparePlan 50 = .ok (.istore_n 1, 1) := by decide +kernel
theorem dX9_comparePlan_51 : decode cX9_comparePlan 51 = .ok (.iload_n 1, 1) := by decide +kernel
theorem dX9_comparePlan_52 : decode cX9_comparePlan 52 = .ok (.aload_n 0, 1) := by decide +kernel
theorem dX9_comparePlan_53 : decode cX9_comparePlan 53 = .ok (.getfield 347, 3) := by decide +kernel
theorem dX9_comparePlan_56 : decode cX9_comparePlan 56 = .ok (.if_icmp .ge 21, 3) := by decide +kernel
theorem dX9_comparePlan_59 : decode cX9_comparePlan 59 = .ok (.aload_n 0, 1) := by decide +kernel
theorem dX9_comparePlan_60 : decode cX9_comparePlan 60 = .ok (.getfield 84, 3) := by decide +kernel
theorem dX9_comparePlan_63 : decode cX9_comparePlan 63 = .ok (.iload_n 1, 1) := by decide +kernel
theorem dX9_comparePlan_64 : decode cX9_comparePlan 64 = .ok (.aload_n 0, 1) := by decide +kernel
theorem dX9_comparePlan_65 : decode cX9_comparePlan 65 = .ok (.getfield 75, 3) := by decide +kernel
theorem dX9_comparePlan_68 : decode cX9_comparePlan 68 = .ok (.iload_n 1, 1) := by decide +kernel
theorem dX9_comparePlan_69 : decode cX9_comparePlan 69 = .ok (.iaload, 1) := by decide +kernel
theorem dX9_comparePlan_70 : decode cX9_comparePlan 70 = .ok (.iastore, 1) := by decide +kernel
theorem dX9_comparePlan_71 : decode cX9_comparePlan 71 = .ok (.iinc 1 1, 3) := by decide +kernel
theorem dX9_comparePlan_74 : decode cX9_comparePlan 74 = .ok (.goto (-23), 3) := by decide +kernel
theorem dX9_comparePlan_77 : decode cX9_comparePlan 77 = .ok (.return_, 1) := by decide +kernel
theorem dX9_findPlan_0 : decode cX9_findPlan 0 = .ok (.aload_n 0, 1) := by decide +kernel
theorem dX9_findPlan_1 : decode cX9_findPlan 1 = .ok (.iconst 0, 1) := by decide +kernel
theorem dX9_findPlan_2 : decode cX9_findPlan 2 = .ok (.putfield 347, 3) := by decide +kernel
theorem dX9_findPlan_5 : decode cX9_findPlan 5 = .ok (.iconst 0, 1) := by decide +kernel
theorem dX9_findPlan_6 : decode cX9_findPlan 6 = .ok (.istore_n 1, 1) := by decide +kernel
theorem dX9_findPlan_7 : decode cX9_findPlan 7 = .ok (.iload_n 1, 1) := by decide +kernel
theorem dX9_findPlan_8 : decode cX9_findPlan 8 = .ok (.aload_n 0, 1) := by decide +kernel
theorem dX9_findPlan_9 : decode cX9_findPlan 9 = .ok (.getfield 127, 3) := by decide +kernel
theorem dX9_findPlan_12 : decode cX9_findPlan 12 = .ok (.if_icmp .ge 37, 3) := by decide +kernel
theorem dX9_findPlan_15 : decode cX9_findPlan 15 = .ok (.aload_n 0, 1) := by decide +kernel
theorem dX9_findPlan_16 : decode cX9_findPlan 16 = .ok (.iload_n 1, 1) := by decide +kernel
theorem dX9_findPlan_17 : decode cX9_findPlan 17 = .ok (.invokevirtual 251, 3) := by decide +kernel
theorem dX9_findPlan_20 : decode cX9_findPlan 20 = .ok (.ifCond .eq 23, 3) := by decide +kernel
theorem dX9_findPlan_23 : decode cX9_findPlan 23 = .ok (.aload_n 0, 1) := by decide +kernel
theorem dX9_findPlan_24 : decode cX9_findPlan 24 = .ok (.getfield 69, 3) := by decide +kernel
theorem dX9_findPlan_27 : decode cX9_findPlan 27 = .ok (.aload_n 0, 1) := by decide +kernel
theorem dX9_findPlan_28 : decode cX9_findPlan 28 = .ok (.getfield 347, 3) := by decide +kernel
theorem dX9_findPlan_31 : decode cX9_findPlan 31 = .ok (.iload_n 1, 1) := by decide +kernel
theorem dX9_findPlan_32 : decode cX9_findPlan 32 = .ok (.iastore, 1) := by decide +kernel
theorem dX9_findPlan_33 : decode cX9_findPlan 33 = .ok (.aload_n 0, 1) := by decide +kernel
theorem dX9_findPlan_34 : decode cX9_findPlan 34 = .ok (.dup, 1) := by decide +kernel
theorem dX9_findPlan_35 : decode cX9_findPlan 35 = .ok (.getfield 347, 3) := by decide +kernel
theorem dX9_findPlan_38 : decode cX9_findPlan 38 = .ok (.iconst 1, 1) := by decide +kernel
theorem dX9_findPlan_39 : decode cX9_findPlan 39 = .ok (.iadd, 1) := by decide +kernel
theorem dX9_findPlan_40 : decode cX9_findPlan 40 = .ok (.putfield 347, 3) := by decide +kernel
theorem dX9_findPlan_43 : decode cX9_findPlan 43 = .ok (.iinc 1 1, 3) := by decide +kernel
theorem dX9_findPlan_46 : decode cX9_findPlan 46 = .ok (.goto (-39), 3) := by decide +kernel
theorem dX9_findPlan_49 : decode cX9_findPlan 49 = .ok (.iconst 0, 1) := by decide +kernel
theorem dX9_findPlan_50 : decode cX9_findPlan 50 = .ok (.istore_n 1, 1) := by decide +kernel
theorem dX9_findPlan_51 : decode cX9_findPlan 51 = .ok (.iload_n 1, 1) := by decide +kernel
theorem dX9_findPlan_52 : decode cX9_findPlan 52 = .ok (.bipush 8, 2) := by decide +kernel
theorem dX9_findPlan_54 : decode cX9_findPlan 54 = .ok (.if_icmp .ge 41, 3) := by decide +kernel
theorem dX9_findPlan_57 : decode cX9_findPlan 57 = .ok (.aload_n 0, 1) := by decide +kernel
theorem dX9_findPlan_58 : decode cX9_findPlan 58 = .ok (.getfield 81, 3) := by decide +kernel
theorem dX9_findPlan_61 : decode cX9_findPlan 61 = .ok (.iload_n 1, 1) := by decide +kernel
theorem dX9_findPlan_62 : decode cX9_findPlan 62 = .ok (.aload_n 0, 1) := by decide +kernel
theorem dX9_findPlan_63 : decode cX9_findPlan 63 = .ok (.getfield 7, 3) := by decide +kernel
theorem dX9_findPlan_66 : decode cX9_findPlan 66 = .ok (.bipush 13, 2) := by decide +kernel
theorem dX9_findPlan_68 : decode cX9_findPlan 68 = .ok (.iload_n 1, 1) := by decide +kernel
theorem dX9_findPlan_69 : decode cX9_findPlan 69 = .ok (.iadd, 1) := by decide +kernel
theorem dX9_findPlan_70 : decode cX9_findPlan 70 = .ok (.iaload, 1) := by decide +kernel
theorem dX9_findPlan_71 : decode cX9_findPlan 71 = .ok (.aload_n 0, 1) := by decide +kernel
theorem dX9_findPlan_72 : decode cX9_findPlan 72 = .ok (.aload_n 0, 1) := by decide +kernel
theorem dX9_findPlan_73 : decode cX9_findPlan 73 = .ok (.getfield 7, 3) := by decide +kernel
theorem dX9_findPlan_76 : decode cX9_findPlan 76 = .ok (.iload_n 1, 1) := by decide +kernel
theorem dX9_findPlan_77 : decode cX9_findPlan 77 = .ok (.invokevirtual 239, 3) := by decide +kernel
theorem dX9_findPlan_80 : decode cX9_findPlan 80 = .ok (.iadd, 1) := by decide +kernel
theorem dX9_findPlan_81 : decode cX9_findPlan 81 = .ok (.iastore, 1) := by decide +kernel
theorem dX9_findPlan_82 : decode cX9_findPlan 82 = .ok (.aload_n 0, 1) := by decide +kernel
theorem dX9_findPlan_83 : decode cX9_findPlan 83 = .ok (.getfield 78, 3) := by decide +kernel
theorem dX9_findPlan_86 : decode cX9_findPlan 86 = .ok (.iload_n 1, 1) := by decide +kernel
theorem dX9_findPlan_87 : decode cX9_findPlan 87 = .ok (.iconst 0, 1) := by decide +kernel
theorem dX9_findPlan_88 : decode cX9_findPlan 88 = .ok (.iastore, 1) := by decide +kernel
theorem dX9_findPlan_89 : decode cX9_findPlan 89 = .ok (.iinc 1 1, 3) := by decide +kernel
theorem dX9_findPlan_92 : decode cX9_findPlan 92 = .ok (.goto (-41), 3) := by decide +kernel
theorem dX9_findPlan_95 : decode cX9_findPlan 95 = .ok (.aload_n 0, 1) := by decide +kernel
theorem dX9_findPlan_96 : decode cX9_findPlan 96 = .ok (.getfield 72, 3) := by decide +kernel
theorem dX9_findPlan_99 : decode cX9_findPlan 99 = .ok (.aload_n 0, 1) := by decide +kernel
theorem dX9_findPlan_100 : decode cX9_findPlan 100 = .ok (.getfield 347, 3) := by decide +kernel
theorem dX9_findPlan_103 : decode cX9_findPlan 103 = .ok (.iconst 0, 1) := by decide +kernel
theorem dX9_findPlan_104 : decode cX9_findPlan 104 = .ok (.iastore, 1) := by decide +kernel
theorem dX9_findPlan_105 : decode cX9_findPlan 105 = .ok (.aload_n 0, 1) := by decide +kernel
theorem dX9_findPlan_106 : decode cX9_findPlan 106 = .ok (.getfield 347, 3) := by decide +kernel
theorem dX9_findPlan_109 : decode cX9_findPlan 109 = .ok (.iconst 1, 1) := by decide +kernel
theorem dX9_findPlan_110 : decode cX9_findPlan 110 = .ok (.isub, 1) := by decide +kernel
theorem dX9_findPlan_111 : decode cX9_findPlan 111 = .ok (.istore_n 1, 1) := by decide +kernel
theorem dX9_findPlan_112 : decode cX9_findPlan 112 = .ok (.iload_n 1, 1) := by decide +kernel
theorem dX9_findPlan_113 : decode cX9_findPlan 113 = .ok (.ifCond .lt 34, 3) := by decide +kernel
theorem dX9_findPlan_116 : decode cX9_findPlan 116 = .ok (.aload_n 0, 1) := by decide +kernel
theorem dX9_findPlan_117 : decode cX9_findPlan 117 = .ok (.getfield 72, 3) := by decide +kernel
theorem dX9_findPlan_120 : decode cX9_findPlan 120 = .ok (.iload_n 1, 1) := by decide +kernel
theorem dX9_findPlan_121 : decode cX9_findPlan 121 = .ok (.aload_n 0, 1) := by decide +kernel
theorem dX9_findPlan_122 : decode cX9_findPlan 122 = .ok (.getfield 72, 3) := by decide +kernel
theorem dX9_findPlan_125 : decode cX9_findPlan 125 = .ok (.iload_n 1, 1) := by decide +kernel
theorem dX9_findPlan_126 : decode cX9_findPlan 126 = .ok (.iconst 1, 1) := by decide +kernel
theorem dX9_findPlan_127 : decode cX9_findPlan 127 = .ok (.iadd, 1) := by decide +kernel
theorem dX9_findPlan_128 : decode cX9_findPlan 128 = .ok (.iaload, 1) := by decide +kernel
theorem dX9_findPlan_129 : decode cX9_findPlan 129 = .ok (.aload_n 0, 1) := by decide +kernel
theorem dX9_findPlan_130 : decode cX9_findPlan 130 = .ok (.aload_n 0, 1) := by decide +kernel
theorem dX9_findPlan_131 : decode cX9_findPlan 131 = .ok (.getfield 69, 3) := by decide +kernel
theorem dX9_findPlan_134 : decode cX9_findPlan 134 = .ok (.iload_n 1, 1) := by decide +kernel
theorem dX9_findPlan_135 : decode cX9_findPlan 135 = .ok (.iaload, 1) := by decide +kernel
theorem dX9_findPlan_136 : decode cX9_findPlan 136 = .ok (.invokevirtual 281, 3) := by decide +kernel
theorem dX9_findPlan_139 : decode cX9_findPlan 139 = .ok (.iadd, 1) := by decide +kernel
theorem dX9_findPlan_140 : decode cX9_findPlan 140 = .ok (.iastore, 1) := by decide +kernel
theorem dX9_findPlan_141 : decode cX9_findPlan 141 = .ok (.iinc 1 (-1), 3) := by decide +kernel
theorem dX9_findPlan_144 : decode cX9_findPlan 144 = .ok (.goto (-32), 3) := by decide +kernel
theorem dX9_findPlan_147 : decode cX9_findPlan 147 = .ok (.aload_n 0, 1) := by decide +kernel
theorem dX9_findPlan_148 : decode cX9_findPlan 148 = .ok (.iconst 0, 1) := by decide +kernel
theorem dX9_findPlan_149 : decode cX9_findPlan 149 = .ok (.putfield 331, 3) := by decide +kernel
theorem dX9_findPlan_152 : decode cX9_findPlan 152 = .ok (.aload_n 0, 1) := by decide +kernel
theorem dX9_findPlan_153 : decode cX9_findPlan 153 = .ok (.iconst 0, 1) := by decide +kernel
theorem dX9_findPlan_154 : decode cX9_findPlan 154 = .ok (.putfield 325, 3) := by decide +kernel
theorem dX9_findPlan_157 : decode cX9_findPlan 157 = .ok (.aload_n 0, 1) := by decide +kernel
theorem dX9_findPlan_158 : decode cX9_findPlan 158 = .ok (.iconst (-1), 1) := by decide +kernel
theorem dX9_findPlan_159 : decode cX9_findPlan 159 = .ok (.putfield 341, 3) := by decide +kernel
theorem dX9_findPlan_162 : decode cX9_findPlan 162 = .ok (.aload_n 0, 1) := by decide +kernel
theorem dX9_findPlan_163 : decode cX9_findPlan 163 = .ok (.iconst 0, 1) := by decide +kernel
theorem dX9_findPlan_164 : decode cX9_findPlan 164 = .ok (.putfield 344, 3) := by decide +kernel
theorem dX9_findPlan_167 : decode cX9_findPlan 167 = .ok (.aload_n 0, 1) := by decide +kernel
theorem dX9_findPlan_168 : decode cX9_findPlan 168 = .ok (.getfield 75, 3) := by decide +kernel
theorem dX9_findPlan_171 : decode cX9_findPlan 171 = .ok (.iconst 0, 1) := by decide +kernel
theorem dX9_findPlan_172 : decode cX9_findPlan 172 = .ok (.iconst (-1), 1) := by decide +kernel
theorem dX9_findPlan_173 : decode cX9_findPlan 173 = .ok (.iastore, 1) := by decide +kernel
theorem dX9_findPlan_174 : decode cX9_findPlan 174 = .ok (.iconst 0, 1) := by decide +kernel
theorem dX9_findPlan_175 : decode cX9_findPlan 175 = .ok (.istore_n 1, 1) := by decide +kernel
theorem dX9_findPlan_176 : decode cX9_findPlan 176 = .ok (.iload_n 1, 1) := by decide +kernel
theorem dX9_findPlan_177 : decode cX9_findPlan 177 = .ok (.ifCond .lt 110, 3) := by decide +kernel
theorem dX9_findPlan_180 : decode cX9_findPlan 180 = .ok (.iload_n 1, 1) := by decide +kernel
theorem dX9_findPlan_181 : decode cX9_findPlan 181 = .ok (.aload_n 0, 1) := by decide +kernel
theorem dX9_findPlan_182 : decode cX9_findPlan 182 = .ok (.getfield 347, 3) := by decide +kernel
theorem dX9_findPlan_185 : decode cX9_findPlan 185 = .ok (.if_icmp .ne 13, 3) := by decide +kernel
theorem dX9_findPlan_188 : decode cX9_findPlan 188 = .ok (.aload_n 0, 1) := by decide +kernel
theorem dX9_findPlan_189 : decode cX9_findPlan 189 = .ok (.invokevirtual 350, 3) := by decide +kernel
theorem dX9_findPlan_192 : decode cX9_findPlan 192 = .ok (.iinc 1 (-1), 3) := by decide +kernel
theorem dX9_findPlan_195 : decode cX9_findPlan 195 = .ok (.goto (-19), 3) := by decide +kernel
theorem dX9_findPlan_198 : decode cX9_findPlan 198 = .ok (.aload_n 0, 1) := by decide +kernel
theorem dX9_findPlan_199 : decode cX9_findPlan 199 = .ok (.getfield 75, 3) := by decide +kernel
theorem dX9_findPlan_202 : decode cX9_findPlan 202 = .ok (.iload_n 1, 1) := by decide +kernel
theorem dX9_findPlan_203 : decode cX9_findPlan 203 = .ok (.iaload, 1) := by decide +kernel
theorem dX9_findPlan_204 : decode cX9_findPlan 204 = .ok (.iconst (-1), 1) := by decide +kernel
theorem dX9_findPlan_205 : decode cX9_findPlan 205 = .ok (.if_icmp .eq 15, 3) := by decide +kernel
theorem dX9_findPlan_208 : decode cX9_findPlan 208 = .ok (.aload_n 0, 1) := by decide +kernel
theorem dX9_findPlan_209 : decode cX9_findPlan 209 = .ok (.iload_n 1, 1) := by decide +kernel
theorem dX9_findPlan_210 : decode cX9_findPlan 210 = .ok (.aload_n 0, 1) := by decide +kernel
theorem dX9_findPlan_211 : decode cX9_findPlan 211 = .ok (.getfield 75, 3) := by decide +kernel
theorem dX9_findPlan_214 : decode cX9_findPlan 214 = .ok (.iload_n 1, 1) := by decide +kernel
theorem dX9_findPlan_215 : decode cX9_findPlan 215 = .ok (.iaload, 1) := by decide +kernel
theorem dX9_findPlan_216 : decode cX9_findPlan 216 = .ok (.iconst (-1), 1) := by decide +kernel
theorem dX9_findPlan_217 : decode cX9_findPlan 217 = .ok (.invokevirtual 337, 3) := by decide +kernel
theorem dX9_findPlan_220 : decode cX9_findPlan 220 = .ok (.aload_n 0, 1) := by decide +kernel
theorem dX9_findPlan_221 : decode cX9_findPlan 221 = .ok (.getfield 75, 3) := by decide +kernel
theorem dX9_findPlan_224 : decode cX9_findPlan 224 = .ok (.iload_n 1, 1) := by decide +kernel
theorem dX9_findPlan_225 : decode cX9_findPlan 225 = .ok (.aload_n 0, 1) := by decide +kernel
theorem dX9_findPlan_226 : decode cX9_findPlan 226 = .ok (.iload_n 1, 1) := by decide +kernel
theorem dX9_findPlan_227 : decode cX9_findPlan 227 = .ok (.invokevirtual 353, 3) := by decide +kernel
theorem dX9_findPlan_230 : decode cX9_findPlan 230 = .ok (.iastore, 1) := by decide +kernel
theorem dX9_findPlan_231 : decode cX9_findPlan 231 = .ok (.aload_n 0, 1) := by decide +kernel
theorem dX9_findPlan_232 : decode cX9_findPlan 232 = .ok (.getfield 75, 3) := by decide +kernel
theorem dX9_findPlan_235 : decode cX9_findPlan 235 = .ok (.iload_n 1, 1) := by decide +kernel
theorem dX9_findPlan_236 : decode cX9_findPlan 236 = .ok (.iaload, 1) := by decide +kernel
theorem dX9_findPlan_237 : decode cX9_findPlan 237 = .ok (.iconst 5, 1) := by decide +kernel
theorem dX9_findPlan_238 : decode cX9_findPlan 238 = .ok (.if_icmp .ne 16, 3) := by decide +kernel
theorem dX9_findPlan_241 : decode cX9_findPlan 241 = .ok (.aload_n 0, 1) := by decide +kernel
theorem dX9_findPlan_242 : decode cX9_findPlan 242 = .ok (.getfield 75, 3) := by decide +kernel
theorem dX9_findPlan_245 : decode cX9_findPlan 245 = .ok (.iload_n 1, 1) := by decide +kernel
theorem dX9_findPlan_246 : decode cX9_findPlan 246 = .ok (.iconst (-1), 1) := by decide +kernel
theorem dX9_findPlan_247 : decode cX9_findPlan 247 = .ok (.iastore, 1) := by decide +kernel
theorem dX9_findPlan_248 : decode cX9_findPlan 248 = .ok (.iinc 1 (-1), 3) := by decide +kernel
theorem dX9_findPlan_251 : decode cX9_findPlan 251 = .ok (.goto (-75), 3) := by decide +kernel
theorem dX9_findPlan_254 : decode cX9_findPlan 254 = .ok (.aload_n 0, 1) := by decide +kernel
theorem dX9_findPlan_255 : decode cX9_findPlan 255 = .ok (.getfield 331, 3) := by decide +kernel
theorem dX9_findPlan_258 : decode cX9_findPlan 258 = .ok (.aload_n 0, 1) := by decide +kernel
theorem dX9_findPlan_259 : decode cX9_findPlan 259 = .ok (.getfield 72, 3) := by decide +kernel
theorem dX9_findPlan_262 : decode cX9_findPlan 262 = .ok (.iload_n 1, 1) := by decide +kernel
theorem dX9_findPlan_263 : decode cX9_findPlan 263 = .ok (.iconst 1, 1) := by decide +kernel
theorem dX9_findPlan_264 : decode cX9_findPlan 264 = .ok (.iadd, 1) := by decide +kernel
theorem dX9_findPlan_265 : decode cX9_findPlan 265 = .ok (.iaload, 1) := by decide +kernel
theorem dX9_findPlan_266 : decode cX9_findPlan 266 = .ok (.iadd, 1) := by decide +kernel
theorem dX9_findPlan_267 : decode cX9_findPlan 267 = .ok (.aload_n 0, 1) := by decide +kernel
theorem dX9_findPlan_268 : decode cX9_findPlan 268 = .ok (.getfield 341, 3) := by decide +kernel
theorem dX9_findPlan_271 : decode cX9_findPlan 271 = .ok (.if_icmp .lt (-95), 3) := by decide +kernel
theorem dX9_findPlan_274 : decode cX9_findPlan 274 = .ok (.iinc 1 1, 3) := by decide +kernel
theorem dX9_findPlan_277 : decode cX9_findPlan 277 = .ok (.aload_n 0, 1) := by decide +kernel
theorem dX9_findPlan_278 : decode cX9_findPlan 278 = .ok (.getfield 75, 3) := by decide +kernel
theorem dX9_findPlan_281 : decode cX9_findPlan 281 = .ok (.iload_n 1, 1) := by decide +kernel
theorem dX9_findPlan_282 : decode cX9_findPlan 282 = .ok (.iconst (-1), 1) := by decide +kernel
theorem dX9_findPlan_283 : decode cX9_findPlan 283 = .ok (.iastore, 1) := by decide +kernel
theorem dX9_findPlan_284 : decode cX9_findPlan 284 = .ok (.goto (-108), 3) := by decide +kernel
theorem dX9_findPlan_287 : decode cX9_findPlan 287 = .ok (.return_, 1) := by decide +kernel
theorem dX9_plan_0 : decode cX9_plan 0 = .ok (.aload_n 0, 1) := by decide +kernel
theorem dX9_plan_1 : decode cX9_plan 1 = .ok (.iload_n 1, 1) := by decide +kernel
theorem dX9_plan_2 : decode cX9_plan 2 = .ok (.invokevirtual 246, 3) := by decide +kernel
theorem dX9_plan_5 : decode cX9_plan 5 = .ok (.ifCond .ne 17, 3) := by decide +kernel
theorem dX9_plan_8 : decode cX9_plan 8 = .ok (.iload_n 1, 1) := by decide +kernel
theorem dX9_plan_9 : decode cX9_plan 9 = .ok (.iconst (-1), 1) := by decide +kernel
theorem dX9_plan_10 : decode cX9_plan 10 = .ok (.if_icmp .eq 12, 3) := by decide +kernel
theorem dX9_plan_13 : decode cX9_plan 13 = .ok (.iload_n 1, 1) := by decide +kernel
theorem dX9_plan_14 : decode cX9_plan 14 = .ok (.bipush (-2), 2) := by decide +kernel
theorem dX9_plan_16 : decode cX9_plan 16 = .ok (.if_icmp .eq 6, 3) := by decide +kernel
theorem dX9_plan_19 : decode cX9_plan 19 = .ok (.ldc 238, 2) := by decide +kernel
theorem dX9_plan_21 : decode cX9_plan 21 = .ok (.ireturn, 1) := by decide +kernel
theorem dX9_plan_22 : decode cX9_plan 22 = .ok (.aload_n 0, 1) := by decide +kernel
theorem dX9_plan_23 : decode cX9_plan 23 = .ok (.invokevirtual 356, 3) := by decide +kernel
theorem dX9_plan_26 : decode cX9_plan 26 = .ok (.iload_n 1, 1) := by decide +kernel
theorem dX9_plan_27 : decode cX9_plan 27 = .ok (.ifCond .ge 20, 3) := by decide +kernel
theorem dX9_plan_30 : decode cX9_plan 30 = .ok (.iload_n 1, 1) := by decide +kernel
theorem dX9_plan_31 : decode cX9_plan 31 = .ok (.iconst (-1), 1) := by decide +kernel
theorem dX9_plan_32 : decode cX9_plan 32 = .ok (.if_icmp .ne 10, 3) := by decide +kernel
theorem dX9_plan_35 : decode cX9_plan 35 = .ok (.aload_n 0, 1) := by decide +kernel
theorem dX9_plan_36 : decode cX9_plan 36 = .ok (.getfield 341, 3) := by decide +kernel
theorem dX9_plan_39 : decode cX9_plan 39 = .ok (.goto 7, 3) := by decide +kernel
theorem dX9_plan_42 : decode cX9_plan 42 = .ok (.aload_n 0, 1) := by decide +kernel
theorem dX9_plan_43 : decode cX9_plan 43 = .ok (.getfield 344, 3) := by decide +kernel
theorem dX9_plan_46 : decode cX9_plan 46 = .ok (.ireturn, 1) := by decide +kernel
theorem dX9_plan_47 : decode cX9_plan 47 = .ok (.iconst (-1), 1) := by decide +kernel
theorem dX9_plan_48 : decode cX9_plan 48 = .ok (.istore_n 2, 1) := by decide +kernel
theorem dX9_plan_49 : decode cX9_plan 49 = .ok (.iconst 0, 1) := by decide +kernel
theorem dX9_plan_50 : decode cX9_plan 50 = .ok (.istore_n 3, 1) := by decide +kernel
theorem dX9_plan_51 : decode cX9_plan 51 = .ok (.iload_n 3, 1) := by decide +kernel
theorem dX9_plan_52 : decode cX9_plan 52 = .ok (.aload_n 0, 1) := by decide +kernel
theorem dX9_plan_53 : decode cX9_plan 53 = .ok (.getfield 347, 3) := by decide +kernel
theorem dX9_plan_56 : decode cX9_plan 56 = .ok (.if_icmp .ge 30, 3) := by decide +kernel
theorem dX9_plan_59 : decode cX9_plan 59 = .ok (.aload_n 0, 1) := by decide +kernel
theorem dX9_plan_60 : decode cX9_plan 60 = .ok (.getfield 69, 3) := by decide +kernel
theorem dX9_plan_63 : decode cX9_plan 63 = .ok (.iload_n 3, 1) := by decide +kernel
theorem dX9_plan_64 : decode cX9_plan 64 = .ok (.iaload, 1) := by decide +kernel
theorem dX9_plan_65 : decode cX9_plan 65 = .ok (.iload_n 1, 1) := by decide +kernel
theorem dX9_plan_66 : decode cX9_plan 66 = .ok (.if_icmp .ne 12, 3) := by decide +kernel
theorem dX9_plan_69 : decode cX9_plan 69 = .ok (.aload_n 0, 1) := by decide +kernel
theorem dX9_plan_70 : decode cX9_plan 70 = .ok (.getfield 84, 3) := by decide +kernel
theorem dX9_plan_73 : decode cX9_plan 73 = .ok (.iload_n 3, 1) := by decide +kernel
theorem dX9_plan_74 : decode cX9_plan 74 = .ok (.iaload, 1) := by decide +kernel
theorem dX9_plan_75 : decode cX9_plan 75 = .ok (.goto 4, 3) := by decide +kernel
theorem dX9_plan_78 : decode cX9_plan 78 = .ok (.iload_n 2, 1) := by decide +kernel
theorem dX9_plan_79 : decode cX9_plan 79 = .ok (.istore_n 2, 1) := by decide +kernel
theorem dX9_plan_80 : decode cX9_plan 80 = .ok (.iinc 3 1, 3) := by decide +kernel
theorem dX9_plan_83 : decode cX9_plan 83 = .ok (.goto (-32), 3) := by decide +kernel
theorem dX9_plan_86 : decode cX9_plan 86 = .ok (.iload_n 2, 1) := by decide +kernel
theorem dX9_plan_87 : decode cX9_plan 87 = .ok (.ireturn, 1) := by decide +kernel
theorem dX9_isOf_0 : decode cX9_isOf 0 = .ok (.aload_n 0, 1) := by decide +kernel
theorem dX9_isOf_1 : decode cX9_isOf 1 = .ok (.iload_n 1, 1) := by decide +kernel
theorem dX9_isOf_2 : decode cX9_isOf 2 = .ok (.invokevirtual 268, 3) := by decide +kernel
theorem dX9_isOf_5 : decode cX9_isOf 5 = .ok (.iload_n 2, 1) := by decide +kernel
theorem dX9_isOf_6 : decode cX9_isOf 6 = .ok (.if_icmp .ne 15, 3) := by decide +kernel
theorem dX9_isOf_9 : decode cX9_isOf 9 = .ok (.aload_n 0, 1) := by decide +kernel
theorem dX9_isOf_10 : decode cX9_isOf 10 = .ok (.iload_n 1, 1) := by decide +kernel
theorem dX9_isOf_11 : decode cX9_isOf 11 = .ok (.invokevirtual 251, 3) := by decide +kernel
theorem dX9_isOf_14 : decode cX9_isOf 14 = .ok (.ifCond .eq 7, 3) := by decide +kernel
theorem dX9_isOf_17 : decode cX9_isOf 17 = .ok (.iconst 1, 1) := by decide +kernel
theorem dX9_isOf_18 : decode cX9_isOf 18 = .ok (.goto 4, 3) := by decide +kernel
theorem dX9_isOf_21 : decode cX9_isOf 21 = .ok (.iconst 0, 1) := by decide +kernel
theorem dX9_isOf_22 : decode cX9_isOf 22 = .ok (.ireturn, 1) := by decide +kernel
theorem dX9_needsOf_0 : decode cX9_needsOf 0 = .ok (.iconst 0, 1) := by decide +kernel
theorem dX9_needsOf_1 : decode cX9_needsOf 1 = .ok (.istore_n 3, 1) := by decide +kernel
theorem dX9_needsOf_2 : decode cX9_needsOf 2 = .ok (.iconst 0, 1) := by decide +kernel
theorem dX9_needsOf_3 : decode cX9_needsOf 3 = .ok (.istore 4, 2) := by decide +kernel
theorem dX9_needsOf_5 : decode cX9_needsOf 5 = .ok (.iload 4, 2) := by decide +kernel
theorem dX9_needsOf_7 : decode cX9_needsOf 7 = .ok (.aload_n 0, 1) := by decide +kernel
theorem dX9_needsOf_8 : decode cX9_needsOf 8 = .ok (.getfield 127, 3) := by decide +kernel
theorem dX9_needsOf_11 : decode cX9_needsOf 11 = .ok (.if_icmp .ge 37, 3) := by decide +kernel
theorem dX9_needsOf_14 : decode cX9_needsOf 14 = .ok (.iload_n 3, 1) := by decide +kernel
theorem dX9_needsOf_15 : decode cX9_needsOf 15 = .ok (.aload_n 0, 1) := by decide +kernel
theorem dX9_needsOf_16 : decode cX9_needsOf 16 = .ok (.iload 4, 2) := by decide +kernel
theorem dX9_needsOf_18 : decode cX9_needsOf 18 = .ok (.iload_n 2, 1) := by decide +kernel
theorem dX9_needsOf_19 : decode cX9_needsOf 19 = .ok (.invokevirtual 359, 3) := by decide +kernel
theorem dX9_needsOf_22 : decode cX9_needsOf 22 = .ok (.ifCond .eq 17, 3) := by decide +kernel
theorem dX9_needsOf_25 : decode cX9_needsOf 25 = .ok (.aload_n 0, 1) := by decide +kernel
theorem dX9_needsOf_26 : decode cX9_needsOf 26 = .ok (.iload 4, 2) := by decide +kernel
theorem dX9_needsOf_28 : decode cX9_needsOf 28 = .ok (.invokevirtual 265, 3) := by decide +kernel
theorem dX9_needsOf_31 : decode cX9_needsOf 31 = .ok (.iload_n 1, 1) := by decide +kernel
theorem dX9_needsOf_32 : decode cX9_needsOf 32 = .ok (.if_icmp .ne 7, 3) := by decide +kernel
theorem dX9_needsOf_35 : decode cX9_needsOf 35 = .ok (.iconst 1, 1) := by decide +kernel
theorem dX9_needsOf_36 : decode cX9_needsOf 36 = .ok (.goto 4, 3) := by decide +kernel
theorem dX9_needsOf_39 : decode cX9_needsOf 39 = .ok (.iconst 0, 1) := by decide +kernel
theorem dX9_needsOf_40 : decode cX9_needsOf 40 = .ok (.iadd, 1) := by decide +kernel
theorem dX9_needsOf_41 : decode cX9_needsOf 41 = .ok (.istore_n 3, 1) := by decide +kernel
theorem dX9_needsOf_42 : decode cX9_needsOf 42 = .ok (.iinc 4 1, 3) := by decide +kernel
theorem dX9_needsOf_45 : decode cX9_needsOf 45 = .ok (.goto (-40), 3) := by decide +kernel
theorem dX9_needsOf_48 : decode cX9_needsOf 48 = .ok (.iload_n 3, 1) := by decide +kernel
theorem dX9_needsOf_49 : decode cX9_needsOf 49 = .ok (.ireturn, 1) := by decide +kernel
theorem dX9_price_0 : decode cX9_price 0 = .ok (.aload_n 0, 1) := by decide +kernel
theorem dX9_price_1 : decode cX9_price 1 = .ok (.iload_n 1, 1) := by decide +kernel
theorem dX9_price_2 : decode cX9_price 2 = .ok (.invokevirtual 235, 3) := by decide +kernel
theorem dX9_price_5 : decode cX9_price 5 = .ok (.ifCond .ne 6, 3) := by decide +kernel
theorem dX9_price_8 : decode cX9_price 8 = .ok (.ldc 238, 2) := by decide +kernel
theorem dX9_price_10 : decode cX9_price 10 = .ok (.ireturn, 1) := by decide +kernel
theorem dX9_price_11 : decode cX9_price 11 = .ok (.aload_n 0, 1) := by decide +kernel
theorem dX9_price_12 : decode cX9_price 12 = .ok (.getfield 7, 3) := by decide +kernel
theorem dX9_price_15 : decode cX9_price 15 = .ok (.bipush 13, 2) := by decide +kernel
theorem dX9_price_17 : decode cX9_price 17 = .ok (.iload_n 1, 1) := by decide +kernel
theorem dX9_price_18 : decode cX9_price 18 = .ok (.iadd, 1) := by decide +kernel
theorem dX9_price_19 : decode cX9_price 19 = .ok (.iaload, 1) := by decide +kernel
theorem dX9_price_20 : decode cX9_price 20 = .ok (.aload_n 0, 1) := by decide +kernel
theorem dX9_price_21 : decode cX9_price 21 = .ok (.aload_n 0, 1) := by decide +kernel
theorem dX9_price_22 : decode cX9_price 22 = .ok (.getfield 7, 3) := by decide +kernel
theorem dX9_price_25 : decode cX9_price 25 = .ok (.iload_n 1, 1) := by decide +kernel
theorem dX9_price_26 : decode cX9_price 26 = .ok (.invokevirtual 239, 3) := by decide +kernel
theorem dX9_price_29 : decode cX9_price 29 = .ok (.iadd, 1) := by decide +kernel
theorem dX9_price_30 : decode cX9_price 30 = .ok (.istore_n 2, 1) := by decide +kernel
theorem dX9_price_31 : decode cX9_price 31 = .ok (.bipush 99, 2) := by decide +kernel
theorem dX9_price_33 : decode cX9_price 33 = .ok (.istore_n 3, 1) := by decide +kernel
theorem dX9_price_34 : decode cX9_price 34 = .ok (.iload_n 3, 1) := by decide +kernel
theorem dX9_price_35 : decode cX9_price 35 = .ok (.ifCond .le 68, 3) := by decide +kernel
theorem dX9_price_38 : decode cX9_price 38 = .ok (.iconst 0, 1) := by decide +kernel
theorem dX9_price_39 : decode cX9_price 39 = .ok (.istore 4, 2) := by decide +kernel
theorem dX9_price_41 : decode cX9_price 41 = .ok (.iconst 0, 1) := by decide +kernel
theorem dX9_price_42 : decode cX9_price 42 = .ok (.istore 5, 2) := by decide +kernel
theorem dX9_price_44 : decode cX9_price 44 = .ok (.iload 5, 2) := by decide +kernel
theorem dX9_price_46 : decode cX9_price 46 = .ok (.aload_n 0, 1) := by decide +kernel
theorem dX9_price_47 : decode cX9_price 47 = .ok (.getfield 127, 3) := by decide +kernel
theorem dX9_price_50 : decode cX9_price 50 = .ok (.if_icmp .ge 39, 3) := by decide +kernel
theorem dX9_price_53 : decode cX9_price 53 = .ok (.iload 4, 2) := by decide +kernel
theorem dX9_price_55 : decode cX9_price 55 = .ok (.aload_n 0, 1) := by decide +kernel
theorem dX9_price_56 : decode cX9_price 56 = .ok (.iload 5, 2) := by decide +kernel
theorem dX9_price_58 : decode cX9_price 58 = .ok (.iload_n 1, 1) := by decide +kernel
theorem dX9_price_59 : decode cX9_price 59 = .ok (.invokevirtual 359, 3) := by decide +kernel
theorem dX9_price_62 : decode cX9_price 62 = .ok (.ifCond .eq 17, 3) := by decide +kernel
theorem dX9_price_65 : decode cX9_price 65 = .ok (.aload_n 0, 1) := by decide +kernel
theorem dX9_price_66 : decode cX9_price 66 = .ok (.iload 5, 2) := by decide +kernel
theorem dX9_price_68 : decode cX9_price 68 = .ok (.invokevirtual 281, 3) := by decide +kernel
theorem dX9_price_71 : decode cX9_price 71 = .ok (.iload_n 3, 1) := by decide +kernel
theorem dX9_price_72 : decode cX9_price 72 = .ok (.if_icmp .lt 7, 3) := by decide +kernel
theorem dX9_price_75 : decode cX9_price 75 = .ok (.iconst 1, 1) := by decide +kernel
theorem dX9_price_76 : decode cX9_price 76 = .ok (.goto 4, 3) := by decide +kernel
theorem dX9_price_79 : decode cX9_price 79 = .ok (.iconst 0, 1) := by decide +kernel
theorem dX9_price_80 : decode cX9_price 80 = .ok (.iadd, 1) := by decide +kernel
theorem dX9_price_81 : decode cX9_price 81 = .ok (.istore 4, 2) := by decide +kernel
theorem dX9_price_83 : decode cX9_price 83 = .ok (.iinc 5 1, 3) := by decide +kernel
theorem dX9_price_86 : decode cX9_price 86 = .ok (.goto (-42), 3) := by decide +kernel
theorem dX9_price_89 : decode cX9_price 89 = .ok (.iload 4, 2) := by decide +kernel
theorem dX9_price_91 : decode cX9_price 91 = .ok (.iload_n 2, 1) := by decide +kernel
theorem dX9_price_92 : decode cX9_price 92 = .ok (.if_icmp .le 5, 3) := by decide +kernel
theorem dX9_price_95 : decode cX9_price 95 = .ok (.iload_n 3, 1) := by decide +kernel
theorem dX9_price_96 : decode cX9_price 96 = .ok (.ireturn, 1) := by decide +kernel
theorem dX9_price_97 : decode cX9_price 97 = .ok (.iinc 3 (-1), 3) := by decide +kernel
theorem dX9_price_100 : decode cX9_price 100 = .ok (.goto (-66), 3) := by decide +kernel
theorem dX9_price_103 : decode cX9_price 103 = .ok (.iconst 0, 1) := by decide +kernel
theorem dX9_price_104 : decode cX9_price 104 = .ok (.ireturn, 1) := by decide +kernel
theorem dX9_doSell_0 : decode cX9_doSell 0 = .ok (.iload_n 1, 1) := by decide +kernel
theorem dX9_doSell_1 : decode cX9_doSell 1 = .ok (.iload_n 2, 1) := by decide +kernel
theorem dX9_doSell_2 : decode cX9_doSell 2 = .ok (.if_icmp .eq 71, 3) := by decide +kernel
theorem dX9_doSell_5 : decode cX9_doSell 5 = .ok (.aload_n 0, 1) := by decide +kernel
theorem dX9_doSell_6 : decode cX9_doSell 6 = .ok (.getfield 7, 3) := by decide +kernel
theorem dX9_doSell_9 : decode cX9_doSell 9 = .ok (.bipush 13, 2) := by decide +kernel
theorem dX9_doSell_11 : decode cX9_doSell 11 = .ok (.iload_n 3, 1) := by decide +kernel
theorem dX9_doSell_12 : decode cX9_doSell 12 = .ok (.iadd, 1) := by decide +kernel
theorem dX9_doSell_13 : decode cX9_doSell 13 = .ok (.iaload, 1) := by decide +kernel
theorem dX9_doSell_14 : decode cX9_doSell 14 = .ok (.ifCond .ne 59, 3) := by decide +kernel
theorem dX9_doSell_17 : decode cX9_doSell 17 = .ok (.aload_n 0, 1) := by decide +kernel
theorem dX9_doSell_18 : decode cX9_doSell 18 = .ok (.getfield 7, 3) := by decide +kernel
theorem dX9_doSell_21 : decode cX9_doSell 21 = .ok (.bipush 29, 2) := by decide +kernel
theorem dX9_doSell_23 : decode cX9_doSell 23 = .ok (.bipush 8, 2) := by decide +kernel
theorem dX9_doSell_25 : decode cX9_doSell 25 = .ok (.iload_n 1, 1) := by decide +kernel
theorem dX9_doSell_26 : decode cX9_doSell 26 = .ok (.imul, 1) := by decide +kernel
theorem dX9_doSell_27 : decode cX9_doSell 27 = .ok (.iadd, 1) := by decide +kernel
theorem dX9_doSell_28 : decode cX9_doSell 28 = .ok (.iload_n 3, 1) := by decide +kernel
theorem dX9_doSell_29 : decode cX9_doSell 29 = .ok (.iadd, 1) := by decide +kernel
theorem dX9_doSell_30 : decode cX9_doSell 30 = .ok (.iaload, 1) := by decide +kernel
theorem dX9_doSell_31 : decode cX9_doSell 31 = .ok (.ifCond .le 42, 3) := by decide +kernel
theorem dX9_doSell_34 : decode cX9_doSell 34 = .ok (.aload_n 0, 1) := by decide +kernel
theorem dX9_doSell_35 : decode cX9_doSell 35 = .ok (.iload_n 1, 1) := by decide +kernel
theorem dX9_doSell_36 : decode cX9_doSell 36 = .ok (.iload_n 3, 1) := by decide +kernel
theorem dX9_doSell_37 : decode cX9_doSell 37 = .ok (.invokevirtual 362, 3) := by decide +kernel
theorem dX9_doSell_40 : decode cX9_doSell 40 = .ok (.ifCond .ne 33, 3) := by decide +kernel
theorem dX9_doSell_43 : decode cX9_doSell 43 = .ok (.aload_n 0, 1) := by decide +kernel
theorem dX9_doSell_44 : decode cX9_doSell 44 = .ok (.iload_n 2, 1) := by decide +kernel
theorem dX9_doSell_45 : decode cX9_doSell 45 = .ok (.iload_n 3, 1) := by decide +kernel
theorem dX9_doSell_46 : decode cX9_doSell 46 = .ok (.invokevirtual 362, 3) := by decide +kernel
theorem dX9_doSell_49 : decode cX9_doSell 49 = .ok (.ifCond .le 24, 3) := by decide +kernel
theorem dX9_doSell_52 : decode cX9_doSell 52 = .ok (.aload_n 0, 1) := by decide +kernel
theorem dX9_doSell_53 : decode cX9_doSell 53 = .ok (.getfield 7, 3) := by decide +kernel
theorem dX9_doSell_56 : decode cX9_doSell 56 = .ok (.bipush 29, 2) := by decide +kernel
theorem dX9_doSell_58 : decode cX9_doSell 58 = .ok (.bipush 8, 2) := by decide +kernel
theorem dX9_doSell_60 : decode cX9_doSell 60 = .ok (.iload_n 2, 1) := by decide +kernel
theorem dX9_doSell_61 : decode cX9_doSell 61 = .ok (.imul, 1) := by decide +kernel
theorem dX9_doSell_62 : decode cX9_doSell 62 = .ok (.iadd, 1) := by decide +kernel
theorem dX9_doSell_63 : decode cX9_doSell 63 = .ok (.iload_n 3, 1) := by decide +kernel
theorem dX9_doSell_64 : decode cX9_doSell 64 = .ok (.iadd, 1) := by decide +kernel
theorem dX9_doSell_65 : decode cX9_doSell 65 = .ok (.iaload, 1) := by decide +kernel
theorem dX9_doSell_66 : decode cX9_doSell 66 = .ok (.ifCond .ne 7, 3) := by decide +kernel
theorem dX9_doSell_69 : decode cX9_doSell 69 = .ok (.iconst 1, 1) := by decide +kernel
theorem dX9_doSell_70 : decode cX9_doSell 70 = .ok (.goto 4, 3) := by decide +kernel
theorem dX9_doSell_73 : decode cX9_doSell 73 = .ok (.iconst 0, 1) := by decide +kernel
theorem dX9_doSell_74 : decode cX9_doSell 74 = .ok (.ireturn, 1) := by decide +kernel
theorem dX9_sells_0 : decode cX9_sells 0 = .ok (.aload_n 0, 1) := by decide +kernel
theorem dX9_sells_1 : decode cX9_sells 1 = .ok (.iload_n 1, 1) := by decide +kernel
theorem dX9_sells_2 : decode cX9_sells 2 = .ok (.invokevirtual 235, 3) := by decide +kernel
theorem dX9_sells_5 : decode cX9_sells 5 = .ok (.ifCond .ne 6, 3) := by decide +kernel
theorem dX9_sells_8 : decode cX9_sells 8 = .ok (.ldc 238, 2) := by decide +kernel
theorem dX9_sells_10 : decode cX9_sells 10 = .ok (.ireturn, 1) := by decide +kernel
theorem dX9_sells_11 : decode cX9_sells 11 = .ok (.iconst 0, 1) := by decide +kernel
theorem dX9_sells_12 : decode cX9_sells 12 = .ok (.istore_n 3, 1) := by decide +kernel
theorem dX9_sells_13 : decode cX9_sells 13 = .ok (.iconst 0, 1) := by decide +kernel
theorem dX9_sells_14 : decode cX9_sells 14 = .ok (.istore 4, 2) := by decide +kernel
theorem dX9_sells_16 : decode cX9_sells 16 = .ok (.iload 4, 2) := by decide +kernel
theorem dX9_sells_18 : decode cX9_sells 18 = .ok (.aload_n 0, 1) := by decide +kernel
theorem dX9_sells_19 : decode cX9_sells 19 = .ok (.getfield 124, 3) := by decide +kernel
theorem dX9_sells_22 : decode cX9_sells 22 = .ok (.if_icmp .ge 56, 3) := by decide +kernel
theorem dX9_sells_25 : decode cX9_sells 25 = .ok (.iconst 0, 1) := by decide +kernel
theorem dX9_sells_26 : decode cX9_sells 26 = .ok (.istore 5, 2) := by decide +kernel
theorem dX9_sells_28 : decode cX9_sells 28 = .ok (.iload 5, 2) := by decide +kernel
theorem dX9_sells_30 : decode cX9_sells 30 = .ok (.aload_n 0, 1) := by decide +kernel
theorem dX9_sells_31 : decode cX9_sells 31 = .ok (.getfield 124, 3) := by decide +kernel
theorem dX9_sells_34 : decode cX9_sells 34 = .ok (.if_icmp .ge 38, 3) := by decide +kernel
theorem dX9_sells_37 : decode cX9_sells 37 = .ok (.aload_n 0, 1) := by decide +kernel
theorem dX9_sells_38 : decode cX9_sells 38 = .ok (.iload 4, 2) := by decide +kernel
theorem dX9_sells_40 : decode cX9_sells 40 = .ok (.iload 5, 2) := by decide +kernel
theorem dX9_sells_42 : decode cX9_sells 42 = .ok (.iload_n 1, 1) := by decide +kernel
theorem dX9_sells_43 : decode cX9_sells 43 = .ok (.invokevirtual 365, 3) := by decide +kernel
theorem dX9_sells_46 : decode cX9_sells 46 = .ok (.ifCond .eq 20, 3) := by decide +kernel
theorem dX9_sells_49 : decode cX9_sells 49 = .ok (.iload_n 3, 1) := by decide +kernel
theorem dX9_sells_50 : decode cX9_sells 50 = .ok (.iload_n 2, 1) := by decide +kernel
theorem dX9_sells_51 : decode cX9_sells 51 = .ok (.if_icmp .ne 12, 3) := by decide +kernel
theorem dX9_sells_54 : decode cX9_sells 54 = .ok (.bipush 10, 2) := by decide +kernel
theorem dX9_sells_56 : decode cX9_sells 56 = .ok (.iload 4, 2) := by decide +kernel
theorem dX9_sells_58 : decode cX9_sells 58 = .ok (.imul, 1) := by decide +kernel
theorem dX9_sells_59 : decode cX9_sells 59 = .ok (.iload 5, 2) := by decide +kernel
theorem dX9_sells_61 : decode cX9_sells 61 = .ok (.iadd, 1) := by decide +kernel
theorem dX9_sells_62 : decode cX9_sells 62 = .ok (.ireturn, 1) := by decide +kernel
theorem dX9_sells_63 : decode cX9_sells 63 = .ok (.iinc 3 1, 3) := by decide +kernel
theorem dX9_sells_66 : decode cX9_sells 66 = .ok (.iinc 5 1, 3) := by decide +kernel
theorem dX9_sells_69 : decode cX9_sells 69 = .ok (.goto (-41), 3) := by decide +kernel
theorem dX9_sells_72 : decode cX9_sells 72 = .ok (.iinc 4 1, 3) := by decide +kernel
theorem dX9_sells_75 : decode cX9_sells 75 = .ok (.goto (-59), 3) := by decide +kernel
theorem dX9_sells_78 : decode cX9_sells 78 = .ok (.iload_n 2, 1) := by decide +kernel
theorem dX9_sells_79 : decode cX9_sells 79 = .ok (.iconst (-1), 1) := by decide +kernel
theorem dX9_sells_80 : decode cX9_sells 80 = .ok (.if_icmp .ne 7, 3) := by decide +kernel
theorem dX9_sells_83 : decode cX9_sells 83 = .ok (.iload_n 3, 1) := by decide +kernel
theorem dX9_sells_84 : decode cX9_sells 84 = .ok (.goto 4, 3) := by decide +kernel
theorem dX9_sells_87 : decode cX9_sells 87 = .ok (.iconst (-1), 1) := by decide +kernel
theorem dX9_sells_88 : decode cX9_sells 88 = .ok (.ireturn, 1) := by decide +kernel
theorem dX9_share_0 : decode cX9_share 0 = .ok (.aload_n 0, 1) := by decide +kernel
theorem dX9_share_1 : decode cX9_share 1 = .ok (.iload_n 1, 1) := by decide +kernel
theorem dX9_share_2 : decode cX9_share 2 = .ok (.invokevirtual 243, 3) := by decide +kernel
theorem dX9_share_5 : decode cX9_share 5 = .ok (.ifCond .eq 11, 3) := by decide +kernel
theorem dX9_share_8 : decode cX9_share 8 = .ok (.aload_n 0, 1) := by decide +kernel
theorem dX9_share_9 : decode cX9_share 9 = .ok (.iload_n 2, 1) := by decide +kernel
theorem dX9_share_10 : decode cX9_share 10 = .ok (.invokevirtual 235, 3) := by decide +kernel
theorem dX9_share_13 : decode cX9_share 13 = .ok (.ifCond .ne 6, 3) := by decide +kernel
theorem dX9_share_16 : decode cX9_share 16 = .ok (.ldc 238, 2) := by decide +kernel
theorem dX9_share_18 : decode cX9_share 18 = .ok (.ireturn, 1) := by decide +kernel
theorem dX9_share_19 : decode cX9_share 19 = .ok (.iconst 0, 1) := by decide +kernel
theorem dX9_share_20 : decode cX9_share 20 = .ok (.istore_n 3, 1) := by decide +kernel
theorem dX9_share_21 : decode cX9_share 21 = .ok (.iconst 0, 1) := by decide +kernel
theorem dX9_share_22 : decode cX9_share 22 = .ok (.istore 4, 2) := by decide +kernel
theorem dX9_share_24 : decode cX9_share 24 = .ok (.iload 4, 2) := by decide +kernel
theorem dX9_share_26 : decode cX9_share 26 = .ok (.aload_n 0, 1) := by decide +kernel
theorem dX9_share_27 : decode cX9_share 27 = .ok (.getfield 124, 3) := by decide +kernel
theorem dX9_share_30 : decode cX9_share 30 = .ok (.if_icmp .ge 67, 3) := by decide +kernel
theorem dX9_share_33 : decode cX9_share 33 = .ok (.aload_n 0, 1) := by decide +kernel
theorem dX9_share_34 : decode cX9_share 34 = .ok (.iload 4, 2) := by decide +kernel
theorem dX9_share_36 : decode cX9_share 36 = .ok (.iload_n 2, 1) := by decide +kernel
theorem dX9_share_37 : decode cX9_share 37 = .ok (.invokevirtual 362, 3) := by decide +kernel
theorem dX9_share_40 : decode cX9_share 40 = .ok (.aload_n 0, 1) := by decide +kernel
theorem dX9_share_41 : decode cX9_share 41 = .ok (.iload_n 1, 1) := by decide +kernel
theorem dX9_share_42 : decode cX9_share 42 = .ok (.iload_n 2, 1) := by decide +kernel
theorem dX9_share_43 : decode cX9_share 43 = .ok (.invokevirtual 362, 3) := by decide +kernel
theorem dX9_share_46 : decode cX9_share 46 = .ok (.if_icmp .gt 25, 3) := by decide +kernel
theorem dX9_share_49 : decode cX9_share 49 = .ok (.aload_n 0, 1) := by decide +kernel
theorem dX9_share_50 : decode cX9_share 50 = .ok (.iload 4, 2) := by decide +kernel
theorem dX9_share_52 : decode cX9_share 52 = .ok (.iload_n 2, 1) := by decide +kernel
theorem dX9_share_53 : decode cX9_share 53 = .ok (.invokevirtual 362, 3) := by decide +kernel
theorem dX9_share_56 : decode cX9_share 56 = .ok (.aload_n 0, 1) := by decide +kernel
theorem dX9_share_57 : decode cX9_share 57 = .ok (.iload_n 1, 1) := by decide +kernel
theorem dX9_share_58 : decode cX9_share 58 = .ok (.iload_n 2, 1) := by decide +kernel
theorem dX9_share_59 : decode cX9_share 59 = .ok (.invokevirtual 362, 3) := by decide +kernel
theorem dX9_share_62 : decode cX9_share 62 = .ok (.if_icmp .ne 13, 3) := by decide +kernel
theorem dX9_share_65 : decode cX9_share 65 = .ok (.iload 4, 2) := by decide +kernel
theorem dX9_share_67 : decode cX9_share 67 = .ok (.iload_n 1, 1) := by decide +kernel
theorem dX9_share_68 : decode cX9_share 68 = .ok (.if_icmp .ge 7, 3) := by decide +kernel
theorem dX9_share_71 : decode cX9_share 71 = .ok (.iconst 1, 1) := by decide +kernel
theorem dX9_share_72 : decode cX9_share 72 = .ok (.goto 4, 3) := by decide +kernel
theorem dX9_share_75 : decode cX9_share 75 = .ok (.iconst 0, 1) := by decide +kernel
theorem dX9_share_76 : decode cX9_share 76 = .ok (.istore 5, 2) := by decide +kernel
theorem dX9_share_78 : decode cX9_share 78 = .ok (.iload_n 3, 1) := by decide +kernel
theorem dX9_share_79 : decode cX9_share 79 = .ok (.iload 5, 2) := by decide +kernel
theorem dX9_share_81 : decode cX9_share 81 = .ok (.ifCond .eq 7, 3) := by decide +kernel
theorem dX9_share_84 : decode cX9_share 84 = .ok (.iconst 1, 1) := by decide +kernel
theorem dX9_share_85 : decode cX9_share 85 = .ok (.goto 4, 3) := by decide +kernel
theorem dX9_share_88 : decode cX9_share 88 = .ok (.iconst 0, 1) := by decide +kernel
theorem dX9_share_89 : decode cX9_share 89 = .ok (.iadd, 1) := by decide +kernel
theorem dX9_share_90 : decode cX9_share 90 = .ok (.istore_n 3, 1) := by decide +kernel
theorem dX9_share_91 : decode cX9_share 91 = .ok (.iinc 4 1, 3) := by decide +kernel
theorem dX9_share_94 : decode cX9_share 94 = .ok (.goto (-70), 3) := by decide +kernel
theorem dX9_share_97 : decode cX9_share 97 = .ok (.aload_n 0, 1) := by decide +kernel
theorem dX9_share_98 : decode cX9_share 98 = .ok (.getfield 7, 3) := by decide +kernel
theorem dX9_share_101 : decode cX9_share 101 = .ok (.bipush 13, 2) := by decide +kernel
theorem dX9_share_103 : decode cX9_share 103 = .ok (.iload_n 2, 1) := by decide +kernel
theorem dX9_share_104 : decode cX9_share 104 = .ok (.iadd, 1) := by decide +kernel
theorem dX9_share_105 : decode cX9_share 105 = .ok (.iaload, 1) := by decide +kernel
theorem dX9_share_106 : decode cX9_share 106 = .ok (.aload_n 0, 1) := by decide +kernel
theorem dX9_share_107 : decode cX9_share 107 = .ok (.getfield 124, 3) := by decide +kernel
theorem dX9_share_110 : decode cX9_share 110 = .ok (.idiv, 1) := by decide +kernel
theorem dX9_share_111 : decode cX9_share 111 = .ok (.iload_n 3, 1) := by decide +kernel
theorem dX9_share_112 : decode cX9_share 112 = .ok (.aload_n 0, 1) := by decide +kernel
theorem dX9_share_113 : decode cX9_share 113 = .ok (.getfield 7, 3) := by decide +kernel
theorem dX9_share_116 : decode cX9_share 116 = .ok (.bipush 13, 2) := by decide +kernel
theorem dX9_share_118 : decode cX9_share 118 = .ok (.iload_n 2, 1) := by decide +kernel
theorem dX9_share_119 : decode cX9_share 119 = .ok (.iadd, 1) := by decide +kernel
theorem dX9_share_120 : decode cX9_share 120 = .ok (.iaload, 1) := by decide +kernel
theorem dX9_share_121 : decode cX9_share 121 = .ok (.aload_n 0, 1) := by decide +kernel
theorem dX9_share_122 : decode cX9_share 122 = .ok (.getfield 124, 3) := by decide +kernel
theorem dX9_share_125 : decode cX9_share 125 = .ok (.irem, 1) := by decide +kernel
theorem dX9_share_126 : decode cX9_share 126 = .ok (.if_icmp .ge 7, 3) := by decide +kernel
theorem dX9_share_129 : decode cX9_share 129 = .ok (.iconst 1, 1) := by decide +kernel
theorem dX9_share_130 : decode cX9_share 130 = .ok (.goto 4, 3) := by decide +kernel
theorem dX9_share_133 : decode cX9_share 133 = .ok (.iconst 0, 1) := by decide +kernel
theorem dX9_share_134 : decode cX9_share 134 = .ok (.iadd, 1) := by decide +kernel
theorem dX9_share_135 : decode cX9_share 135 = .ok (.ireturn, 1) := by decide +kernel
theorem dX9_more_0 : decode cX9_more 0 = .ok (.aload_n 0, 1) := by decide +kernel
theorem dX9_more_1 : decode cX9_more 1 = .ok (.iload_n 1, 1) := by decide +kernel
theorem dX9_more_2 : decode cX9_more 2 = .ok (.invokevirtual 235, 3) := by decide +kernel
theorem dX9_more_5 : decode cX9_more 5 = .ok (.ifCond .ne 6, 3) := by decide +kernel
theorem dX9_more_8 : decode cX9_more 8 = .ok (.ldc 238, 2) := by decide +kernel
theorem dX9_more_10 : decode cX9_more 10 = .ok (.ireturn, 1) := by decide +kernel
theorem dX9_more_11 : decode cX9_more 11 = .ok (.aload_n 0, 1) := by decide +kernel
theorem dX9_more_12 : decode cX9_more 12 = .ok (.getfield 7, 3) := by decide +kernel
theorem dX9_more_15 : decode cX9_more 15 = .ok (.bipush 13, 2) := by decide +kernel
theorem dX9_more_17 : decode cX9_more 17 = .ok (.iload_n 1, 1) := by decide +kernel
theorem dX9_more_18 : decode cX9_more 18 = .ok (.iadd, 1) := by decide +kernel
theorem dX9_more_19 : decode cX9_more 19 = .ok (.iaload, 1) := by decide +kernel
theorem dX9_more_20 : decode cX9_more 20 = .ok (.ineg, 1) := by decide +kernel
theorem dX9_more_21 : decode cX9_more 21 = .ok (.istore_n 2, 1) := by decide +kernel
theorem dX9_more_22 : decode cX9_more 22 = .ok (.iconst 0, 1) := by decide +kernel
theorem dX9_more_23 : decode cX9_more 23 = .ok (.istore_n 3, 1) := by decide +kernel
theorem dX9_more_24 : decode cX9_more 24 = .ok (.iload_n 3, 1) := by decide +kernel
theorem dX9_more_25 : decode cX9_more 25 = .ok (.aload_n 0, 1) := by decide +kernel
theorem dX9_more_26 : decode cX9_more 26 = .ok (.getfield 124, 3) := by decide +kernel
theorem dX9_more_29 : decode cX9_more 29 = .ok (.if_icmp .ge 46, 3) := by decide +kernel
theorem dX9_more_32 : decode cX9_more 32 = .ok (.aload_n 0, 1) := by decide +kernel
theorem dX9_more_33 : decode cX9_more 33 = .ok (.iload_n 3, 1) := by decide +kernel
theorem dX9_more_34 : decode cX9_more 34 = .ok (.iload_n 1, 1) := by decide +kernel
theorem dX9_more_35 : decode cX9_more 35 = .ok (.invokevirtual 362, 3) := by decide +kernel
theorem dX9_more_38 : decode cX9_more 38 = .ok (.aload_n 0, 1) := by decide +kernel
theorem dX9_more_39 : decode cX9_more 39 = .ok (.getfield 7, 3) := by decide +kernel
theorem dX9_more_42 : decode cX9_more 42 = .ok (.bipush 29, 2) := by decide +kernel
theorem dX9_more_44 : decode cX9_more 44 = .ok (.bipush 8, 2) := by decide +kernel
theorem dX9_more_46 : decode cX9_more 46 = .ok (.iload_n 3, 1) := by decide +kernel
theorem dX9_more_47 : decode cX9_more 47 = .ok (.imul, 1) := by decide +kernel
theorem dX9_more_48 : decode cX9_more 48 = .ok (.iadd, 1) := by decide +kernel
theorem dX9_more_49 : decode cX9_more 49 = .ok (.iload_n 1, 1) := by decide +kernel
theorem dX9_more_50 : decode cX9_more 50 = .ok (.iadd, 1) := by decide +kernel
theorem dX9_more_51 : decode cX9_more 51 = .ok (.iaload, 1) := by decide +kernel
theorem dX9_more_52 : decode cX9_more 52 = .ok (.isub, 1) := by decide +kernel
theorem dX9_more_53 : decode cX9_more 53 = .ok (.istore 4, 2) := by decide +kernel
theorem dX9_more_55 : decode cX9_more 55 = .ok (.iload_n 2, 1) := by decide +kernel
theorem dX9_more_56 : decode cX9_more 56 = .ok (.iload 4, 2) := by decide +kernel
theorem dX9_more_58 : decode cX9_more 58 = .ok (.ifCond .le 8, 3) := by decide +kernel
theorem dX9_more_61 : decode cX9_more 61 = .ok (.iload 4, 2) := by decide +kernel
theorem dX9_more_63 : decode cX9_more 63 = .ok (.goto 4, 3) := by decide +kernel
theorem dX9_more_66 : decode cX9_more 66 = .ok (.iconst 0, 1) := by decide +kernel
theorem dX9_more_67 : decode cX9_more 67 = .ok (.iadd, 1) := by decide +kernel
theorem dX9_more_68 : decode cX9_more 68 = .ok (.istore_n 2, 1) := by decide +kernel
theorem dX9_more_69 : decode cX9_more 69 = .ok (.iinc 3 1, 3) := by decide +kernel
theorem dX9_more_72 : decode cX9_more 72 = .ok (.goto (-48), 3) := by decide +kernel
theorem dX9_more_75 : decode cX9_more 75 = .ok (.iload_n 2, 1) := by decide +kernel
theorem dX9_more_76 : decode cX9_more 76 = .ok (.ifCond .le 7, 3) := by decide +kernel
theorem dX9_more_79 : decode cX9_more 79 = .ok (.iload_n 2, 1) := by decide +kernel
theorem dX9_more_80 : decode cX9_more 80 = .ok (.goto 4, 3) := by decide +kernel
theorem dX9_more_83 : decode cX9_more 83 = .ok (.iconst 0, 1) := by decide +kernel
theorem dX9_more_84 : decode cX9_more 84 = .ok (.ireturn, 1) := by decide +kernel
theorem dX9_fire_0 : decode cX9_fire 0 = .ok (.iload_n 1, 1) := by decide +kernel
theorem dX9_fire_1 : decode cX9_fire 1 = .ok (.i2l, 1) := by decide +kernel
theorem dX9_fire_2 : decode cX9_fire 2 = .ok (.lconst 0, 1) := by decide +kernel
theorem dX9_fire_3 : decode cX9_fire 3 = .ok (.ldc2_w 369, 3) := by decide +kernel
theorem dX9_fire_6 : decode cX9_fire 6 = .ok (.invokestatic 120, 3) := by decide +kernel
theorem dX9_fire_9 : decode cX9_fire 9 = .ok (.ifCond .eq 15, 3) := by decide +kernel
theorem dX9_fire_12 : decode cX9_fire 12 = .ok (.iload_n 2, 1) := by decide +kernel
theorem dX9_fire_13 : decode cX9_fire 13 = .ok (.i2l, 1) := by decide +kernel
theorem dX9_fire_14 : decode cX9_fire 14 = .ok (.lconst 0, 1) := by decide +kernel
theorem dX9_fire_15 : decode cX9_fire 15 = .ok (.ldc2_w 371, 3) := by decide +kernel
theorem dX9_fire_18 : decode cX9_fire 18 = .ok (.invokestatic 120, 3) := by decide +kernel
theorem dX9_fire_21 : decode cX9_fire 21 = .ok (.ifCond .ne 6, 3) := by decide +kernel
theorem dX9_fire_24 : decode cX9_fire 24 = .ok (.ldc 133, 2) := by decide +kernel
theorem dX9_fire_26 : decode cX9_fire 26 = .ok (.ireturn, 1) := by decide +kernel
theorem dX9_fire_27 : decode cX9_fire 27 = .ok (.iconst 0, 1) := by decide +kernel
theorem dX9_fire_28 : decode cX9_fire 28 = .ok (.istore_n 3, 1) := by decide +kernel
theorem dX9_fire_29 : decode cX9_fire 29 = .ok (.iload_n 3, 1) := by decide +kernel
theorem dX9_fire_30 : decode cX9_fire 30 = .ok (.bipush 10, 2) := by decide +kernel
theorem dX9_fire_32 : decode cX9_fire 32 = .ok (.if_icmp .ge 16, 3) := by decide +kernel
theorem dX9_fire_35 : decode cX9_fire 35 = .ok (.aload_n 0, 1) := by decide +kernel
theorem dX9_fire_36 : decode cX9_fire 36 = .ok (.getfield 87, 3) := by decide +kernel
theorem dX9_fire_39 : decode cX9_fire 39 = .ok (.iload_n 3, 1) := by decide +kernel
theorem dX9_fire_40 : decode cX9_fire 40 = .ok (.iconst 0, 1) := by decide +kernel
theorem dX9_fire_41 : decode cX9_fire 41 = .ok (.iastore, 1) := by decide +kernel
theorem dX9_fire_42 : decode cX9_fire 42 = .ok (.iinc 3 1, 3) := by decide +kernel
theorem dX9_fire_45 : decode cX9_fire 45 = .ok (.goto (-16), 3) := by decide +kernel
theorem dX9_fire_48 : decode cX9_fire 48 = .ok (.iconst 0, 1) := by decide +kernel
theorem dX9_fire_49 : decode cX9_fire 49 = .ok (.istore_n 3, 1) := by decide +kernel
theorem dX9_fire_50 : decode cX9_fire 50 = .ok (.iload_n 3, 1) := by decide +kernel
theorem dX9_fire_51 : decode cX9_fire 51 = .ok (.iload_n 2, 1) := by decide +kernel
theorem dX9_fire_52 : decode cX9_fire 52 = .ok (.if_icmp .ge 133, 3) := by decide +kernel
theorem dX9_fire_55 : decode cX9_fire 55 = .ok (.iconst 0, 1) := by decide +kernel
theorem dX9_fire_56 : decode cX9_fire 56 = .ok (.istore 4, 2) := by decide +kernel
theorem dX9_fire_58 : decode cX9_fire 58 = .ok (.iload 4, 2) := by decide +kernel
theorem dX9_fire_60 : decode cX9_fire 60 = .ok (.bipush 10, 2) := by decide +kernel
theorem dX9_fire_62 : decode cX9_fire 62 = .ok (.if_icmp .ge 23, 3) := by decide +kernel
theorem dX9_fire_65 : decode cX9_fire 65 = .ok (.aload_n 0, 1) := by decide +kernel
theorem dX9_fire_66 : decode cX9_fire 66 = .ok (.getfield 90, 3) := by decide +kernel
theorem dX9_fire_69 : decode cX9_fire 69 = .ok (.iload 4, 2) := by decide +kernel
theorem dX9_fire_71 : decode cX9_fire 71 = .ok (.aload_n 0, 1) := by decide +kernel
theorem dX9_fire_72 : decode cX9_fire 72 = .ok (.getfield 87, 3) := by decide +kernel
theorem dX9_fire_75 : decode cX9_fire 75 = .ok (.iload 4, 2) := by decide +kernel
theorem dX9_fire_77 : decode cX9_fire 77 = .ok (.iaload, 1) := by decide +kernel
theorem dX9_fire_78 : decode cX9_fire 78 = .ok (.iastore, 1) := by decide +kernel
theorem dX9_fire_79 : decode cX9_fire 79 = .ok (.iinc 4 1, 3) := by decide +kernel
theorem dX9_fire_82 : decode cX9_fire 82 = .ok (.goto (-24), 3) := by decide +kernel
theorem dX9_fire_85 : decode cX9_fire 85 = .ok (.iconst 1, 1) := by decide +kernel
theorem dX9_fire_86 : decode cX9_fire 86 = .ok (.istore 4, 2) := by decide +kernel
theorem dX9_fire_88 : decode cX9_fire 88 = .ok (.iload 4, 2) := by decide +kernel
theorem dX9_fire_90 : decode cX9_fire 90 = .ok (.bipush 10, 2) := by decide +kernel
theorem dX9_fire_92 : decode cX9_fire 92 = .ok (.if_icmp .ge 87, 3) := by decide +kernel
theorem dX9_fire_95 : decode cX9_fire 95 = .ok (.iconst 0, 1) := by decide +kernel
theorem dX9_fire_96 : decode cX9_fire 96 = .ok (.istore 5, 2) := by decide +kernel
theorem dX9_fire_98 : decode cX9_fire 98 = .ok (.iconst 1, 1) := by decide +kernel
theorem dX9_fire_99 : decode cX9_fire 99 = .ok (.istore 6, 2) := by decide +kernel
theorem dX9_fire_101 : decode cX9_fire 101 = .ok (.iload 6, 2) := by decide +kernel
theorem dX9_fire_103 : decode cX9_fire 103 = .ok (.bipush 6, 2) := by decide +kernel
theorem dX9_fire_105 : decode cX9_fire 105 = .ok (.if_icmp .gt 56, 3) := by decide +kernel
theorem dX9_fire_108 : decode cX9_fire 108 = .ok (.sipush 1000, 3) := by decide +kernel
theorem dX9_fire_111 : decode cX9_fire 111 = .ok (.iload 6, 2) := by decide +kernel
theorem dX9_fire_113 : decode cX9_fire 113 = .ok (.imul, 1) := by decide +kernel
theorem dX9_fire_114 : decode cX9_fire 114 = .ok (.aload_n 0, 1) := by decide +kernel
theorem dX9_fire_115 : decode cX9_fire 115 = .ok (.getfield 90, 3) := by decide +kernel
theorem dX9_fire_118 : decode cX9_fire 118 = .ok (.iload 4, 2) := by decide +kernel
theorem dX9_fire_120 : decode cX9_fire 120 = .ok (.iconst 1, 1) := by decide +kernel
theorem dX9_fire_121 : decode cX9_fire 121 = .ok (.isub, 1) := by decide +kernel
theorem dX9_fire_122 : decode cX9_fire 122 = .ok (.iaload, 1) := by decide +kernel
theorem dX9_fire_123 : decode cX9_fire 123 = .ok (.iadd, 1) := by decide +kernel
theorem dX9_fire_124 : decode cX9_fire 124 = .ok (.istore 7, 2) := by decide +kernel
theorem dX9_fire_126 : decode cX9_fire 126 = .ok (.iload 5, 2) := by decide +kernel
theorem dX9_fire_128 : decode cX9_fire 128 = .ok (.iload 7, 2) := by decide +kernel
theorem dX9_fire_130 : decode cX9_fire 130 = .ok (.aload_n 0, 1) := by decide +kernel
theorem dX9_fire_131 : decode cX9_fire 131 = .ok (.getfield 90, 3) := by decide +kernel
theorem dX9_fire_134 : decode cX9_fire 134 = .ok (.iload 4, 2) := by decide +kernel
theorem dX9_fire_136 : decode cX9_fire 136 = .ok (.iaload, 1) := by decide +kernel
theorem dX9_fire_137 : decode cX9_fire 137 = .ok (.if_icmp .le 8, 3) := by decide +kernel
theorem dX9_fire_140 : decode cX9_fire 140 = .ok (.iload 7, 2) := by decide +kernel
theorem dX9_fire_142 : decode cX9_fire 142 = .ok (.goto 10, 3) := by decide +kernel
theorem dX9_fire_145 : decode cX9_fire 145 = .ok (.aload_n 0, 1) := by decide +kernel
theorem dX9_fire_146 : decode cX9_fire 146 = .ok (.getfield 90, 3) := by decide +kernel
theorem dX9_fire_149 : decode cX9_fire 149 = .ok (.iload 4, 2) := by decide +kernel
theorem dX9_fire_151 : decode cX9_fire 151 = .ok (.iaload, 1) := by decide +kernel
theorem dX9_fire_152 : decode cX9_fire 152 = .ok (.iadd, 1) := by decide +kernel
theorem dX9_fire_153 : decode cX9_fire 153 = .ok (.istore 5, 2) := by decide +kernel
theorem dX9_fire_155 : decode cX9_fire 155 = .ok (.iinc 6 1, 3) := by decide +kernel
theorem dX9_fire_158 : decode cX9_fire 158 = .ok (.goto (-57), 3) := by decide +kernel
theorem dX9_fire_161 : decode cX9_fire 161 = .ok (.aload_n 0, 1) := by decide +kernel
theorem dX9_fire_162 : decode cX9_fire 162 = .ok (.getfield 87, 3) := by decide +kernel
theorem dX9_fire_165 : decode cX9_fire 165 = .ok (.iload 4, 2) := by decide +kernel
theorem dX9_fire_167 : decode cX9_fire 167 = .ok (.iload 5, 2) := by decide +kernel
theorem dX9_fire_169 : decode cX9_fire 169 = .ok (.bipush 6, 2) := by decide +kernel
theorem dX9_fire_171 : decode cX9_fire 171 = .ok (.idiv, 1) := by decide +kernel
theorem dX9_fire_172 : decode cX9_fire 172 = .ok (.iastore, 1) := by decide +kernel
theorem dX9_fire_173 : decode cX9_fire 173 = .ok (.iinc 4 1, 3) := by decide +kernel
theorem dX9_fire_176 : decode cX9_fire 176 = .ok (.goto (-88), 3) := by decide +kernel
theorem dX9_fire_179 : decode cX9_fire 179 = .ok (.iinc 3 1, 3) := by decide +kernel
theorem dX9_fire_182 : decode cX9_fire 182 = .ok (.goto (-132), 3) := by decide +kernel
theorem dX9_fire_185 : decode cX9_fire 185 = .ok (.aload_n 0, 1) := by decide +kernel
theorem dX9_fire_186 : decode cX9_fire 186 = .ok (.getfield 87, 3) := by decide +kernel
theorem dX9_fire_189 : decode cX9_fire 189 = .ok (.iload_n 1, 1) := by decide +kernel
theorem dX9_fire_190 : decode cX9_fire 190 = .ok (.iaload, 1) := by decide +kernel
theorem dX9_fire_191 : decode cX9_fire 191 = .ok (.ireturn, 1) := by decide +kernel
theorem dX9_rhymes_0 : decode cX9_rhymes 0 = .ok (.iconst 0, 1) := by decide +kernel
theorem dX9_rhymes_1 : decode cX9_rhymes 1 = .ok (.istore_n 2, 1) := by decide +kernel
theorem dX9_rhymes_2 : decode cX9_rhymes 2 = .ok (.iconst 0, 1) := by decide +kernel
theorem dX9_rhymes_3 : decode cX9_rhymes 3 = .ok (.istore_n 3, 1) := by decide +kernel
theorem dX9_rhymes_4 : decode cX9_rhymes 4 = .ok (.iload_n 3, 1) := by decide +kernel
theorem dX9_rhymes_5 : decode cX9_rhymes 5 = .ok (.aload_n 0, 1) := by decide +kernel
theorem dX9_rhymes_6 : decode cX9_rhymes 6 = .ok (.getfield 117, 3) := by decide +kernel
theorem dX9_rhymes_9 : decode cX9_rhymes 9 = .ok (.if_icmp .ge 86, 3) := by decide +kernel
theorem dX9_rhymes_12 : decode cX9_rhymes 12 = .ok (.iload_n 3, 1) := by decide +kernel
theorem dX9_rhymes_13 : decode cX9_rhymes 13 = .ok (.iconst 1, 1) := by decide +kernel
theorem dX9_rhymes_14 : decode cX9_rhymes 14 = .ok (.iadd, 1) := by decide +kernel
theorem dX9_rhymes_15 : decode cX9_rhymes 15 = .ok (.istore 4, 2) := by decide +kernel
theorem dX9_rhymes_17 : decode cX9_rhymes 17 = .ok (.iload 4, 2) := by decide +kernel
theorem dX9_rhymes_19 : decode cX9_rhymes 19 = .ok (.aload_n 0, 1) := by decide +kernel
theorem dX9_rhymes_20 : decode cX9_rhymes 20 = .ok (.getfield 117, 3) := by decide +kernel
theorem dX9_rhymes_23 : decode cX9_rhymes 23 = .ok (.if_icmp .ge 66, 3) := by decide +kernel
theorem dX9_rhymes_26 : decode cX9_rhymes 26 = .ok (.aload_n 0, 1) := by decide +kernel
theorem dX9_rhymes_27 : decode cX9_rhymes 27 = .ok (.getfield 22, 3) := by decide +kernel
theorem dX9_rhymes_30 : decode cX9_rhymes 30 = .ok (.iload_n 3, 1) := by decide +kernel
theorem dX9_rhymes_31 : decode cX9_rhymes 31 = .ok (.iaload, 1) := by decide +kernel
theorem dX9_rhymes_32 : decode cX9_rhymes 32 = .ok (.aload_n 0, 1) := by decide +kernel
theorem dX9_rhymes_33 : decode cX9_rhymes 33 = .ok (.getfield 22, 3) := by decide +kernel
theorem dX9_rhymes_36 : decode cX9_rhymes 36 = .ok (.iload 4, 2) := by decide +kernel
theorem dX9_rhymes_38 : decode cX9_rhymes 38 = .ok (.iaload, 1) := by decide +kernel
theorem dX9_rhymes_39 : decode cX9_rhymes 39 = .ok (.if_icmp .ne 44, 3) := by decide +kernel
theorem dX9_rhymes_42 : decode cX9_rhymes 42 = .ok (.aload_n 0, 1) := by decide +kernel
theorem dX9_rhymes_43 : decode cX9_rhymes 43 = .ok (.getfield 7, 3) := by decide +kernel
theorem dX9_rhymes_46 : decode cX9_rhymes 46 = .ok (.bipush 13, 2) := by decide +kernel
theorem dX9_rhymes_48 : decode cX9_rhymes 48 = .ok (.iload_n 3, 1) := by decide +kernel
theorem dX9_rhymes_49 : decode cX9_rhymes 49 = .ok (.iadd, 1) := by decide +kernel
theorem dX9_rhymes_50 : decode cX9_rhymes 50 = .ok (.iaload, 1) := by decide +kernel
theorem dX9_rhymes_51 : decode cX9_rhymes 51 = .ok (.ifCond .le 32, 3) := by decide +kernel
theorem dX9_rhymes_54 : decode cX9_rhymes 54 = .ok (.aload_n 0, 1) := by decide +kernel
theorem dX9_rhymes_55 : decode cX9_rhymes 55 = .ok (.getfield 7, 3) := by decide +kernel
theorem dX9_rhymes_58 : decode cX9_rhymes 58 = .ok (.bipush 13, 2) := by decide +kernel
theorem dX9_rhymes_60 : decode cX9_rhymes 60 = .ok (.iload 4, 2) := by decide +kernel
theorem dX9_rhymes_62 : decode cX9_rhymes 62 = .ok (.iadd, 1) := by decide +kernel
theorem dX9_rhymes_63 : decode cX9_rhymes 63 = .ok (.iaload, 1) := by decide +kernel
theorem dX9_rhymes_64 : decode cX9_rhymes 64 = .ok (.ifCond .le 19, 3) := by decide +kernel
theorem dX9_rhymes_67 : decode cX9_rhymes 67 = .ok (.iload_n 2, 1) := by decide +kernel
theorem dX9_rhymes_68 : decode cX9_rhymes 68 = .ok (.iload_n 1, 1) := by decide +kernel
theorem dX9_rhymes_69 : decode cX9_rhymes 69 = .ok (.if_icmp .ne 11, 3) := by decide +kernel
theorem dX9_rhymes_72 : decode cX9_rhymes 72 = .ok (.bipush 10, 2) := by decide +kernel
theorem dX9_rhymes_74 : decode cX9_rhymes 74 = .ok (.iload_n 3, 1) := by decide +kernel
theorem dX9_rhymes_75 : decode cX9_rhymes 75 = .ok (.imul, 1) := by decide +kernel
theorem dX9_rhymes_76 : decode cX9_rhymes 76 = .ok (.iload 4, 2) := by decide +kernel
theorem dX9_rhymes_78 : decode cX9_rhymes 78 = .ok (.iadd, 1) := by decide +kernel
theorem dX9_rhymes_79 : decode cX9_rhymes 79 = .ok (.ireturn, 1) := by decide +kernel
theorem dX9_rhymes_80 : decode cX9_rhymes 80 = .ok (.iinc 2 1, 3) := by decide +kernel
theorem dX9_rhymes_83 : decode cX9_rhymes 83 = .ok (.iinc 4 1, 3) := by decide +kernel
theorem dX9_rhymes_86 : decode cX9_rhymes 86 = .ok (.goto (-69), 3) := by decide +kernel
theorem dX9_rhymes_89 : decode cX9_rhymes 89 = .ok (.iinc 3 1, 3) := by decide +kernel
theorem dX9_rhymes_92 : decode cX9_rhymes 92 = .ok (.goto (-88), 3) := by decide +kernel
theorem dX9_rhymes_95 : decode cX9_rhymes 95 = .ok (.iload_n 1, 1) := by decide +kernel
theorem dX9_rhymes_96 : decode cX9_rhymes 96 = .ok (.iconst (-1), 1) := by decide +kernel
theorem dX9_rhymes_97 : decode cX9_rhymes 97 = .ok (.if_icmp .ne 7, 3) := by decide +kernel
theorem dX9_rhymes_100 : decode cX9_rhymes 100 = .ok (.iload_n 2, 1) := by decide +kernel
theorem dX9_rhymes_101 : decode cX9_rhymes 101 = .ok (.goto 4, 3) := by decide +kernel
theorem dX9_rhymes_104 : decode cX9_rhymes 104 = .ok (.iconst (-1), 1) := by decide +kernel
theorem dX9_rhymes_105 : decode cX9_rhymes 105 = .ok (.ireturn, 1) := by decide +kernel
theorem dX9_silent_0 : decode cX9_silent 0 = .ok (.iload_n 1, 1) := by decide +kernel
theorem dX9_silent_1 : decode cX9_silent 1 = .ok (.i2l, 1) := by decide +kernel
theorem dX9_silent_2 : decode cX9_silent 2 = .ok (.lconst 0, 1) := by decide +kernel
theorem dX9_silent_3 : decode cX9_silent 3 = .ok (.ldc2_w 284, 3) := by decide +kernel
theorem dX9_silent_6 : decode cX9_silent 6 = .ok (.invokestatic 120, 3) := by decide +kernel
theorem dX9_silent_9 : decode cX9_silent 9 = .ok (.ifCond .eq 15, 3) := by decide +kernel
theorem dX9_silent_12 : decode cX9_silent 12 = .ok (.iload_n 2, 1) := by decide +kernel
theorem dX9_silent_13 : decode cX9_silent 13 = .ok (.i2l, 1) := by decide +kernel
theorem dX9_silent_14 : decode cX9_silent 14 = .ok (.lconst 0, 1) := by decide +kernel
theorem dX9_silent_15 : decode cX9_silent 15 = .ok (.ldc2_w 373, 3) := by decide +kernel
theorem dX9_silent_18 : decode cX9_silent 18 = .ok (.invokestatic 120, 3) := by decide +kernel
theorem dX9_silent_21 : decode cX9_silent 21 = .ok (.ifCond .ne 6, 3) := by decide +kernel
theorem dX9_silent_24 : decode cX9_silent 24 = .ok (.ldc 133, 2) := by decide +kernel
theorem dX9_silent_26 : decode cX9_silent 26 = .ok (.ireturn, 1) := by decide +kernel
theorem dX9_silent_27 : decode cX9_silent 27 = .ok (.ldc2_w 375, 3) := by decide +kernel
theorem dX9_silent_30 : decode cX9_silent 30 = .ok (.lstore_n 3, 1) := by decide +kernel
theorem dX9_silent_31 : decode cX9_silent 31 = .ok (.iconst 0, 1) := by decide +kernel
theorem dX9_silent_32 : decode cX9_silent 32 = .ok (.istore 5, 2) := by decide +kernel
theorem dX9_silent_34 : decode cX9_silent 34 = .ok (.iload 5, 2) := by decide +kernel
theorem dX9_silent_36 : decode cX9_silent 36 = .ok (.iload_n 1, 1) := by decide +kernel
theorem dX9_silent_37 : decode cX9_silent 37 = .ok (.if_icmp .ge 18, 3) := by decide +kernel
theorem dX9_silent_40 : decode cX9_silent 40 = .ok (.lload_n 3, 1) := by decide +kernel
theorem dX9_silent_41 : decode cX9_silent 41 = .ok (.iload_n 2, 1) := by decide +kernel
theorem dX9_silent_42 : decode cX9_silent 42 = .ok (.i2l, 1) := by decide +kernel
theorem dX9_silent_43 : decode cX9_silent 43 = .ok (.lmul, 1) := by decide +kernel
theorem dX9_silent_44 : decode cX9_silent 44 = .ok (.ldc2_w 373, 3) := by decide +kernel
theorem dX9_silent_47 : decode cX9_silent 47 = .ok (.ldiv, 1) := by decide +kernel
theorem dX9_silent_48 : decode cX9_silent 48 = .ok (.lstore_n 3, 1) := by decide +kernel
theorem dX9_silent_49 : decode cX9_silent 49 = .ok (.iinc 5 1, 3) := by decide +kernel
theorem dX9_silent_52 : decode cX9_silent 52 = .ok (.goto (-18), 3) := by decide +kernel
theorem dX9_silent_55 : decode cX9_silent 55 = .ok (.lload_n 3, 1) := by decide +kernel
theorem dX9_silent_56 : decode cX9_silent 56 = .ok (.l2i, 1) := by decide +kernel
theorem dX9_silent_57 : decode cX9_silent 57 = .ok (.ireturn, 1) := by decide +kernel
theorem dX9_knot_0 : decode cX9_knot 0 = .ok (.aload_n 0, 1) := by decide +kernel
theorem dX9_knot_1 : decode cX9_knot 1 = .ok (.iload_n 1, 1) := by decide +kernel
theorem dX9_knot_2 : decode cX9_knot 2 = .ok (.invokevirtual 235, 3) := by decide +kernel
theorem dX9_knot_5 : decode cX9_knot 5 = .ok (.ifCond .ne 6, 3) := by decide +kernel
theorem dX9_knot_8 : decode cX9_knot 8 = .ok (.ldc 238, 2) := by decide +kernel
theorem dX9_knot_10 : decode cX9_knot 10 = .ok (.ireturn, 1) := by decide +kernel
theorem dX9_knot_11 : decode cX9_knot 11 = .ok (.iload_n 2, 1) := by decide +kernel
theorem dX9_knot_12 : decode cX9_knot 12 = .ok (.i2l, 1) := by decide +kernel
theorem dX9_knot_13 : decode cX9_knot 13 = .ok (.lconst 0, 1) := by decide +kernel
theorem dX9_knot_14 : decode cX9_knot 14 = .ok (.ldc2_w 377, 3) := by decide +kernel
theorem dX9_knot_17 : decode cX9_knot 17 = .ok (.invokestatic 120, 3) := by decide +kernel
theorem dX9_knot_20 : decode cX9_knot 20 = .ok (.ifCond .ne 6, 3) := by decide +kernel
theorem dX9_knot_23 : decode cX9_knot 23 = .ok (.ldc 133, 2) := by decide +kernel
theorem dX9_knot_25 : decode cX9_knot 25 = .ok (.ireturn, 1) := by decide +kernel
theorem dX9_knot_26 : decode cX9_knot 26 = .ok (.aload_n 0, 1) := by decide +kernel
theorem dX9_knot_27 : decode cX9_knot 27 = .ok (.getfield 222, 3) := by decide +kernel
theorem dX9_knot_30 : decode cX9_knot 30 = .ok (.bipush 6, 2) := by decide +kernel
theorem dX9_knot_32 : decode cX9_knot 32 = .ok (.if_icmp .ne 6, 3) := by decide +kernel
theorem dX9_knot_35 : decode cX9_knot 35 = .ok (.ldc 137, 2) := by decide +kernel
theorem dX9_knot_37 : decode cX9_knot 37 = .ok (.ireturn, 1) := by decide +kernel
theorem dX9_knot_38 : decode cX9_knot 38 = .ok (.aload_n 0, 1) := by decide +kernel
theorem dX9_knot_39 : decode cX9_knot 39 = .ok (.getfield 93, 3) := by decide +kernel
theorem dX9_knot_42 : decode cX9_knot 42 = .ok (.aload_n 0, 1) := by decide +kernel
theorem dX9_knot_43 : decode cX9_knot 43 = .ok (.getfield 222, 3) := by decide +kernel
theorem dX9_knot_46 : decode cX9_knot 46 = .ok (.iload_n 1, 1) := by decide +kernel
theorem dX9_knot_47 : decode cX9_knot 47 = .ok (.iastore, 1) := by decide +kernel
theorem dX9_knot_48 : decode cX9_knot 48 = .ok (.aload_n 0, 1) := by decide +kernel
theorem dX9_knot_49 : decode cX9_knot 49 = .ok (.getfield 96, 3) := by decide +kernel
theorem dX9_knot_52 : decode cX9_knot 52 = .ok (.aload_n 0, 1) := by decide +kernel
theorem dX9_knot_53 : decode cX9_knot 53 = .ok (.getfield 222, 3) := by decide +kernel
theorem dX9_knot_56 : decode cX9_knot 56 = .ok (.iload_n 2, 1) := by decide +kernel
theorem dX9_knot_57 : decode cX9_knot 57 = .ok (.iastore, 1) := by decide +kernel
theorem dX9_knot_58 : decode cX9_knot 58 = .ok (.aload_n 0, 1) := by decide +kernel
theorem dX9_knot_59 : decode cX9_knot 59 = .ok (.getfield 99, 3) := by decide +kernel
theorem dX9_knot_62 : decode cX9_knot 62 = .ok (.aload_n 0, 1) := by decide +kernel
theorem dX9_knot_63 : decode cX9_knot 63 = .ok (.getfield 222, 3) := by decide +kernel
theorem dX9_knot_66 : decode cX9_knot 66 = .ok (.iload_n 3, 1) := by decide +kernel
theorem dX9_knot_67 : decode cX9_knot 67 = .ok (.bastore, 1) := by decide +kernel
theorem dX9_knot_68 : decode cX9_knot 68 = .ok (.aload_n 0, 1) := by decide +kernel
theorem dX9_knot_69 : decode cX9_knot 69 = .ok (.dup, 1) := by decide +kernel
theorem dX9_knot_70 : decode cX9_knot 70 = .ok (.getfield 222, 3) := by decide +kernel
theorem dX9_knot_73 : decode cX9_knot 73 = .ok (.iconst 1, 1) := by decide +kernel
theorem dX9_knot_74 : decode cX9_knot 74 = .ok (.iadd, 1) := by decide +kernel
theorem dX9_knot_75 : decode cX9_knot 75 = .ok (.putfield 222, 3) := by decide +kernel
theorem dX9_knot_78 : decode cX9_knot 78 = .ok (.aload_n 0, 1) := by decide +kernel
theorem dX9_knot_79 : decode cX9_knot 79 = .ok (.getfield 222, 3) := by decide +kernel
theorem dX9_knot_82 : decode cX9_knot 82 = .ok (.ireturn, 1) := by decide +kernel
theorem dX9_wouldSay_0 : decode cX9_wouldSay 0 = .ok (.iconst 0, 1) := by decide +kernel
theorem dX9_wouldSay_1 : decode cX9_wouldSay 1 = .ok (.istore 4, 2) := by decide +kernel
theorem dX9_wouldSay_3 : decode cX9_wouldSay 3 = .ok (.iconst 0, 1) := by decide +kernel
theorem dX9_wouldSay_4 : decode cX9_wouldSay 4 = .ok (.istore 5, 2) := by decide +kernel
theorem dX9_wouldSay_6 : decode cX9_wouldSay 6 = .ok (.iload 5, 2) := by decide +kernel
theorem dX9_wouldSay_8 : decode cX9_wouldSay 8 = .ok (.aload_n 0, 1) := by decide +kernel
theorem dX9_wouldSay_9 : decode cX9_wouldSay 9 = .ok (.getfield 127, 3) := by decide +kernel
theorem dX9_wouldSay_12 : decode cX9_wouldSay 12 = .ok (.if_icmp .ge 51, 3) := by decide +kernel
theorem dX9_wouldSay_15 : decode cX9_wouldSay 15 = .ok (.iload 4, 2) := by decide +kernel
theorem dX9_wouldSay_17 : decode cX9_wouldSay 17 = .ok (.ifCond .ne 33, 3) := by decide +kernel
theorem dX9_wouldSay_20 : decode cX9_wouldSay 20 = .ok (.aload_n 0, 1) := by decide +kernel
theorem dX9_wouldSay_21 : decode cX9_wouldSay 21 = .ok (.iload 5, 2) := by decide +kernel
theorem dX9_wouldSay_23 : decode cX9_wouldSay 23 = .ok (.invokevirtual 265, 3) := by decide +kernel
theorem dX9_wouldSay_26 : decode cX9_wouldSay 26 = .ok (.iload_n 1, 1) := by decide +kernel
theorem dX9_wouldSay_27 : decode cX9_wouldSay 27 = .ok (.if_icmp .ne 27, 3) := by decide +kernel
theorem dX9_wouldSay_30 : decode cX9_wouldSay 30 = .ok (.aload_n 0, 1) := by decide +kernel
theorem dX9_wouldSay_31 : decode cX9_wouldSay 31 = .ok (.iload 5, 2) := by decide +kernel
theorem dX9_wouldSay_33 : decode cX9_wouldSay 33 = .ok (.invokevirtual 268, 3) := by decide +kernel
theorem dX9_wouldSay_36 : decode cX9_wouldSay 36 = .ok (.iload_n 2, 1) := by decide +kernel
theorem dX9_wouldSay_37 : decode cX9_wouldSay 37 = .ok (.if_icmp .ne 17, 3) := by decide +kernel
theorem dX9_wouldSay_40 : decode cX9_wouldSay 40 = .ok (.aload_n 0, 1) := by decide +kernel
theorem dX9_wouldSay_41 : decode cX9_wouldSay 41 = .ok (.iload 5, 2) := by decide +kernel
theorem dX9_wouldSay_43 : decode cX9_wouldSay 43 = .ok (.invokevirtual 228, 3) := by decide +kernel
theorem dX9_wouldSay_46 : decode cX9_wouldSay 46 = .ok (.iload_n 3, 1) := by decide +kernel
theorem dX9_wouldSay_47 : decode cX9_wouldSay 47 = .ok (.if_icmp .ne 7, 3) := by decide +kernel
theorem dX9_wouldSay_50 : decode cX9_wouldSay 50 = .ok (.iconst 1, 1) := by decide +kernel
theorem dX9_wouldSay_51 : decode cX9_wouldSay 51 = .ok (.goto 4, 3) := by decide +kernel
theorem dX9_wouldSay_54 : decode cX9_wouldSay 54 = .ok (.iconst 0, 1) := by decide +kernel
theorem dX9_wouldSay_55 : decode cX9_wouldSay 55 = .ok (.istore 4, 2) := by decide +kernel
theorem dX9_wouldSay_57 : decode cX9_wouldSay 57 = .ok (.iinc 5 1, 3) := by decide +kernel
theorem dX9_wouldSay_60 : decode cX9_wouldSay 60 = .ok (.goto (-54), 3) := by decide +kernel
theorem dX9_wouldSay_63 : decode cX9_wouldSay 63 = .ok (.iload 4, 2) := by decide +kernel
theorem dX9_wouldSay_65 : decode cX9_wouldSay 65 = .ok (.aload_n 0, 1) := by decide +kernel
theorem dX9_wouldSay_66 : decode cX9_wouldSay 66 = .ok (.getfield 32, 3) := by decide +kernel
theorem dX9_wouldSay_69 : decode cX9_wouldSay 69 = .ok (.iload_n 1, 1) := by decide +kernel
theorem dX9_wouldSay_70 : decode cX9_wouldSay 70 = .ok (.baload, 1) := by decide +kernel
theorem dX9_wouldSay_71 : decode cX9_wouldSay 71 = .ok (.if_icmp .ne 7, 3) := by decide +kernel
theorem dX9_wouldSay_74 : decode cX9_wouldSay 74 = .ok (.iconst 1, 1) := by decide +kernel
theorem dX9_wouldSay_75 : decode cX9_wouldSay 75 = .ok (.goto 4, 3) := by decide +kernel
theorem dX9_wouldSay_78 : decode cX9_wouldSay 78 = .ok (.iconst 0, 1) := by decide +kernel
theorem dX9_wouldSay_79 : decode cX9_wouldSay 79 = .ok (.ireturn, 1) := by decide +kernel
theorem dX9_whoSaid_0 : decode cX9_whoSaid 0 = .ok (.iconst 0, 1) := by decide +kernel
theorem dX9_whoSaid_1 : decode cX9_whoSaid 1 = .ok (.istore_n 1, 1) := by decide +kernel
theorem dX9_whoSaid_2 : decode cX9_whoSaid 2 = .ok (.iconst 0, 1) := by decide +kernel
theorem dX9_whoSaid_3 : decode cX9_whoSaid 3 = .ok (.istore_n 2, 1) := by decide +kernel
theorem dX9_whoSaid_4 : decode cX9_whoSaid 4 = .ok (.iload_n 2, 1) := by decide +kernel
theorem dX9_whoSaid_5 : decode cX9_whoSaid 5 = .ok (.aload_n 0, 1) := by decide +kernel
theorem dX9_whoSaid_6 : decode cX9_whoSaid 6 = .ok (.getfield 124, 3) := by decide +kernel
theorem dX9_whoSaid_9 : decode cX9_whoSaid 9 = .ok (.if_icmp .ge 82, 3) := by decide +kernel
theorem dX9_whoSaid_12 : decode cX9_whoSaid 12 = .ok (.iconst 1, 1) := by decide +kernel
theorem dX9_whoSaid_13 : decode cX9_whoSaid 13 = .ok (.istore_n 3, 1) := by decide +kernel
theorem dX9_whoSaid_14 : decode cX9_whoSaid 14 = .ok (.iconst 0, 1) := by decide +kernel
theorem dX9_whoSaid_15 : decode cX9_whoSaid 15 = .ok (.istore 4, 2) := by decide +kernel
theorem dX9_whoSaid_17 : decode cX9_whoSaid 17 = .ok (.iload 4, 2) := by decide +kernel
theorem dX9_whoSaid_19 : decode cX9_whoSaid 19 = .ok (.aload_n 0, 1) := by decide +kernel
theorem dX9_whoSaid_20 : decode cX9_whoSaid 20 = .ok (.getfield 222, 3) := by decide +kernel
theorem dX9_whoSaid_23 : decode cX9_whoSaid 23 = .ok (.if_icmp .ge 48, 3) := by decide +kernel
theorem dX9_whoSaid_26 : decode cX9_whoSaid 26 = .ok (.iload_n 3, 1) := by decide +kernel
theorem dX9_whoSaid_27 : decode cX9_whoSaid 27 = .ok (.ifCond .eq 36, 3) := by decide +kernel
theorem dX9_whoSaid_30 : decode cX9_whoSaid 30 = .ok (.aload_n 0, 1) := by decide +kernel
theorem dX9_whoSaid_31 : decode cX9_whoSaid 31 = .ok (.iload_n 2, 1) := by decide +kernel
theorem dX9_whoSaid_32 : decode cX9_whoSaid 32 = .ok (.aload_n 0, 1) := by decide +kernel
theorem dX9_whoSaid_33 : decode cX9_whoSaid 33 = .ok (.getfield 93, 3) := by decide +kernel
theorem dX9_whoSaid_36 : decode cX9_whoSaid 36 = .ok (.iload 4, 2) := by decide +kernel
theorem dX9_whoSaid_38 : decode cX9_whoSaid 38 = .ok (.iaload, 1) := by decide +kernel
theorem dX9_whoSaid_39 : decode cX9_whoSaid 39 = .ok (.aload_n 0, 1) := by decide +kernel
theorem dX9_whoSaid_40 : decode cX9_whoSaid 40 = .ok (.getfield 96, 3) := by decide +kernel
theorem dX9_whoSaid_43 : decode cX9_whoSaid 43 = .ok (.iload 4, 2) := by decide +kernel
theorem dX9_whoSaid_45 : decode cX9_whoSaid 45 = .ok (.iaload, 1) := by decide +kernel
theorem dX9_whoSaid_46 : decode cX9_whoSaid 46 = .ok (.invokevirtual 379, 3) := by decide +kernel
theorem dX9_whoSaid_49 : decode cX9_whoSaid 49 = .ok (.aload_n 0, 1) := by decide +kernel
theorem dX9_whoSaid_50 : decode cX9_whoSaid 50 = .ok (.getfield 99, 3) := by decide +kernel
theorem dX9_whoSaid_53 : decode cX9_whoSaid 53 = .ok (.iload 4, 2) := by decide +kernel
theorem dX9_whoSaid_55 : decode cX9_whoSaid 55 = .ok (.baload, 1) := by decide +kernel
theorem dX9_whoSaid_56 : decode cX9_whoSaid 56 = .ok (.if_icmp .ne 7, 3) := by decide +kernel
theorem dX9_whoSaid_59 : decode cX9_whoSaid 59 = .ok (.iconst 1, 1) := by decide +kernel
theorem dX9_whoSaid_60 : decode cX9_whoSaid 60 = .ok (.goto 4, 3) := by decide +kernel
theorem dX9_whoSaid_63 : decode cX9_whoSaid 63 = .ok (.iconst 0, 1) := by decide +kernel
theorem dX9_whoSaid_64 : decode cX9_whoSaid 64 = .ok (.istore_n 3, 1) := by decide +kernel
theorem dX9_whoSaid_65 : decode cX9_whoSaid 65 = .ok (.iinc 4 1, 3) := by decide +kernel
theorem dX9_whoSaid_68 : decode cX9_whoSaid 68 = .ok (.goto (-51), 3) := by decide +kernel
theorem dX9_whoSaid_71 : decode cX9_whoSaid 71 = .ok (.iload_n 1, 1) := by decide +kernel
theorem dX9_whoSaid_72 : decode cX9_whoSaid 72 = .ok (.iload_n 3, 1) := by decide +kernel
theorem dX9_whoSaid_73 : decode cX9_whoSaid 73 = .ok (.ifCond .eq 9, 3) := by decide +kernel
theorem dX9_whoSaid_76 : decode cX9_whoSaid 76 = .ok (.iconst 1, 1) := by decide +kernel
theorem dX9_whoSaid_77 : decode cX9_whoSaid 77 = .ok (.iload_n 2, 1) := by decide +kernel
theorem dX9_whoSaid_78 : decode cX9_whoSaid 78 = .ok (.ishl, 1) := by decide +kernel
theorem dX9_whoSaid_79 : decode cX9_whoSaid 79 = .ok (.goto 4, 3) := by decide +kernel
theorem dX9_whoSaid_82 : decode cX9_whoSaid 82 = .ok (.iconst 0, 1) := by decide +kernel
theorem dX9_whoSaid_83 : decode cX9_whoSaid 83 = .ok (.ior, 1) := by decide +kernel
theorem dX9_whoSaid_84 : decode cX9_whoSaid 84 = .ok (.istore_n 1, 1) := by decide +kernel
theorem dX9_whoSaid_85 : decode cX9_whoSaid 85 = .ok (.iinc 2 1, 3) := by decide +kernel
theorem dX9_whoSaid_88 : decode cX9_whoSaid 88 = .ok (.goto (-84), 3) := by decide +kernel
theorem dX9_whoSaid_91 : decode cX9_whoSaid 91 = .ok (.iload_n 1, 1) := by decide +kernel
theorem dX9_whoSaid_92 : decode cX9_whoSaid 92 = .ok (.ireturn, 1) := by decide +kernel
theorem dX9_who_0 : decode cX9_who 0 = .ok (.aload_n 0, 1) := by decide +kernel
theorem dX9_who_1 : decode cX9_who 1 = .ok (.invokevirtual 382, 3) := by decide +kernel
theorem dX9_who_4 : decode cX9_who 4 = .ok (.ireturn, 1) := by decide +kernel
theorem dX9_ask_0 : decode cX9_ask 0 = .ok (.aload_n 0, 1) := by decide +kernel
theorem dX9_ask_1 : decode cX9_ask 1 = .ok (.invokevirtual 382, 3) := by decide +kernel
theorem dX9_ask_4 : decode cX9_ask 4 = .ok (.istore_n 1, 1) := by decide +kernel
theorem dX9_ask_5 : decode cX9_ask 5 = .ok (.iconst (-1), 1) := by decide +kernel
theorem dX9_ask_6 : decode cX9_ask 6 = .ok (.istore_n 2, 1) := by decide +kernel
theorem dX9_ask_7 : decode cX9_ask 7 = .ok (.iload_n 1, 1) := by decide +kernel
theorem dX9_ask_8 : decode cX9_ask 8 = .ok (.invokestatic 328, 3) := by decide +kernel
theorem dX9_ask_11 : decode cX9_ask 11 = .ok (.istore_n 3, 1) := by decide +kernel
theorem dX9_ask_12 : decode cX9_ask 12 = .ok (.iconst 0, 1) := by decide +kernel
theorem dX9_ask_13 : decode cX9_ask 13 = .ok (.istore 4, 2) := by decide +kernel
theorem dX9_ask_15 : decode cX9_ask 15 = .ok (.iload 4, 2) := by decide +kernel
theorem dX9_ask_17 : decode cX9_ask 17 = .ok (.aload_n 0, 1) := by decide +kernel
theorem dX9_ask_18 : decode cX9_ask 18 = .ok (.getfield 117, 3) := by decide +kernel
theorem dX9_ask_21 : decode cX9_ask 21 = .ok (.if_icmp .ge 137, 3) := by decide +kernel
theorem dX9_ask_24 : decode cX9_ask 24 = .ok (.iconst 0, 1) := by decide +kernel
theorem dX9_ask_25 : decode cX9_ask 25 = .ok (.istore 5, 2) := by decide +kernel
theorem dX9_ask_27 : decode cX9_ask 27 = .ok (.iload 5, 2) := by decide +kernel
theorem dX9_ask_29 : decode cX9_ask 29 = .ok (.aload_n 0, 1) := by decide +kernel
theorem dX9_ask_30 : decode cX9_ask 30 = .ok (.getfield 216, 3) := by decide +kernel
theorem dX9_ask_33 : decode cX9_ask 33 = .ok (.if_icmp .ge 119, 3) := by decide +kernel
theorem dX9_ask_36 : decode cX9_ask 36 = .ok (.iconst 0, 1) := by decide +kernel
theorem dX9_ask_37 : decode cX9_ask 37 = .ok (.istore 6, 2) := by decide +kernel
theorem dX9_ask_39 : decode cX9_ask 39 = .ok (.iconst 0, 1) := by decide +kernel
theorem dX9_ask_40 : decode cX9_ask 40 = .ok (.istore 7, 2) := by decide +kernel
theorem dX9_ask_42 : decode cX9_ask 42 = .ok (.iload 7, 2) := by decide +kernel
theorem dX9_ask_44 : decode cX9_ask 44 = .ok (.aload_n 0, 1) := by decide +kernel
theorem dX9_ask_45 : decode cX9_ask 45 = .ok (.getfield 124, 3) := by decide +kernel
theorem dX9_ask_48 : decode cX9_ask 48 = .ok (.if_icmp .ge 41, 3) := by decide +kernel
theorem dX9_ask_51 : decode cX9_ask 51 = .ok (.iload 6, 2) := by decide +kernel
theorem dX9_ask_53 : decode cX9_ask 53 = .ok (.iload_n 1, 1) := by decide +kernel
theorem dX9_ask_54 : decode cX9_ask 54 = .ok (.iload 7, 2) := by decide +kernel
theorem dX9_ask_56 : decode cX9_ask 56 = .ok (.invokestatic 178, 3) := by decide +kernel
theorem dX9_ask_59 : decode cX9_ask 59 = .ok (.ifCond .eq 20, 3) := by decide +kernel
theorem dX9_ask_62 : decode cX9_ask 62 = .ok (.aload_n 0, 1) := by decide +kernel
theorem dX9_ask_63 : decode cX9_ask 63 = .ok (.iload 7, 2) := by decide +kernel
theorem dX9_ask_65 : decode cX9_ask 65 = .ok (.iload 4, 2) := by decide +kernel
theorem dX9_ask_67 : decode cX9_ask 67 = .ok (.iload 5, 2) := by decide +kernel
theorem dX9_ask_69 : decode cX9_ask 69 = .ok (.invokevirtual 379, 3) := by decide +kernel
theorem dX9_ask_72 : decode cX9_ask 72 = .ok (.ifCond .eq 7, 3) := by decide +kernel
theorem dX9_ask_75 : decode cX9_ask 75 = .ok (.iconst 1, 1) := by decide +kernel
theorem dX9_ask_76 : decode cX9_ask 76 = .ok (.goto 4, 3) := by decide +kernel
theorem dX9_ask_79 : decode cX9_ask 79 = .ok (.iconst 0, 1) := by decide +kernel
theorem dX9_ask_80 : decode cX9_ask 80 = .ok (.iadd, 1) := by decide +kernel
theorem dX9_ask_81 : decode cX9_ask 81 = .ok (.istore 6, 2) := by decide +kernel
theorem dX9_ask_83 : decode cX9_ask 83 = .ok (.iinc 7 1, 3) := by decide +kernel
theorem dX9_ask_86 : decode cX9_ask 86 = .ok (.goto (-44), 3) := by decide +kernel
theorem dX9_ask_89 : decode cX9_ask 89 = .ok (.iload_n 1, 1) := by decide +kernel
theorem dX9_ask_90 : decode cX9_ask 90 = .ok (.invokestatic 328, 3) := by decide +kernel
theorem dX9_ask_93 : decode cX9_ask 93 = .ok (.iload 6, 2) := by decide +kernel
theorem dX9_ask_95 : decode cX9_ask 95 = .ok (.isub, 1) := by decide +kernel
theorem dX9_ask_96 : decode cX9_ask 96 = .ok (.istore 7, 2) := by decide +kernel
theorem dX9_ask_98 : decode cX9_ask 98 = .ok (.iload 6, 2) := by decide +kernel
theorem dX9_ask_100 : decode cX9_ask 100 = .ok (.iload 7, 2) := by decide +kernel
theorem dX9_ask_102 : decode cX9_ask 102 = .ok (.if_icmp .le 8, 3) := by decide +kernel
theorem dX9_ask_105 : decode cX9_ask 105 = .ok (.iload 6, 2) := by decide +kernel
theorem dX9_ask_107 : decode cX9_ask 107 = .ok (.goto 5, 3) := by decide +kernel
theorem dX9_ask_110 : decode cX9_ask 110 = .ok (.iload 7, 2) := by decide +kernel
theorem dX9_ask_112 : decode cX9_ask 112 = .ok (.istore 8, 2) := by decide +kernel
theorem dX9_ask_114 : decode cX9_ask 114 = .ok (.iload 8, 2) := by decide +kernel
theorem dX9_ask_116 : decode cX9_ask 116 = .ok (.iload_n 3, 1) := by decide +kernel
theorem dX9_ask_117 : decode cX9_ask 117 = .ok (.if_icmp .ge 14, 3) := by decide +kernel
theorem dX9_ask_120 : decode cX9_ask 120 = .ok (.bipush 100, 2) := by decide +kernel
theorem dX9_ask_122 : decode cX9_ask 122 = .ok (.iload 4, 2) := by decide +kernel
theorem dX9_ask_124 : decode cX9_ask 124 = .ok (.imul, 1) := by decide +kernel
theorem dX9_ask_125 : decode cX9_ask 125 = .ok (.iload 5, 2) := by decide +kernel
theorem dX9_ask_127 : decode cX9_ask 127 = .ok (.iadd, 1) := by decide +kernel
theorem dX9_ask_128 : decode cX9_ask 128 = .ok (.goto 4, 3) := by decide +kernel
theorem dX9_ask_131 : decode cX9_ask 131 = .ok (.iload_n 2, 1) := by decide +kernel
theorem dX9_ask_132 : decode cX9_ask 132 = .ok (.istore_n 2, 1) := by decide +kernel
theorem dX9_ask_133 : decode cX9_ask 133 = .ok (.iload 8, 2) := by decide +kernel
theorem dX9_ask_135 : decode cX9_ask 135 = .ok (.iload_n 3, 1) := by decide +kernel
theorem dX9_ask_136 : decode cX9_ask 136 = .ok (.if_icmp .ge 8, 3) := by decide +kernel
theorem dX9_ask_139 : decode cX9_ask 139 = .ok (.iload 8, 2) := by decide +kernel
theorem dX9_ask_141 : decode cX9_ask 141 = .ok (.goto 4, 3) := by decide +kernel
theorem dX9_ask_144 : decode cX9_ask 144 = .ok (.iload_n 3, 1) := by decide +kernel
theorem dX9_ask_145 : decode cX9_ask 145 = .ok (.istore_n 3, 1) := by decide +kernel
theorem dX9_ask_146 : decode cX9_ask 146 = .ok (.iinc 5 1, 3) := by decide +kernel
theorem dX9_ask_149 : decode cX9_ask 149 = .ok (.goto (-122), 3) := by decide +kernel
theorem dX9_ask_152 : decode cX9_ask 152 = .ok (.iinc 4 1, 3) := by decide +kernel
theorem dX9_ask_155 : decode cX9_ask 155 = .ok (.goto (-140), 3) := by decide +kernel
theorem dX9_ask_158 : decode cX9_ask 158 = .ok (.iload_n 2, 1) := by decide +kernel
theorem dX9_ask_159 : decode cX9_ask 159 = .ok (.ireturn, 1) := by decide +kernel
theorem dX9_write_0 : decode cX9_write 0 = .ok (.aload_n 0, 1) := by decide +kernel
theorem dX9_write_1 : decode cX9_write 1 = .ok (.iload_n 1, 1) := by decide +kernel
theorem dX9_write_2 : decode cX9_write 2 = .ok (.invokevirtual 235, 3) := by decide +kernel
theorem dX9_write_5 : decode cX9_write 5 = .ok (.ifCond .ne 6, 3) := by decide +kernel
theorem dX9_write_8 : decode cX9_write 8 = .ok (.ldc 238, 2) := by decide +kernel
theorem dX9_write_10 : decode cX9_write 10 = .ok (.ireturn, 1) := by decide +kernel
theorem dX9_write_11 : decode cX9_write 11 = .ok (.iload_n 2, 1) := by decide +kernel
theorem dX9_write_12 : decode cX9_write 12 = .ok (.i2l, 1) := by decide +kernel
theorem dX9_write_13 : decode cX9_write 13 = .ok (.lconst 0, 1) := by decide +kernel
theorem dX9_write_14 : decode cX9_write 14 = .ok (.ldc2_w 294, 3) := by decide +kernel
theorem dX9_write_17 : decode cX9_write 17 = .ok (.invokestatic 120, 3) := by decide +kernel
theorem dX9_write_20 : decode cX9_write 20 = .ok (.ifCond .ne 6, 3) := by decide +kernel
theorem dX9_write_23 : decode cX9_write 23 = .ok (.ldc 133, 2) := by decide +kernel
theorem dX9_write_25 : decode cX9_write 25 = .ok (.ireturn, 1) := by decide +kernel
theorem dX9_write_26 : decode cX9_write 26 = .ok (.aload_n 0, 1) := by decide +kernel
theorem dX9_write_27 : decode cX9_write 27 = .ok (.getfield 225, 3) := by decide +kernel
theorem dX9_write_30 : decode cX9_write 30 = .ok (.bipush 15, 2) := by decide +kernel
theorem dX9_write_32 : decode cX9_write 32 = .ok (.if_icmp .ne 6, 3) := by decide +kernel
theorem dX9_write_35 : decode cX9_write 35 = .ok (.ldc 137, 2) := by decide +kernel
theorem dX9_write_37 : decode cX9_write 37 = .ok (.ireturn, 1) := by decide +kernel
theorem dX9_write_38 : decode cX9_write 38 = .ok (.aload_n 0, 1) := by decide +kernel
theorem dX9_write_39 : decode cX9_write 39 = .ok (.getfield 102, 3) := by decide +kernel
theorem dX9_write_42 : decode cX9_write 42 = .ok (.aload_n 0, 1) := by decide +kernel
theorem dX9_write_43 : decode cX9_write 43 = .ok (.getfield 225, 3) := by decide +kernel
theorem dX9_write_46 : decode cX9_write 46 = .ok (.iload_n 1, 1) := by decide +kernel
theorem dX9_write_47 : decode cX9_write 47 = .ok (.iastore, 1) := by decide +kernel
theorem dX9_write_48 : decode cX9_write 48 = .ok (.aload_n 0, 1) := by decide +kernel
theorem dX9_write_49 : decode cX9_write 49 = .ok (.getfield 105, 3) := by decide +kernel
theorem dX9_write_52 : decode cX9_write 52 = .ok (.aload_n 0, 1) := by decide +kernel
theorem dX9_write_53 : decode cX9_write 53 = .ok (.getfield 225, 3) := by decide +kernel
theorem dX9_write_56 : decode cX9_write 56 = .ok (.iload_n 2, 1) := by decide +kernel
theorem dX9_write_57 : decode cX9_write 57 = .ok (.iastore, 1) := by decide +kernel
theorem dX9_write_58 : decode cX9_write 58 = .ok (.aload_n 0, 1) := by decide +kernel
theorem dX9_write_59 : decode cX9_write 59 = .ok (.dup, 1) := by decide +kernel
theorem dX9_write_60 : decode cX9_write 60 = .ok (.getfield 225, 3) := by decide +kernel
theorem dX9_write_63 : decode cX9_write 63 = .ok (.iconst 1, 1) := by decide +kernel
theorem dX9_write_64 : decode cX9_write 64 = .ok (.iadd, 1) := by decide +kernel
theorem dX9_write_65 : decode cX9_write 65 = .ok (.putfield 225, 3) := by decide +kernel
theorem dX9_write_68 : decode cX9_write 68 = .ok (.aload_n 0, 1) := by decide +kernel
theorem dX9_write_69 : decode cX9_write 69 = .ok (.getfield 225, 3) := by decide +kernel
theorem dX9_write_72 : decode cX9_write 72 = .ok (.ireturn, 1) := by decide +kernel
theorem dX9_tear_0 : decode cX9_tear 0 = .ok (.aload_n 0, 1) := by decide +kernel
theorem dX9_tear_1 : decode cX9_tear 1 = .ok (.getfield 222, 3) := by decide +kernel
theorem dX9_tear_4 : decode cX9_tear 4 = .ok (.aload_n 0, 1) := by decide +kernel
theorem dX9_tear_5 : decode cX9_tear 5 = .ok (.getfield 225, 3) := by decide +kernel
theorem dX9_tear_8 : decode cX9_tear 8 = .ok (.iadd, 1) := by decide +kernel
theorem dX9_tear_9 : decode cX9_tear 9 = .ok (.istore_n 1, 1) := by decide +kernel
theorem dX9_tear_10 : decode cX9_tear 10 = .ok (.aload_n 0, 1) := by decide +kernel
theorem dX9_tear_11 : decode cX9_tear 11 = .ok (.iconst 0, 1) := by decide +kernel
theorem dX9_tear_12 : decode cX9_tear 12 = .ok (.putfield 222, 3) := by decide +kernel
theorem dX9_tear_15 : decode cX9_tear 15 = .ok (.aload_n 0, 1) := by decide +kernel
theorem dX9_tear_16 : decode cX9_tear 16 = .ok (.iconst 0, 1) := by decide +kernel
theorem dX9_tear_17 : decode cX9_tear 17 = .ok (.putfield 225, 3) := by decide +kernel
theorem dX9_tear_20 : decode cX9_tear 20 = .ok (.iload_n 1, 1) := by decide +kernel
theorem dX9_tear_21 : decode cX9_tear 21 = .ok (.ireturn, 1) := by decide +kernel
theorem dX9_judge_0 : decode cX9_judge 0 = .ok (.iconst 0, 1) := by decide +kernel
theorem dX9_judge_1 : decode cX9_judge 1 = .ok (.istore_n 1, 1) := by decide +kernel
theorem dX9_judge_2 : decode cX9_judge 2 = .ok (.iload_n 1, 1) := by decide +kernel
theorem dX9_judge_3 : decode cX9_judge 3 = .ok (.aload_n 0, 1) := by decide +kernel
theorem dX9_judge_4 : decode cX9_judge 4 = .ok (.getfield 225, 3) := by decide +kernel
theorem dX9_judge_7 : decode cX9_judge 7 = .ok (.if_icmp .ge 34, 3) := by decide +kernel
theorem dX9_judge_10 : decode cX9_judge 10 = .ok (.aload_n 0, 1) := by decide +kernel
theorem dX9_judge_11 : decode cX9_judge 11 = .ok (.getfield 7, 3) := by decide +kernel
theorem dX9_judge_14 : decode cX9_judge 14 = .ok (.bipush 13, 2) := by decide +kernel
theorem dX9_judge_16 : decode cX9_judge 16 = .ok (.aload_n 0, 1) := by decide +kernel
theorem dX9_judge_17 : decode cX9_judge 17 = .ok (.getfield 102, 3) := by decide +kernel
theorem dX9_judge_20 : decode cX9_judge 20 = .ok (.iload_n 1, 1) := by decide +kernel
theorem dX9_judge_21 : decode cX9_judge 21 = .ok (.iaload, 1) := by decide +kernel
theorem dX9_judge_22 : decode cX9_judge 22 = .ok (.iadd, 1) := by decide +kernel
theorem dX9_judge_23 : decode cX9_judge 23 = .ok (.iaload, 1) := by decide +kernel
theorem dX9_judge_24 : decode cX9_judge 24 = .ok (.aload_n 0, 1) := by decide +kernel
theorem dX9_judge_25 : decode cX9_judge 25 = .ok (.getfield 105, 3) := by decide +kernel
theorem dX9_judge_28 : decode cX9_judge 28 = .ok (.iload_n 1, 1) := by decide +kernel
theorem dX9_judge_29 : decode cX9_judge 29 = .ok (.iaload, 1) := by decide +kernel
theorem dX9_judge_30 : decode cX9_judge 30 = .ok (.if_icmp .eq 5, 3) := by decide +kernel
theorem dX9_judge_33 : decode cX9_judge 33 = .ok (.iload_n 1, 1) := by decide +kernel
theorem dX9_judge_34 : decode cX9_judge 34 = .ok (.ireturn, 1) := by decide +kernel
theorem dX9_judge_35 : decode cX9_judge 35 = .ok (.iinc 1 1, 3) := by decide +kernel
theorem dX9_judge_38 : decode cX9_judge 38 = .ok (.goto (-36), 3) := by decide +kernel
theorem dX9_judge_41 : decode cX9_judge 41 = .ok (.iconst (-1), 1) := by decide +kernel
theorem dX9_judge_42 : decode cX9_judge 42 = .ok (.ireturn, 1) := by decide +kernel
theorem dX9_seed_0 : decode cX9_seed 0 = .ok (.iload_n 1, 1) := by decide +kernel
theorem dX9_seed_1 : decode cX9_seed 1 = .ok (.ifCond .ge 6, 3) := by decide +kernel
theorem dX9_seed_4 : decode cX9_seed 4 = .ok (.ldc 133, 2) := by decide +kernel
theorem dX9_seed_6 : decode cX9_seed 6 = .ok (.ireturn, 1) := by decide +kernel
theorem dX9_seed_7 : decode cX9_seed 7 = .ok (.aload_n 0, 1) := by decide +kernel
theorem dX9_seed_8 : decode cX9_seed 8 = .ok (.getfield 296, 3) := by decide +kernel
theorem dX9_seed_11 : decode cX9_seed 11 = .ok (.istore_n 2, 1) := by decide +kernel
theorem dX9_seed_12 : decode cX9_seed 12 = .ok (.aload_n 0, 1) := by decide +kernel
theorem dX9_seed_13 : decode cX9_seed 13 = .ok (.iload_n 1, 1) := by decide +kernel
theorem dX9_seed_14 : decode cX9_seed 14 = .ok (.putfield 296, 3) := by decide +kernel
theorem dX9_seed_17 : decode cX9_seed 17 = .ok (.iload_n 2, 1) := by decide +kernel
theorem dX9_seed_18 : decode cX9_seed 18 = .ok (.ireturn, 1) := by decide +kernel
theorem dX9_keep_0 : decode cX9_keep 0 = .ok (.iload_n 1, 1) := by decide +kernel
theorem dX9_keep_1 : decode cX9_keep 1 = .ok (.i2l, 1) := by decide +kernel
theorem dX9_keep_2 : decode cX9_keep 2 = .ok (.lconst 0, 1) := by decide +kernel
theorem dX9_keep_3 : decode cX9_keep 3 = .ok (.lconst 1, 1) := by decide +kernel
theorem dX9_keep_4 : decode cX9_keep 4 = .ok (.invokestatic 120, 3) := by decide +kernel
theorem dX9_keep_7 : decode cX9_keep 7 = .ok (.ifCond .ne 6, 3) := by decide +kernel
theorem dX9_keep_10 : decode cX9_keep 10 = .ok (.ldc 238, 2) := by decide +kernel
theorem dX9_keep_12 : decode cX9_keep 12 = .ok (.ireturn, 1) := by decide +kernel
theorem dX9_keep_13 : decode cX9_keep 13 = .ok (.iconst 0, 1) := by decide +kernel
theorem dX9_keep_14 : decode cX9_keep 14 = .ok (.istore_n 2, 1) := by decide +kernel
theorem dX9_keep_15 : decode cX9_keep 15 = .ok (.iload_n 2, 1) := by decide +kernel
theorem dX9_keep_16 : decode cX9_keep 16 = .ok (.bipush 69, 2) := by decide +kernel
theorem dX9_keep_18 : decode cX9_keep 18 = .ok (.if_icmp .ge 26, 3) := by decide +kernel
theorem dX9_keep_21 : decode cX9_keep 21 = .ok (.aload_n 0, 1) := by decide +kernel
theorem dX9_keep_22 : decode cX9_keep 22 = .ok (.getfield 111, 3) := by decide +kernel
theorem dX9_keep_25 : decode cX9_keep 25 = .ok (.bipush 69, 2) := by decide +kernel
theorem dX9_keep_27 : decode cX9_keep 27 = .ok (.iload_n 1, 1) := by decide +kernel
theorem dX9_keep_28 : decode cX9_keep 28 = .ok (.imul, 1) := by decide +kernel
theorem dX9_keep_29 : decode cX9_keep 29 = .ok (.iload_n 2, 1) := by decide +kernel
theorem dX9_keep_30 : decode cX9_keep 30 = .ok (.iadd, 1) := by decide +kernel
theorem dX9_keep_31 : decode cX9_keep 31 = .ok (.aload_n 0, 1) := by decide +kernel
theorem dX9_keep_32 : decode cX9_keep 32 = .ok (.getfield 7, 3) := by decide +kernel
theorem dX9_keep_35 : decode cX9_keep 35 = .ok (.iload_n 2, 1) := by decide +kernel
theorem dX9_keep_36 : decode cX9_keep 36 = .ok (.iaload, 1) := by decide +kernel
theorem dX9_keep_37 : decode cX9_keep 37 = .ok (.iastore, 1) := by decide +kernel
theorem dX9_keep_38 : decode cX9_keep 38 = .ok (.iinc 2 1, 3) := by decide +kernel
theorem dX9_keep_41 : decode cX9_keep 41 = .ok (.goto (-26), 3) := by decide +kernel
theorem dX9_keep_44 : decode cX9_keep 44 = .ok (.aload_n 0, 1) := by decide +kernel
theorem dX9_keep_45 : decode cX9_keep 45 = .ok (.getfield 114, 3) := by decide +kernel
theorem dX9_keep_48 : decode cX9_keep 48 = .ok (.iload_n 1, 1) := by decide +kernel
theorem dX9_keep_49 : decode cX9_keep 49 = .ok (.aload_n 0, 1) := by decide +kernel
theorem dX9_keep_50 : decode cX9_keep 50 = .ok (.getfield 296, 3) := by decide +kernel
theorem dX9_keep_53 : decode cX9_keep 53 = .ok (.iastore, 1) := by decide +kernel
theorem dX9_keep_54 : decode cX9_keep 54 = .ok (.aload_n 0, 1) := by decide +kernel
theorem dX9_keep_55 : decode cX9_keep 55 = .ok (.getfield 108, 3) := by decide +kernel
theorem dX9_keep_58 : decode cX9_keep 58 = .ok (.iload_n 1, 1) := by decide +kernel
theorem dX9_keep_59 : decode cX9_keep 59 = .ok (.iconst 1, 1) := by decide +kernel
theorem dX9_keep_60 : decode cX9_keep 60 = .ok (.bastore, 1) := by decide +kernel
theorem dX9_keep_61 : decode cX9_keep 61 = .ok (.aload_n 0, 1) := by decide +kernel
theorem dX9_keep_62 : decode cX9_keep 62 = .ok (.iconst 0, 1) := by decide +kernel
theorem dX9_keep_63 : decode cX9_keep 63 = .ok (.putfield 219, 3) := by decide +kernel
theorem dX9_keep_66 : decode cX9_keep 66 = .ok (.iconst 1, 1) := by decide +kernel
theorem dX9_keep_67 : decode cX9_keep 67 = .ok (.ireturn, 1) := by decide +kernel
theorem dX9_goBack_0 : decode cX9_goBack 0 = .ok (.iload_n 1, 1) := by decide +kernel
theorem dX9_goBack_1 : decode cX9_goBack 1 = .ok (.i2l, 1) := by decide +kernel
theorem dX9_goBack_2 : decode cX9_goBack 2 = .ok (.lconst 0, 1) := by decide +kernel
theorem dX9_goBack_3 : decode cX9_goBack 3 = .ok (.lconst 1, 1) := by decide +kernel
theorem dX9_goBack_4 : decode cX9_goBack 4 = .ok (.invokestatic 120, 3) := by decide +kernel
theorem dX9_goBack_7 : decode cX9_goBack 7 = .ok (.ifCond .ne 6, 3) := by decide +kernel
theorem dX9_goBack_10 : decode cX9_goBack 10 = .ok (.ldc 238, 2) := by decide +kernel
theorem dX9_goBack_12 : decode cX9_goBack 12 = .ok (.ireturn, 1) := by decide +kernel
theorem dX9_goBack_13 : decode cX9_goBack 13 = .ok (.aload_n 0, 1) := by decide +kernel
theorem dX9_goBack_14 : decode cX9_goBack 14 = .ok (.getfield 108, 3) := by decide +kernel
theorem dX9_goBack_17 : decode cX9_goBack 17 = .ok (.iload_n 1, 1) := by decide +kernel
theorem dX9_goBack_18 : decode cX9_goBack 18 = .ok (.baload, 1) := by decide +kernel
theorem dX9_goBack_19 : decode cX9_goBack 19 = .ok (.ifCond .ne 7, 3) := by decide +kernel
theorem dX9_goBack_22 : decode cX9_goBack 22 = .ok (.ldc_w 286, 3) := by decide +kernel
theorem dX9_goBack_25 : decode cX9_goBack 25 = .ok (.ireturn, 1) := by decide +kernel
theorem dX9_goBack_26 : decode cX9_goBack 26 = .ok (.iconst 0, 1) := by decide +kernel
theorem dX9_goBack_27 : decode cX9_goBack 27 = .ok (.istore_n 2, 1) := by decide +kernel
theorem dX9_goBack_28 : decode cX9_goBack 28 = .ok (.iload_n 2, 1) := by decide +kernel
theorem dX9_goBack_29 : decode cX9_goBack 29 = .ok (.bipush 69, 2) := by decide +kernel
theorem dX9_goBack_31 : decode cX9_goBack 31 = .ok (.if_icmp .ge 26, 3) := by decide +kernel
theorem dX9_goBack_34 : decode cX9_goBack 34 = .ok (.aload_n 0, 1) := by decide +kernel
theorem dX9_goBack_35 : decode cX9_goBack 35 = .ok (.getfield 7, 3) := by decide +kernel
theorem dX9_goBack_38 : decode cX9_goBack 38 = .ok (.iload_n 2, 1) := by decide +kernel
theorem dX9_goBack_39 : decode cX9_goBack 39 = .ok (.aload_n 0, 1) := by decide +kernel
theorem dX9_goBack_40 : decode cX9_goBack 40 = .ok (.getfield 111, 3) := by decide +kernel
theorem dX9_goBack_43 : decode cX9_goBack 43 = .ok (.bipush 69, 2) := by decide +kernel
theorem dX9_goBack_45 : decode cX9_goBack 45 = .ok (.iload_n 1, 1) := by decide +kernel
theorem dX9_goBack_46 : decode cX9_goBack 46 = .ok (.imul, 1) := by decide +kernel
theorem dX9_goBack_47 : decode cX9_goBack 47 = .ok (.iload_n 2, 1) := by decide +kernel
theorem dX9_goBack_48 : decode cX9_goBack 48 = .ok (.iadd, 1) := by decide +kernel
theorem dX9_goBack_49 : decode cX9_goBack 49 = .ok (.iaload, 1) := by decide +kernel
theorem dX9_goBack_50 : decode cX9_goBack 50 = .ok (.iastore, 1) := by decide +kernel
theorem dX9_goBack_51 : decode cX9_goBack 51 = .ok (.iinc 2 1, 3) := by decide +kernel
theorem dX9_goBack_54 : decode cX9_goBack 54 = .ok (.goto (-26), 3) := by decide +kernel
theorem dX9_goBack_57 : decode cX9_goBack 57 = .ok (.aload_n 0, 1) := by decide +kernel
theorem dX9_goBack_58 : decode cX9_goBack 58 = .ok (.aload_n 0, 1) := by decide +kernel
theorem dX9_goBack_59 : decode cX9_goBack 59 = .ok (.getfield 114, 3) := by decide +kernel
theorem dX9_goBack_62 : decode cX9_goBack 62 = .ok (.iload_n 1, 1) := by decide +kernel
theorem dX9_goBack_63 : decode cX9_goBack 63 = .ok (.iaload, 1) := by decide +kernel
theorem dX9_goBack_64 : decode cX9_goBack 64 = .ok (.putfield 296, 3) := by decide +kernel
theorem dX9_goBack_67 : decode cX9_goBack 67 = .ok (.aload_n 0, 1) := by decide +kernel
theorem dX9_goBack_68 : decode cX9_goBack 68 = .ok (.iconst 0, 1) := by decide +kernel
theorem dX9_goBack_69 : decode cX9_goBack 69 = .ok (.putfield 219, 3) := by decide +kernel
theorem dX9_goBack_72 : decode cX9_goBack 72 = .ok (.iconst 1, 1) := by decide +kernel
theorem dX9_goBack_73 : decode cX9_goBack 73 = .ok (.ireturn, 1) := by decide +kernel
theorem dJ6_bitCount_0f7a4_0 : decode cJ6_bitCount_0f7a4 0 = .ok (.iload_n 0, 1) := by decide +kernel
theorem dJ6_bitCount_0f7a4_1 : decode cJ6_bitCount_0f7a4 1 = .ok (.iload_n 0, 1) := by decide +kernel
theorem dJ6_bitCount_0f7a4_2 : decode cJ6_bitCount_0f7a4 2 = .ok (.iconst 1, 1) := by decide +kernel
theorem dJ6_bitCount_0f7a4_3 : decode cJ6_bitCount_0f7a4 3 = .ok (.iushr, 1) := by decide +kernel
theorem dJ6_bitCount_0f7a4_4 : decode cJ6_bitCount_0f7a4 4 = .ok (.ldc_w 265, 3) := by decide +kernel
theorem dJ6_bitCount_0f7a4_7 : decode cJ6_bitCount_0f7a4 7 = .ok (.iand, 1) := by decide +kernel
theorem dJ6_bitCount_0f7a4_8 : decode cJ6_bitCount_0f7a4 8 = .ok (.isub, 1) := by decide +kernel
theorem dJ6_bitCount_0f7a4_9 : decode cJ6_bitCount_0f7a4 9 = .ok (.istore_n 0, 1) := by decide +kernel
theorem dJ6_bitCount_0f7a4_10 : decode cJ6_bitCount_0f7a4 10 = .ok (.iload_n 0, 1) := by decide +kernel
theorem dJ6_bitCount_0f7a4_11 : decode cJ6_bitCount_0f7a4 11 = .ok (.ldc_w 266, 3) := by decide +kernel
theorem dJ6_bitCount_0f7a4_14 : decode cJ6_bitCount_0f7a4 14 = .ok (.iand, 1) := by decide +kernel
theorem dJ6_bitCount_0f7a4_15 : decode cJ6_bitCount_0f7a4 15 = .ok (.iload_n 0, 1) := by decide +kernel
theorem dJ6_bitCount_0f7a4_16 : decode cJ6_bitCount_0f7a4 16 = .ok (.iconst 2, 1) := by decide +kernel
theorem dJ6_bitCount_0f7a4_17 : decode cJ6_bitCount_0f7a4 17 = .ok (.iushr, 1) := by decide +kernel
theorem dJ6_bitCount_0f7a4_18 : decode cJ6_bitCount_0f7a4 18 = .ok (.ldc_w 266, 3) := by decide +kernel
theorem dJ6_bitCount_0f7a4_21 : decode cJ6_bitCount_0f7a4 21 = .ok (.iand, 1) := by decide +kernel
theorem dJ6_bitCount_0f7a4_22 : decode cJ6_bitCount_0f7a4 22 = .ok (.iadd, 1) := by decide +kernel
theorem dJ6_bitCount_0f7a4_23 : decode cJ6_bitCount_0f7a4 23 = .ok (.istore_n 0, 1) := by decide +kernel
theorem dJ6_bitCount_0f7a4_24 : decode cJ6_bitCount_0f7a4 24 = .ok (.iload_n 0, 1) := by decide +kernel
theorem dJ6_bitCount_0f7a4_25 : decode cJ6_bitCount_0f7a4 25 = .ok (.iload_n 0, 1) := by decide +kernel
theorem dJ6_bitCount_0f7a4_26 : decode cJ6_bitCount_0f7a4 26 = .ok (.iconst 4, 1) := by decide +kernel
theorem dJ6_bitCount_0f7a4_27 : decode cJ6_bitCount_0f7a4 27 = .ok (.iushr, 1) := by decide +kernel
theorem dJ6_bitCount_0f7a4_28 : decode cJ6_bitCount_0f7a4 28 = .ok (.iadd, 1) := by decide +kernel
theorem dJ6_bitCount_0f7a4_29 : decode cJ6_bitCount_0f7a4 29 = .ok (.ldc_w 267, 3) := by decide +kernel
theorem dJ6_bitCount_0f7a4_32 : decode cJ6_bitCount_0f7a4 32 = .ok (.iand, 1) := by decide +kernel
theorem dJ6_bitCount_0f7a4_33 : decode cJ6_bitCount_0f7a4 33 = .ok (.istore_n 0, 1) := by decide +kernel
theorem dJ6_bitCount_0f7a4_34 : decode cJ6_bitCount_0f7a4 34 = .ok (.iload_n 0, 1) := by decide +kernel
theorem dJ6_bitCount_0f7a4_35 : decode cJ6_bitCount_0f7a4 35 = .ok (.iload_n 0, 1) := by decide +kernel
theorem dJ6_bitCount_0f7a4_36 : decode cJ6_bitCount_0f7a4 36 = .ok (.bipush 8, 2) := by decide +kernel
theorem dJ6_bitCount_0f7a4_38 : decode cJ6_bitCount_0f7a4 38 = .ok (.iushr, 1) := by decide +kernel
theorem dJ6_bitCount_0f7a4_39 : decode cJ6_bitCount_0f7a4 39 = .ok (.iadd, 1) := by decide +kernel
theorem dJ6_bitCount_0f7a4_40 : decode cJ6_bitCount_0f7a4 40 = .ok (.istore_n 0, 1) := by decide +kernel
theorem dJ6_bitCount_0f7a4_41 : decode cJ6_bitCount_0f7a4 41 = .ok (.iload_n 0, 1) := by decide +kernel
theorem dJ6_bitCount_0f7a4_42 : decode cJ6_bitCount_0f7a4 42 = .ok (.iload_n 0, 1) := by decide +kernel
theorem dJ6_bitCount_0f7a4_43 : decode cJ6_bitCount_0f7a4 43 = .ok (.bipush 16, 2) := by decide +kernel
theorem dJ6_bitCount_0f7a4_45 : decode cJ6_bitCount_0f7a4 45 = .ok (.iushr, 1) := by decide +kernel
theorem dJ6_bitCount_0f7a4_46 : decode cJ6_bitCount_0f7a4 46 = .ok (.iadd, 1) := by decide +kernel
theorem dJ6_bitCount_0f7a4_47 : decode cJ6_bitCount_0f7a4 47 = .ok (.istore_n 0, 1) := by decide +kernel
theorem dJ6_bitCount_0f7a4_48 : decode cJ6_bitCount_0f7a4 48 = .ok (.iload_n 0, 1) := by decide +kernel
theorem dJ6_bitCount_0f7a4_49 : decode cJ6_bitCount_0f7a4 49 = .ok (.bipush 63, 2) := by decide +kernel
theorem dJ6_bitCount_0f7a4_51 : decode cJ6_bitCount_0f7a4 51 = .ok (.iand, 1) := by decide +kernel
theorem dJ6_bitCount_0f7a4_52 : decode cJ6_bitCount_0f7a4 52 = .ok (.ireturn, 1) := by decide +kernel
theorem dJ9_max_7cf53_0 : decode cJ9_max_7cf53 0 = .ok (.iload_n 0, 1) := by decide +kernel
theorem dJ9_max_7cf53_1 : decode cJ9_max_7cf53 1 = .ok (.iload_n 1, 1) := by decide +kernel
theorem dJ9_max_7cf53_2 : decode cJ9_max_7cf53 2 = .ok (.if_icmp .lt 7, 3) := by decide +kernel
theorem dJ9_max_7cf53_5 : decode cJ9_max_7cf53 5 = .ok (.iload_n 0, 1) := by decide +kernel
theorem dJ9_max_7cf53_6 : decode cJ9_max_7cf53 6 = .ok (.goto 4, 3) := by decide +kernel
theorem dJ9_max_7cf53_9 : decode cJ9_max_7cf53 9 = .ok (.iload_n 1, 1) := by decide +kernel
theorem dJ9_max_7cf53_10 : decode cJ9_max_7cf53 10 = .ok (.ireturn, 1) := by decide +kernel
theorem dJ9_min_7cf53_0 : decode cJ9_min_7cf53 0 = .ok (.iload_n 0, 1) := by decide +kernel
theorem dJ9_min_7cf53_1 : decode cJ9_min_7cf53 1 = .ok (.iload_n 1, 1) := by decide +kernel
theorem dJ9_min_7cf53_2 : decode cJ9_min_7cf53 2 = .ok (.if_icmp .gt 7, 3) := by decide +kernel
theorem dJ9_min_7cf53_5 : decode cJ9_min_7cf53 5 = .ok (.iload_n 0, 1) := by decide +kernel
theorem dJ9_min_7cf53_6 : decode cJ9_min_7cf53 6 = .ok (.goto 4, 3) := by decide +kernel
theorem dJ9_min_7cf53_9 : decode cJ9_min_7cf53 9 = .ok (.iload_n 1, 1) := by decide +kernel
theorem dJ9_min_7cf53_10 : decode cJ9_min_7cf53 10 = .ok (.ireturn, 1) := by decide +kernel
theorem dL_law_0 : decode cL_law 0 = .ok (.new 7, 3) := by decide +kernel
theorem dL_law_3 : decode cL_law 3 = .ok (.dup, 1) := by decide +kernel
theorem dL_law_4 : decode cL_law 4 = .ok (.invokespecial 9, 3) := by decide +kernel
theorem dL_law_7 : decode cL_law 7 = .ok (.astore_n 1, 1) := by decide +kernel
theorem dL_law_8 : decode cL_law 8 = .ok (.new 10, 3) := by decide +kernel
theorem dL_law_11 : decode cL_law 11 = .ok (.dup, 1) := by decide +kernel
theorem dL_law_12 : decode cL_law 12 = .ok (.invokespecial 12, 3) := by decide +kernel
theorem dL_law_15 : decode cL_law 15 = .ok (.astore_n 2, 1) := by decide +kernel
theorem dL_law_16 : decode cL_law 16 = .ok (.iconst 0, 1) := by decide +kernel
theorem dL_law_17 : decode cL_law 17 = .ok (.istore_n 3, 1) := by decide +kernel
theorem dL_law_18 : decode cL_law 18 = .ok (.iload_n 3, 1) := by decide +kernel
theorem dL_law_19 : decode cL_law 19 = .ok (.aload_n 0, 1) := by decide +kernel
theorem dL_law_20 : decode cL_law 20 = .ok (.arraylength, 1) := by decide +kernel
theorem dL_law_21 : decode cL_law 21 = .ok (.iconst 5, 1) := by decide +kernel
theorem dL_law_22 : decode cL_law 22 = .ok (.isub, 1) := by decide +kernel
theorem dL_law_23 : decode cL_law 23 = .ok (.if_icmp .gt 1159, 3) := by decide +kernel
theorem dL_law_26 : decode cL_law 26 = .ok (.aload_n 0, 1) := by decide +kernel
theorem dL_law_27 : decode cL_law 27 = .ok (.iload_n 3, 1) := by decide +kernel
theorem dL_law_28 : decode cL_law 28 = .ok (.iaload, 1) := by decide +kernel
theorem dL_law_29 : decode cL_law 29 = .ok (.bipush 63, 2) := by decide +kernel
theorem dL_law_31 : decode cL_law 31 = .ok (.iand, 1) := by decide +kernel
theorem dL_law_32 : decode cL_law 32 = .ok (.tableswitch 1144 0 35 #[160, 183, 196, 209, 232, 265, 298, 331, 354, 387, 430, 453, 496, 549, 582, 605, 618, 661, 684, 707, 730, 753, 786, 819, 842, 875, 898, 931, 990, 1003, 1016, 1049, 1062, 1075, 1098, 1121], 160) := by decide +kernel
theorem dL_law_192 : decode cL_law 192 = .ok (.aload_n 1, 1) := by decide +kernel
theorem dL_law_193 : decode cL_law 193 = .ok (.aload_n 0, 1) := by decide +kernel
theorem dL_law_194 : decode cL_law 194 = .ok (.iload_n 3, 1) := by decide +kernel
theorem dL_law_195 : decode cL_law 195 = .ok (.iconst 1, 1) := by decide +kernel
theorem dL_law_196 : decode cL_law 196 = .ok (.iadd, 1) := by decide +kernel
theorem dL_law_197 : decode cL_law 197 = .ok (.iaload, 1) := by decide +kernel
theorem dL_law_198 : decode cL_law 198 = .ok (.invokevirtual 13, 3) := by decide +kernel
theorem dL_law_201 : decode cL_law 201 = .ok (.aload_n 2, 1) := by decide +kernel
theorem dL_law_202 : decode cL_law 202 = .ok (.aload_n 0, 1) := by decide +kernel
theorem dL_law_203 : decode cL_law 203 = .ok (.iload_n 3, 1) := by decide +kernel
theorem dL_law_204 : decode cL_law 204 = .ok (.iconst 1, 1) := by decide +kernel
theorem dL_law_205 : decode cL_law 205 = .ok (.iadd, 1) := by decide +kernel
theorem dL_law_206 : decode cL_law 206 = .ok (.iaload, 1) := by decide +kernel
theorem dL_law_207 : decode cL_law 207 = .ok (.invokevirtual 17, 3) := by decide +kernel
theorem dL_law_210 : decode cL_law 210 = .ok (.if_icmp .eq 966, 3) := by decide +kernel
theorem dL_law_213 : decode cL_law 213 = .ok (.iconst 0, 1) := by decide +kernel
theorem dL_law_214 : decode cL_law 214 = .ok (.ireturn, 1) := by decide +kernel
theorem dL_law_215 : decode cL_law 215 = .ok (.aload_n 1, 1) := by decide +kernel
theorem dL_law_216 : decode cL_law 216 = .ok (.invokevirtual 18, 3) := by decide +kernel
theorem dL_law_219 : decode cL_law 219 = .ok (.aload_n 2, 1) := by decide +kernel
theorem dL_law_220 : decode cL_law 220 = .ok (.invokevirtual 22, 3) := by decide +kernel
theorem dL_law_223 : decode cL_law 223 = .ok (.if_icmp .eq 953, 3) := by decide +kernel
theorem dL_law_226 : decode cL_law 226 = .ok (.iconst 0, 1) := by decide +kernel
theorem dL_law_227 : decode cL_law 227 = .ok (.ireturn, 1) := by decide +kernel
theorem dL_law_228 : decode cL_law 228 = .ok (.aload_n 1, 1) := by decide +kernel
theorem dL_law_229 : decode cL_law 229 = .ok (.invokevirtual 23, 3) := by decide +kernel
theorem dL_law_232 : decode cL_law 232 = .ok (.aload_n 2, 1) := by decide +kernel
theorem dL_law_233 : decode cL_law 233 = .ok (.invokevirtual 26, 3) := by decide +kernel
theorem dL_law_236 : decode cL_law 236 = .ok (.if_icmp .eq 940, 3) := by decide +kernel
theorem dL_law_239 : decode cL_law 239 = .ok (.iconst 0, 1) := by decide +kernel
theorem dL_law_240 : decode cL_law 240 = .ok (.ireturn, 1) := by decide +kernel
theorem dL_law_241 : decode cL_law 241 = .ok (.aload_n 1, 1) := by decide +kernel
theorem dL_law_242 : decode cL_law 242 = .ok (.aload_n 0, 1) := by decide +kernel
theorem dL_law_243 : decode cL_law 243 = .ok (.iload_n 3, 1) := by decide +kernel
theorem dL_law_244 : decode cL_law 244 = .ok (.iconst 1, 1) := by decide +kernel
theorem dL_law_245 : decode cL_law 245 = .ok (.iadd, 1) := by decide +kernel
theorem dL_law_246 : decode cL_law 246 = .ok (.iaload, 1) := by decide +kernel
theorem dL_law_247 : decode cL_law 247 = .ok (.invokevirtual 27, 3) := by decide +kernel
theorem dL_law_250 : decode cL_law 250 = .ok (.aload_n 2, 1) := by decide +kernel
theorem dL_law_251 : decode cL_law 251 = .ok (.aload_n 0, 1) := by decide +kernel
theorem dL_law_252 : decode cL_law 252 = .ok (.iload_n 3, 1) := by decide +kernel
theorem dL_law_253 : decode cL_law 253 = .ok (.iconst 1, 1) := by decide +kernel
theorem dL_law_254 : decode cL_law 254 = .ok (.iadd, 1) := by decide +kernel
theorem dL_law_255 : decode cL_law 255 = .ok (.iaload, 1) := by decide +kernel
theorem dL_law_256 : decode cL_law 256 = .ok (.invokevirtual 30, 3) := by decide +kernel
theorem dL_law_259 : decode cL_law 259 = .ok (.if_icmp .eq 917, 3) := by decide +kernel
theorem dL_law_262 : decode cL_law 262 = .ok (.iconst 0, 1) := by decide +kernel
theorem dL_law_263 : decode cL_law 263 = .ok (.ireturn, 1) := by decide +kernel
theorem dL_law_264 : decode cL_law 264 = .ok (.aload_n 1, 1) := by decide +kernel
theorem dL_law_265 : decode cL_law 265 = .ok (.aload_n 0, 1) := by decide +kernel
theorem dL_law_266 : decode cL_law 266 = .ok (.iload_n 3, 1) := by decide +kernel
theorem dL_law_267 : decode cL_law 267 = .ok (.iconst 1, 1) := by decide +kernel
theorem dL_law_268 : decode cL_law 268 = .ok (.iadd, 1) := by decide +kernel
theorem dL_law_269 : decode cL_law 269 = .ok (.iaload, 1) := by decide +kernel
theorem dL_law_270 : decode cL_law 270 = .ok (.aload_n 0, 1) := by decide +kernel
theorem dL_law_271 : decode cL_law 271 = .ok (.iload_n 3, 1) := by decide +kernel
theorem dL_law_272 : decode cL_law 272 = .ok (.iconst 2, 1) := by decide +kernel
theorem dL_law_273 : decode cL_law 273 = .ok (.iadd, 1) := by decide +kernel
theorem dL_law_274 : decode cL_law 274 = .ok (.iaload, 1) := by decide +kernel
theorem dL_law_275 : decode cL_law 275 = .ok (.invokevirtual 31, 3) := by decide +kernel
theorem dL_law_278 : decode cL_law 278 = .ok (.aload_n 2, 1) := by decide +kernel
theorem dL_law_279 : decode cL_law 279 = .ok (.aload_n 0, 1) := by decide +kernel
theorem dL_law_280 : decode cL_law 280 = .ok (.iload_n 3, 1) := by decide +kernel
theorem dL_law_281 : decode cL_law 281 = .ok (.iconst 1, 1) := by decide +kernel
theorem dL_law_282 : decode cL_law 282 = .ok (.iadd, 1) := by decide +kernel
theorem dL_law_283 : decode cL_law 283 = .ok (.iaload, 1) := by decide +kernel
theorem dL_law_284 : decode cL_law 284 = .ok (.aload_n 0, 1) := by decide +kernel
theorem dL_law_285 : decode cL_law 285 = .ok (.iload_n 3, 1) := by decide +kernel
theorem dL_law_286 : decode cL_law 286 = .ok (.iconst 2, 1) := by decide +kernel
theorem dL_law_287 : decode cL_law 287 = .ok (.iadd, 1) := by decide +kernel
theorem dL_law_288 : decode cL_law 288 = .ok (.iaload, 1) := by decide +kernel
theorem dL_law_289 : decode cL_law 289 = .ok (.invokevirtual 35, 3) := by decide +kernel
theorem dL_law_292 : decode cL_law 292 = .ok (.if_icmp .eq 884, 3) := by decide +kernel
theorem dL_law_295 : decode cL_law 295 = .ok (.iconst 0, 1) := by decide +kernel
theorem dL_law_296 : decode cL_law 296 = .ok (.ireturn, 1) := by decide +kernel
theorem dL_law_297 : decode cL_law 297 = .ok (.aload_n 1, 1) := by decide +kernel
theorem dL_law_298 : decode cL_law 298 = .ok (.aload_n 0, 1) := by decide +kernel
theorem dL_law_299 : decode cL_law 299 = .ok (.iload_n 3, 1) := by decide +kernel
theorem dL_law_300 : decode cL_law 300 = .ok (.iconst 1, 1) := by decide +kernel
theorem dL_law_301 : decode cL_law 301 = .ok (.iadd, 1) := by decide +kernel
theorem dL_law_302 : decode cL_law 302 = .ok (.iaload, 1) := by decide +kernel
theorem dL_law_303 : decode cL_law 303 = .ok (.aload_n 0, 1) := by decide +kernel
theorem dL_law_304 : decode cL_law 304 = .ok (.iload_n 3, 1) := by decide +kernel
theorem dL_law_305 : decode cL_law 305 = .ok (.iconst 2, 1) := by decide +kernel
theorem dL_law_306 : decode cL_law 306 = .ok (.iadd, 1) := by decide +kernel
theorem dL_law_307 : decode cL_law 307 = .ok (.iaload, 1) := by decide +kernel
theorem dL_law_308 : decode cL_law 308 = .ok (.invokevirtual 36, 3) := by decide +kernel
theorem dL_law_311 : decode cL_law 311 = .ok (.aload_n 2, 1) := by decide +kernel
theorem dL_law_312 : decode cL_law 312 = .ok (.aload_n 0, 1) := by decide +kernel
theorem dL_law_313 : decode cL_law 313 = .ok (.iload_n 3, 1) := by decide +kernel
theorem dL_law_314 : decode cL_law 314 = .ok (.iconst 1, 1) := by decide +kernel
theorem dL_law_315 : decode cL_law 315 = .ok (.iadd, 1) := by decide +kernel
theorem dL_law_316 : decode cL_law 316 = .ok (.iaload, 1) := by decide +kernel
theorem dL_law_317 : decode cL_law 317 = .ok (.aload_n 0, 1) := by decide +kernel
theorem dL_law_318 : decode cL_law 318 = .ok (.iload_n 3, 1) := by decide +kernel
theorem dL_law_319 : decode cL_law 319 = .ok (.iconst 2, 1) := by decide +kernel
theorem dL_law_320 : decode cL_law 320 = .ok (.iadd, 1) := by decide +kernel
theorem dL_law_321 : decode cL_law 321 = .ok (.iaload, 1) := by decide +kernel
theorem dL_law_322 : decode cL_law 322 = .ok (.invokevirtual 39, 3) := by decide +kernel
theorem dL_law_325 : decode cL_law 325 = .ok (.if_icmp .eq 851, 3) := by decide +kernel
theorem dL_law_328 : decode cL_law 328 = .ok (.iconst 0, 1) := by decide +kernel
theorem dL_law_329 : decode cL_law 329 = .ok (.ireturn, 1) := by decide +kernel
theorem dL_law_330 : decode cL_law 330 = .ok (.aload_n 1, 1) := by decide +kernel
theorem dL_law_331 : decode cL_law 331 = .ok (.aload_n 0, 1) := by decide +kernel
theorem dL_law_332 : decode cL_law 332 = .ok (.iload_n 3, 1) := by decide +kernel
theorem dL_law_333 : decode cL_law 333 = .ok (.iconst 1, 1) := by decide +kernel
theorem dL_law_334 : decode cL_law 334 = .ok (.iadd, 1) := by decide +kernel
theorem dL_law_335 : decode cL_law 335 = .ok (.iaload, 1) := by decide +kernel
theorem dL_law_336 : decode cL_law 336 = .ok (.aload_n 0, 1) := by decide +kernel
theorem dL_law_337 : decode cL_law 337 = .ok (.iload_n 3, 1) := by decide +kernel
theorem dL_law_338 : decode cL_law 338 = .ok (.iconst 2, 1) := by decide +kernel
theorem dL_law_339 : decode cL_law 339 = .ok (.iadd, 1) := by decide +kernel
theorem dL_law_340 : decode cL_law 340 = .ok (.iaload, 1) := by decide +kernel
theorem dL_law_341 : decode cL_law 341 = .ok (.invokevirtual 40, 3) := by decide +kernel
theorem dL_law_344 : decode cL_law 344 = .ok (.aload_n 2, 1) := by decide +kernel
theorem dL_law_345 : decode cL_law 345 = .ok (.aload_n 0, 1) := by decide +kernel
theorem dL_law_346 : decode cL_law 346 = .ok (.iload_n 3, 1) := by decide +kernel
theorem dL_law_347 : decode cL_law 347 = .ok (.iconst 1, 1) := by decide +kernel
theorem dL_law_348 : decode cL_law 348 = .ok (.iadd, 1) := by decide +kernel
theorem dL_law_349 : decode cL_law 349 = .ok (.iaload, 1) := by decide +kernel
theorem dL_law_350 : decode cL_law 350 = .ok (.aload_n 0, 1) := by decide +kernel
theorem dL_law_351 : decode cL_law 351 = .ok (.iload_n 3, 1) := by decide +kernel
theorem dL_law_352 : decode cL_law 352 = .ok (.iconst 2, 1) := by decide +kernel
theorem dL_law_353 : decode cL_law 353 = .ok (.iadd, 1) := by decide +kernel
theorem dL_law_354 : decode cL_law 354 = .ok (.iaload, 1) := by decide +kernel
theorem dL_law_355 : decode cL_law 355 = .ok (.invokevirtual 43, 3) := by decide +kernel
theorem dL_law_358 : decode cL_law 358 = .ok (.if_icmp .eq 818, 3) := by decide +kernel
theorem dL_law_361 : decode cL_law 361 = .ok (.iconst 0, 1) := by decide +kernel
theorem dL_law_362 : decode cL_law 362 = .ok (.ireturn, 1) := by decide +kernel
theorem dL_law_363 : decode cL_law 363 = .ok (.aload_n 1, 1) := by decide +kernel
theorem dL_law_364 : decode cL_law 364 = .ok (.aload_n 0, 1) := by decide +kernel
theorem dL_law_365 : decode cL_law 365 = .ok (.iload_n 3, 1) := by decide +kernel
theorem dL_law_366 : decode cL_law 366 = .ok (.iconst 1, 1) := by decide +kernel
theorem dL_law_367 : decode cL_law 367 = .ok (.iadd, 1) := by decide +kernel
theorem dL_law_368 : decode cL_law 368 = .ok (.iaload, 1) := by decide +kernel
theorem dL_law_369 : decode cL_law 369 = .ok (.invokevirtual 44, 3) := by decide +kernel
theorem dL_law_372 : decode cL_law 372 = .ok (.aload_n 2, 1) := by decide +kernel
theorem dL_law_373 : decode cL_law 373 = .ok (.aload_n 0, 1) := by decide +kernel
theorem dL_law_374 : decode cL_law 374 = .ok (.iload_n 3, 1) := by decide +kernel
theorem dL_law_375 : decode cL_law 375 = .ok (.iconst 1, 1) := by decide +kernel
theorem dL_law_376 : decode cL_law 376 = .ok (.iadd, 1) := by decide +kernel
theorem dL_law_377 : decode cL_law 377 = .ok (.iaload, 1) := by decide +kernel
theorem dL_law_378 : decode cL_law 378 = .ok (.invokevirtual 47, 3) := by decide +kernel
theorem dL_law_381 : decode cL_law 381 = .ok (.if_icmp .eq 795, 3) := by decide +kernel
theorem dL_law_384 : decode cL_law 384 = .ok (.iconst 0, 1) := by decide +kernel
theorem dL_law_385 : decode cL_law 385 = .ok (.ireturn, 1) := by decide +kernel
theorem dL_law_386 : decode cL_law 386 = .ok (.aload_n 1, 1) := by decide +kernel
theorem dL_law_387 : decode cL_law 387 = .ok (.aload_n 0, 1) := by decide +kernel
theorem dL_law_388 : decode cL_law 388 = .ok (.iload_n 3, 1) := by decide +kernel
theorem dL_law_389 : decode cL_law 389 = .ok (.iconst 1, 1) := by decide +kernel
theorem dL_law_390 : decode cL_law 390 = .ok (.iadd, 1) := by decide +kernel
theorem dL_law_391 : decode cL_law 391 = .ok (.iaload, 1) := by decide +kernel
theorem dL_law_392 : decode cL_law 392 = .ok (.aload_n 0, 1) := by decide +kernel
theorem dL_law_393 : decode cL_law 393 = .ok (.iload_n 3, 1) := by decide +kernel
theorem dL_law_394 : decode cL_law 394 = .ok (.iconst 2, 1) := by decide +kernel
theorem dL_law_395 : decode cL_law 395 = .ok (.iadd, 1) := by decide +kernel
theorem dL_law_396 : decode cL_law 396 = .ok (.iaload, 1) := by decide +kernel
theorem dL_law_397 : decode cL_law 397 = .ok (.invokevirtual 48, 3) := by decide +kernel
theorem dL_law_400 : decode cL_law 400 = .ok (.aload_n 2, 1) := by decide +kernel
theorem dL_law_401 : decode cL_law 401 = .ok (.aload_n 0, 1) := by decide +kernel
theorem dL_law_402 : decode cL_law 402 = .ok (.iload_n 3, 1) := by decide +kernel
theorem dL_law_403 : decode cL_law 403 = .ok (.iconst 1, 1) := by decide +kernel
theorem dL_law_404 : decode cL_law 404 = .ok (.iadd, 1) := by decide +kernel
theorem dL_law_405 : decode cL_law 405 = .ok (.iaload, 1) := by decide +kernel
theorem dL_law_406 : decode cL_law 406 = .ok (.aload_n 0, 1) := by decide +kernel
theorem dL_law_407 : decode cL_law 407 = .ok (.iload_n 3, 1) := by decide +kernel
theorem dL_law_408 : decode cL_law 408 = .ok (.iconst 2, 1) := by decide +kernel
theorem dL_law_409 : decode cL_law 409 = .ok (.iadd, 1) := by decide +kernel
theorem dL_law_410 : decode cL_law 410 = .ok (.iaload, 1) := by decide +kernel
theorem dL_law_411 : decode cL_law 411 = .ok (.invokevirtual 51, 3) := by decide +kernel
theorem dL_law_414 : decode cL_law 414 = .ok (.if_icmp .eq 762, 3) := by decide +kernel
theorem dL_law_417 : decode cL_law 417 = .ok (.iconst 0, 1) := by decide +kernel
theorem dL_law_418 : decode cL_law 418 = .ok (.ireturn, 1) := by decide +kernel
theorem dL_law_419 : decode cL_law 419 = .ok (.aload_n 1, 1) := by decide +kernel
theorem dL_law_420 : decode cL_law 420 = .ok (.aload_n 0, 1) := by decide +kernel
theorem dL_law_421 : decode cL_law 421 = .ok (.iload_n 3, 1) := by decide +kernel
theorem dL_law_422 : decode cL_law 422 = .ok (.iconst 1, 1) := by decide +kernel
theorem dL_law_423 : decode cL_law 423 = .ok (.iadd, 1) := by decide +kernel
theorem dL_law_424 : decode cL_law 424 = .ok (.iaload, 1) := by decide +kernel
theorem dL_law_425 : decode cL_law 425 = .ok (.aload_n 0, 1) := by decide +kernel
theorem dL_law_426 : decode cL_law 426 = .ok (.iload_n 3, 1) := by decide +kernel
theorem dL_law_427 : decode cL_law 427 = .ok (.iconst 2, 1) := by decide +kernel
theorem dL_law_428 : decode cL_law 428 = .ok (.iadd, 1) := by decide +kernel
theorem dL_law_429 : decode cL_law 429 = .ok (.iaload, 1) := by decide +kernel
theorem dL_law_430 : decode cL_law 430 = .ok (.aload_n 0, 1) := by decide +kernel
theorem dL_law_431 : decode cL_law 431 = .ok (.iload_n 3, 1) := by decide +kernel
theorem dL_law_432 : decode cL_law 432 = .ok (.iconst 3, 1) := by decide +kernel
theorem dL_law_433 : decode cL_law 433 = .ok (.iadd, 1) := by decide +kernel
theorem dL_law_434 : decode cL_law 434 = .ok (.iaload, 1) := by decide +kernel
theorem dL_law_435 : decode cL_law 435 = .ok (.invokevirtual 52, 3) := by decide +kernel
theorem dL_law_438 : decode cL_law 438 = .ok (.aload_n 2, 1) := by decide +kernel
theorem dL_law_439 : decode cL_law 439 = .ok (.aload_n 0, 1) := by decide +kernel
theorem dL_law_440 : decode cL_law 440 = .ok (.iload_n 3, 1) := by decide +kernel
theorem dL_law_441 : decode cL_law 441 = .ok (.iconst 1, 1) := by decide +kernel
theorem dL_law_442 : decode cL_law 442 = .ok (.iadd, 1) := by decide +kernel
theorem dL_law_443 : decode cL_law 443 = .ok (.iaload, 1) := by decide +kernel
theorem dL_law_444 : decode cL_law 444 = .ok (.aload_n 0, 1) := by decide +kernel
theorem dL_law_445 : decode cL_law 445 = .ok (.iload_n 3, 1) := by decide +kernel
theorem dL_law_446 : decode cL_law 446 = .ok (.iconst 2, 1) := by decide +kernel
theorem dL_law_447 : decode cL_law 447 = .ok (.iadd, 1) := by decide +kernel
theorem dL_law_448 : decode cL_law 448 = .ok (.iaload, 1) := by decide +kernel
theorem dL_law_449 : decode cL_law 449 = .ok (.aload_n 0, 1) := by decide +kernel
theorem dL_law_450 : decode cL_law 450 = .ok (.iload_n 3, 1) := by decide +kernel
theorem dL_law_451 : decode cL_law 451 = .ok (.iconst 3, 1) := by decide +kernel
theorem dL_law_452 : decode cL_law 452 = .ok (.iadd, 1) := by decide +kernel
theorem dL_law_453 : decode cL_law 453 = .ok (.iaload, 1) := by decide +kernel
theorem dL_law_454 : decode cL_law 454 = .ok (.invokevirtual 56, 3) := by decide +kernel
theorem dL_law_457 : decode cL_law 457 = .ok (.if_icmp .eq 719, 3) := by decide +kernel
theorem dL_law_460 : decode cL_law 460 = .ok (.iconst 0, 1) := by decide +kernel
theorem dL_law_461 : decode cL_law 461 = .ok (.ireturn, 1) := by decide +kernel
theorem dL_law_462 : decode cL_law 462 = .ok (.aload_n 1, 1) := by decide +kernel
theorem dL_law_463 : decode cL_law 463 = .ok (.aload_n 0, 1) := by decide +kernel
theorem dL_law_464 : decode cL_law 464 = .ok (.iload_n 3, 1) := by decide +kernel
theorem dL_law_465 : decode cL_law 465 = .ok (.iconst 1, 1) := by decide +kernel
theorem dL_law_466 : decode cL_law 466 = .ok (.iadd, 1) := by decide +kernel
theorem dL_law_467 : decode cL_law 467 = .ok (.iaload, 1) := by decide +kernel
theorem dL_law_468 : decode cL_law 468 = .ok (.invokevirtual 57, 3) := by decide +kernel
theorem dL_law_471 : decode cL_law 471 = .ok (.aload_n 2, 1) := by decide +kernel
theorem dL_law_472 : decode cL_law 472 = .ok (.aload_n 0, 1) := by decide +kernel
theorem dL_law_473 : decode cL_law 473 = .ok (.iload_n 3, 1) := by decide +kernel
theorem dL_law_474 : decode cL_law 474 = .ok (.iconst 1, 1) := by decide +kernel
theorem dL_law_475 : decode cL_law 475 = .ok (.iadd, 1) := by decide +kernel
theorem dL_law_476 : decode cL_law 476 = .ok (.iaload, 1) := by decide +kernel
theorem dL_law_477 : decode cL_law 477 = .ok (.invokevirtual 60, 3) := by decide +kernel
theorem dL_law_480 : decode cL_law 480 = .ok (.if_icmp .eq 696, 3) := by decide +kernel
theorem dL_law_483 : decode cL_law 483 = .ok (.iconst 0, 1) := by decide +kernel
theorem dL_law_484 : decode cL_law 484 = .ok (.ireturn, 1) := by decide +kernel
theorem dL_law_485 : decode cL_law 485 = .ok (.aload_n 1, 1) := by decide +kernel
theorem dL_law_486 : decode cL_law 486 = .ok (.aload_n 0, 1) := by decide +kernel
theorem dL_law_487 : decode cL_law 487 = .ok (.iload_n 3, 1) := by decide +kernel
theorem dL_law_488 : decode cL_law 488 = .ok (.iconst 1, 1) := by decide +kernel
theorem dL_law_489 : decode cL_law 489 = .ok (.iadd, 1) := by decide +kernel
theorem dL_law_490 : decode cL_law 490 = .ok (.iaload, 1) := by decide +kernel
theorem dL_law_491 : decode cL_law 491 = .ok (.aload_n 0, 1) := by decide +kernel
theorem dL_law_492 : decode cL_law 492 = .ok (.iload_n 3, 1) := by decide +kernel
theorem dL_law_493 : decode cL_law 493 = .ok (.iconst 2, 1) := by decide +kernel
theorem dL_law_494 : decode cL_law 494 = .ok (.iadd, 1) := by decide +kernel
theorem dL_law_495 : decode cL_law 495 = .ok (.iaload, 1) := by decide +kernel
theorem dL_law_496 : decode cL_law 496 = .ok (.aload_n 0, 1) := by decide +kernel
theorem dL_law_497 : decode cL_law 497 = .ok (.iload_n 3, 1) := by decide +kernel
theorem dL_law_498 : decode cL_law 498 = .ok (.iconst 3, 1) := by decide +kernel
theorem dL_law_499 : decode cL_law 499 = .ok (.iadd, 1) := by decide +kernel
theorem dL_law_500 : decode cL_law 500 = .ok (.iaload, 1) := by decide +kernel
theorem dL_law_501 : decode cL_law 501 = .ok (.invokevirtual 61, 3) := by decide +kernel
theorem dL_law_504 : decode cL_law 504 = .ok (.aload_n 2, 1) := by decide +kernel
theorem dL_law_505 : decode cL_law 505 = .ok (.aload_n 0, 1) := by decide +kernel
theorem dL_law_506 : decode cL_law 506 = .ok (.iload_n 3, 1) := by decide +kernel
theorem dL_law_507 : decode cL_law 507 = .ok (.iconst 1, 1) := by decide +kernel
theorem dL_law_508 : decode cL_law 508 = .ok (.iadd, 1) := by decide +kernel
theorem dL_law_509 : decode cL_law 509 = .ok (.iaload, 1) := by decide +kernel
theorem dL_law_510 : decode cL_law 510 = .ok (.aload_n 0, 1) := by decide +kernel
theorem dL_law_511 : decode cL_law 511 = .ok (.iload_n 3, 1) := by decide +kernel
theorem dL_law_512 : decode cL_law 512 = .ok (.iconst 2, 1) := by decide +kernel
theorem dL_law_513 : decode cL_law 513 = .ok (.iadd, 1) := by decide +kernel
theorem dL_law_514 : decode cL_law 514 = .ok (.iaload, 1) := by decide +kernel
theorem dL_law_515 : decode cL_law 515 = .ok (.aload_n 0, 1) := by decide +kernel
theorem dL_law_516 : decode cL_law 516 = .ok (.iload_n 3, 1) := by decide +kernel
theorem dL_law_517 : decode cL_law 517 = .ok (.iconst 3, 1) := by decide +kernel
theorem dL_law_518 : decode cL_law 518 = .ok (.iadd, 1) := by decide +kernel
theorem dL_law_519 : decode cL_law 519 = .ok (.iaload, 1) := by decide +kernel
theorem dL_law_520 : decode cL_law 520 = .ok (.invokevirtual 64, 3) := by decide +kernel
theorem dL_law_523 : decode cL_law 523 = .ok (.if_icmp .eq 653, 3) := by decide +kernel
theorem dL_law_526 : decode cL_law 526 = .ok (.iconst 0, 1) := by decide +kernel
theorem dL_law_527 : decode cL_law 527 = .ok (.ireturn, 1) := by decide +kernel
theorem dL_law_528 : decode cL_law 528 = .ok (.aload_n 1, 1) := by decide +kernel
theorem dL_law_529 : decode cL_law 529 = .ok (.aload_n 0, 1) := by decide +kernel
theorem dL_law_530 : decode cL_law 530 = .ok (.iload_n 3, 1) := by decide +kernel
theorem dL_law_531 : decode cL_law 531 = .ok (.iconst 1, 1) := by decide +kernel
theorem dL_law_532 : decode cL_law 532 = .ok (.iadd, 1) := by decide +kernel
theorem dL_law_533 : decode cL_law 533 = .ok (.iaload, 1) := by decide +kernel
theorem dL_law_534 : decode cL_law 534 = .ok (.aload_n 0, 1) := by decide +kernel
theorem dL_law_535 : decode cL_law 535 = .ok (.iload_n 3, 1) := by decide +kernel
theorem dL_law_536 : decode cL_law 536 = .ok (.iconst 2, 1) := by decide +kernel
theorem dL_law_537 : decode cL_law 537 = .ok (.iadd, 1) := by decide +kernel
theorem dL_law_538 : decode cL_law 538 = .ok (.iaload, 1) := by decide +kernel
theorem dL_law_539 : decode cL_law 539 = .ok (.aload_n 0, 1) := by decide +kernel
theorem dL_law_540 : decode cL_law 540 = .ok (.iload_n 3, 1) := by decide +kernel
theorem dL_law_541 : decode cL_law 541 = .ok (.iconst 3, 1) := by decide +kernel
theorem dL_law_542 : decode cL_law 542 = .ok (.iadd, 1) := by decide +kernel
theorem dL_law_543 : decode cL_law 543 = .ok (.iaload, 1) := by decide +kernel
theorem dL_law_544 : decode cL_law 544 = .ok (.aload_n 0, 1) := by decide +kernel
theorem dL_law_545 : decode cL_law 545 = .ok (.iload_n 3, 1) := by decide +kernel
theorem dL_law_546 : decode cL_law 546 = .ok (.iconst 4, 1) := by decide +kernel
theorem dL_law_547 : decode cL_law 547 = .ok (.iadd, 1) := by decide +kernel
theorem dL_law_548 : decode cL_law 548 = .ok (.iaload, 1) := by decide +kernel
theorem dL_law_549 : decode cL_law 549 = .ok (.invokevirtual 65, 3) := by decide +kernel
theorem dL_law_552 : decode cL_law 552 = .ok (.aload_n 2, 1) := by decide +kernel
theorem dL_law_553 : decode cL_law 553 = .ok (.aload_n 0, 1) := by decide +kernel
theorem dL_law_554 : decode cL_law 554 = .ok (.iload_n 3, 1) := by decide +kernel
theorem dL_law_555 : decode cL_law 555 = .ok (.iconst 1, 1) := by decide +kernel
theorem dL_law_556 : decode cL_law 556 = .ok (.iadd, 1) := by decide +kernel
theorem dL_law_557 : decode cL_law 557 = .ok (.iaload, 1) := by decide +kernel
theorem dL_law_558 : decode cL_law 558 = .ok (.aload_n 0, 1) := by decide +kernel
theorem dL_law_559 : decode cL_law 559 = .ok (.iload_n 3, 1) := by decide +kernel
theorem dL_law_560 : decode cL_law 560 = .ok (.iconst 2, 1) := by decide +kernel
theorem dL_law_561 : decode cL_law 561 = .ok (.iadd, 1) := by decide +kernel
theorem dL_law_562 : decode cL_law 562 = .ok (.iaload, 1) := by decide +kernel
theorem dL_law_563 : decode cL_law 563 = .ok (.aload_n 0, 1) := by decide +kernel
theorem dL_law_564 : decode cL_law 564 = .ok (.iload_n 3, 1) := by decide +kernel
theorem dL_law_565 : decode cL_law 565 = .ok (.iconst 3, 1) := by decide +kernel
theorem dL_law_566 : decode cL_law 566 = .ok (.iadd, 1) := by decide +kernel
theorem dL_law_567 : decode cL_law 567 = .ok (.iaload, 1) := by decide +kernel
theorem dL_law_568 : decode cL_law 568 = .ok (.aload_n 0, 1) := by decide +kernel
theorem dL_law_569 : decode cL_law 569 = .ok (.iload_n 3, 1) := by decide +kernel
theorem dL_law_570 : decode cL_law 570 = .ok (.iconst 4, 1) := by decide +kernel
theorem dL_law_571 : decode cL_law 571 = .ok (.iadd, 1) := by decide +kernel
theorem dL_law_572 : decode cL_law 572 = .ok (.iaload, 1) := by decide +kernel
theorem dL_law_573 : decode cL_law 573 = .ok (.invokevirtual 69, 3) := by decide +kernel
theorem dL_law_576 : decode cL_law 576 = .ok (.if_icmp .eq 600, 3) := by decide +kernel
theorem dL_law_579 : decode cL_law 579 = .ok (.iconst 0, 1) := by decide +kernel
theorem dL_law_580 : decode cL_law 580 = .ok (.ireturn, 1) := by decide +kernel
theorem dL_law_581 : decode cL_law 581 = .ok (.aload_n 1, 1) := by decide +kernel
theorem dL_law_582 : decode cL_law 582 = .ok (.aload_n 0, 1) := by decide +kernel
theorem dL_law_583 : decode cL_law 583 = .ok (.iload_n 3, 1) := by decide +kernel
theorem dL_law_584 : decode cL_law 584 = .ok (.iconst 1, 1) := by decide +kernel
theorem dL_law_585 : decode cL_law 585 = .ok (.iadd, 1) := by decide +kernel
theorem dL_law_586 : decode cL_law 586 = .ok (.iaload, 1) := by decide +kernel
theorem dL_law_587 : decode cL_law 587 = .ok (.aload_n 0, 1) := by decide +kernel
theorem dL_law_588 : decode cL_law 588 = .ok (.iload_n 3, 1) := by decide +kernel
theorem dL_law_589 : decode cL_law 589 = .ok (.iconst 2, 1) := by decide +kernel
theorem dL_law_590 : decode cL_law 590 = .ok (.iadd, 1) := by decide +kernel
theorem dL_law_591 : decode cL_law 591 = .ok (.iaload, 1) := by decide +kernel
theorem dL_law_592 : decode cL_law 592 = .ok (.invokevirtual 70, 3) := by decide +kernel
theorem dL_law_595 : decode cL_law 595 = .ok (.aload_n 2, 1) := by decide +kernel
theorem dL_law_596 : decode cL_law 596 = .ok (.aload_n 0, 1) := by decide +kernel
theorem dL_law_597 : decode cL_law 597 = .ok (.iload_n 3, 1) := by decide +kernel
theorem dL_law_598 : decode cL_law 598 = .ok (.iconst 1, 1) := by decide +kernel
theorem dL_law_599 : decode cL_law 599 = .ok (.iadd, 1) := by decide +kernel
theorem dL_law_600 : decode cL_law 600 = .ok (.iaload, 1) := by decide +kernel
theorem dL_law_601 : decode cL_law 601 = .ok (.aload_n 0, 1) := by decide +kernel
theorem dL_law_602 : decode cL_law 602 = .ok (.iload_n 3, 1) := by decide +kernel
theorem dL_law_603 : decode cL_law 603 = .ok (.iconst 2, 1) := by decide +kernel
theorem dL_law_604 : decode cL_law 604 = .ok (.iadd, 1) := by decide +kernel
theorem dL_law_605 : decode cL_law 605 = .ok (.iaload, 1) := by decide +kernel
theorem dL_law_606 : decode cL_law 606 = .ok (.invokevirtual 73, 3) := by decide +kernel
theorem dL_law_609 : decode cL_law 609 = .ok (.if_icmp .eq 567, 3) := by decide +kernel
theorem dL_law_612 : decode cL_law 612 = .ok (.iconst 0, 1) := by decide +kernel
theorem dL_law_613 : decode cL_law 613 = .ok (.ireturn, 1) := by decide +kernel
theorem dL_law_614 : decode cL_law 614 = .ok (.aload_n 1, 1) := by decide +kernel
theorem dL_law_615 : decode cL_law 615 = .ok (.aload_n 0, 1) := by decide +kernel
theorem dL_law_616 : decode cL_law 616 = .ok (.iload_n 3, 1) := by decide +kernel
theorem dL_law_617 : decode cL_law 617 = .ok (.iconst 1, 1) := by decide +kernel
theorem dL_law_618 : decode cL_law 618 = .ok (.iadd, 1) := by decide +kernel
theorem dL_law_619 : decode cL_law 619 = .ok (.iaload, 1) := by decide +kernel
theorem dL_law_620 : decode cL_law 620 = .ok (.invokevirtual 74, 3) := by decide +kernel
theorem dL_law_623 : decode cL_law 623 = .ok (.aload_n 2, 1) := by decide +kernel
theorem dL_law_624 : decode cL_law 624 = .ok (.aload_n 0, 1) := by decide +kernel
theorem dL_law_625 : decode cL_law 625 = .ok (.iload_n 3, 1) := by decide +kernel
theorem dL_law_626 : decode cL_law 626 = .ok (.iconst 1, 1) := by decide +kernel
theorem dL_law_627 : decode cL_law 627 = .ok (.iadd, 1) := by decide +kernel
theorem dL_law_628 : decode cL_law 628 = .ok (.iaload, 1) := by decide +kernel
theorem dL_law_629 : decode cL_law 629 = .ok (.invokevirtual 77, 3) := by decide +kernel
theorem dL_law_632 : decode cL_law 632 = .ok (.if_icmp .eq 544, 3) := by decide +kernel
theorem dL_law_635 : decode cL_law 635 = .ok (.iconst 0, 1) := by decide +kernel
theorem dL_law_636 : decode cL_law 636 = .ok (.ireturn, 1) := by decide +kernel
theorem dL_law_637 : decode cL_law 637 = .ok (.aload_n 1, 1) := by decide +kernel
theorem dL_law_638 : decode cL_law 638 = .ok (.invokevirtual 78, 3) := by decide +kernel
theorem dL_law_641 : decode cL_law 641 = .ok (.aload_n 2, 1) := by decide +kernel
theorem dL_law_642 : decode cL_law 642 = .ok (.invokevirtual 81, 3) := by decide +kernel
theorem dL_law_645 : decode cL_law 645 = .ok (.if_icmp .eq 531, 3) := by decide +kernel
theorem dL_law_648 : decode cL_law 648 = .ok (.iconst 0, 1) := by decide +kernel
theorem dL_law_649 : decode cL_law 649 = .ok (.ireturn, 1) := by decide +kernel
theorem dL_law_650 : decode cL_law 650 = .ok (.aload_n 1, 1) := by decide +kernel
theorem dL_law_651 : decode cL_law 651 = .ok (.aload_n 0, 1) := by decide +kernel
theorem dL_law_652 : decode cL_law 652 = .ok (.iload_n 3, 1) := by decide +kernel
theorem dL_law_653 : decode cL_law 653 = .ok (.iconst 1, 1) := by decide +kernel
theorem dL_law_654 : decode cL_law 654 = .ok (.iadd, 1) := by decide +kernel
theorem dL_law_655 : decode cL_law 655 = .ok (.iaload, 1) := by decide +kernel
theorem dL_law_656 : decode cL_law 656 = .ok (.aload_n 0, 1) := by decide +kernel
theorem dL_law_657 : decode cL_law 657 = .ok (.iload_n 3, 1) := by decide +kernel
theorem dL_law_658 : decode cL_law 658 = .ok (.iconst 2, 1) := by decide +kernel
theorem dL_law_659 : decode cL_law 659 = .ok (.iadd, 1) := by decide +kernel
theorem dL_law_660 : decode cL_law 660 = .ok (.iaload, 1) := by decide +kernel
theorem dL_law_661 : decode cL_law 661 = .ok (.aload_n 0, 1) := by decide +kernel
theorem dL_law_662 : decode cL_law 662 = .ok (.iload_n 3, 1) := by decide +kernel
theorem dL_law_663 : decode cL_law 663 = .ok (.iconst 3, 1) := by decide +kernel
theorem dL_law_664 : decode cL_law 664 = .ok (.iadd, 1) := by decide +kernel
theorem dL_law_665 : decode cL_law 665 = .ok (.iaload, 1) := by decide +kernel
theorem dL_law_666 : decode cL_law 666 = .ok (.invokevirtual 82, 3) := by decide +kernel
theorem dL_law_669 : decode cL_law 669 = .ok (.aload_n 2, 1) := by decide +kernel
theorem dL_law_670 : decode cL_law 670 = .ok (.aload_n 0, 1) := by decide +kernel
theorem dL_law_671 : decode cL_law 671 = .ok (.iload_n 3, 1) := by decide +kernel
theorem dL_law_672 : decode cL_law 672 = .ok (.iconst 1, 1) := by decide +kernel
theorem dL_law_673 : decode cL_law 673 = .ok (.iadd, 1) := by decide +kernel
theorem dL_law_674 : decode cL_law 674 = .ok (.iaload, 1) := by decide +kernel
theorem dL_law_675 : decode cL_law 675 = .ok (.aload_n 0, 1) := by decide +kernel
theorem dL_law_676 : decode cL_law 676 = .ok (.iload_n 3, 1) := by decide +kernel
theorem dL_law_677 : decode cL_law 677 = .ok (.iconst 2, 1) := by decide +kernel
theorem dL_law_678 : decode cL_law 678 = .ok (.iadd, 1) := by decide +kernel
theorem dL_law_679 : decode cL_law 679 = .ok (.iaload, 1) := by decide +kernel
theorem dL_law_680 : decode cL_law 680 = .ok (.aload_n 0, 1) := by decide +kernel
theorem dL_law_681 : decode cL_law 681 = .ok (.iload_n 3, 1) := by decide +kernel
theorem dL_law_682 : decode cL_law 682 = .ok (.iconst 3, 1) := by decide +kernel
theorem dL_law_683 : decode cL_law 683 = .ok (.iadd, 1) := by decide +kernel
theorem dL_law_684 : decode cL_law 684 = .ok (.iaload, 1) := by decide +kernel
theorem dL_law_685 : decode cL_law 685 = .ok (.invokevirtual 85, 3) := by decide +kernel
theorem dL_law_688 : decode cL_law 688 = .ok (.if_icmp .eq 488, 3) := by decide +kernel
theorem dL_law_691 : decode cL_law 691 = .ok (.iconst 0, 1) := by decide +kernel
theorem dL_law_692 : decode cL_law 692 = .ok (.ireturn, 1) := by decide +kernel
theorem dL_law_693 : decode cL_law 693 = .ok (.aload_n 1, 1) := by decide +kernel
theorem dL_law_694 : decode cL_law 694 = .ok (.aload_n 0, 1) := by decide +kernel
theorem dL_law_695 : decode cL_law 695 = .ok (.iload_n 3, 1) := by decide +kernel
theorem dL_law_696 : decode cL_law 696 = .ok (.iconst 1, 1) := by decide +kernel
theorem dL_law_697 : decode cL_law 697 = .ok (.iadd, 1) := by decide +kernel
theorem dL_law_698 : decode cL_law 698 = .ok (.iaload, 1) := by decide +kernel
theorem dL_law_699 : decode cL_law 699 = .ok (.invokevirtual 86, 3) := by decide +kernel
theorem dL_law_702 : decode cL_law 702 = .ok (.aload_n 2, 1) := by decide +kernel
theorem dL_law_703 : decode cL_law 703 = .ok (.aload_n 0, 1) := by decide +kernel
theorem dL_law_704 : decode cL_law 704 = .ok (.iload_n 3, 1) := by decide +kernel
theorem dL_law_705 : decode cL_law 705 = .ok (.iconst 1, 1) := by decide +kernel
theorem dL_law_706 : decode cL_law 706 = .ok (.iadd, 1) := by decide +kernel
theorem dL_law_707 : decode cL_law 707 = .ok (.iaload, 1) := by decide +kernel
theorem dL_law_708 : decode cL_law 708 = .ok (.invokevirtual 89, 3) := by decide +kernel
theorem dL_law_711 : decode cL_law 711 = .ok (.if_icmp .eq 465, 3) := by decide +kernel
theorem dL_law_714 : decode cL_law 714 = .ok (.iconst 0, 1) := by decide +kernel
theorem dL_law_715 : decode cL_law 715 = .ok (.ireturn, 1) := by decide +kernel
theorem dL_law_716 : decode cL_law 716 = .ok (.aload_n 1, 1) := by decide +kernel
theorem dL_law_717 : decode cL_law 717 = .ok (.aload_n 0, 1) := by decide +kernel
theorem dL_law_718 : decode cL_law 718 = .ok (.iload_n 3, 1) := by decide +kernel
theorem dL_law_719 : decode cL_law 719 = .ok (.iconst 1, 1) := by decide +kernel
theorem dL_law_720 : decode cL_law 720 = .ok (.iadd, 1) := by decide +kernel
theorem dL_law_721 : decode cL_law 721 = .ok (.iaload, 1) := by decide +kernel
theorem dL_law_722 : decode cL_law 722 = .ok (.invokevirtual 90, 3) := by decide +kernel
theorem dL_law_725 : decode cL_law 725 = .ok (.aload_n 2, 1) := by decide +kernel
theorem dL_law_726 : decode cL_law 726 = .ok (.aload_n 0, 1) := by decide +kernel
theorem dL_law_727 : decode cL_law 727 = .ok (.iload_n 3, 1) := by decide +kernel
theorem dL_law_728 : decode cL_law 728 = .ok (.iconst 1, 1) := by decide +kernel
theorem dL_law_729 : decode cL_law 729 = .ok (.iadd, 1) := by decide +kernel
theorem dL_law_730 : decode cL_law 730 = .ok (.iaload, 1) := by decide +kernel
theorem dL_law_731 : decode cL_law 731 = .ok (.invokevirtual 93, 3) := by decide +kernel
theorem dL_law_734 : decode cL_law 734 = .ok (.if_icmp .eq 442, 3) := by decide +kernel
theorem dL_law_737 : decode cL_law 737 = .ok (.iconst 0, 1) := by decide +kernel
theorem dL_law_738 : decode cL_law 738 = .ok (.ireturn, 1) := by decide +kernel
theorem dL_law_739 : decode cL_law 739 = .ok (.aload_n 1, 1) := by decide +kernel
theorem dL_law_740 : decode cL_law 740 = .ok (.aload_n 0, 1) := by decide +kernel
theorem dL_law_741 : decode cL_law 741 = .ok (.iload_n 3, 1) := by decide +kernel
theorem dL_law_742 : decode cL_law 742 = .ok (.iconst 1, 1) := by decide +kernel
theorem dL_law_743 : decode cL_law 743 = .ok (.iadd, 1) := by decide +kernel
theorem dL_law_744 : decode cL_law 744 = .ok (.iaload, 1) := by decide +kernel
theorem dL_law_745 : decode cL_law 745 = .ok (.invokevirtual 94, 3) := by decide +kernel
theorem dL_law_748 : decode cL_law 748 = .ok (.aload_n 2, 1) := by decide +kernel
theorem dL_law_749 : decode cL_law 749 = .ok (.aload_n 0, 1) := by decide +kernel
theorem dL_law_750 : decode cL_law 750 = .ok (.iload_n 3, 1) := by decide +kernel
theorem dL_law_751 : decode cL_law 751 = .ok (.iconst 1, 1) := by decide +kernel
theorem dL_law_752 : decode cL_law 752 = .ok (.iadd, 1) := by decide +kernel
theorem dL_law_753 : decode cL_law 753 = .ok (.iaload, 1) := by decide +kernel
theorem dL_law_754 : decode cL_law 754 = .ok (.invokevirtual 97, 3) := by decide +kernel
theorem dL_law_757 : decode cL_law 757 = .ok (.if_icmp .eq 419, 3) := by decide +kernel
theorem dL_law_760 : decode cL_law 760 = .ok (.iconst 0, 1) := by decide +kernel
theorem dL_law_761 : decode cL_law 761 = .ok (.ireturn, 1) := by decide +kernel
theorem dL_law_762 : decode cL_law 762 = .ok (.aload_n 1, 1) := by decide +kernel
theorem dL_law_763 : decode cL_law 763 = .ok (.aload_n 0, 1) := by decide +kernel
theorem dL_law_764 : decode cL_law 764 = .ok (.iload_n 3, 1) := by decide +kernel
theorem dL_law_765 : decode cL_law 765 = .ok (.iconst 1, 1) := by decide +kernel
theorem dL_law_766 : decode cL_law 766 = .ok (.iadd, 1) := by decide +kernel
theorem dL_law_767 : decode cL_law 767 = .ok (.iaload, 1) := by decide +kernel
theorem dL_law_768 : decode cL_law 768 = .ok (.invokevirtual 98, 3) := by decide +kernel
theorem dL_law_771 : decode cL_law 771 = .ok (.aload_n 2, 1) := by decide +kernel
theorem dL_law_772 : decode cL_law 772 = .ok (.aload_n 0, 1) := by decide +kernel
theorem dL_law_773 : decode cL_law 773 = .ok (.iload_n 3, 1) := by decide +kernel
theorem dL_law_774 : decode cL_law 774 = .ok (.iconst 1, 1) := by decide +kernel
theorem dL_law_775 : decode cL_law 775 = .ok (.iadd, 1) := by decide +kernel
theorem dL_law_776 : decode cL_law 776 = .ok (.iaload, 1) := by decide +kernel
theorem dL_law_777 : decode cL_law 777 = .ok (.invokevirtual 101, 3) := by decide +kernel
theorem dL_law_780 : decode cL_law 780 = .ok (.if_icmp .eq 396, 3) := by decide +kernel
theorem dL_law_783 : decode cL_law 783 = .ok (.iconst 0, 1) := by decide +kernel
theorem dL_law_784 : decode cL_law 784 = .ok (.ireturn, 1) := by decide +kernel
theorem dL_law_785 : decode cL_law 785 = .ok (.aload_n 1, 1) := by decide +kernel
theorem dL_law_786 : decode cL_law 786 = .ok (.aload_n 0, 1) := by decide +kernel
theorem dL_law_787 : decode cL_law 787 = .ok (.iload_n 3, 1) := by decide +kernel
theorem dL_law_788 : decode cL_law 788 = .ok (.iconst 1, 1) := by decide +kernel
theorem dL_law_789 : decode cL_law 789 = .ok (.iadd, 1) := by decide +kernel
theorem dL_law_790 : decode cL_law 790 = .ok (.iaload, 1) := by decide +kernel
theorem dL_law_791 : decode cL_law 791 = .ok (.aload_n 0, 1) := by decide +kernel
theorem dL_law_792 : decode cL_law 792 = .ok (.iload_n 3, 1) := by decide +kernel
theorem dL_law_793 : decode cL_law 793 = .ok (.iconst 2, 1) := by decide +kernel
theorem dL_law_794 : decode cL_law 794 = .ok (.iadd, 1) := by decide +kernel
theorem dL_law_795 : decode cL_law 795 = .ok (.iaload, 1) := by decide +kernel
theorem dL_law_796 : decode cL_law 796 = .ok (.invokevirtual 102, 3) := by decide +kernel
theorem dL_law_799 : decode cL_law 799 = .ok (.aload_n 2, 1) := by decide +kernel
theorem dL_law_800 : decode cL_law 800 = .ok (.aload_n 0, 1) := by decide +kernel
theorem dL_law_801 : decode cL_law 801 = .ok (.iload_n 3, 1) := by decide +kernel
theorem dL_law_802 : decode cL_law 802 = .ok (.iconst 1, 1) := by decide +kernel
theorem dL_law_803 : decode cL_law 803 = .ok (.iadd, 1) := by decide +kernel
theorem dL_law_804 : decode cL_law 804 = .ok (.iaload, 1) := by decide +kernel
theorem dL_law_805 : decode cL_law 805 = .ok (.aload_n 0, 1) := by decide +kernel
theorem dL_law_806 : decode cL_law 806 = .ok (.iload_n 3, 1) := by decide +kernel
theorem dL_law_807 : decode cL_law 807 = .ok (.iconst 2, 1) := by decide +kernel
theorem dL_law_808 : decode cL_law 808 = .ok (.iadd, 1) := by decide +kernel
theorem dL_law_809 : decode cL_law 809 = .ok (.iaload, 1) := by decide +kernel
theorem dL_law_810 : decode cL_law 810 = .ok (.invokevirtual 105, 3) := by decide +kernel
theorem dL_law_813 : decode cL_law 813 = .ok (.if_icmp .eq 363, 3) := by decide +kernel
theorem dL_law_816 : decode cL_law 816 = .ok (.iconst 0, 1) := by decide +kernel
theorem dL_law_817 : decode cL_law 817 = .ok (.ireturn, 1) := by decide +kernel
theorem dL_law_818 : decode cL_law 818 = .ok (.aload_n 1, 1) := by decide +kernel
theorem dL_law_819 : decode cL_law 819 = .ok (.aload_n 0, 1) := by decide +kernel
theorem dL_law_820 : decode cL_law 820 = .ok (.iload_n 3, 1) := by decide +kernel
theorem dL_law_821 : decode cL_law 821 = .ok (.iconst 1, 1) := by decide +kernel
theorem dL_law_822 : decode cL_law 822 = .ok (.iadd, 1) := by decide +kernel
theorem dL_law_823 : decode cL_law 823 = .ok (.iaload, 1) := by decide +kernel
theorem dL_law_824 : decode cL_law 824 = .ok (.aload_n 0, 1) := by decide +kernel
theorem dL_law_825 : decode cL_law 825 = .ok (.iload_n 3, 1) := by decide +kernel
theorem dL_law_826 : decode cL_law 826 = .ok (.iconst 2, 1) := by decide +kernel
theorem dL_law_827 : decode cL_law 827 = .ok (.iadd, 1) := by decide +kernel
theorem dL_law_828 : decode cL_law 828 = .ok (.iaload, 1) := by decide +kernel
theorem dL_law_829 : decode cL_law 829 = .ok (.invokevirtual 106, 3) := by decide +kernel
theorem dL_law_832 : decode cL_law 832 = .ok (.aload_n 2, 1) := by decide +kernel
theorem dL_law_833 : decode cL_law 833 = .ok (.aload_n 0, 1) := by decide +kernel
theorem dL_law_834 : decode cL_law 834 = .ok (.iload_n 3, 1) := by decide +kernel
theorem dL_law_835 : decode cL_law 835 = .ok (.iconst 1, 1) := by decide +kernel
theorem dL_law_836 : decode cL_law 836 = .ok (.iadd, 1) := by decide +kernel
theorem dL_law_837 : decode cL_law 837 = .ok (.iaload, 1) := by decide +kernel
theorem dL_law_838 : decode cL_law 838 = .ok (.aload_n 0, 1) := by decide +kernel
theorem dL_law_839 : decode cL_law 839 = .ok (.iload_n 3, 1) := by decide +kernel
theorem dL_law_840 : decode cL_law 840 = .ok (.iconst 2, 1) := by decide +kernel
theorem dL_law_841 : decode cL_law 841 = .ok (.iadd, 1) := by decide +kernel
theorem dL_law_842 : decode cL_law 842 = .ok (.iaload, 1) := by decide +kernel
theorem dL_law_843 : decode cL_law 843 = .ok (.invokevirtual 109, 3) := by decide +kernel
theorem dL_law_846 : decode cL_law 846 = .ok (.if_icmp .eq 330, 3) := by decide +kernel
theorem dL_law_849 : decode cL_law 849 = .ok (.iconst 0, 1) := by decide +kernel
theorem dL_law_850 : decode cL_law 850 = .ok (.ireturn, 1) := by decide +kernel
theorem dL_law_851 : decode cL_law 851 = .ok (.aload_n 1, 1) := by decide +kernel
theorem dL_law_852 : decode cL_law 852 = .ok (.aload_n 0, 1) := by decide +kernel
theorem dL_law_853 : decode cL_law 853 = .ok (.iload_n 3, 1) := by decide +kernel
theorem dL_law_854 : decode cL_law 854 = .ok (.iconst 1, 1) := by decide +kernel
theorem dL_law_855 : decode cL_law 855 = .ok (.iadd, 1) := by decide +kernel
theorem dL_law_856 : decode cL_law 856 = .ok (.iaload, 1) := by decide +kernel
theorem dL_law_857 : decode cL_law 857 = .ok (.invokevirtual 110, 3) := by decide +kernel
theorem dL_law_860 : decode cL_law 860 = .ok (.aload_n 2, 1) := by decide +kernel
theorem dL_law_861 : decode cL_law 861 = .ok (.aload_n 0, 1) := by decide +kernel
theorem dL_law_862 : decode cL_law 862 = .ok (.iload_n 3, 1) := by decide +kernel
theorem dL_law_863 : decode cL_law 863 = .ok (.iconst 1, 1) := by decide +kernel
theorem dL_law_864 : decode cL_law 864 = .ok (.iadd, 1) := by decide +kernel
theorem dL_law_865 : decode cL_law 865 = .ok (.iaload, 1) := by decide +kernel
theorem dL_law_866 : decode cL_law 866 = .ok (.invokevirtual 113, 3) := by decide +kernel
theorem dL_law_869 : decode cL_law 869 = .ok (.if_icmp .eq 307, 3) := by decide +kernel
theorem dL_law_872 : decode cL_law 872 = .ok (.iconst 0, 1) := by decide +kernel
theorem dL_law_873 : decode cL_law 873 = .ok (.ireturn, 1) := by decide +kernel
theorem dL_law_874 : decode cL_law 874 = .ok (.aload_n 1, 1) := by decide +kernel
theorem dL_law_875 : decode cL_law 875 = .ok (.aload_n 0, 1) := by decide +kernel
theorem dL_law_876 : decode cL_law 876 = .ok (.iload_n 3, 1) := by decide +kernel
theorem dL_law_877 : decode cL_law 877 = .ok (.iconst 1, 1) := by decide +kernel
theorem dL_law_878 : decode cL_law 878 = .ok (.iadd, 1) := by decide +kernel
theorem dL_law_879 : decode cL_law 879 = .ok (.iaload, 1) := by decide +kernel
theorem dL_law_880 : decode cL_law 880 = .ok (.aload_n 0, 1) := by decide +kernel
theorem dL_law_881 : decode cL_law 881 = .ok (.iload_n 3, 1) := by decide +kernel
theorem dL_law_882 : decode cL_law 882 = .ok (.iconst 2, 1) := by decide +kernel
theorem dL_law_883 : decode cL_law 883 = .ok (.iadd, 1) := by decide +kernel
theorem dL_law_884 : decode cL_law 884 = .ok (.iaload, 1) := by decide +kernel
theorem dL_law_885 : decode cL_law 885 = .ok (.invokevirtual 114, 3) := by decide +kernel
theorem dL_law_888 : decode cL_law 888 = .ok (.aload_n 2, 1) := by decide +kernel
theorem dL_law_889 : decode cL_law 889 = .ok (.aload_n 0, 1) := by decide +kernel
theorem dL_law_890 : decode cL_law 890 = .ok (.iload_n 3, 1) := by decide +kernel
theorem dL_law_891 : decode cL_law 891 = .ok (.iconst 1, 1) := by decide +kernel
theorem dL_law_892 : decode cL_law 892 = .ok (.iadd, 1) := by decide +kernel
theorem dL_law_893 : decode cL_law 893 = .ok (.iaload, 1) := by decide +kernel
theorem dL_law_894 : decode cL_law 894 = .ok (.aload_n 0, 1) := by decide +kernel
theorem dL_law_895 : decode cL_law 895 = .ok (.iload_n 3, 1) := by decide +kernel
theorem dL_law_896 : decode cL_law 896 = .ok (.iconst 2, 1) := by decide +kernel
theorem dL_law_897 : decode cL_law 897 = .ok (.iadd, 1) := by decide +kernel
theorem dL_law_898 : decode cL_law 898 = .ok (.iaload, 1) := by decide +kernel
theorem dL_law_899 : decode cL_law 899 = .ok (.invokevirtual 117, 3) := by decide +kernel
theorem dL_law_902 : decode cL_law 902 = .ok (.if_icmp .eq 274, 3) := by decide +kernel
theorem dL_law_905 : decode cL_law 905 = .ok (.iconst 0, 1) := by decide +kernel
theorem dL_law_906 : decode cL_law 906 = .ok (.ireturn, 1) := by decide +kernel
theorem dL_law_907 : decode cL_law 907 = .ok (.aload_n 1, 1) := by decide +kernel
theorem dL_law_908 : decode cL_law 908 = .ok (.aload_n 0, 1) := by decide +kernel
theorem dL_law_909 : decode cL_law 909 = .ok (.iload_n 3, 1) := by decide +kernel
theorem dL_law_910 : decode cL_law 910 = .ok (.iconst 1, 1) := by decide +kernel
theorem dL_law_911 : decode cL_law 911 = .ok (.iadd, 1) := by decide +kernel
theorem dL_law_912 : decode cL_law 912 = .ok (.iaload, 1) := by decide +kernel
theorem dL_law_913 : decode cL_law 913 = .ok (.invokevirtual 118, 3) := by decide +kernel
theorem dL_law_916 : decode cL_law 916 = .ok (.aload_n 2, 1) := by decide +kernel
theorem dL_law_917 : decode cL_law 917 = .ok (.aload_n 0, 1) := by decide +kernel
theorem dL_law_918 : decode cL_law 918 = .ok (.iload_n 3, 1) := by decide +kernel
theorem dL_law_919 : decode cL_law 919 = .ok (.iconst 1, 1) := by decide +kernel
theorem dL_law_920 : decode cL_law 920 = .ok (.iadd, 1) := by decide +kernel
theorem dL_law_921 : decode cL_law 921 = .ok (.iaload, 1) := by decide +kernel
theorem dL_law_922 : decode cL_law 922 = .ok (.invokevirtual 121, 3) := by decide +kernel
theorem dL_law_925 : decode cL_law 925 = .ok (.if_icmp .eq 251, 3) := by decide +kernel
theorem dL_law_928 : decode cL_law 928 = .ok (.iconst 0, 1) := by decide +kernel
theorem dL_law_929 : decode cL_law 929 = .ok (.ireturn, 1) := by decide +kernel
theorem dL_law_930 : decode cL_law 930 = .ok (.aload_n 1, 1) := by decide +kernel
theorem dL_law_931 : decode cL_law 931 = .ok (.aload_n 0, 1) := by decide +kernel
theorem dL_law_932 : decode cL_law 932 = .ok (.iload_n 3, 1) := by decide +kernel
theorem dL_law_933 : decode cL_law 933 = .ok (.iconst 1, 1) := by decide +kernel
theorem dL_law_934 : decode cL_law 934 = .ok (.iadd, 1) := by decide +kernel
theorem dL_law_935 : decode cL_law 935 = .ok (.iaload, 1) := by decide +kernel
theorem dL_law_936 : decode cL_law 936 = .ok (.aload_n 0, 1) := by decide +kernel
theorem dL_law_937 : decode cL_law 937 = .ok (.iload_n 3, 1) := by decide +kernel
theorem dL_law_938 : decode cL_law 938 = .ok (.iconst 2, 1) := by decide +kernel
theorem dL_law_939 : decode cL_law 939 = .ok (.iadd, 1) := by decide +kernel
theorem dL_law_940 : decode cL_law 940 = .ok (.iaload, 1) := by decide +kernel
theorem dL_law_941 : decode cL_law 941 = .ok (.invokevirtual 122, 3) := by decide +kernel
theorem dL_law_944 : decode cL_law 944 = .ok (.aload_n 2, 1) := by decide +kernel
theorem dL_law_945 : decode cL_law 945 = .ok (.aload_n 0, 1) := by decide +kernel
theorem dL_law_946 : decode cL_law 946 = .ok (.iload_n 3, 1) := by decide +kernel
theorem dL_law_947 : decode cL_law 947 = .ok (.iconst 1, 1) := by decide +kernel
theorem dL_law_948 : decode cL_law 948 = .ok (.iadd, 1) := by decide +kernel
theorem dL_law_949 : decode cL_law 949 = .ok (.iaload, 1) := by decide +kernel
theorem dL_law_950 : decode cL_law 950 = .ok (.aload_n 0, 1) := by decide +kernel
theorem dL_law_951 : decode cL_law 951 = .ok (.iload_n 3, 1) := by decide +kernel
theorem dL_law_952 : decode cL_law 952 = .ok (.iconst 2, 1) := by decide +kernel
theorem dL_law_953 : decode cL_law 953 = .ok (.iadd, 1) := by decide +kernel
theorem dL_law_954 : decode cL_law 954 = .ok (.iaload, 1) := by decide +kernel
theorem dL_law_955 : decode cL_law 955 = .ok (.invokevirtual 125, 3) := by decide +kernel
theorem dL_law_958 : decode cL_law 958 = .ok (.if_icmp .eq 218, 3) := by decide +kernel
theorem dL_law_961 : decode cL_law 961 = .ok (.iconst 0, 1) := by decide +kernel
theorem dL_law_962 : decode cL_law 962 = .ok (.ireturn, 1) := by decide +kernel
theorem dL_law_963 : decode cL_law 963 = .ok (.aload_n 1, 1) := by decide +kernel
theorem dL_law_964 : decode cL_law 964 = .ok (.aload_n 0, 1) := by decide +kernel
theorem dL_law_965 : decode cL_law 965 = .ok (.iload_n 3, 1) := by decide +kernel
theorem dL_law_966 : decode cL_law 966 = .ok (.iconst 1, 1) := by decide +kernel
theorem dL_law_967 : decode cL_law 967 = .ok (.iadd, 1) := by decide +kernel
theorem dL_law_968 : decode cL_law 968 = .ok (.iaload, 1) := by decide +kernel
theorem dL_law_969 : decode cL_law 969 = .ok (.aload_n 0, 1) := by decide +kernel
theorem dL_law_970 : decode cL_law 970 = .ok (.iload_n 3, 1) := by decide +kernel
theorem dL_law_971 : decode cL_law 971 = .ok (.iconst 2, 1) := by decide +kernel
theorem dL_law_972 : decode cL_law 972 = .ok (.iadd, 1) := by decide +kernel
theorem dL_law_973 : decode cL_law 973 = .ok (.iaload, 1) := by decide +kernel
theorem dL_law_974 : decode cL_law 974 = .ok (.aload_n 0, 1) := by decide +kernel
theorem dL_law_975 : decode cL_law 975 = .ok (.iload_n 3, 1) := by decide +kernel
theorem dL_law_976 : decode cL_law 976 = .ok (.iconst 3, 1) := by decide +kernel
theorem dL_law_977 : decode cL_law 977 = .ok (.iadd, 1) := by decide +kernel
theorem dL_law_978 : decode cL_law 978 = .ok (.iaload, 1) := by decide +kernel
theorem dL_law_979 : decode cL_law 979 = .ok (.ifCond .eq 7, 3) := by decide +kernel
theorem dL_law_982 : decode cL_law 982 = .ok (.iconst 1, 1) := by decide +kernel
theorem dL_law_983 : decode cL_law 983 = .ok (.goto 4, 3) := by decide +kernel
theorem dL_law_986 : decode cL_law 986 = .ok (.iconst 0, 1) := by decide +kernel
theorem dL_law_987 : decode cL_law 987 = .ok (.invokevirtual 126, 3) := by decide +kernel
theorem dL_law_990 : decode cL_law 990 = .ok (.aload_n 2, 1) := by decide +kernel
theorem dL_law_991 : decode cL_law 991 = .ok (.aload_n 0, 1) := by decide +kernel
theorem dL_law_992 : decode cL_law 992 = .ok (.iload_n 3, 1) := by decide +kernel
theorem dL_law_993 : decode cL_law 993 = .ok (.iconst 1, 1) := by decide +kernel
theorem dL_law_994 : decode cL_law 994 = .ok (.iadd, 1) := by decide +kernel
theorem dL_law_995 : decode cL_law 995 = .ok (.iaload, 1) := by decide +kernel
theorem dL_law_996 : decode cL_law 996 = .ok (.aload_n 0, 1) := by decide +kernel
theorem dL_law_997 : decode cL_law 997 = .ok (.iload_n 3, 1) := by decide +kernel
theorem dL_law_998 : decode cL_law 998 = .ok (.iconst 2, 1) := by decide +kernel
theorem dL_law_999 : decode cL_law 999 = .ok (.iadd, 1) := by decide +kernel
theorem dL_law_1000 : decode cL_law 1000 = .ok (.iaload, 1) := by decide +kernel
theorem dL_law_1001 : decode cL_law 1001 = .ok (.aload_n 0, 1) := by decide +kernel
theorem dL_law_1002 : decode cL_law 1002 = .ok (.iload_n 3, 1) := by decide +kernel
theorem dL_law_1003 : decode cL_law 1003 = .ok (.iconst 3, 1) := by decide +kernel
theorem dL_law_1004 : decode cL_law 1004 = .ok (.iadd, 1) := by decide +kernel
theorem dL_law_1005 : decode cL_law 1005 = .ok (.iaload, 1) := by decide +kernel
theorem dL_law_1006 : decode cL_law 1006 = .ok (.ifCond .eq 7, 3) := by decide +kernel
theorem dL_law_1009 : decode cL_law 1009 = .ok (.iconst 1, 1) := by decide +kernel
theorem dL_law_1010 : decode cL_law 1010 = .ok (.goto 4, 3) := by decide +kernel
theorem dL_law_1013 : decode cL_law 1013 = .ok (.iconst 0, 1) := by decide +kernel
theorem dL_law_1014 : decode cL_law 1014 = .ok (.invokevirtual 130, 3) := by decide +kernel
theorem dL_law_1017 : decode cL_law 1017 = .ok (.if_icmp .eq 159, 3) := by decide +kernel
theorem dL_law_1020 : decode cL_law 1020 = .ok (.iconst 0, 1) := by decide +kernel
theorem dL_law_1021 : decode cL_law 1021 = .ok (.ireturn, 1) := by decide +kernel
theorem dL_law_1022 : decode cL_law 1022 = .ok (.aload_n 1, 1) := by decide +kernel
theorem dL_law_1023 : decode cL_law 1023 = .ok (.invokevirtual 131, 3) := by decide +kernel
theorem dL_law_1026 : decode cL_law 1026 = .ok (.aload_n 2, 1) := by decide +kernel
theorem dL_law_1027 : decode cL_law 1027 = .ok (.invokevirtual 134, 3) := by decide +kernel
theorem dL_law_1030 : decode cL_law 1030 = .ok (.if_icmp .eq 146, 3) := by decide +kernel
theorem dL_law_1033 : decode cL_law 1033 = .ok (.iconst 0, 1) := by decide +kernel
theorem dL_law_1034 : decode cL_law 1034 = .ok (.ireturn, 1) := by decide +kernel
theorem dL_law_1035 : decode cL_law 1035 = .ok (.aload_n 1, 1) := by decide +kernel
theorem dL_law_1036 : decode cL_law 1036 = .ok (.invokevirtual 135, 3) := by decide +kernel
theorem dL_law_1039 : decode cL_law 1039 = .ok (.aload_n 2, 1) := by decide +kernel
theorem dL_law_1040 : decode cL_law 1040 = .ok (.invokevirtual 138, 3) := by decide +kernel
theorem dL_law_1043 : decode cL_law 1043 = .ok (.if_icmp .eq 133, 3) := by decide +kernel
theorem dL_law_1046 : decode cL_law 1046 = .ok (.iconst 0, 1) := by decide +kernel
theorem dL_law_1047 : decode cL_law 1047 = .ok (.ireturn, 1) := by decide +kernel
theorem dL_law_1048 : decode cL_law 1048 = .ok (.aload_n 1, 1) := by decide +kernel
theorem dL_law_1049 : decode cL_law 1049 = .ok (.aload_n 0, 1) := by decide +kernel
theorem dL_law_1050 : decode cL_law 1050 = .ok (.iload_n 3, 1) := by decide +kernel
theorem dL_law_1051 : decode cL_law 1051 = .ok (.iconst 1, 1) := by decide +kernel
theorem dL_law_1052 : decode cL_law 1052 = .ok (.iadd, 1) := by decide +kernel
theorem dL_law_1053 : decode cL_law 1053 = .ok (.iaload, 1) := by decide +kernel
theorem dL_law_1054 : decode cL_law 1054 = .ok (.aload_n 0, 1) := by decide +kernel
theorem dL_law_1055 : decode cL_law 1055 = .ok (.iload_n 3, 1) := by decide +kernel
theorem dL_law_1056 : decode cL_law 1056 = .ok (.iconst 2, 1) := by decide +kernel
theorem dL_law_1057 : decode cL_law 1057 = .ok (.iadd, 1) := by decide +kernel
theorem dL_law_1058 : decode cL_law 1058 = .ok (.iaload, 1) := by decide +kernel
theorem dL_law_1059 : decode cL_law 1059 = .ok (.invokevirtual 139, 3) := by decide +kernel
theorem dL_law_1062 : decode cL_law 1062 = .ok (.aload_n 2, 1) := by decide +kernel
theorem dL_law_1063 : decode cL_law 1063 = .ok (.aload_n 0, 1) := by decide +kernel
theorem dL_law_1064 : decode cL_law 1064 = .ok (.iload_n 3, 1) := by decide +kernel
theorem dL_law_1065 : decode cL_law 1065 = .ok (.iconst 1, 1) := by decide +kernel
theorem dL_law_1066 : decode cL_law 1066 = .ok (.iadd, 1) := by decide +kernel
theorem dL_law_1067 : decode cL_law 1067 = .ok (.iaload, 1) := by decide +kernel
theorem dL_law_1068 : decode cL_law 1068 = .ok (.aload_n 0, 1) := by decide +kernel
theorem dL_law_1069 : decode cL_law 1069 = .ok (.iload_n 3, 1) := by decide +kernel
theorem dL_law_1070 : decode cL_law 1070 = .ok (.iconst 2, 1) := by decide +kernel
theorem dL_law_1071 : decode cL_law 1071 = .ok (.iadd, 1) := by decide +kernel
theorem dL_law_1072 : decode cL_law 1072 = .ok (.iaload, 1) := by decide +kernel
theorem dL_law_1073 : decode cL_law 1073 = .ok (.invokevirtual 142, 3) := by decide +kernel
theorem dL_law_1076 : decode cL_law 1076 = .ok (.if_icmp .eq 100, 3) := by decide +kernel
theorem dL_law_1079 : decode cL_law 1079 = .ok (.iconst 0, 1) := by decide +kernel
theorem dL_law_1080 : decode cL_law 1080 = .ok (.ireturn, 1) := by decide +kernel
theorem dL_law_1081 : decode cL_law 1081 = .ok (.aload_n 1, 1) := by decide +kernel
theorem dL_law_1082 : decode cL_law 1082 = .ok (.invokevirtual 143, 3) := by decide +kernel
theorem dL_law_1085 : decode cL_law 1085 = .ok (.aload_n 2, 1) := by decide +kernel
theorem dL_law_1086 : decode cL_law 1086 = .ok (.invokevirtual 146, 3) := by decide +kernel
theorem dL_law_1089 : decode cL_law 1089 = .ok (.if_icmp .eq 87, 3) := by decide +kernel
theorem dL_law_1092 : decode cL_law 1092 = .ok (.iconst 0, 1) := by decide +kernel
theorem dL_law_1093 : decode cL_law 1093 = .ok (.ireturn, 1) := by decide +kernel
theorem dL_law_1094 : decode cL_law 1094 = .ok (.aload_n 1, 1) := by decide +kernel
theorem dL_law_1095 : decode cL_law 1095 = .ok (.invokevirtual 147, 3) := by decide +kernel
theorem dL_law_1098 : decode cL_law 1098 = .ok (.aload_n 2, 1) := by decide +kernel
theorem dL_law_1099 : decode cL_law 1099 = .ok (.invokevirtual 150, 3) := by decide +kernel
theorem dL_law_1102 : decode cL_law 1102 = .ok (.if_icmp .eq 74, 3) := by decide +kernel
theorem dL_law_1105 : decode cL_law 1105 = .ok (.iconst 0, 1) := by decide +kernel
theorem dL_law_1106 : decode cL_law 1106 = .ok (.ireturn, 1) := by decide +kernel
theorem dL_law_1107 : decode cL_law 1107 = .ok (.aload_n 1, 1) := by decide +kernel
theorem dL_law_1108 : decode cL_law 1108 = .ok (.aload_n 0, 1) := by decide +kernel
theorem dL_law_1109 : decode cL_law 1109 = .ok (.iload_n 3, 1) := by decide +kernel
theorem dL_law_1110 : decode cL_law 1110 = .ok (.iconst 1, 1) := by decide +kernel
theorem dL_law_1111 : decode cL_law 1111 = .ok (.iadd, 1) := by decide +kernel
theorem dL_law_1112 : decode cL_law 1112 = .ok (.iaload, 1) := by decide +kernel
theorem dL_law_1113 : decode cL_law 1113 = .ok (.invokevirtual 151, 3) := by decide +kernel
theorem dL_law_1116 : decode cL_law 1116 = .ok (.aload_n 2, 1) := by decide +kernel
theorem dL_law_1117 : decode cL_law 1117 = .ok (.aload_n 0, 1) := by decide +kernel
theorem dL_law_1118 : decode cL_law 1118 = .ok (.iload_n 3, 1) := by decide +kernel
theorem dL_law_1119 : decode cL_law 1119 = .ok (.iconst 1, 1) := by decide +kernel
theorem dL_law_1120 : decode cL_law 1120 = .ok (.iadd, 1) := by decide +kernel
theorem dL_law_1121 : decode cL_law 1121 = .ok (.iaload, 1) := by decide +kernel
theorem dL_law_1122 : decode cL_law 1122 = .ok (.invokevirtual 154, 3) := by decide +kernel
theorem dL_law_1125 : decode cL_law 1125 = .ok (.if_icmp .eq 51, 3) := by decide +kernel
theorem dL_law_1128 : decode cL_law 1128 = .ok (.iconst 0, 1) := by decide +kernel
theorem dL_law_1129 : decode cL_law 1129 = .ok (.ireturn, 1) := by decide +kernel
theorem dL_law_1130 : decode cL_law 1130 = .ok (.aload_n 1, 1) := by decide +kernel
theorem dL_law_1131 : decode cL_law 1131 = .ok (.aload_n 0, 1) := by decide +kernel
theorem dL_law_1132 : decode cL_law 1132 = .ok (.iload_n 3, 1) := by decide +kernel
theorem dL_law_1133 : decode cL_law 1133 = .ok (.iconst 1, 1) := by decide +kernel
theorem dL_law_1134 : decode cL_law 1134 = .ok (.iadd, 1) := by decide +kernel
theorem dL_law_1135 : decode cL_law 1135 = .ok (.iaload, 1) := by decide +kernel
theorem dL_law_1136 : decode cL_law 1136 = .ok (.invokevirtual 155, 3) := by decide +kernel
theorem dL_law_1139 : decode cL_law 1139 = .ok (.aload_n 2, 1) := by decide +kernel
theorem dL_law_1140 : decode cL_law 1140 = .ok (.aload_n 0, 1) := by decide +kernel
theorem dL_law_1141 : decode cL_law 1141 = .ok (.iload_n 3, 1) := by decide +kernel
theorem dL_law_1142 : decode cL_law 1142 = .ok (.iconst 1, 1) := by decide +kernel
theorem dL_law_1143 : decode cL_law 1143 = .ok (.iadd, 1) := by decide +kernel
theorem dL_law_1144 : decode cL_law 1144 = .ok (.iaload, 1) := by decide +kernel
theorem dL_law_1145 : decode cL_law 1145 = .ok (.invokevirtual 158, 3) := by decide +kernel
theorem dL_law_1148 : decode cL_law 1148 = .ok (.if_icmp .eq 28, 3) := by decide +kernel
theorem dL_law_1151 : decode cL_law 1151 = .ok (.iconst 0, 1) := by decide +kernel
theorem dL_law_1152 : decode cL_law 1152 = .ok (.ireturn, 1) := by decide +kernel
theorem dL_law_1153 : decode cL_law 1153 = .ok (.aload_n 1, 1) := by decide +kernel
theorem dL_law_1154 : decode cL_law 1154 = .ok (.aload_n 0, 1) := by decide +kernel
theorem dL_law_1155 : decode cL_law 1155 = .ok (.iload_n 3, 1) := by decide +kernel
theorem dL_law_1156 : decode cL_law 1156 = .ok (.iconst 1, 1) := by decide +kernel
theorem dL_law_1157 : decode cL_law 1157 = .ok (.iadd, 1) := by decide +kernel
theorem dL_law_1158 : decode cL_law 1158 = .ok (.iaload, 1) := by decide +kernel
theorem dL_law_1159 : decode cL_law 1159 = .ok (.invokevirtual 159, 3) := by decide +kernel
theorem dL_law_1162 : decode cL_law 1162 = .ok (.aload_n 2, 1) := by decide +kernel
theorem dL_law_1163 : decode cL_law 1163 = .ok (.aload_n 0, 1) := by decide +kernel
theorem dL_law_1164 : decode cL_law 1164 = .ok (.iload_n 3, 1) := by decide +kernel
theorem dL_law_1165 : decode cL_law 1165 = .ok (.iconst 1, 1) := by decide +kernel
theorem dL_law_1166 : decode cL_law 1166 = .ok (.iadd, 1) := by decide +kernel
theorem dL_law_1167 : decode cL_law 1167 = .ok (.iaload, 1) := by decide +kernel
theorem dL_law_1168 : decode cL_law 1168 = .ok (.invokevirtual 162, 3) := by decide +kernel
theorem dL_law_1171 : decode cL_law 1171 = .ok (.if_icmp .eq 5, 3) := by decide +kernel
theorem dL_law_1174 : decode cL_law 1174 = .ok (.iconst 0, 1) := by decide +kernel
theorem dL_law_1175 : decode cL_law 1175 = .ok (.ireturn, 1) := by decide +kernel
theorem dL_law_1176 : decode cL_law 1176 = .ok (.iinc 3 5, 3) := by decide +kernel
theorem dL_law_1179 : decode cL_law 1179 = .ok (.goto (-1161), 3) := by decide +kernel
theorem dL_law_1182 : decode cL_law 1182 = .ok (.iconst 1, 1) := by decide +kernel
theorem dL_law_1183 : decode cL_law 1183 = .ok (.ireturn, 1) := by decide +kernel
