theorem dX8_hoarded_1 : decode cX8_hoarded 1 = .ok (.iload_n 1, 1) := by decide +kernel
theorem dX8_hoarded_2 : decode cX8_hoarded 2 = .ok (.invokevirtual 190, 3) := by decide +kernel
theorem dX8_hoarded_5 : decode cX8_hoarded 5 = .ok (.ifCond .eq 11, 3) := by decide +kernel
theorem dX8_hoarded_8 : decode cX8_hoarded 8 = .ok (.aload_n 0, 1) := by decide +kernel
theorem dX8_hoarded_9 : decode cX8_hoarded 9 = .ok (.iload_n 2, 1) := by decide +kernel
theorem dX8_hoarded_10 : decode cX8_hoarded 10 = .ok (.invokevirtual 159, 3) := by decide +kernel
theorem dX8_hoarded_13 : decode cX8_hoarded 13 = .ok (.ifCond .ne 6, 3) := by decide +kernel
theorem dX8_hoarded_16 : decode cX8_hoarded 16 = .ok (.ldc 163, 2) := by decide +kernel
theorem dX8_hoarded_18 : decode cX8_hoarded 18 = .ok (.ireturn, 1) := by decide +kernel
theorem dX8_hoarded_19 : decode cX8_hoarded 19 = .ok (.aload_n 0, 1) := by decide +kernel
theorem dX8_hoarded_20 : decode cX8_hoarded 20 = .ok (.getfield 29, 3) := by decide +kernel
theorem dX8_hoarded_23 : decode cX8_hoarded 23 = .ok (.iload_n 1, 1) := by decide +kernel
theorem dX8_hoarded_24 : decode cX8_hoarded 24 = .ok (.iload_n 2, 1) := by decide +kernel
theorem dX8_hoarded_25 : decode cX8_hoarded 25 = .ok (.invokevirtual 193, 3) := by decide +kernel
theorem dX8_hoarded_28 : decode cX8_hoarded 28 = .ok (.ireturn, 1) := by decide +kernel
theorem dX8_need_0 : decode cX8_need 0 = .ok (.aload_n 0, 1) := by decide +kernel
theorem dX8_need_1 : decode cX8_need 1 = .ok (.iload_n 1, 1) := by decide +kernel
theorem dX8_need_2 : decode cX8_need 2 = .ok (.invokevirtual 196, 3) := by decide +kernel
theorem dX8_need_5 : decode cX8_need 5 = .ok (.ifCond .ne 6, 3) := by decide +kernel
theorem dX8_need_8 : decode cX8_need 8 = .ok (.ldc 163, 2) := by decide +kernel
theorem dX8_need_10 : decode cX8_need 10 = .ok (.ireturn, 1) := by decide +kernel
theorem dX8_need_11 : decode cX8_need 11 = .ok (.iload_n 2, 1) := by decide +kernel
theorem dX8_need_12 : decode cX8_need 12 = .ok (.tableswitch 97 0 4 #[36, 46, 56, 66, 76], 36) := by decide +kernel
theorem dX8_need_48 : decode cX8_need 48 = .ok (.aload_n 0, 1) := by decide +kernel
theorem dX8_need_49 : decode cX8_need 49 = .ok (.getfield 19, 3) := by decide +kernel
theorem dX8_need_52 : decode cX8_need 52 = .ok (.getfield 199, 3) := by decide +kernel
theorem dX8_need_55 : decode cX8_need 55 = .ok (.iload_n 1, 1) := by decide +kernel
theorem dX8_need_56 : decode cX8_need 56 = .ok (.iaload, 1) := by decide +kernel
theorem dX8_need_57 : decode cX8_need 57 = .ok (.ireturn, 1) := by decide +kernel
theorem dX8_need_58 : decode cX8_need 58 = .ok (.aload_n 0, 1) := by decide +kernel
theorem dX8_need_59 : decode cX8_need 59 = .ok (.getfield 19, 3) := by decide +kernel
theorem dX8_need_62 : decode cX8_need 62 = .ok (.getfield 202, 3) := by decide +kernel
theorem dX8_need_65 : decode cX8_need 65 = .ok (.iload_n 1, 1) := by decide +kernel
theorem dX8_need_66 : decode cX8_need 66 = .ok (.iaload, 1) := by decide +kernel
theorem dX8_need_67 : decode cX8_need 67 = .ok (.ireturn, 1) := by decide +kernel
theorem dX8_need_68 : decode cX8_need 68 = .ok (.aload_n 0, 1) := by decide +kernel
theorem dX8_need_69 : decode cX8_need 69 = .ok (.getfield 19, 3) := by decide +kernel
theorem dX8_need_72 : decode cX8_need 72 = .ok (.getfield 205, 3) := by decide +kernel
theorem dX8_need_75 : decode cX8_need 75 = .ok (.iload_n 1, 1) := by decide +kernel
theorem dX8_need_76 : decode cX8_need 76 = .ok (.iaload, 1) := by decide +kernel
theorem dX8_need_77 : decode cX8_need 77 = .ok (.ireturn, 1) := by decide +kernel
theorem dX8_need_78 : decode cX8_need 78 = .ok (.aload_n 0, 1) := by decide +kernel
theorem dX8_need_79 : decode cX8_need 79 = .ok (.getfield 19, 3) := by decide +kernel
theorem dX8_need_82 : decode cX8_need 82 = .ok (.getfield 208, 3) := by decide +kernel
theorem dX8_need_85 : decode cX8_need 85 = .ok (.iload_n 1, 1) := by decide +kernel
theorem dX8_need_86 : decode cX8_need 86 = .ok (.iaload, 1) := by decide +kernel
theorem dX8_need_87 : decode cX8_need 87 = .ok (.ireturn, 1) := by decide +kernel
theorem dX8_need_88 : decode cX8_need 88 = .ok (.aload_n 0, 1) := by decide +kernel
theorem dX8_need_89 : decode cX8_need 89 = .ok (.getfield 19, 3) := by decide +kernel
theorem dX8_need_92 : decode cX8_need 92 = .ok (.iload_n 1, 1) := by decide +kernel
theorem dX8_need_93 : decode cX8_need 93 = .ok (.aload_n 0, 1) := by decide +kernel
theorem dX8_need_94 : decode cX8_need 94 = .ok (.invokevirtual 135, 3) := by decide +kernel
theorem dX8_need_97 : decode cX8_need 97 = .ok (.invokevirtual 211, 3) := by decide +kernel
theorem dX8_need_100 : decode cX8_need 100 = .ok (.ifCond .eq 7, 3) := by decide +kernel
theorem dX8_need_103 : decode cX8_need 103 = .ok (.iconst 1, 1) := by decide +kernel
theorem dX8_need_104 : decode cX8_need 104 = .ok (.goto 4, 3) := by decide +kernel
theorem dX8_need_107 : decode cX8_need 107 = .ok (.iconst 0, 1) := by decide +kernel
theorem dX8_need_108 : decode cX8_need 108 = .ok (.ireturn, 1) := by decide +kernel
theorem dX8_need_109 : decode cX8_need 109 = .ok (.ldc 78, 2) := by decide +kernel
theorem dX8_need_111 : decode cX8_need 111 = .ok (.ireturn, 1) := by decide +kernel
theorem dX8_day_0 : decode cX8_day 0 = .ok (.aload_n 0, 1) := by decide +kernel
theorem dX8_day_1 : decode cX8_day 1 = .ok (.iload_n 1, 1) := by decide +kernel
theorem dX8_day_2 : decode cX8_day 2 = .ok (.invokevirtual 215, 3) := by decide +kernel
theorem dX8_day_5 : decode cX8_day 5 = .ok (.istore_n 2, 1) := by decide +kernel
theorem dX8_day_6 : decode cX8_day 6 = .ok (.iload_n 2, 1) := by decide +kernel
theorem dX8_day_7 : decode cX8_day 7 = .ok (.ifCond .eq 5, 3) := by decide +kernel
theorem dX8_day_10 : decode cX8_day 10 = .ok (.iload_n 2, 1) := by decide +kernel
theorem dX8_day_11 : decode cX8_day 11 = .ok (.ireturn, 1) := by decide +kernel
theorem dX8_day_12 : decode cX8_day 12 = .ok (.aload_n 0, 1) := by decide +kernel
theorem dX8_day_13 : decode cX8_day 13 = .ok (.getfield 39, 3) := by decide +kernel
theorem dX8_day_16 : decode cX8_day 16 = .ok (.aload_n 0, 1) := by decide +kernel
theorem dX8_day_17 : decode cX8_day 17 = .ok (.getfield 29, 3) := by decide +kernel
theorem dX8_day_20 : decode cX8_day 20 = .ok (.invokevirtual 218, 3) := by decide +kernel
theorem dX8_day_23 : decode cX8_day 23 = .ok (.iconst 0, 1) := by decide +kernel
theorem dX8_day_24 : decode cX8_day 24 = .ok (.istore_n 3, 1) := by decide +kernel
theorem dX8_day_25 : decode cX8_day 25 = .ok (.iload_n 3, 1) := by decide +kernel
theorem dX8_day_26 : decode cX8_day 26 = .ok (.iload_n 1, 1) := by decide +kernel
theorem dX8_day_27 : decode cX8_day 27 = .ok (.if_icmp .ge 20, 3) := by decide +kernel
theorem dX8_day_30 : decode cX8_day 30 = .ok (.aload_n 0, 1) := by decide +kernel
theorem dX8_day_31 : decode cX8_day 31 = .ok (.getfield 29, 3) := by decide +kernel
theorem dX8_day_34 : decode cX8_day 34 = .ok (.aload_n 0, 1) := by decide +kernel
theorem dX8_day_35 : decode cX8_day 35 = .ok (.getfield 19, 3) := by decide +kernel
theorem dX8_day_38 : decode cX8_day 38 = .ok (.invokevirtual 222, 3) := by decide +kernel
theorem dX8_day_41 : decode cX8_day 41 = .ok (.iinc 3 1, 3) := by decide +kernel
theorem dX8_day_44 : decode cX8_day 44 = .ok (.goto (-19), 3) := by decide +kernel
theorem dX8_day_47 : decode cX8_day 47 = .ok (.aload_n 0, 1) := by decide +kernel
theorem dX8_day_48 : decode cX8_day 48 = .ok (.getfield 29, 3) := by decide +kernel
theorem dX8_day_51 : decode cX8_day 51 = .ok (.getfield 134, 3) := by decide +kernel
theorem dX8_day_54 : decode cX8_day 54 = .ok (.ireturn, 1) := by decide +kernel
theorem dX8_say_0 : decode cX8_say 0 = .ok (.aload_n 0, 1) := by decide +kernel
theorem dX8_say_1 : decode cX8_say 1 = .ok (.iload_n 1, 1) := by decide +kernel
theorem dX8_say_2 : decode cX8_say 2 = .ok (.invokevirtual 190, 3) := by decide +kernel
theorem dX8_say_5 : decode cX8_say 5 = .ok (.ifCond .eq 11, 3) := by decide +kernel
theorem dX8_say_8 : decode cX8_say 8 = .ok (.aload_n 0, 1) := by decide +kernel
theorem dX8_say_9 : decode cX8_say 9 = .ok (.iload_n 2, 1) := by decide +kernel
theorem dX8_say_10 : decode cX8_say 10 = .ok (.invokevirtual 159, 3) := by decide +kernel
theorem dX8_say_13 : decode cX8_say 13 = .ok (.ifCond .ne 6, 3) := by decide +kernel
theorem dX8_say_16 : decode cX8_say 16 = .ok (.ldc 163, 2) := by decide +kernel
theorem dX8_say_18 : decode cX8_say 18 = .ok (.ireturn, 1) := by decide +kernel
theorem dX8_say_19 : decode cX8_say 19 = .ok (.aload_n 0, 1) := by decide +kernel
theorem dX8_say_20 : decode cX8_say 20 = .ok (.getfield 29, 3) := by decide +kernel
theorem dX8_say_23 : decode cX8_say 23 = .ok (.iload_n 1, 1) := by decide +kernel
theorem dX8_say_24 : decode cX8_say 24 = .ok (.iload_n 2, 1) := by decide +kernel
theorem dX8_say_25 : decode cX8_say 25 = .ok (.invokevirtual 225, 3) := by decide +kernel
theorem dX8_say_28 : decode cX8_say 28 = .ok (.ifCond .ne 6, 3) := by decide +kernel
theorem dX8_say_31 : decode cX8_say 31 = .ok (.ldc 228, 2) := by decide +kernel
theorem dX8_say_33 : decode cX8_say 33 = .ok (.ireturn, 1) := by decide +kernel
theorem dX8_say_34 : decode cX8_say 34 = .ok (.aload_n 0, 1) := by decide +kernel
theorem dX8_say_35 : decode cX8_say 35 = .ok (.getfield 39, 3) := by decide +kernel
theorem dX8_say_38 : decode cX8_say 38 = .ok (.aload_n 0, 1) := by decide +kernel
theorem dX8_say_39 : decode cX8_say 39 = .ok (.getfield 29, 3) := by decide +kernel
theorem dX8_say_42 : decode cX8_say 42 = .ok (.invokevirtual 218, 3) := by decide +kernel
theorem dX8_say_45 : decode cX8_say 45 = .ok (.aload_n 0, 1) := by decide +kernel
theorem dX8_say_46 : decode cX8_say 46 = .ok (.getfield 29, 3) := by decide +kernel
theorem dX8_say_49 : decode cX8_say 49 = .ok (.iload_n 1, 1) := by decide +kernel
theorem dX8_say_50 : decode cX8_say 50 = .ok (.iload_n 2, 1) := by decide +kernel
theorem dX8_say_51 : decode cX8_say 51 = .ok (.invokevirtual 229, 3) := by decide +kernel
theorem dX8_say_54 : decode cX8_say 54 = .ok (.aload_n 0, 1) := by decide +kernel
theorem dX8_say_55 : decode cX8_say 55 = .ok (.getfield 29, 3) := by decide +kernel
theorem dX8_say_58 : decode cX8_say 58 = .ok (.iload_n 1, 1) := by decide +kernel
theorem dX8_say_59 : decode cX8_say 59 = .ok (.iload_n 2, 1) := by decide +kernel
theorem dX8_say_60 : decode cX8_say 60 = .ok (.invokevirtual 233, 3) := by decide +kernel
theorem dX8_say_63 : decode cX8_say 63 = .ok (.ireturn, 1) := by decide +kernel
theorem dX8_around_0 : decode cX8_around 0 = .ok (.aload_n 0, 1) := by decide +kernel
theorem dX8_around_1 : decode cX8_around 1 = .ok (.iload_n 1, 1) := by decide +kernel
theorem dX8_around_2 : decode cX8_around 2 = .ok (.invokevirtual 190, 3) := by decide +kernel
theorem dX8_around_5 : decode cX8_around 5 = .ok (.ifCond .eq 11, 3) := by decide +kernel
theorem dX8_around_8 : decode cX8_around 8 = .ok (.aload_n 0, 1) := by decide +kernel
theorem dX8_around_9 : decode cX8_around 9 = .ok (.iload_n 2, 1) := by decide +kernel
theorem dX8_around_10 : decode cX8_around 10 = .ok (.invokevirtual 159, 3) := by decide +kernel
theorem dX8_around_13 : decode cX8_around 13 = .ok (.ifCond .ne 6, 3) := by decide +kernel
theorem dX8_around_16 : decode cX8_around 16 = .ok (.ldc 163, 2) := by decide +kernel
theorem dX8_around_18 : decode cX8_around 18 = .ok (.ireturn, 1) := by decide +kernel
theorem dX8_around_19 : decode cX8_around 19 = .ok (.iload_n 3, 1) := by decide +kernel
theorem dX8_around_20 : decode cX8_around 20 = .ok (.ifCond .lt 8, 3) := by decide +kernel
theorem dX8_around_23 : decode cX8_around 23 = .ok (.iload_n 3, 1) := by decide +kernel
theorem dX8_around_24 : decode cX8_around 24 = .ok (.iconst 2, 1) := by decide +kernel
theorem dX8_around_25 : decode cX8_around 25 = .ok (.if_icmp .lt 6, 3) := by decide +kernel
theorem dX8_around_28 : decode cX8_around 28 = .ok (.ldc 78, 2) := by decide +kernel
theorem dX8_around_30 : decode cX8_around 30 = .ok (.ireturn, 1) := by decide +kernel
theorem dX8_around_31 : decode cX8_around 31 = .ok (.aload_n 0, 1) := by decide +kernel
theorem dX8_around_32 : decode cX8_around 32 = .ok (.getfield 19, 3) := by decide +kernel
theorem dX8_around_35 : decode cX8_around 35 = .ok (.iload_n 2, 1) := by decide +kernel
theorem dX8_around_36 : decode cX8_around 36 = .ok (.iload_n 3, 1) := by decide +kernel
theorem dX8_around_37 : decode cX8_around 37 = .ok (.invokevirtual 183, 3) := by decide +kernel
theorem dX8_around_40 : decode cX8_around 40 = .ok (.istore 4, 2) := by decide +kernel
theorem dX8_around_42 : decode cX8_around 42 = .ok (.aload_n 0, 1) := by decide +kernel
theorem dX8_around_43 : decode cX8_around 43 = .ok (.getfield 29, 3) := by decide +kernel
theorem dX8_around_46 : decode cX8_around 46 = .ok (.iload_n 1, 1) := by decide +kernel
theorem dX8_around_47 : decode cX8_around 47 = .ok (.iload 4, 2) := by decide +kernel
theorem dX8_around_49 : decode cX8_around 49 = .ok (.invokevirtual 236, 3) := by decide +kernel
theorem dX8_around_52 : decode cX8_around 52 = .ok (.ifCond .ne 6, 3) := by decide +kernel
theorem dX8_around_55 : decode cX8_around 55 = .ok (.ldc 228, 2) := by decide +kernel
theorem dX8_around_57 : decode cX8_around 57 = .ok (.ireturn, 1) := by decide +kernel
theorem dX8_around_58 : decode cX8_around 58 = .ok (.aload_n 0, 1) := by decide +kernel
theorem dX8_around_59 : decode cX8_around 59 = .ok (.getfield 39, 3) := by decide +kernel
theorem dX8_around_62 : decode cX8_around 62 = .ok (.aload_n 0, 1) := by decide +kernel
theorem dX8_around_63 : decode cX8_around 63 = .ok (.getfield 29, 3) := by decide +kernel
theorem dX8_around_66 : decode cX8_around 66 = .ok (.invokevirtual 218, 3) := by decide +kernel
theorem dX8_around_69 : decode cX8_around 69 = .ok (.aload_n 0, 1) := by decide +kernel
theorem dX8_around_70 : decode cX8_around 70 = .ok (.getfield 29, 3) := by decide +kernel
theorem dX8_around_73 : decode cX8_around 73 = .ok (.iload_n 1, 1) := by decide +kernel
theorem dX8_around_74 : decode cX8_around 74 = .ok (.iload 4, 2) := by decide +kernel
theorem dX8_around_76 : decode cX8_around 76 = .ok (.invokevirtual 239, 3) := by decide +kernel
theorem dX8_around_79 : decode cX8_around 79 = .ok (.iload 4, 2) := by decide +kernel
theorem dX8_around_81 : decode cX8_around 81 = .ok (.ireturn, 1) := by decide +kernel
theorem dX8_point_0 : decode cX8_point 0 = .ok (.aload_n 0, 1) := by decide +kernel
theorem dX8_point_1 : decode cX8_point 1 = .ok (.iload_n 1, 1) := by decide +kernel
theorem dX8_point_2 : decode cX8_point 2 = .ok (.invokevirtual 159, 3) := by decide +kernel
theorem dX8_point_5 : decode cX8_point 5 = .ok (.ifCond .ne 6, 3) := by decide +kernel
theorem dX8_point_8 : decode cX8_point 8 = .ok (.ldc 163, 2) := by decide +kernel
theorem dX8_point_10 : decode cX8_point 10 = .ok (.ireturn, 1) := by decide +kernel
theorem dX8_point_11 : decode cX8_point 11 = .ok (.aload_n 0, 1) := by decide +kernel
theorem dX8_point_12 : decode cX8_point 12 = .ok (.getfield 19, 3) := by decide +kernel
theorem dX8_point_15 : decode cX8_point 15 = .ok (.iload_n 1, 1) := by decide +kernel
theorem dX8_point_16 : decode cX8_point 16 = .ok (.invokevirtual 187, 3) := by decide +kernel
theorem dX8_point_19 : decode cX8_point 19 = .ok (.ifCond .ne 6, 3) := by decide +kernel
theorem dX8_point_22 : decode cX8_point 22 = .ok (.ldc 228, 2) := by decide +kernel
theorem dX8_point_24 : decode cX8_point 24 = .ok (.ireturn, 1) := by decide +kernel
theorem dX8_point_25 : decode cX8_point 25 = .ok (.aload_n 0, 1) := by decide +kernel
theorem dX8_point_26 : decode cX8_point 26 = .ok (.getfield 39, 3) := by decide +kernel
theorem dX8_point_29 : decode cX8_point 29 = .ok (.aload_n 0, 1) := by decide +kernel
theorem dX8_point_30 : decode cX8_point 30 = .ok (.getfield 29, 3) := by decide +kernel
theorem dX8_point_33 : decode cX8_point 33 = .ok (.invokevirtual 218, 3) := by decide +kernel
theorem dX8_point_36 : decode cX8_point 36 = .ok (.aload_n 0, 1) := by decide +kernel
theorem dX8_point_37 : decode cX8_point 37 = .ok (.getfield 29, 3) := by decide +kernel
theorem dX8_point_40 : decode cX8_point 40 = .ok (.invokevirtual 242, 3) := by decide +kernel
theorem dX8_point_43 : decode cX8_point 43 = .ok (.aload_n 0, 1) := by decide +kernel
theorem dX8_point_44 : decode cX8_point 44 = .ok (.getfield 29, 3) := by decide +kernel
theorem dX8_point_47 : decode cX8_point 47 = .ok (.getfield 148, 3) := by decide +kernel
theorem dX8_point_50 : decode cX8_point 50 = .ok (.ireturn, 1) := by decide +kernel
theorem dX8_hoard_0 : decode cX8_hoard 0 = .ok (.aload_n 0, 1) := by decide +kernel
theorem dX8_hoard_1 : decode cX8_hoard 1 = .ok (.iload_n 1, 1) := by decide +kernel
theorem dX8_hoard_2 : decode cX8_hoard 2 = .ok (.invokevirtual 190, 3) := by decide +kernel
theorem dX8_hoard_5 : decode cX8_hoard 5 = .ok (.ifCond .eq 11, 3) := by decide +kernel
theorem dX8_hoard_8 : decode cX8_hoard 8 = .ok (.aload_n 0, 1) := by decide +kernel
theorem dX8_hoard_9 : decode cX8_hoard 9 = .ok (.iload_n 2, 1) := by decide +kernel
theorem dX8_hoard_10 : decode cX8_hoard 10 = .ok (.invokevirtual 159, 3) := by decide +kernel
theorem dX8_hoard_13 : decode cX8_hoard 13 = .ok (.ifCond .ne 6, 3) := by decide +kernel
theorem dX8_hoard_16 : decode cX8_hoard 16 = .ok (.ldc 163, 2) := by decide +kernel
theorem dX8_hoard_18 : decode cX8_hoard 18 = .ok (.ireturn, 1) := by decide +kernel
theorem dX8_hoard_19 : decode cX8_hoard 19 = .ok (.iload_n 3, 1) := by decide +kernel
theorem dX8_hoard_20 : decode cX8_hoard 20 = .ok (.iconst 1, 1) := by decide +kernel
theorem dX8_hoard_21 : decode cX8_hoard 21 = .ok (.if_icmp .lt 9, 3) := by decide +kernel
theorem dX8_hoard_24 : decode cX8_hoard 24 = .ok (.iload_n 3, 1) := by decide +kernel
theorem dX8_hoard_25 : decode cX8_hoard 25 = .ok (.bipush 99, 2) := by decide +kernel
theorem dX8_hoard_27 : decode cX8_hoard 27 = .ok (.if_icmp .le 6, 3) := by decide +kernel
theorem dX8_hoard_30 : decode cX8_hoard 30 = .ok (.ldc 78, 2) := by decide +kernel
theorem dX8_hoard_32 : decode cX8_hoard 32 = .ok (.ireturn, 1) := by decide +kernel
theorem dX8_hoard_33 : decode cX8_hoard 33 = .ok (.aload_n 0, 1) := by decide +kernel
theorem dX8_hoard_34 : decode cX8_hoard 34 = .ok (.getfield 29, 3) := by decide +kernel
theorem dX8_hoard_37 : decode cX8_hoard 37 = .ok (.getfield 173, 3) := by decide +kernel
theorem dX8_hoard_40 : decode cX8_hoard 40 = .ok (.iload_n 2, 1) := by decide +kernel
theorem dX8_hoard_41 : decode cX8_hoard 41 = .ok (.iaload, 1) := by decide +kernel
theorem dX8_hoard_42 : decode cX8_hoard 42 = .ok (.iload_n 3, 1) := by decide +kernel
theorem dX8_hoard_43 : decode cX8_hoard 43 = .ok (.if_icmp .ge 6, 3) := by decide +kernel
theorem dX8_hoard_46 : decode cX8_hoard 46 = .ok (.ldc 228, 2) := by decide +kernel
theorem dX8_hoard_48 : decode cX8_hoard 48 = .ok (.ireturn, 1) := by decide +kernel
theorem dX8_hoard_49 : decode cX8_hoard 49 = .ok (.aload_n 0, 1) := by decide +kernel
theorem dX8_hoard_50 : decode cX8_hoard 50 = .ok (.getfield 39, 3) := by decide +kernel
theorem dX8_hoard_53 : decode cX8_hoard 53 = .ok (.aload_n 0, 1) := by decide +kernel
theorem dX8_hoard_54 : decode cX8_hoard 54 = .ok (.getfield 29, 3) := by decide +kernel
theorem dX8_hoard_57 : decode cX8_hoard 57 = .ok (.invokevirtual 218, 3) := by decide +kernel
theorem dX8_hoard_60 : decode cX8_hoard 60 = .ok (.aload_n 0, 1) := by decide +kernel
theorem dX8_hoard_61 : decode cX8_hoard 61 = .ok (.getfield 29, 3) := by decide +kernel
theorem dX8_hoard_64 : decode cX8_hoard 64 = .ok (.iload_n 1, 1) := by decide +kernel
theorem dX8_hoard_65 : decode cX8_hoard 65 = .ok (.iload_n 2, 1) := by decide +kernel
theorem dX8_hoard_66 : decode cX8_hoard 66 = .ok (.iload_n 3, 1) := by decide +kernel
theorem dX8_hoard_67 : decode cX8_hoard 67 = .ok (.invokevirtual 245, 3) := by decide +kernel
theorem dX8_hoard_70 : decode cX8_hoard 70 = .ok (.aload_n 0, 1) := by decide +kernel
theorem dX8_hoard_71 : decode cX8_hoard 71 = .ok (.getfield 29, 3) := by decide +kernel
theorem dX8_hoard_74 : decode cX8_hoard 74 = .ok (.iload_n 1, 1) := by decide +kernel
theorem dX8_hoard_75 : decode cX8_hoard 75 = .ok (.iload_n 2, 1) := by decide +kernel
theorem dX8_hoard_76 : decode cX8_hoard 76 = .ok (.invokevirtual 193, 3) := by decide +kernel
theorem dX8_hoard_79 : decode cX8_hoard 79 = .ok (.ireturn, 1) := by decide +kernel
theorem dX8_sell_0 : decode cX8_sell 0 = .ok (.aload_n 0, 1) := by decide +kernel
theorem dX8_sell_1 : decode cX8_sell 1 = .ok (.iload_n 1, 1) := by decide +kernel
theorem dX8_sell_2 : decode cX8_sell 2 = .ok (.invokevirtual 190, 3) := by decide +kernel
theorem dX8_sell_5 : decode cX8_sell 5 = .ok (.ifCond .eq 24, 3) := by decide +kernel
theorem dX8_sell_8 : decode cX8_sell 8 = .ok (.aload_n 0, 1) := by decide +kernel
theorem dX8_sell_9 : decode cX8_sell 9 = .ok (.iload_n 2, 1) := by decide +kernel
theorem dX8_sell_10 : decode cX8_sell 10 = .ok (.invokevirtual 190, 3) := by decide +kernel
theorem dX8_sell_13 : decode cX8_sell 13 = .ok (.ifCond .eq 16, 3) := by decide +kernel
theorem dX8_sell_16 : decode cX8_sell 16 = .ok (.iload_n 1, 1) := by decide +kernel
theorem dX8_sell_17 : decode cX8_sell 17 = .ok (.iload_n 2, 1) := by decide +kernel
theorem dX8_sell_18 : decode cX8_sell 18 = .ok (.if_icmp .eq 11, 3) := by decide +kernel
theorem dX8_sell_21 : decode cX8_sell 21 = .ok (.aload_n 0, 1) := by decide +kernel
theorem dX8_sell_22 : decode cX8_sell 22 = .ok (.iload_n 3, 1) := by decide +kernel
theorem dX8_sell_23 : decode cX8_sell 23 = .ok (.invokevirtual 159, 3) := by decide +kernel
theorem dX8_sell_26 : decode cX8_sell 26 = .ok (.ifCond .ne 6, 3) := by decide +kernel
theorem dX8_sell_29 : decode cX8_sell 29 = .ok (.ldc 163, 2) := by decide +kernel
theorem dX8_sell_31 : decode cX8_sell 31 = .ok (.ireturn, 1) := by decide +kernel
theorem dX8_sell_32 : decode cX8_sell 32 = .ok (.iload 4, 2) := by decide +kernel
theorem dX8_sell_34 : decode cX8_sell 34 = .ok (.iconst 1, 1) := by decide +kernel
theorem dX8_sell_35 : decode cX8_sell 35 = .ok (.if_icmp .lt 10, 3) := by decide +kernel
theorem dX8_sell_38 : decode cX8_sell 38 = .ok (.iload 4, 2) := by decide +kernel
theorem dX8_sell_40 : decode cX8_sell 40 = .ok (.bipush 99, 2) := by decide +kernel
theorem dX8_sell_42 : decode cX8_sell 42 = .ok (.if_icmp .le 6, 3) := by decide +kernel
theorem dX8_sell_45 : decode cX8_sell 45 = .ok (.ldc 78, 2) := by decide +kernel
theorem dX8_sell_47 : decode cX8_sell 47 = .ok (.ireturn, 1) := by decide +kernel
theorem dX8_sell_48 : decode cX8_sell 48 = .ok (.aload_n 0, 1) := by decide +kernel
theorem dX8_sell_49 : decode cX8_sell 49 = .ok (.getfield 29, 3) := by decide +kernel
theorem dX8_sell_52 : decode cX8_sell 52 = .ok (.iload_n 1, 1) := by decide +kernel
theorem dX8_sell_53 : decode cX8_sell 53 = .ok (.iload_n 3, 1) := by decide +kernel
theorem dX8_sell_54 : decode cX8_sell 54 = .ok (.invokevirtual 193, 3) := by decide +kernel
theorem dX8_sell_57 : decode cX8_sell 57 = .ok (.iload 4, 2) := by decide +kernel
theorem dX8_sell_59 : decode cX8_sell 59 = .ok (.if_icmp .ge 6, 3) := by decide +kernel
theorem dX8_sell_62 : decode cX8_sell 62 = .ok (.ldc 228, 2) := by decide +kernel
theorem dX8_sell_64 : decode cX8_sell 64 = .ok (.ireturn, 1) := by decide +kernel
theorem dX8_sell_65 : decode cX8_sell 65 = .ok (.aload_n 0, 1) := by decide +kernel
theorem dX8_sell_66 : decode cX8_sell 66 = .ok (.getfield 39, 3) := by decide +kernel
theorem dX8_sell_69 : decode cX8_sell 69 = .ok (.aload_n 0, 1) := by decide +kernel
theorem dX8_sell_70 : decode cX8_sell 70 = .ok (.getfield 29, 3) := by decide +kernel
theorem dX8_sell_73 : decode cX8_sell 73 = .ok (.invokevirtual 218, 3) := by decide +kernel
theorem dX8_sell_76 : decode cX8_sell 76 = .ok (.aload_n 0, 1) := by decide +kernel
theorem dX8_sell_77 : decode cX8_sell 77 = .ok (.getfield 29, 3) := by decide +kernel
theorem dX8_sell_80 : decode cX8_sell 80 = .ok (.iload_n 1, 1) := by decide +kernel
theorem dX8_sell_81 : decode cX8_sell 81 = .ok (.iload_n 3, 1) := by decide +kernel
theorem dX8_sell_82 : decode cX8_sell 82 = .ok (.iload 4, 2) := by decide +kernel
theorem dX8_sell_84 : decode cX8_sell 84 = .ok (.ineg, 1) := by decide +kernel
theorem dX8_sell_85 : decode cX8_sell 85 = .ok (.invokevirtual 249, 3) := by decide +kernel
theorem dX8_sell_88 : decode cX8_sell 88 = .ok (.aload_n 0, 1) := by decide +kernel
theorem dX8_sell_89 : decode cX8_sell 89 = .ok (.getfield 29, 3) := by decide +kernel
theorem dX8_sell_92 : decode cX8_sell 92 = .ok (.iload_n 2, 1) := by decide +kernel
theorem dX8_sell_93 : decode cX8_sell 93 = .ok (.iload_n 3, 1) := by decide +kernel
theorem dX8_sell_94 : decode cX8_sell 94 = .ok (.iload 4, 2) := by decide +kernel
theorem dX8_sell_96 : decode cX8_sell 96 = .ok (.invokevirtual 249, 3) := by decide +kernel
theorem dX8_sell_99 : decode cX8_sell 99 = .ok (.aload_n 0, 1) := by decide +kernel
theorem dX8_sell_100 : decode cX8_sell 100 = .ok (.getfield 29, 3) := by decide +kernel
theorem dX8_sell_103 : decode cX8_sell 103 = .ok (.iload_n 2, 1) := by decide +kernel
theorem dX8_sell_104 : decode cX8_sell 104 = .ok (.iload_n 3, 1) := by decide +kernel
theorem dX8_sell_105 : decode cX8_sell 105 = .ok (.invokevirtual 193, 3) := by decide +kernel
theorem dX8_sell_108 : decode cX8_sell 108 = .ok (.ireturn, 1) := by decide +kernel
theorem dX8_raise_0 : decode cX8_raise 0 = .ok (.aload_n 0, 1) := by decide +kernel
theorem dX8_raise_1 : decode cX8_raise 1 = .ok (.iload_n 1, 1) := by decide +kernel
theorem dX8_raise_2 : decode cX8_raise 2 = .ok (.invokevirtual 159, 3) := by decide +kernel
theorem dX8_raise_5 : decode cX8_raise 5 = .ok (.ifCond .ne 6, 3) := by decide +kernel
theorem dX8_raise_8 : decode cX8_raise 8 = .ok (.ldc 163, 2) := by decide +kernel
theorem dX8_raise_10 : decode cX8_raise 10 = .ok (.ireturn, 1) := by decide +kernel
theorem dX8_raise_11 : decode cX8_raise 11 = .ok (.iload_n 2, 1) := by decide +kernel
theorem dX8_raise_12 : decode cX8_raise 12 = .ok (.iconst 1, 1) := by decide +kernel
theorem dX8_raise_13 : decode cX8_raise 13 = .ok (.if_icmp .lt 9, 3) := by decide +kernel
theorem dX8_raise_16 : decode cX8_raise 16 = .ok (.iload_n 2, 1) := by decide +kernel
theorem dX8_raise_17 : decode cX8_raise 17 = .ok (.bipush 99, 2) := by decide +kernel
theorem dX8_raise_19 : decode cX8_raise 19 = .ok (.if_icmp .le 6, 3) := by decide +kernel
theorem dX8_raise_22 : decode cX8_raise 22 = .ok (.ldc 78, 2) := by decide +kernel
theorem dX8_raise_24 : decode cX8_raise 24 = .ok (.ireturn, 1) := by decide +kernel
theorem dX8_raise_25 : decode cX8_raise 25 = .ok (.aload_n 0, 1) := by decide +kernel
theorem dX8_raise_26 : decode cX8_raise 26 = .ok (.getfield 29, 3) := by decide +kernel
theorem dX8_raise_29 : decode cX8_raise 29 = .ok (.getfield 164, 3) := by decide +kernel
theorem dX8_raise_32 : decode cX8_raise 32 = .ok (.iload_n 1, 1) := by decide +kernel
theorem dX8_raise_33 : decode cX8_raise 33 = .ok (.iaload, 1) := by decide +kernel
theorem dX8_raise_34 : decode cX8_raise 34 = .ok (.iload_n 2, 1) := by decide +kernel
theorem dX8_raise_35 : decode cX8_raise 35 = .ok (.iadd, 1) := by decide +kernel
theorem dX8_raise_36 : decode cX8_raise 36 = .ok (.bipush 99, 2) := by decide +kernel
theorem dX8_raise_38 : decode cX8_raise 38 = .ok (.if_icmp .le 6, 3) := by decide +kernel
theorem dX8_raise_41 : decode cX8_raise 41 = .ok (.ldc 228, 2) := by decide +kernel
theorem dX8_raise_43 : decode cX8_raise 43 = .ok (.ireturn, 1) := by decide +kernel
theorem dX8_raise_44 : decode cX8_raise 44 = .ok (.aload_n 0, 1) := by decide +kernel
theorem dX8_raise_45 : decode cX8_raise 45 = .ok (.getfield 39, 3) := by decide +kernel
theorem dX8_raise_48 : decode cX8_raise 48 = .ok (.aload_n 0, 1) := by decide +kernel
theorem dX8_raise_49 : decode cX8_raise 49 = .ok (.getfield 29, 3) := by decide +kernel
theorem dX8_raise_52 : decode cX8_raise 52 = .ok (.invokevirtual 218, 3) := by decide +kernel
theorem dX8_raise_55 : decode cX8_raise 55 = .ok (.aload_n 0, 1) := by decide +kernel
theorem dX8_raise_56 : decode cX8_raise 56 = .ok (.getfield 29, 3) := by decide +kernel
theorem dX8_raise_59 : decode cX8_raise 59 = .ok (.getfield 164, 3) := by decide +kernel
theorem dX8_raise_62 : decode cX8_raise 62 = .ok (.iload_n 1, 1) := by decide +kernel
theorem dX8_raise_63 : decode cX8_raise 63 = .ok (.dup2, 1) := by decide +kernel
theorem dX8_raise_64 : decode cX8_raise 64 = .ok (.iaload, 1) := by decide +kernel
theorem dX8_raise_65 : decode cX8_raise 65 = .ok (.iload_n 2, 1) := by decide +kernel
theorem dX8_raise_66 : decode cX8_raise 66 = .ok (.iadd, 1) := by decide +kernel
theorem dX8_raise_67 : decode cX8_raise 67 = .ok (.iastore, 1) := by decide +kernel
theorem dX8_raise_68 : decode cX8_raise 68 = .ok (.aload_n 0, 1) := by decide +kernel
theorem dX8_raise_69 : decode cX8_raise 69 = .ok (.getfield 29, 3) := by decide +kernel
theorem dX8_raise_72 : decode cX8_raise 72 = .ok (.getfield 173, 3) := by decide +kernel
theorem dX8_raise_75 : decode cX8_raise 75 = .ok (.iload_n 1, 1) := by decide +kernel
theorem dX8_raise_76 : decode cX8_raise 76 = .ok (.dup2, 1) := by decide +kernel
theorem dX8_raise_77 : decode cX8_raise 77 = .ok (.iaload, 1) := by decide +kernel
theorem dX8_raise_78 : decode cX8_raise 78 = .ok (.iload_n 2, 1) := by decide +kernel
theorem dX8_raise_79 : decode cX8_raise 79 = .ok (.iadd, 1) := by decide +kernel
theorem dX8_raise_80 : decode cX8_raise 80 = .ok (.iastore, 1) := by decide +kernel
theorem dX8_raise_81 : decode cX8_raise 81 = .ok (.aload_n 0, 1) := by decide +kernel
theorem dX8_raise_82 : decode cX8_raise 82 = .ok (.getfield 29, 3) := by decide +kernel
theorem dX8_raise_85 : decode cX8_raise 85 = .ok (.getfield 164, 3) := by decide +kernel
theorem dX8_raise_88 : decode cX8_raise 88 = .ok (.iload_n 1, 1) := by decide +kernel
theorem dX8_raise_89 : decode cX8_raise 89 = .ok (.iaload, 1) := by decide +kernel
theorem dX8_raise_90 : decode cX8_raise 90 = .ok (.ireturn, 1) := by decide +kernel
theorem dX8_drift_0 : decode cX8_drift 0 = .ok (.aload_n 0, 1) := by decide +kernel
theorem dX8_drift_1 : decode cX8_drift 1 = .ok (.iload_n 1, 1) := by decide +kernel
theorem dX8_drift_2 : decode cX8_drift 2 = .ok (.invokevirtual 215, 3) := by decide +kernel
theorem dX8_drift_5 : decode cX8_drift 5 = .ok (.istore_n 2, 1) := by decide +kernel
theorem dX8_drift_6 : decode cX8_drift 6 = .ok (.iload_n 2, 1) := by decide +kernel
theorem dX8_drift_7 : decode cX8_drift 7 = .ok (.ifCond .eq 5, 3) := by decide +kernel
theorem dX8_drift_10 : decode cX8_drift 10 = .ok (.iload_n 2, 1) := by decide +kernel
theorem dX8_drift_11 : decode cX8_drift 11 = .ok (.ireturn, 1) := by decide +kernel
theorem dX8_drift_12 : decode cX8_drift 12 = .ok (.aload_n 0, 1) := by decide +kernel
theorem dX8_drift_13 : decode cX8_drift 13 = .ok (.getfield 39, 3) := by decide +kernel
theorem dX8_drift_16 : decode cX8_drift 16 = .ok (.aload_n 0, 1) := by decide +kernel
theorem dX8_drift_17 : decode cX8_drift 17 = .ok (.getfield 29, 3) := by decide +kernel
theorem dX8_drift_20 : decode cX8_drift 20 = .ok (.invokevirtual 218, 3) := by decide +kernel
theorem dX8_drift_23 : decode cX8_drift 23 = .ok (.iconst 0, 1) := by decide +kernel
theorem dX8_drift_24 : decode cX8_drift 24 = .ok (.istore_n 3, 1) := by decide +kernel
theorem dX8_drift_25 : decode cX8_drift 25 = .ok (.iload_n 3, 1) := by decide +kernel
theorem dX8_drift_26 : decode cX8_drift 26 = .ok (.iload_n 1, 1) := by decide +kernel
theorem dX8_drift_27 : decode cX8_drift 27 = .ok (.if_icmp .ge 44, 3) := by decide +kernel
theorem dX8_drift_30 : decode cX8_drift 30 = .ok (.aload_n 0, 1) := by decide +kernel
theorem dX8_drift_31 : decode cX8_drift 31 = .ok (.getfield 19, 3) := by decide +kernel
theorem dX8_drift_34 : decode cX8_drift 34 = .ok (.getfield 128, 3) := by decide +kernel
theorem dX8_drift_37 : decode cX8_drift 37 = .ok (.ifCond .le 17, 3) := by decide +kernel
theorem dX8_drift_40 : decode cX8_drift 40 = .ok (.aload_n 0, 1) := by decide +kernel
theorem dX8_drift_41 : decode cX8_drift 41 = .ok (.getfield 19, 3) := by decide +kernel
theorem dX8_drift_44 : decode cX8_drift 44 = .ok (.getfield 116, 3) := by decide +kernel
theorem dX8_drift_47 : decode cX8_drift 47 = .ok (.ifCond .le 7, 3) := by decide +kernel
theorem dX8_drift_50 : decode cX8_drift 50 = .ok (.aload_n 0, 1) := by decide +kernel
theorem dX8_drift_51 : decode cX8_drift 51 = .ok (.invokevirtual 252, 3) := by decide +kernel
theorem dX8_drift_54 : decode cX8_drift 54 = .ok (.aload_n 0, 1) := by decide +kernel
theorem dX8_drift_55 : decode cX8_drift 55 = .ok (.getfield 29, 3) := by decide +kernel
theorem dX8_drift_58 : decode cX8_drift 58 = .ok (.aload_n 0, 1) := by decide +kernel
theorem dX8_drift_59 : decode cX8_drift 59 = .ok (.getfield 19, 3) := by decide +kernel
theorem dX8_drift_62 : decode cX8_drift 62 = .ok (.invokevirtual 222, 3) := by decide +kernel
theorem dX8_drift_65 : decode cX8_drift 65 = .ok (.iinc 3 1, 3) := by decide +kernel
theorem dX8_drift_68 : decode cX8_drift 68 = .ok (.goto (-43), 3) := by decide +kernel
theorem dX8_drift_71 : decode cX8_drift 71 = .ok (.aload_n 0, 1) := by decide +kernel
theorem dX8_drift_72 : decode cX8_drift 72 = .ok (.getfield 29, 3) := by decide +kernel
theorem dX8_drift_75 : decode cX8_drift 75 = .ok (.getfield 142, 3) := by decide +kernel
theorem dX8_drift_78 : decode cX8_drift 78 = .ok (.ireturn, 1) := by decide +kernel
theorem dX8_undo_0 : decode cX8_undo 0 = .ok (.aload_n 0, 1) := by decide +kernel
theorem dX8_undo_1 : decode cX8_undo 1 = .ok (.getfield 39, 3) := by decide +kernel
theorem dX8_undo_4 : decode cX8_undo 4 = .ok (.getfield 158, 3) := by decide +kernel
theorem dX8_undo_7 : decode cX8_undo 7 = .ok (.ifCond .ne 6, 3) := by decide +kernel
theorem dX8_undo_10 : decode cX8_undo 10 = .ok (.ldc 228, 2) := by decide +kernel
theorem dX8_undo_12 : decode cX8_undo 12 = .ok (.ireturn, 1) := by decide +kernel
theorem dX8_undo_13 : decode cX8_undo 13 = .ok (.aload_n 0, 1) := by decide +kernel
theorem dX8_undo_14 : decode cX8_undo 14 = .ok (.getfield 39, 3) := by decide +kernel
theorem dX8_undo_17 : decode cX8_undo 17 = .ok (.aload_n 0, 1) := by decide +kernel
theorem dX8_undo_18 : decode cX8_undo 18 = .ok (.getfield 29, 3) := by decide +kernel
theorem dX8_undo_21 : decode cX8_undo 21 = .ok (.invokevirtual 255, 3) := by decide +kernel
theorem dX8_undo_24 : decode cX8_undo 24 = .ok (.aload_n 0, 1) := by decide +kernel
theorem dX8_undo_25 : decode cX8_undo 25 = .ok (.getfield 39, 3) := by decide +kernel
theorem dX8_undo_28 : decode cX8_undo 28 = .ok (.getfield 158, 3) := by decide +kernel
theorem dX8_undo_31 : decode cX8_undo 31 = .ok (.ireturn, 1) := by decide +kernel
theorem dX8_cheapest_0 : decode cX8_cheapest 0 = .ok (.aload_n 0, 1) := by decide +kernel
theorem dX8_cheapest_1 : decode cX8_cheapest 1 = .ok (.iload_n 1, 1) := by decide +kernel
theorem dX8_cheapest_2 : decode cX8_cheapest 2 = .ok (.invokevirtual 190, 3) := by decide +kernel
theorem dX8_cheapest_5 : decode cX8_cheapest 5 = .ok (.ifCond .eq 11, 3) := by decide +kernel
theorem dX8_cheapest_8 : decode cX8_cheapest 8 = .ok (.aload_n 0, 1) := by decide +kernel
theorem dX8_cheapest_9 : decode cX8_cheapest 9 = .ok (.iload_n 2, 1) := by decide +kernel
theorem dX8_cheapest_10 : decode cX8_cheapest 10 = .ok (.invokevirtual 159, 3) := by decide +kernel
theorem dX8_cheapest_13 : decode cX8_cheapest 13 = .ok (.ifCond .ne 6, 3) := by decide +kernel
theorem dX8_cheapest_16 : decode cX8_cheapest 16 = .ok (.ldc 163, 2) := by decide +kernel
theorem dX8_cheapest_18 : decode cX8_cheapest 18 = .ok (.ireturn, 1) := by decide +kernel
theorem dX8_cheapest_19 : decode cX8_cheapest 19 = .ok (.iload_n 3, 1) := by decide +kernel
theorem dX8_cheapest_20 : decode cX8_cheapest 20 = .ok (.ifCond .lt 8, 3) := by decide +kernel
theorem dX8_cheapest_23 : decode cX8_cheapest 23 = .ok (.iload_n 3, 1) := by decide +kernel
theorem dX8_cheapest_24 : decode cX8_cheapest 24 = .ok (.iconst 1, 1) := by decide +kernel
theorem dX8_cheapest_25 : decode cX8_cheapest 25 = .ok (.if_icmp .le 6, 3) := by decide +kernel
theorem dX8_cheapest_28 : decode cX8_cheapest 28 = .ok (.ldc 78, 2) := by decide +kernel
theorem dX8_cheapest_30 : decode cX8_cheapest 30 = .ok (.ireturn, 1) := by decide +kernel
theorem dX8_cheapest_31 : decode cX8_cheapest 31 = .ok (.aload_n 0, 1) := by decide +kernel
theorem dX8_cheapest_32 : decode cX8_cheapest 32 = .ok (.iload_n 1, 1) := by decide +kernel
theorem dX8_cheapest_33 : decode cX8_cheapest 33 = .ok (.invokevirtual 258, 3) := by decide +kernel
theorem dX8_cheapest_36 : decode cX8_cheapest 36 = .ok (.iload_n 3, 1) := by decide +kernel
theorem dX8_cheapest_37 : decode cX8_cheapest 37 = .ok (.ifCond .ne 12, 3) := by decide +kernel
theorem dX8_cheapest_40 : decode cX8_cheapest 40 = .ok (.aload_n 0, 1) := by decide +kernel
theorem dX8_cheapest_41 : decode cX8_cheapest 41 = .ok (.getfield 70, 3) := by decide +kernel
theorem dX8_cheapest_44 : decode cX8_cheapest 44 = .ok (.iload_n 2, 1) := by decide +kernel
theorem dX8_cheapest_45 : decode cX8_cheapest 45 = .ok (.iaload, 1) := by decide +kernel
theorem dX8_cheapest_46 : decode cX8_cheapest 46 = .ok (.goto 9, 3) := by decide +kernel
theorem dX8_cheapest_49 : decode cX8_cheapest 49 = .ok (.aload_n 0, 1) := by decide +kernel
theorem dX8_cheapest_50 : decode cX8_cheapest 50 = .ok (.iload_n 1, 1) := by decide +kernel
theorem dX8_cheapest_51 : decode cX8_cheapest 51 = .ok (.iload_n 2, 1) := by decide +kernel
theorem dX8_cheapest_52 : decode cX8_cheapest 52 = .ok (.invokevirtual 261, 3) := by decide +kernel
theorem dX8_cheapest_55 : decode cX8_cheapest 55 = .ok (.ireturn, 1) := by decide +kernel
theorem dX8_runsOut_0 : decode cX8_runsOut 0 = .ok (.aload_n 0, 1) := by decide +kernel
theorem dX8_runsOut_1 : decode cX8_runsOut 1 = .ok (.iload_n 1, 1) := by decide +kernel
theorem dX8_runsOut_2 : decode cX8_runsOut 2 = .ok (.invokevirtual 159, 3) := by decide +kernel
theorem dX8_runsOut_5 : decode cX8_runsOut 5 = .ok (.ifCond .ne 6, 3) := by decide +kernel
theorem dX8_runsOut_8 : decode cX8_runsOut 8 = .ok (.ldc 163, 2) := by decide +kernel
theorem dX8_runsOut_10 : decode cX8_runsOut 10 = .ok (.ireturn, 1) := by decide +kernel
theorem dX8_runsOut_11 : decode cX8_runsOut 11 = .ok (.aload_n 0, 1) := by decide +kernel
theorem dX8_runsOut_12 : decode cX8_runsOut 12 = .ok (.getfield 33, 3) := by decide +kernel
theorem dX8_runsOut_15 : decode cX8_runsOut 15 = .ok (.aload_n 0, 1) := by decide +kernel
theorem dX8_runsOut_16 : decode cX8_runsOut 16 = .ok (.getfield 29, 3) := by decide +kernel
theorem dX8_runsOut_19 : decode cX8_runsOut 19 = .ok (.invokevirtual 264, 3) := by decide +kernel
theorem dX8_runsOut_22 : decode cX8_runsOut 22 = .ok (.aload_n 0, 1) := by decide +kernel
theorem dX8_runsOut_23 : decode cX8_runsOut 23 = .ok (.getfield 19, 3) := by decide +kernel
theorem dX8_runsOut_26 : decode cX8_runsOut 26 = .ok (.getfield 122, 3) := by decide +kernel
theorem dX8_runsOut_29 : decode cX8_runsOut 29 = .ok (.aload_n 0, 1) := by decide +kernel
theorem dX8_runsOut_30 : decode cX8_runsOut 30 = .ok (.invokevirtual 135, 3) := by decide +kernel
theorem dX8_runsOut_33 : decode cX8_runsOut 33 = .ok (.isub, 1) := by decide +kernel
theorem dX8_runsOut_34 : decode cX8_runsOut 34 = .ok (.istore_n 2, 1) := by decide +kernel
theorem dX8_runsOut_35 : decode cX8_runsOut 35 = .ok (.iconst 0, 1) := by decide +kernel
theorem dX8_runsOut_36 : decode cX8_runsOut 36 = .ok (.istore_n 3, 1) := by decide +kernel
theorem dX8_runsOut_37 : decode cX8_runsOut 37 = .ok (.iload_n 3, 1) := by decide +kernel
theorem dX8_runsOut_38 : decode cX8_runsOut 38 = .ok (.iload_n 2, 1) := by decide +kernel
theorem dX8_runsOut_39 : decode cX8_runsOut 39 = .ok (.if_icmp .ge 34, 3) := by decide +kernel
theorem dX8_runsOut_42 : decode cX8_runsOut 42 = .ok (.aload_n 0, 1) := by decide +kernel
theorem dX8_runsOut_43 : decode cX8_runsOut 43 = .ok (.getfield 33, 3) := by decide +kernel
theorem dX8_runsOut_46 : decode cX8_runsOut 46 = .ok (.getfield 173, 3) := by decide +kernel
theorem dX8_runsOut_49 : decode cX8_runsOut 49 = .ok (.iload_n 1, 1) := by decide +kernel
theorem dX8_runsOut_50 : decode cX8_runsOut 50 = .ok (.iaload, 1) := by decide +kernel
theorem dX8_runsOut_51 : decode cX8_runsOut 51 = .ok (.ifCond .ne 5, 3) := by decide +kernel
theorem dX8_runsOut_54 : decode cX8_runsOut 54 = .ok (.iload_n 3, 1) := by decide +kernel
theorem dX8_runsOut_55 : decode cX8_runsOut 55 = .ok (.ireturn, 1) := by decide +kernel
theorem dX8_runsOut_56 : decode cX8_runsOut 56 = .ok (.aload_n 0, 1) := by decide +kernel
theorem dX8_runsOut_57 : decode cX8_runsOut 57 = .ok (.getfield 33, 3) := by decide +kernel
theorem dX8_runsOut_60 : decode cX8_runsOut 60 = .ok (.aload_n 0, 1) := by decide +kernel
theorem dX8_runsOut_61 : decode cX8_runsOut 61 = .ok (.getfield 19, 3) := by decide +kernel
theorem dX8_runsOut_64 : decode cX8_runsOut 64 = .ok (.invokevirtual 222, 3) := by decide +kernel
theorem dX8_runsOut_67 : decode cX8_runsOut 67 = .ok (.iinc 3 1, 3) := by decide +kernel
theorem dX8_runsOut_70 : decode cX8_runsOut 70 = .ok (.goto (-33), 3) := by decide +kernel
theorem dX8_runsOut_73 : decode cX8_runsOut 73 = .ok (.iconst (-1), 1) := by decide +kernel
theorem dX8_runsOut_74 : decode cX8_runsOut 74 = .ok (.ireturn, 1) := by decide +kernel
theorem dX8_willBe_0 : decode cX8_willBe 0 = .ok (.iload_n 1, 1) := by decide +kernel
theorem dX8_willBe_1 : decode cX8_willBe 1 = .ok (.iconst 1, 1) := by decide +kernel
theorem dX8_willBe_2 : decode cX8_willBe 2 = .ok (.if_icmp .lt 9, 3) := by decide +kernel
theorem dX8_willBe_5 : decode cX8_willBe 5 = .ok (.iload_n 1, 1) := by decide +kernel
theorem dX8_willBe_6 : decode cX8_willBe 6 = .ok (.bipush 99, 2) := by decide +kernel
theorem dX8_willBe_8 : decode cX8_willBe 8 = .ok (.if_icmp .le 6, 3) := by decide +kernel
theorem dX8_willBe_11 : decode cX8_willBe 11 = .ok (.ldc 78, 2) := by decide +kernel
theorem dX8_willBe_13 : decode cX8_willBe 13 = .ok (.ireturn, 1) := by decide +kernel
theorem dX8_willBe_14 : decode cX8_willBe 14 = .ok (.aload_n 0, 1) := by decide +kernel
theorem dX8_willBe_15 : decode cX8_willBe 15 = .ok (.getfield 19, 3) := by decide +kernel
theorem dX8_willBe_18 : decode cX8_willBe 18 = .ok (.getfield 122, 3) := by decide +kernel
theorem dX8_willBe_21 : decode cX8_willBe 21 = .ok (.ifCond .ne 6, 3) := by decide +kernel
theorem dX8_willBe_24 : decode cX8_willBe 24 = .ok (.ldc 228, 2) := by decide +kernel
theorem dX8_willBe_26 : decode cX8_willBe 26 = .ok (.ireturn, 1) := by decide +kernel
theorem dX8_willBe_27 : decode cX8_willBe 27 = .ok (.aload_n 0, 1) := by decide +kernel
theorem dX8_willBe_28 : decode cX8_willBe 28 = .ok (.getfield 33, 3) := by decide +kernel
theorem dX8_willBe_31 : decode cX8_willBe 31 = .ok (.aload_n 0, 1) := by decide +kernel
theorem dX8_willBe_32 : decode cX8_willBe 32 = .ok (.getfield 29, 3) := by decide +kernel
theorem dX8_willBe_35 : decode cX8_willBe 35 = .ok (.invokevirtual 264, 3) := by decide +kernel
theorem dX8_willBe_38 : decode cX8_willBe 38 = .ok (.iconst 0, 1) := by decide +kernel
theorem dX8_willBe_39 : decode cX8_willBe 39 = .ok (.istore_n 2, 1) := by decide +kernel
theorem dX8_willBe_40 : decode cX8_willBe 40 = .ok (.iload_n 2, 1) := by decide +kernel
theorem dX8_willBe_41 : decode cX8_willBe 41 = .ok (.iload_n 1, 1) := by decide +kernel
theorem dX8_willBe_42 : decode cX8_willBe 42 = .ok (.if_icmp .ge 20, 3) := by decide +kernel
theorem dX8_willBe_45 : decode cX8_willBe 45 = .ok (.aload_n 0, 1) := by decide +kernel
theorem dX8_willBe_46 : decode cX8_willBe 46 = .ok (.getfield 33, 3) := by decide +kernel
theorem dX8_willBe_49 : decode cX8_willBe 49 = .ok (.aload_n 0, 1) := by decide +kernel
theorem dX8_willBe_50 : decode cX8_willBe 50 = .ok (.getfield 19, 3) := by decide +kernel
theorem dX8_willBe_53 : decode cX8_willBe 53 = .ok (.invokevirtual 222, 3) := by decide +kernel
theorem dX8_willBe_56 : decode cX8_willBe 56 = .ok (.iinc 2 1, 3) := by decide +kernel
theorem dX8_willBe_59 : decode cX8_willBe 59 = .ok (.goto (-19), 3) := by decide +kernel
theorem dX8_willBe_62 : decode cX8_willBe 62 = .ok (.aload_n 0, 1) := by decide +kernel
theorem dX8_willBe_63 : decode cX8_willBe 63 = .ok (.getfield 33, 3) := by decide +kernel
theorem dX8_willBe_66 : decode cX8_willBe 66 = .ok (.getfield 139, 3) := by decide +kernel
theorem dX8_willBe_69 : decode cX8_willBe 69 = .ok (.aload_n 0, 1) := by decide +kernel
theorem dX8_willBe_70 : decode cX8_willBe 70 = .ok (.getfield 29, 3) := by decide +kernel
theorem dX8_willBe_73 : decode cX8_willBe 73 = .ok (.getfield 139, 3) := by decide +kernel
theorem dX8_willBe_76 : decode cX8_willBe 76 = .ok (.isub, 1) := by decide +kernel
theorem dX8_willBe_77 : decode cX8_willBe 77 = .ok (.ireturn, 1) := by decide +kernel
theorem dX8_plan_0 : decode cX8_plan 0 = .ok (.iload_n 1, 1) := by decide +kernel
theorem dX8_plan_1 : decode cX8_plan 1 = .ok (.bipush (-2), 2) := by decide +kernel
theorem dX8_plan_3 : decode cX8_plan 3 = .ok (.if_icmp .lt 14, 3) := by decide +kernel
theorem dX8_plan_6 : decode cX8_plan 6 = .ok (.iload_n 1, 1) := by decide +kernel
theorem dX8_plan_7 : decode cX8_plan 7 = .ok (.aload_n 0, 1) := by decide +kernel
theorem dX8_plan_8 : decode cX8_plan 8 = .ok (.getfield 19, 3) := by decide +kernel
theorem dX8_plan_11 : decode cX8_plan 11 = .ok (.getfield 131, 3) := by decide +kernel
theorem dX8_plan_14 : decode cX8_plan 14 = .ok (.if_icmp .lt 6, 3) := by decide +kernel
theorem dX8_plan_17 : decode cX8_plan 17 = .ok (.ldc 163, 2) := by decide +kernel
theorem dX8_plan_19 : decode cX8_plan 19 = .ok (.ireturn, 1) := by decide +kernel
theorem dX8_plan_20 : decode cX8_plan 20 = .ok (.aload_n 0, 1) := by decide +kernel
theorem dX8_plan_21 : decode cX8_plan 21 = .ok (.getfield 52, 3) := by decide +kernel
theorem dX8_plan_24 : decode cX8_plan 24 = .ok (.aload_n 0, 1) := by decide +kernel
theorem dX8_plan_25 : decode cX8_plan 25 = .ok (.getfield 19, 3) := by decide +kernel
theorem dX8_plan_28 : decode cX8_plan 28 = .ok (.aload_n 0, 1) := by decide +kernel
theorem dX8_plan_29 : decode cX8_plan 29 = .ok (.getfield 29, 3) := by decide +kernel
theorem dX8_plan_32 : decode cX8_plan 32 = .ok (.invokevirtual 267, 3) := by decide +kernel
theorem dX8_plan_35 : decode cX8_plan 35 = .ok (.iload_n 1, 1) := by decide +kernel
theorem dX8_plan_36 : decode cX8_plan 36 = .ok (.bipush (-2), 2) := by decide +kernel
theorem dX8_plan_38 : decode cX8_plan 38 = .ok (.if_icmp .ne 11, 3) := by decide +kernel
theorem dX8_plan_41 : decode cX8_plan 41 = .ok (.aload_n 0, 1) := by decide +kernel
theorem dX8_plan_42 : decode cX8_plan 42 = .ok (.getfield 52, 3) := by decide +kernel
theorem dX8_plan_45 : decode cX8_plan 45 = .ok (.getfield 271, 3) := by decide +kernel
theorem dX8_plan_48 : decode cX8_plan 48 = .ok (.ireturn, 1) := by decide +kernel
theorem dX8_plan_49 : decode cX8_plan 49 = .ok (.iload_n 1, 1) := by decide +kernel
theorem dX8_plan_50 : decode cX8_plan 50 = .ok (.iconst (-1), 1) := by decide +kernel
theorem dX8_plan_51 : decode cX8_plan 51 = .ok (.if_icmp .ne 13, 3) := by decide +kernel
theorem dX8_plan_54 : decode cX8_plan 54 = .ok (.aload_n 0, 1) := by decide +kernel
theorem dX8_plan_55 : decode cX8_plan 55 = .ok (.getfield 52, 3) := by decide +kernel
theorem dX8_plan_58 : decode cX8_plan 58 = .ok (.getfield 274, 3) := by decide +kernel
theorem dX8_plan_61 : decode cX8_plan 61 = .ok (.goto 11, 3) := by decide +kernel
theorem dX8_plan_64 : decode cX8_plan 64 = .ok (.aload_n 0, 1) := by decide +kernel
theorem dX8_plan_65 : decode cX8_plan 65 = .ok (.getfield 52, 3) := by decide +kernel
theorem dX8_plan_68 : decode cX8_plan 68 = .ok (.iload_n 1, 1) := by decide +kernel
theorem dX8_plan_69 : decode cX8_plan 69 = .ok (.invokevirtual 277, 3) := by decide +kernel
theorem dX8_plan_72 : decode cX8_plan 72 = .ok (.ireturn, 1) := by decide +kernel
theorem dX8_price_0 : decode cX8_price 0 = .ok (.aload_n 0, 1) := by decide +kernel
theorem dX8_price_1 : decode cX8_price 1 = .ok (.iload_n 1, 1) := by decide +kernel
theorem dX8_price_2 : decode cX8_price 2 = .ok (.invokevirtual 159, 3) := by decide +kernel
theorem dX8_price_5 : decode cX8_price 5 = .ok (.ifCond .ne 6, 3) := by decide +kernel
theorem dX8_price_8 : decode cX8_price 8 = .ok (.ldc 163, 2) := by decide +kernel
theorem dX8_price_10 : decode cX8_price 10 = .ok (.ireturn, 1) := by decide +kernel
theorem dX8_price_11 : decode cX8_price 11 = .ok (.aload_n 0, 1) := by decide +kernel
theorem dX8_price_12 : decode cX8_price 12 = .ok (.getfield 29, 3) := by decide +kernel
theorem dX8_price_15 : decode cX8_price 15 = .ok (.iload_n 1, 1) := by decide +kernel
theorem dX8_price_16 : decode cX8_price 16 = .ok (.invokevirtual 280, 3) := by decide +kernel
theorem dX8_price_19 : decode cX8_price 19 = .ok (.istore_n 2, 1) := by decide +kernel
theorem dX8_price_20 : decode cX8_price 20 = .ok (.iconst 0, 1) := by decide +kernel
theorem dX8_price_21 : decode cX8_price 21 = .ok (.istore_n 3, 1) := by decide +kernel
theorem dX8_price_22 : decode cX8_price 22 = .ok (.iload_n 3, 1) := by decide +kernel
theorem dX8_price_23 : decode cX8_price 23 = .ok (.aload_n 0, 1) := by decide +kernel
theorem dX8_price_24 : decode cX8_price 24 = .ok (.getfield 19, 3) := by decide +kernel
theorem dX8_price_27 : decode cX8_price 27 = .ok (.getfield 131, 3) := by decide +kernel
theorem dX8_price_30 : decode cX8_price 30 = .ok (.if_icmp .ge 38, 3) := by decide +kernel
theorem dX8_price_33 : decode cX8_price 33 = .ok (.aload_n 0, 1) := by decide +kernel
theorem dX8_price_34 : decode cX8_price 34 = .ok (.iload_n 3, 1) := by decide +kernel
theorem dX8_price_35 : decode cX8_price 35 = .ok (.iload_n 1, 1) := by decide +kernel
theorem dX8_price_36 : decode cX8_price 36 = .ok (.invokevirtual 283, 3) := by decide +kernel
theorem dX8_price_39 : decode cX8_price 39 = .ok (.ifCond .eq 23, 3) := by decide +kernel
theorem dX8_price_42 : decode cX8_price 42 = .ok (.aload_n 0, 1) := by decide +kernel
theorem dX8_price_43 : decode cX8_price 43 = .ok (.iload_n 3, 1) := by decide +kernel
theorem dX8_price_44 : decode cX8_price 44 = .ok (.iload_n 1, 1) := by decide +kernel
theorem dX8_price_45 : decode cX8_price 45 = .ok (.invokevirtual 286, 3) := by decide +kernel
theorem dX8_price_48 : decode cX8_price 48 = .ok (.iload_n 2, 1) := by decide +kernel
theorem dX8_price_49 : decode cX8_price 49 = .ok (.if_icmp .ne 13, 3) := by decide +kernel
theorem dX8_price_52 : decode cX8_price 52 = .ok (.aload_n 0, 1) := by decide +kernel
theorem dX8_price_53 : decode cX8_price 53 = .ok (.getfield 19, 3) := by decide +kernel
theorem dX8_price_56 : decode cX8_price 56 = .ok (.getfield 208, 3) := by decide +kernel
theorem dX8_price_59 : decode cX8_price 59 = .ok (.iload_n 3, 1) := by decide +kernel
theorem dX8_price_60 : decode cX8_price 60 = .ok (.iaload, 1) := by decide +kernel
theorem dX8_price_61 : decode cX8_price 61 = .ok (.ireturn, 1) := by decide +kernel
theorem dX8_price_62 : decode cX8_price 62 = .ok (.iinc 3 1, 3) := by decide +kernel
theorem dX8_price_65 : decode cX8_price 65 = .ok (.goto (-43), 3) := by decide +kernel
theorem dX8_price_68 : decode cX8_price 68 = .ok (.iconst 0, 1) := by decide +kernel
theorem dX8_price_69 : decode cX8_price 69 = .ok (.ireturn, 1) := by decide +kernel
theorem dX8_sells_0 : decode cX8_sells 0 = .ok (.aload_n 0, 1) := by decide +kernel
theorem dX8_sells_1 : decode cX8_sells 1 = .ok (.iload_n 1, 1) := by decide +kernel
theorem dX8_sells_2 : decode cX8_sells 2 = .ok (.invokevirtual 159, 3) := by decide +kernel
theorem dX8_sells_5 : decode cX8_sells 5 = .ok (.ifCond .ne 6, 3) := by decide +kernel
theorem dX8_sells_8 : decode cX8_sells 8 = .ok (.ldc 163, 2) := by decide +kernel
theorem dX8_sells_10 : decode cX8_sells 10 = .ok (.ireturn, 1) := by decide +kernel
theorem dX8_sells_11 : decode cX8_sells 11 = .ok (.iconst 0, 1) := by decide +kernel
theorem dX8_sells_12 : decode cX8_sells 12 = .ok (.istore_n 3, 1) := by decide +kernel
theorem dX8_sells_13 : decode cX8_sells 13 = .ok (.iconst 0, 1) := by decide +kernel
theorem dX8_sells_14 : decode cX8_sells 14 = .ok (.istore 4, 2) := by decide +kernel
theorem dX8_sells_16 : decode cX8_sells 16 = .ok (.iload 4, 2) := by decide +kernel
theorem dX8_sells_18 : decode cX8_sells 18 = .ok (.aload_n 0, 1) := by decide +kernel
theorem dX8_sells_19 : decode cX8_sells 19 = .ok (.getfield 19, 3) := by decide +kernel
theorem dX8_sells_22 : decode cX8_sells 22 = .ok (.getfield 128, 3) := by decide +kernel
theorem dX8_sells_25 : decode cX8_sells 25 = .ok (.if_icmp .ge 59, 3) := by decide +kernel
theorem dX8_sells_28 : decode cX8_sells 28 = .ok (.iconst 0, 1) := by decide +kernel
theorem dX8_sells_29 : decode cX8_sells 29 = .ok (.istore 5, 2) := by decide +kernel
theorem dX8_sells_31 : decode cX8_sells 31 = .ok (.iload 5, 2) := by decide +kernel
theorem dX8_sells_33 : decode cX8_sells 33 = .ok (.aload_n 0, 1) := by decide +kernel
theorem dX8_sells_34 : decode cX8_sells 34 = .ok (.getfield 19, 3) := by decide +kernel
theorem dX8_sells_37 : decode cX8_sells 37 = .ok (.getfield 128, 3) := by decide +kernel
theorem dX8_sells_40 : decode cX8_sells 40 = .ok (.if_icmp .ge 38, 3) := by decide +kernel
theorem dX8_sells_43 : decode cX8_sells 43 = .ok (.aload_n 0, 1) := by decide +kernel
theorem dX8_sells_44 : decode cX8_sells 44 = .ok (.iload 4, 2) := by decide +kernel
theorem dX8_sells_46 : decode cX8_sells 46 = .ok (.iload 5, 2) := by decide +kernel
theorem dX8_sells_48 : decode cX8_sells 48 = .ok (.iload_n 1, 1) := by decide +kernel
theorem dX8_sells_49 : decode cX8_sells 49 = .ok (.invokevirtual 289, 3) := by decide +kernel
theorem dX8_sells_52 : decode cX8_sells 52 = .ok (.ifCond .eq 20, 3) := by decide +kernel
theorem dX8_sells_55 : decode cX8_sells 55 = .ok (.iload_n 3, 1) := by decide +kernel
theorem dX8_sells_56 : decode cX8_sells 56 = .ok (.iload_n 2, 1) := by decide +kernel
theorem dX8_sells_57 : decode cX8_sells 57 = .ok (.if_icmp .ne 12, 3) := by decide +kernel
theorem dX8_sells_60 : decode cX8_sells 60 = .ok (.bipush 10, 2) := by decide +kernel
theorem dX8_sells_62 : decode cX8_sells 62 = .ok (.iload 4, 2) := by decide +kernel
theorem dX8_sells_64 : decode cX8_sells 64 = .ok (.imul, 1) := by decide +kernel
theorem dX8_sells_65 : decode cX8_sells 65 = .ok (.iload 5, 2) := by decide +kernel
theorem dX8_sells_67 : decode cX8_sells 67 = .ok (.iadd, 1) := by decide +kernel
theorem dX8_sells_68 : decode cX8_sells 68 = .ok (.ireturn, 1) := by decide +kernel
theorem dX8_sells_69 : decode cX8_sells 69 = .ok (.iinc 3 1, 3) := by decide +kernel
theorem dX8_sells_72 : decode cX8_sells 72 = .ok (.iinc 5 1, 3) := by decide +kernel
theorem dX8_sells_75 : decode cX8_sells 75 = .ok (.goto (-44), 3) := by decide +kernel
theorem dX8_sells_78 : decode cX8_sells 78 = .ok (.iinc 4 1, 3) := by decide +kernel
theorem dX8_sells_81 : decode cX8_sells 81 = .ok (.goto (-65), 3) := by decide +kernel
theorem dX8_sells_84 : decode cX8_sells 84 = .ok (.iload_n 2, 1) := by decide +kernel
theorem dX8_sells_85 : decode cX8_sells 85 = .ok (.iconst (-1), 1) := by decide +kernel
theorem dX8_sells_86 : decode cX8_sells 86 = .ok (.if_icmp .ne 7, 3) := by decide +kernel
theorem dX8_sells_89 : decode cX8_sells 89 = .ok (.iload_n 3, 1) := by decide +kernel
theorem dX8_sells_90 : decode cX8_sells 90 = .ok (.goto 4, 3) := by decide +kernel
theorem dX8_sells_93 : decode cX8_sells 93 = .ok (.iconst (-1), 1) := by decide +kernel
theorem dX8_sells_94 : decode cX8_sells 94 = .ok (.ireturn, 1) := by decide +kernel
theorem dX8_share_0 : decode cX8_share 0 = .ok (.aload_n 0, 1) := by decide +kernel
theorem dX8_share_1 : decode cX8_share 1 = .ok (.iload_n 1, 1) := by decide +kernel
theorem dX8_share_2 : decode cX8_share 2 = .ok (.invokevirtual 190, 3) := by decide +kernel
theorem dX8_share_5 : decode cX8_share 5 = .ok (.ifCond .eq 21, 3) := by decide +kernel
theorem dX8_share_8 : decode cX8_share 8 = .ok (.aload_n 0, 1) := by decide +kernel
theorem dX8_share_9 : decode cX8_share 9 = .ok (.iload_n 2, 1) := by decide +kernel
theorem dX8_share_10 : decode cX8_share 10 = .ok (.invokevirtual 159, 3) := by decide +kernel
theorem dX8_share_13 : decode cX8_share 13 = .ok (.ifCond .eq 13, 3) := by decide +kernel
theorem dX8_share_16 : decode cX8_share 16 = .ok (.aload_n 0, 1) := by decide +kernel
theorem dX8_share_17 : decode cX8_share 17 = .ok (.getfield 19, 3) := by decide +kernel
theorem dX8_share_20 : decode cX8_share 20 = .ok (.getfield 128, 3) := by decide +kernel
theorem dX8_share_23 : decode cX8_share 23 = .ok (.ifCond .ne 6, 3) := by decide +kernel
theorem dX8_share_26 : decode cX8_share 26 = .ok (.ldc 163, 2) := by decide +kernel
theorem dX8_share_28 : decode cX8_share 28 = .ok (.ireturn, 1) := by decide +kernel
theorem dX8_share_29 : decode cX8_share 29 = .ok (.aload_n 0, 1) := by decide +kernel
theorem dX8_share_30 : decode cX8_share 30 = .ok (.getfield 29, 3) := by decide +kernel
theorem dX8_share_33 : decode cX8_share 33 = .ok (.getfield 173, 3) := by decide +kernel
theorem dX8_share_36 : decode cX8_share 36 = .ok (.iload_n 2, 1) := by decide +kernel
theorem dX8_share_37 : decode cX8_share 37 = .ok (.iaload, 1) := by decide +kernel
theorem dX8_share_38 : decode cX8_share 38 = .ok (.aload_n 0, 1) := by decide +kernel
theorem dX8_share_39 : decode cX8_share 39 = .ok (.getfield 19, 3) := by decide +kernel
theorem dX8_share_42 : decode cX8_share 42 = .ok (.getfield 128, 3) := by decide +kernel
theorem dX8_share_45 : decode cX8_share 45 = .ok (.idiv, 1) := by decide +kernel
theorem dX8_share_46 : decode cX8_share 46 = .ok (.istore_n 3, 1) := by decide +kernel
theorem dX8_share_47 : decode cX8_share 47 = .ok (.aload_n 0, 1) := by decide +kernel
theorem dX8_share_48 : decode cX8_share 48 = .ok (.getfield 29, 3) := by decide +kernel
theorem dX8_share_51 : decode cX8_share 51 = .ok (.getfield 173, 3) := by decide +kernel
theorem dX8_share_54 : decode cX8_share 54 = .ok (.iload_n 2, 1) := by decide +kernel
theorem dX8_share_55 : decode cX8_share 55 = .ok (.iaload, 1) := by decide +kernel
theorem dX8_share_56 : decode cX8_share 56 = .ok (.aload_n 0, 1) := by decide +kernel
theorem dX8_share_57 : decode cX8_share 57 = .ok (.getfield 19, 3) := by decide +kernel
theorem dX8_share_60 : decode cX8_share 60 = .ok (.getfield 128, 3) := by decide +kernel
theorem dX8_share_63 : decode cX8_share 63 = .ok (.irem, 1) := by decide +kernel
theorem dX8_share_64 : decode cX8_share 64 = .ok (.istore 4, 2) := by decide +kernel
theorem dX8_share_66 : decode cX8_share 66 = .ok (.aload_n 0, 1) := by decide +kernel
theorem dX8_share_67 : decode cX8_share 67 = .ok (.iload_n 1, 1) := by decide +kernel
theorem dX8_share_68 : decode cX8_share 68 = .ok (.iload_n 2, 1) := by decide +kernel
theorem dX8_share_69 : decode cX8_share 69 = .ok (.invokevirtual 293, 3) := by decide +kernel
theorem dX8_share_72 : decode cX8_share 72 = .ok (.istore 5, 2) := by decide +kernel
theorem dX8_share_74 : decode cX8_share 74 = .ok (.iconst 0, 1) := by decide +kernel
theorem dX8_share_75 : decode cX8_share 75 = .ok (.istore 6, 2) := by decide +kernel
theorem dX8_share_77 : decode cX8_share 77 = .ok (.iconst 0, 1) := by decide +kernel
theorem dX8_share_78 : decode cX8_share 78 = .ok (.istore 7, 2) := by decide +kernel
theorem dX8_share_80 : decode cX8_share 80 = .ok (.iload 7, 2) := by decide +kernel
theorem dX8_share_82 : decode cX8_share 82 = .ok (.aload_n 0, 1) := by decide +kernel
theorem dX8_share_83 : decode cX8_share 83 = .ok (.getfield 19, 3) := by decide +kernel
theorem dX8_share_86 : decode cX8_share 86 = .ok (.getfield 128, 3) := by decide +kernel
theorem dX8_share_89 : decode cX8_share 89 = .ok (.if_icmp .ge 41, 3) := by decide +kernel
theorem dX8_share_92 : decode cX8_share 92 = .ok (.aload_n 0, 1) := by decide +kernel
theorem dX8_share_93 : decode cX8_share 93 = .ok (.iload 7, 2) := by decide +kernel
theorem dX8_share_95 : decode cX8_share 95 = .ok (.iload_n 2, 1) := by decide +kernel
theorem dX8_share_96 : decode cX8_share 96 = .ok (.invokevirtual 293, 3) := by decide +kernel
theorem dX8_share_99 : decode cX8_share 99 = .ok (.istore 8, 2) := by decide +kernel
theorem dX8_share_101 : decode cX8_share 101 = .ok (.iload 8, 2) := by decide +kernel
theorem dX8_share_103 : decode cX8_share 103 = .ok (.iload 5, 2) := by decide +kernel
theorem dX8_share_105 : decode cX8_share 105 = .ok (.if_icmp .gt 16, 3) := by decide +kernel
theorem dX8_share_108 : decode cX8_share 108 = .ok (.iload 8, 2) := by decide +kernel
theorem dX8_share_110 : decode cX8_share 110 = .ok (.iload 5, 2) := by decide +kernel
theorem dX8_share_112 : decode cX8_share 112 = .ok (.if_icmp .ne 12, 3) := by decide +kernel
theorem dX8_share_115 : decode cX8_share 115 = .ok (.iload 7, 2) := by decide +kernel
theorem dX8_share_117 : decode cX8_share 117 = .ok (.iload_n 1, 1) := by decide +kernel
theorem dX8_share_118 : decode cX8_share 118 = .ok (.if_icmp .ge 6, 3) := by decide +kernel
theorem dX8_share_121 : decode cX8_share 121 = .ok (.iinc 6 1, 3) := by decide +kernel
theorem dX8_share_124 : decode cX8_share 124 = .ok (.iinc 7 1, 3) := by decide +kernel
theorem dX8_share_127 : decode cX8_share 127 = .ok (.goto (-47), 3) := by decide +kernel
theorem dX8_share_130 : decode cX8_share 130 = .ok (.iload 6, 2) := by decide +kernel
theorem dX8_share_132 : decode cX8_share 132 = .ok (.iload 4, 2) := by decide +kernel
theorem dX8_share_134 : decode cX8_share 134 = .ok (.if_icmp .ge 9, 3) := by decide +kernel
theorem dX8_share_137 : decode cX8_share 137 = .ok (.iload_n 3, 1) := by decide +kernel
theorem dX8_share_138 : decode cX8_share 138 = .ok (.iconst 1, 1) := by decide +kernel
theorem dX8_share_139 : decode cX8_share 139 = .ok (.iadd, 1) := by decide +kernel
theorem dX8_share_140 : decode cX8_share 140 = .ok (.goto 4, 3) := by decide +kernel
theorem dX8_share_143 : decode cX8_share 143 = .ok (.iload_n 3, 1) := by decide +kernel
theorem dX8_share_144 : decode cX8_share 144 = .ok (.ireturn, 1) := by decide +kernel
theorem dX8_more_0 : decode cX8_more 0 = .ok (.aload_n 0, 1) := by decide +kernel
theorem dX8_more_1 : decode cX8_more 1 = .ok (.iload_n 1, 1) := by decide +kernel
theorem dX8_more_2 : decode cX8_more 2 = .ok (.invokevirtual 159, 3) := by decide +kernel
theorem dX8_more_5 : decode cX8_more 5 = .ok (.ifCond .ne 6, 3) := by decide +kernel
theorem dX8_more_8 : decode cX8_more 8 = .ok (.ldc 163, 2) := by decide +kernel
theorem dX8_more_10 : decode cX8_more 10 = .ok (.ireturn, 1) := by decide +kernel
theorem dX8_more_11 : decode cX8_more 11 = .ok (.iconst 0, 1) := by decide +kernel
theorem dX8_more_12 : decode cX8_more 12 = .ok (.istore_n 2, 1) := by decide +kernel
theorem dX8_more_13 : decode cX8_more 13 = .ok (.iconst 0, 1) := by decide +kernel
theorem dX8_more_14 : decode cX8_more 14 = .ok (.istore_n 3, 1) := by decide +kernel
theorem dX8_more_15 : decode cX8_more 15 = .ok (.iload_n 3, 1) := by decide +kernel
theorem dX8_more_16 : decode cX8_more 16 = .ok (.aload_n 0, 1) := by decide +kernel
theorem dX8_more_17 : decode cX8_more 17 = .ok (.getfield 19, 3) := by decide +kernel
theorem dX8_more_20 : decode cX8_more 20 = .ok (.getfield 128, 3) := by decide +kernel
theorem dX8_more_23 : decode cX8_more 23 = .ok (.if_icmp .ge 32, 3) := by decide +kernel
theorem dX8_more_26 : decode cX8_more 26 = .ok (.iload_n 2, 1) := by decide +kernel
theorem dX8_more_27 : decode cX8_more 27 = .ok (.iconst 0, 1) := by decide +kernel
theorem dX8_more_28 : decode cX8_more 28 = .ok (.aload_n 0, 1) := by decide +kernel
theorem dX8_more_29 : decode cX8_more 29 = .ok (.iload_n 3, 1) := by decide +kernel
theorem dX8_more_30 : decode cX8_more 30 = .ok (.iload_n 1, 1) := by decide +kernel
theorem dX8_more_31 : decode cX8_more 31 = .ok (.invokevirtual 293, 3) := by decide +kernel
theorem dX8_more_34 : decode cX8_more 34 = .ok (.aload_n 0, 1) := by decide +kernel
theorem dX8_more_35 : decode cX8_more 35 = .ok (.getfield 29, 3) := by decide +kernel
theorem dX8_more_38 : decode cX8_more 38 = .ok (.iload_n 3, 1) := by decide +kernel
theorem dX8_more_39 : decode cX8_more 39 = .ok (.iload_n 1, 1) := by decide +kernel
theorem dX8_more_40 : decode cX8_more 40 = .ok (.invokevirtual 193, 3) := by decide +kernel
theorem dX8_more_43 : decode cX8_more 43 = .ok (.isub, 1) := by decide +kernel
theorem dX8_more_44 : decode cX8_more 44 = .ok (.invokestatic 296, 3) := by decide +kernel
theorem dX8_more_47 : decode cX8_more 47 = .ok (.iadd, 1) := by decide +kernel
theorem dX8_more_48 : decode cX8_more 48 = .ok (.istore_n 2, 1) := by decide +kernel
theorem dX8_more_49 : decode cX8_more 49 = .ok (.iinc 3 1, 3) := by decide +kernel
theorem dX8_more_52 : decode cX8_more 52 = .ok (.goto (-37), 3) := by decide +kernel
theorem dX8_more_55 : decode cX8_more 55 = .ok (.iconst 0, 1) := by decide +kernel
theorem dX8_more_56 : decode cX8_more 56 = .ok (.iload_n 2, 1) := by decide +kernel
theorem dX8_more_57 : decode cX8_more 57 = .ok (.aload_n 0, 1) := by decide +kernel
theorem dX8_more_58 : decode cX8_more 58 = .ok (.getfield 29, 3) := by decide +kernel
theorem dX8_more_61 : decode cX8_more 61 = .ok (.getfield 173, 3) := by decide +kernel
theorem dX8_more_64 : decode cX8_more 64 = .ok (.iload_n 1, 1) := by decide +kernel
theorem dX8_more_65 : decode cX8_more 65 = .ok (.iaload, 1) := by decide +kernel
theorem dX8_more_66 : decode cX8_more 66 = .ok (.isub, 1) := by decide +kernel
theorem dX8_more_67 : decode cX8_more 67 = .ok (.invokestatic 296, 3) := by decide +kernel
theorem dX8_more_70 : decode cX8_more 70 = .ok (.ireturn, 1) := by decide +kernel
theorem dX8_fire_0 : decode cX8_fire 0 = .ok (.iload_n 1, 1) := by decide +kernel
theorem dX8_fire_1 : decode cX8_fire 1 = .ok (.ifCond .lt 19, 3) := by decide +kernel
theorem dX8_fire_4 : decode cX8_fire 4 = .ok (.iload_n 1, 1) := by decide +kernel
theorem dX8_fire_5 : decode cX8_fire 5 = .ok (.bipush 9, 2) := by decide +kernel
theorem dX8_fire_7 : decode cX8_fire 7 = .ok (.if_icmp .gt 13, 3) := by decide +kernel
theorem dX8_fire_10 : decode cX8_fire 10 = .ok (.iload_n 2, 1) := by decide +kernel
theorem dX8_fire_11 : decode cX8_fire 11 = .ok (.ifCond .lt 9, 3) := by decide +kernel
theorem dX8_fire_14 : decode cX8_fire 14 = .ok (.iload_n 2, 1) := by decide +kernel
theorem dX8_fire_15 : decode cX8_fire 15 = .ok (.bipush 20, 2) := by decide +kernel
theorem dX8_fire_17 : decode cX8_fire 17 = .ok (.if_icmp .le 6, 3) := by decide +kernel
theorem dX8_fire_20 : decode cX8_fire 20 = .ok (.ldc 78, 2) := by decide +kernel
theorem dX8_fire_22 : decode cX8_fire 22 = .ok (.ireturn, 1) := by decide +kernel
theorem dX8_fire_23 : decode cX8_fire 23 = .ok (.iconst 0, 1) := by decide +kernel
theorem dX8_fire_24 : decode cX8_fire 24 = .ok (.istore_n 3, 1) := by decide +kernel
theorem dX8_fire_25 : decode cX8_fire 25 = .ok (.iload_n 3, 1) := by decide +kernel
theorem dX8_fire_26 : decode cX8_fire 26 = .ok (.iload_n 1, 1) := by decide +kernel
theorem dX8_fire_27 : decode cX8_fire 27 = .ok (.if_icmp .gt 16, 3) := by decide +kernel
theorem dX8_fire_30 : decode cX8_fire 30 = .ok (.aload_n 0, 1) := by decide +kernel
theorem dX8_fire_31 : decode cX8_fire 31 = .ok (.getfield 74, 3) := by decide +kernel
theorem dX8_fire_34 : decode cX8_fire 34 = .ok (.iload_n 3, 1) := by decide +kernel
theorem dX8_fire_35 : decode cX8_fire 35 = .ok (.iconst 0, 1) := by decide +kernel
theorem dX8_fire_36 : decode cX8_fire 36 = .ok (.iastore, 1) := by decide +kernel
theorem dX8_fire_37 : decode cX8_fire 37 = .ok (.iinc 3 1, 3) := by decide +kernel
theorem dX8_fire_40 : decode cX8_fire 40 = .ok (.goto (-15), 3) := by decide +kernel
theorem dX8_fire_43 : decode cX8_fire 43 = .ok (.iconst 0, 1) := by decide +kernel
theorem dX8_fire_44 : decode cX8_fire 44 = .ok (.istore_n 3, 1) := by decide +kernel
theorem dX8_fire_45 : decode cX8_fire 45 = .ok (.iload_n 3, 1) := by decide +kernel
theorem dX8_fire_46 : decode cX8_fire 46 = .ok (.iload_n 2, 1) := by decide +kernel
theorem dX8_fire_47 : decode cX8_fire 47 = .ok (.if_icmp .ge 49, 3) := by decide +kernel
theorem dX8_fire_50 : decode cX8_fire 50 = .ok (.iload_n 1, 1) := by decide +kernel
theorem dX8_fire_51 : decode cX8_fire 51 = .ok (.istore 4, 2) := by decide +kernel
theorem dX8_fire_53 : decode cX8_fire 53 = .ok (.iload 4, 2) := by decide +kernel
theorem dX8_fire_55 : decode cX8_fire 55 = .ok (.ifCond .le 35, 3) := by decide +kernel
theorem dX8_fire_58 : decode cX8_fire 58 = .ok (.aload_n 0, 1) := by decide +kernel
theorem dX8_fire_59 : decode cX8_fire 59 = .ok (.getfield 74, 3) := by decide +kernel
theorem dX8_fire_62 : decode cX8_fire 62 = .ok (.iload 4, 2) := by decide +kernel
theorem dX8_fire_64 : decode cX8_fire 64 = .ok (.aload_n 0, 1) := by decide +kernel
theorem dX8_fire_65 : decode cX8_fire 65 = .ok (.getfield 74, 3) := by decide +kernel
theorem dX8_fire_68 : decode cX8_fire 68 = .ok (.iload 4, 2) := by decide +kernel
theorem dX8_fire_70 : decode cX8_fire 70 = .ok (.iaload, 1) := by decide +kernel
theorem dX8_fire_71 : decode cX8_fire 71 = .ok (.aload_n 0, 1) := by decide +kernel
theorem dX8_fire_72 : decode cX8_fire 72 = .ok (.getfield 74, 3) := by decide +kernel
theorem dX8_fire_75 : decode cX8_fire 75 = .ok (.iload 4, 2) := by decide +kernel
theorem dX8_fire_77 : decode cX8_fire 77 = .ok (.iconst 1, 1) := by decide +kernel
theorem dX8_fire_78 : decode cX8_fire 78 = .ok (.isub, 1) := by decide +kernel
theorem dX8_fire_79 : decode cX8_fire 79 = .ok (.iaload, 1) := by decide +kernel
theorem dX8_fire_80 : decode cX8_fire 80 = .ok (.invokestatic 301, 3) := by decide +kernel
theorem dX8_fire_83 : decode cX8_fire 83 = .ok (.iastore, 1) := by decide +kernel
theorem dX8_fire_84 : decode cX8_fire 84 = .ok (.iinc 4 (-1), 3) := by decide +kernel
theorem dX8_fire_87 : decode cX8_fire 87 = .ok (.goto (-34), 3) := by decide +kernel
theorem dX8_fire_90 : decode cX8_fire 90 = .ok (.iinc 3 1, 3) := by decide +kernel
theorem dX8_fire_93 : decode cX8_fire 93 = .ok (.goto (-48), 3) := by decide +kernel
theorem dX8_fire_96 : decode cX8_fire 96 = .ok (.aload_n 0, 1) := by decide +kernel
theorem dX8_fire_97 : decode cX8_fire 97 = .ok (.getfield 74, 3) := by decide +kernel
theorem dX8_fire_100 : decode cX8_fire 100 = .ok (.iload_n 1, 1) := by decide +kernel
theorem dX8_fire_101 : decode cX8_fire 101 = .ok (.iaload, 1) := by decide +kernel
theorem dX8_fire_102 : decode cX8_fire 102 = .ok (.ireturn, 1) := by decide +kernel
theorem dX8_rhymes_0 : decode cX8_rhymes 0 = .ok (.iconst 0, 1) := by decide +kernel
theorem dX8_rhymes_1 : decode cX8_rhymes 1 = .ok (.istore_n 2, 1) := by decide +kernel
theorem dX8_rhymes_2 : decode cX8_rhymes 2 = .ok (.iconst 0, 1) := by decide +kernel
theorem dX8_rhymes_3 : decode cX8_rhymes 3 = .ok (.istore_n 3, 1) := by decide +kernel
theorem dX8_rhymes_4 : decode cX8_rhymes 4 = .ok (.iload_n 3, 1) := by decide +kernel
theorem dX8_rhymes_5 : decode cX8_rhymes 5 = .ok (.aload_n 0, 1) := by decide +kernel
theorem dX8_rhymes_6 : decode cX8_rhymes 6 = .ok (.getfield 19, 3) := by decide +kernel
theorem dX8_rhymes_9 : decode cX8_rhymes 9 = .ok (.getfield 116, 3) := by decide +kernel
theorem dX8_rhymes_12 : decode cX8_rhymes 12 = .ok (.if_icmp .ge 95, 3) := by decide +kernel
theorem dX8_rhymes_15 : decode cX8_rhymes 15 = .ok (.iload_n 3, 1) := by decide +kernel
theorem dX8_rhymes_16 : decode cX8_rhymes 16 = .ok (.iconst 1, 1) := by decide +kernel
theorem dX8_rhymes_17 : decode cX8_rhymes 17 = .ok (.iadd, 1) := by decide +kernel
theorem dX8_rhymes_18 : decode cX8_rhymes 18 = .ok (.istore 4, 2) := by decide +kernel
theorem dX8_rhymes_20 : decode cX8_rhymes 20 = .ok (.iload 4, 2) := by decide +kernel
theorem dX8_rhymes_22 : decode cX8_rhymes 22 = .ok (.aload_n 0, 1) := by decide +kernel
theorem dX8_rhymes_23 : decode cX8_rhymes 23 = .ok (.getfield 19, 3) := by decide +kernel
theorem dX8_rhymes_26 : decode cX8_rhymes 26 = .ok (.getfield 116, 3) := by decide +kernel
theorem dX8_rhymes_29 : decode cX8_rhymes 29 = .ok (.if_icmp .ge 72, 3) := by decide +kernel
theorem dX8_rhymes_32 : decode cX8_rhymes 32 = .ok (.aload_n 0, 1) := by decide +kernel
theorem dX8_rhymes_33 : decode cX8_rhymes 33 = .ok (.getfield 19, 3) := by decide +kernel
theorem dX8_rhymes_36 : decode cX8_rhymes 36 = .ok (.getfield 170, 3) := by decide +kernel
theorem dX8_rhymes_39 : decode cX8_rhymes 39 = .ok (.iload_n 3, 1) := by decide +kernel
theorem dX8_rhymes_40 : decode cX8_rhymes 40 = .ok (.iaload, 1) := by decide +kernel
theorem dX8_rhymes_41 : decode cX8_rhymes 41 = .ok (.aload_n 0, 1) := by decide +kernel
theorem dX8_rhymes_42 : decode cX8_rhymes 42 = .ok (.getfield 19, 3) := by decide +kernel
theorem dX8_rhymes_45 : decode cX8_rhymes 45 = .ok (.getfield 170, 3) := by decide +kernel
theorem dX8_rhymes_48 : decode cX8_rhymes 48 = .ok (.iload 4, 2) := by decide +kernel
theorem dX8_rhymes_50 : decode cX8_rhymes 50 = .ok (.iaload, 1) := by decide +kernel
theorem dX8_rhymes_51 : decode cX8_rhymes 51 = .ok (.if_icmp .ne 44, 3) := by decide +kernel
theorem dX8_rhymes_54 : decode cX8_rhymes 54 = .ok (.aload_n 0, 1) := by decide +kernel
theorem dX8_rhymes_55 : decode cX8_rhymes 55 = .ok (.getfield 29, 3) := by decide +kernel
theorem dX8_rhymes_58 : decode cX8_rhymes 58 = .ok (.getfield 173, 3) := by decide +kernel
theorem dX8_rhymes_61 : decode cX8_rhymes 61 = .ok (.iload_n 3, 1) := by decide +kernel
theorem dX8_rhymes_62 : decode cX8_rhymes 62 = .ok (.iaload, 1) := by decide +kernel
theorem dX8_rhymes_63 : decode cX8_rhymes 63 = .ok (.ifCond .le 32, 3) := by decide +kernel
theorem dX8_rhymes_66 : decode cX8_rhymes 66 = .ok (.aload_n 0, 1) := by decide +kernel
theorem dX8_rhymes_67 : decode cX8_rhymes 67 = .ok (.getfield 29, 3) := by decide +kernel
theorem dX8_rhymes_70 : decode cX8_rhymes 70 = .ok (.getfield 173, 3) := by decide +kernel
theorem dX8_rhymes_73 : decode cX8_rhymes 73 = .ok (.iload 4, 2) := by decide +kernel
theorem dX8_rhymes_75 : decode cX8_rhymes 75 = .ok (.iaload, 1) := by decide +kernel
theorem dX8_rhymes_76 : decode cX8_rhymes 76 = .ok (.ifCond .le 19, 3) := by decide +kernel
theorem dX8_rhymes_79 : decode cX8_rhymes 79 = .ok (.iload_n 2, 1) := by decide +kernel
theorem dX8_rhymes_80 : decode cX8_rhymes 80 = .ok (.iload_n 1, 1) := by decide +kernel
theorem dX8_rhymes_81 : decode cX8_rhymes 81 = .ok (.if_icmp .ne 11, 3) := by decide +kernel
theorem dX8_rhymes_84 : decode cX8_rhymes 84 = .ok (.bipush 10, 2) := by decide +kernel
theorem dX8_rhymes_86 : decode cX8_rhymes 86 = .ok (.iload_n 3, 1) := by decide +kernel
theorem dX8_rhymes_87 : decode cX8_rhymes 87 = .ok (.imul, 1) := by decide +kernel
theorem dX8_rhymes_88 : decode cX8_rhymes 88 = .ok (.iload 4, 2) := by decide +kernel
theorem dX8_rhymes_90 : decode cX8_rhymes 90 = .ok (.iadd, 1) := by decide +kernel
theorem dX8_rhymes_91 : decode cX8_rhymes 91 = .ok (.ireturn, 1) := by decide +kernel
theorem dX8_rhymes_92 : decode cX8_rhymes 92 = .ok (.iinc 2 1, 3) := by decide +kernel
theorem dX8_rhymes_95 : decode cX8_rhymes 95 = .ok (.iinc 4 1, 3) := by decide +kernel
theorem dX8_rhymes_98 : decode cX8_rhymes 98 = .ok (.goto (-78), 3) := by decide +kernel
theorem dX8_rhymes_101 : decode cX8_rhymes 101 = .ok (.iinc 3 1, 3) := by decide +kernel
theorem dX8_rhymes_104 : decode cX8_rhymes 104 = .ok (.goto (-100), 3) := by decide +kernel
theorem dX8_rhymes_107 : decode cX8_rhymes 107 = .ok (.iload_n 1, 1) := by decide +kernel
theorem dX8_rhymes_108 : decode cX8_rhymes 108 = .ok (.iconst (-1), 1) := by decide +kernel
theorem dX8_rhymes_109 : decode cX8_rhymes 109 = .ok (.if_icmp .ne 7, 3) := by decide +kernel
theorem dX8_rhymes_112 : decode cX8_rhymes 112 = .ok (.iload_n 2, 1) := by decide +kernel
theorem dX8_rhymes_113 : decode cX8_rhymes 113 = .ok (.goto 4, 3) := by decide +kernel
theorem dX8_rhymes_116 : decode cX8_rhymes 116 = .ok (.iconst (-1), 1) := by decide +kernel
theorem dX8_rhymes_117 : decode cX8_rhymes 117 = .ok (.ireturn, 1) := by decide +kernel
theorem dX8_silent_0 : decode cX8_silent 0 = .ok (.iload_n 1, 1) := by decide +kernel
theorem dX8_silent_1 : decode cX8_silent 1 = .ok (.ifCond .lt 19, 3) := by decide +kernel
theorem dX8_silent_4 : decode cX8_silent 4 = .ok (.iload_n 1, 1) := by decide +kernel
theorem dX8_silent_5 : decode cX8_silent 5 = .ok (.bipush 60, 2) := by decide +kernel
theorem dX8_silent_7 : decode cX8_silent 7 = .ok (.if_icmp .gt 13, 3) := by decide +kernel
theorem dX8_silent_10 : decode cX8_silent 10 = .ok (.iload_n 2, 1) := by decide +kernel
theorem dX8_silent_11 : decode cX8_silent 11 = .ok (.ifCond .lt 9, 3) := by decide +kernel
theorem dX8_silent_14 : decode cX8_silent 14 = .ok (.iload_n 2, 1) := by decide +kernel
theorem dX8_silent_15 : decode cX8_silent 15 = .ok (.bipush 100, 2) := by decide +kernel
theorem dX8_silent_17 : decode cX8_silent 17 = .ok (.if_icmp .le 6, 3) := by decide +kernel
theorem dX8_silent_20 : decode cX8_silent 20 = .ok (.ldc 78, 2) := by decide +kernel
theorem dX8_silent_22 : decode cX8_silent 22 = .ok (.ireturn, 1) := by decide +kernel
theorem dX8_silent_23 : decode cX8_silent 23 = .ok (.ldc2_w 304, 3) := by decide +kernel
theorem dX8_silent_26 : decode cX8_silent 26 = .ok (.lstore_n 3, 1) := by decide +kernel
theorem dX8_silent_27 : decode cX8_silent 27 = .ok (.iconst 0, 1) := by decide +kernel
theorem dX8_silent_28 : decode cX8_silent 28 = .ok (.istore 5, 2) := by decide +kernel
theorem dX8_silent_30 : decode cX8_silent 30 = .ok (.iload 5, 2) := by decide +kernel
theorem dX8_silent_32 : decode cX8_silent 32 = .ok (.iload_n 1, 1) := by decide +kernel
theorem dX8_silent_33 : decode cX8_silent 33 = .ok (.if_icmp .ge 18, 3) := by decide +kernel
theorem dX8_silent_36 : decode cX8_silent 36 = .ok (.lload_n 3, 1) := by decide +kernel
theorem dX8_silent_37 : decode cX8_silent 37 = .ok (.iload_n 2, 1) := by decide +kernel
theorem dX8_silent_38 : decode cX8_silent 38 = .ok (.i2l, 1) := by decide +kernel
theorem dX8_silent_39 : decode cX8_silent 39 = .ok (.lmul, 1) := by decide +kernel
theorem dX8_silent_40 : decode cX8_silent 40 = .ok (.ldc2_w 306, 3) := by decide +kernel
theorem dX8_silent_43 : decode cX8_silent 43 = .ok (.ldiv, 1) := by decide +kernel
theorem dX8_silent_44 : decode cX8_silent 44 = .ok (.lstore_n 3, 1) := by decide +kernel
theorem dX8_silent_45 : decode cX8_silent 45 = .ok (.iinc 5 1, 3) := by decide +kernel
theorem dX8_silent_48 : decode cX8_silent 48 = .ok (.goto (-18), 3) := by decide +kernel
theorem dX8_silent_51 : decode cX8_silent 51 = .ok (.lload_n 3, 1) := by decide +kernel
theorem dX8_silent_52 : decode cX8_silent 52 = .ok (.l2i, 1) := by decide +kernel
theorem dX8_silent_53 : decode cX8_silent 53 = .ok (.ireturn, 1) := by decide +kernel
theorem dX8_knot_0 : decode cX8_knot 0 = .ok (.aload_n 0, 1) := by decide +kernel
theorem dX8_knot_1 : decode cX8_knot 1 = .ok (.iload_n 1, 1) := by decide +kernel
theorem dX8_knot_2 : decode cX8_knot 2 = .ok (.invokevirtual 159, 3) := by decide +kernel
theorem dX8_knot_5 : decode cX8_knot 5 = .ok (.ifCond .ne 6, 3) := by decide +kernel
theorem dX8_knot_8 : decode cX8_knot 8 = .ok (.ldc 163, 2) := by decide +kernel
theorem dX8_knot_10 : decode cX8_knot 10 = .ok (.ireturn, 1) := by decide +kernel
theorem dX8_knot_11 : decode cX8_knot 11 = .ok (.iload_n 2, 1) := by decide +kernel
theorem dX8_knot_12 : decode cX8_knot 12 = .ok (.ifCond .lt 9, 3) := by decide +kernel
theorem dX8_knot_15 : decode cX8_knot 15 = .ok (.iload_n 2, 1) := by decide +kernel
theorem dX8_knot_16 : decode cX8_knot 16 = .ok (.bipush 99, 2) := by decide +kernel
theorem dX8_knot_18 : decode cX8_knot 18 = .ok (.if_icmp .lt 6, 3) := by decide +kernel
theorem dX8_knot_21 : decode cX8_knot 21 = .ok (.ldc 78, 2) := by decide +kernel
theorem dX8_knot_23 : decode cX8_knot 23 = .ok (.ireturn, 1) := by decide +kernel
theorem dX8_knot_24 : decode cX8_knot 24 = .ok (.aload_n 0, 1) := by decide +kernel
theorem dX8_knot_25 : decode cX8_knot 25 = .ok (.getfield 59, 3) := by decide +kernel
theorem dX8_knot_28 : decode cX8_knot 28 = .ok (.getfield 154, 3) := by decide +kernel
theorem dX8_knot_31 : decode cX8_knot 31 = .ok (.bipush 6, 2) := by decide +kernel
theorem dX8_knot_33 : decode cX8_knot 33 = .ok (.if_icmp .lt 6, 3) := by decide +kernel
theorem dX8_knot_36 : decode cX8_knot 36 = .ok (.ldc 83, 2) := by decide +kernel
theorem dX8_knot_38 : decode cX8_knot 38 = .ok (.ireturn, 1) := by decide +kernel
theorem dX8_knot_39 : decode cX8_knot 39 = .ok (.aload_n 0, 1) := by decide +kernel
theorem dX8_knot_40 : decode cX8_knot 40 = .ok (.getfield 59, 3) := by decide +kernel
theorem dX8_knot_43 : decode cX8_knot 43 = .ok (.iload_n 1, 1) := by decide +kernel
theorem dX8_knot_44 : decode cX8_knot 44 = .ok (.iload_n 2, 1) := by decide +kernel
theorem dX8_knot_45 : decode cX8_knot 45 = .ok (.iload_n 3, 1) := by decide +kernel
theorem dX8_knot_46 : decode cX8_knot 46 = .ok (.invokevirtual 308, 3) := by decide +kernel
theorem dX8_knot_49 : decode cX8_knot 49 = .ok (.aload_n 0, 1) := by decide +kernel
theorem dX8_knot_50 : decode cX8_knot 50 = .ok (.getfield 59, 3) := by decide +kernel
theorem dX8_knot_53 : decode cX8_knot 53 = .ok (.getfield 154, 3) := by decide +kernel
theorem dX8_knot_56 : decode cX8_knot 56 = .ok (.ireturn, 1) := by decide +kernel
theorem dX8_who_0 : decode cX8_who 0 = .ok (.aload_n 0, 1) := by decide +kernel
theorem dX8_who_1 : decode cX8_who 1 = .ok (.getfield 59, 3) := by decide +kernel
theorem dX8_who_4 : decode cX8_who 4 = .ok (.aload_n 0, 1) := by decide +kernel
theorem dX8_who_5 : decode cX8_who 5 = .ok (.getfield 19, 3) := by decide +kernel
theorem dX8_who_8 : decode cX8_who 8 = .ok (.invokevirtual 312, 3) := by decide +kernel
theorem dX8_who_11 : decode cX8_who 11 = .ok (.ireturn, 1) := by decide +kernel
theorem dX8_ask_0 : decode cX8_ask 0 = .ok (.aload_n 0, 1) := by decide +kernel
theorem dX8_ask_1 : decode cX8_ask 1 = .ok (.getfield 59, 3) := by decide +kernel
theorem dX8_ask_4 : decode cX8_ask 4 = .ok (.aload_n 0, 1) := by decide +kernel
theorem dX8_ask_5 : decode cX8_ask 5 = .ok (.getfield 19, 3) := by decide +kernel
theorem dX8_ask_8 : decode cX8_ask 8 = .ok (.invokevirtual 312, 3) := by decide +kernel
theorem dX8_ask_11 : decode cX8_ask 11 = .ok (.istore_n 1, 1) := by decide +kernel
theorem dX8_ask_12 : decode cX8_ask 12 = .ok (.iload_n 1, 1) := by decide +kernel
theorem dX8_ask_13 : decode cX8_ask 13 = .ok (.invokestatic 316, 3) := by decide +kernel
theorem dX8_ask_16 : decode cX8_ask 16 = .ok (.istore_n 2, 1) := by decide +kernel
theorem dX8_ask_17 : decode cX8_ask 17 = .ok (.iconst (-1), 1) := by decide +kernel
theorem dX8_ask_18 : decode cX8_ask 18 = .ok (.istore_n 3, 1) := by decide +kernel
theorem dX8_ask_19 : decode cX8_ask 19 = .ok (.iconst 0, 1) := by decide +kernel
theorem dX8_ask_20 : decode cX8_ask 20 = .ok (.istore 4, 2) := by decide +kernel
theorem dX8_ask_22 : decode cX8_ask 22 = .ok (.iload 4, 2) := by decide +kernel
theorem dX8_ask_24 : decode cX8_ask 24 = .ok (.aload_n 0, 1) := by decide +kernel
theorem dX8_ask_25 : decode cX8_ask 25 = .ok (.getfield 19, 3) := by decide +kernel
theorem dX8_ask_28 : decode cX8_ask 28 = .ok (.getfield 116, 3) := by decide +kernel
theorem dX8_ask_31 : decode cX8_ask 31 = .ok (.if_icmp .ge 59, 3) := by decide +kernel
theorem dX8_ask_34 : decode cX8_ask 34 = .ok (.iconst 0, 1) := by decide +kernel
theorem dX8_ask_35 : decode cX8_ask 35 = .ok (.istore 5, 2) := by decide +kernel
theorem dX8_ask_37 : decode cX8_ask 37 = .ok (.iload 5, 2) := by decide +kernel
theorem dX8_ask_39 : decode cX8_ask 39 = .ok (.aload_n 0, 1) := by decide +kernel
theorem dX8_ask_40 : decode cX8_ask 40 = .ok (.getfield 19, 3) := by decide +kernel
theorem dX8_ask_43 : decode cX8_ask 43 = .ok (.getfield 122, 3) := by decide +kernel
theorem dX8_ask_46 : decode cX8_ask 46 = .ok (.if_icmp .ge 38, 3) := by decide +kernel
theorem dX8_ask_49 : decode cX8_ask 49 = .ok (.aload_n 0, 1) := by decide +kernel
theorem dX8_ask_50 : decode cX8_ask 50 = .ok (.iload_n 1, 1) := by decide +kernel
theorem dX8_ask_51 : decode cX8_ask 51 = .ok (.iload 4, 2) := by decide +kernel
theorem dX8_ask_53 : decode cX8_ask 53 = .ok (.iload 5, 2) := by decide +kernel
theorem dX8_ask_55 : decode cX8_ask 55 = .ok (.invokevirtual 321, 3) := by decide +kernel
theorem dX8_ask_58 : decode cX8_ask 58 = .ok (.istore 6, 2) := by decide +kernel
theorem dX8_ask_60 : decode cX8_ask 60 = .ok (.iload 6, 2) := by decide +kernel
theorem dX8_ask_62 : decode cX8_ask 62 = .ok (.iload_n 2, 1) := by decide +kernel
theorem dX8_ask_63 : decode cX8_ask 63 = .ok (.if_icmp .ge 15, 3) := by decide +kernel
theorem dX8_ask_66 : decode cX8_ask 66 = .ok (.iload 6, 2) := by decide +kernel
theorem dX8_ask_68 : decode cX8_ask 68 = .ok (.istore_n 2, 1) := by decide +kernel
theorem dX8_ask_69 : decode cX8_ask 69 = .ok (.bipush 100, 2) := by decide +kernel
theorem dX8_ask_71 : decode cX8_ask 71 = .ok (.iload 4, 2) := by decide +kernel
theorem dX8_ask_73 : decode cX8_ask 73 = .ok (.imul, 1) := by decide +kernel
theorem dX8_ask_74 : decode cX8_ask 74 = .ok (.iload 5, 2) := by decide +kernel
theorem dX8_ask_76 : decode cX8_ask 76 = .ok (.iadd, 1) := by decide +kernel
theorem dX8_ask_77 : decode cX8_ask 77 = .ok (.istore_n 3, 1) := by decide +kernel
theorem dX8_ask_78 : decode cX8_ask 78 = .ok (.iinc 5 1, 3) := by decide +kernel
theorem dX8_ask_81 : decode cX8_ask 81 = .ok (.goto (-44), 3) := by decide +kernel
theorem dX8_ask_84 : decode cX8_ask 84 = .ok (.iinc 4 1, 3) := by decide +kernel
theorem dX8_ask_87 : decode cX8_ask 87 = .ok (.goto (-65), 3) := by decide +kernel
theorem dX8_ask_90 : decode cX8_ask 90 = .ok (.iload_n 3, 1) := by decide +kernel
theorem dX8_ask_91 : decode cX8_ask 91 = .ok (.ireturn, 1) := by decide +kernel
theorem dX8_write_0 : decode cX8_write 0 = .ok (.aload_n 0, 1) := by decide +kernel
theorem dX8_write_1 : decode cX8_write 1 = .ok (.iload_n 1, 1) := by decide +kernel
theorem dX8_write_2 : decode cX8_write 2 = .ok (.invokevirtual 159, 3) := by decide +kernel
theorem dX8_write_5 : decode cX8_write 5 = .ok (.ifCond .ne 6, 3) := by decide +kernel
theorem dX8_write_8 : decode cX8_write 8 = .ok (.ldc 163, 2) := by decide +kernel
theorem dX8_write_10 : decode cX8_write 10 = .ok (.ireturn, 1) := by decide +kernel
theorem dX8_write_11 : decode cX8_write 11 = .ok (.iload_n 2, 1) := by decide +kernel
theorem dX8_write_12 : decode cX8_write 12 = .ok (.ifCond .lt 9, 3) := by decide +kernel
theorem dX8_write_15 : decode cX8_write 15 = .ok (.iload_n 2, 1) := by decide +kernel
theorem dX8_write_16 : decode cX8_write 16 = .ok (.bipush 99, 2) := by decide +kernel
theorem dX8_write_18 : decode cX8_write 18 = .ok (.if_icmp .le 6, 3) := by decide +kernel
theorem dX8_write_21 : decode cX8_write 21 = .ok (.ldc 78, 2) := by decide +kernel
theorem dX8_write_23 : decode cX8_write 23 = .ok (.ireturn, 1) := by decide +kernel
theorem dX8_write_24 : decode cX8_write 24 = .ok (.aload_n 0, 1) := by decide +kernel
theorem dX8_write_25 : decode cX8_write 25 = .ok (.getfield 66, 3) := by decide +kernel
theorem dX8_write_28 : decode cX8_write 28 = .ok (.getfield 157, 3) := by decide +kernel
theorem dX8_write_31 : decode cX8_write 31 = .ok (.bipush 15, 2) := by decide +kernel
theorem dX8_write_33 : decode cX8_write 33 = .ok (.if_icmp .lt 6, 3) := by decide +kernel
theorem dX8_write_36 : decode cX8_write 36 = .ok (.ldc 83, 2) := by decide +kernel
theorem dX8_write_38 : decode cX8_write 38 = .ok (.ireturn, 1) := by decide +kernel
theorem dX8_write_39 : decode cX8_write 39 = .ok (.aload_n 0, 1) := by decide +kernel
theorem dX8_write_40 : decode cX8_write 40 = .ok (.getfield 66, 3) := by decide +kernel
theorem dX8_write_43 : decode cX8_write 43 = .ok (.iload_n 1, 1) := by decide +kernel
theorem dX8_write_44 : decode cX8_write 44 = .ok (.iload_n 2, 1) := by decide +kernel
theorem dX8_write_45 : decode cX8_write 45 = .ok (.invokevirtual 325, 3) := by decide +kernel
theorem dX8_write_48 : decode cX8_write 48 = .ok (.aload_n 0, 1) := by decide +kernel
theorem dX8_write_49 : decode cX8_write 49 = .ok (.getfield 66, 3) := by decide +kernel
theorem dX8_write_52 : decode cX8_write 52 = .ok (.getfield 157, 3) := by decide +kernel
theorem dX8_write_55 : decode cX8_write 55 = .ok (.ireturn, 1) := by decide +kernel
theorem dX8_tear_0 : decode cX8_tear 0 = .ok (.aload_n 0, 1) := by decide +kernel
theorem dX8_tear_1 : decode cX8_tear 1 = .ok (.getfield 59, 3) := by decide +kernel
theorem dX8_tear_4 : decode cX8_tear 4 = .ok (.getfield 154, 3) := by decide +kernel
theorem dX8_tear_7 : decode cX8_tear 7 = .ok (.aload_n 0, 1) := by decide +kernel
theorem dX8_tear_8 : decode cX8_tear 8 = .ok (.getfield 66, 3) := by decide +kernel
theorem dX8_tear_11 : decode cX8_tear 11 = .ok (.getfield 157, 3) := by decide +kernel
theorem dX8_tear_14 : decode cX8_tear 14 = .ok (.iadd, 1) := by decide +kernel
theorem dX8_tear_15 : decode cX8_tear 15 = .ok (.istore_n 1, 1) := by decide +kernel
theorem dX8_tear_16 : decode cX8_tear 16 = .ok (.aload_n 0, 1) := by decide +kernel
theorem dX8_tear_17 : decode cX8_tear 17 = .ok (.getfield 59, 3) := by decide +kernel
theorem dX8_tear_20 : decode cX8_tear 20 = .ok (.invokevirtual 108, 3) := by decide +kernel
theorem dX8_tear_23 : decode cX8_tear 23 = .ok (.aload_n 0, 1) := by decide +kernel
theorem dX8_tear_24 : decode cX8_tear 24 = .ok (.getfield 66, 3) := by decide +kernel
theorem dX8_tear_27 : decode cX8_tear 27 = .ok (.invokevirtual 111, 3) := by decide +kernel
theorem dX8_tear_30 : decode cX8_tear 30 = .ok (.iload_n 1, 1) := by decide +kernel
theorem dX8_tear_31 : decode cX8_tear 31 = .ok (.ireturn, 1) := by decide +kernel
theorem dX8_judge_0 : decode cX8_judge 0 = .ok (.aload_n 0, 1) := by decide +kernel
theorem dX8_judge_1 : decode cX8_judge 1 = .ok (.getfield 66, 3) := by decide +kernel
theorem dX8_judge_4 : decode cX8_judge 4 = .ok (.aload_n 0, 1) := by decide +kernel
theorem dX8_judge_5 : decode cX8_judge 5 = .ok (.getfield 29, 3) := by decide +kernel
theorem dX8_judge_8 : decode cX8_judge 8 = .ok (.invokevirtual 328, 3) := by decide +kernel
theorem dX8_judge_11 : decode cX8_judge 11 = .ok (.ireturn, 1) := by decide +kernel
theorem dX8_seed_0 : decode cX8_seed 0 = .ok (.iload_n 1, 1) := by decide +kernel
theorem dX8_seed_1 : decode cX8_seed 1 = .ok (.ifCond .ge 6, 3) := by decide +kernel
theorem dX8_seed_4 : decode cX8_seed 4 = .ok (.ldc 78, 2) := by decide +kernel
theorem dX8_seed_6 : decode cX8_seed 6 = .ok (.ireturn, 1) := by decide +kernel
theorem dX8_seed_7 : decode cX8_seed 7 = .ok (.aload_n 0, 1) := by decide +kernel
theorem dX8_seed_8 : decode cX8_seed 8 = .ok (.getfield 332, 3) := by decide +kernel
theorem dX8_seed_11 : decode cX8_seed 11 = .ok (.istore_n 2, 1) := by decide +kernel
theorem dX8_seed_12 : decode cX8_seed 12 = .ok (.aload_n 0, 1) := by decide +kernel
theorem dX8_seed_13 : decode cX8_seed 13 = .ok (.iload_n 1, 1) := by decide +kernel
theorem dX8_seed_14 : decode cX8_seed 14 = .ok (.putfield 332, 3) := by decide +kernel
theorem dX8_seed_17 : decode cX8_seed 17 = .ok (.iload_n 2, 1) := by decide +kernel
theorem dX8_seed_18 : decode cX8_seed 18 = .ok (.ireturn, 1) := by decide +kernel
theorem dX8_keep_0 : decode cX8_keep 0 = .ok (.iload_n 1, 1) := by decide +kernel
theorem dX8_keep_1 : decode cX8_keep 1 = .ok (.ifCond .lt 8, 3) := by decide +kernel
theorem dX8_keep_4 : decode cX8_keep 4 = .ok (.iload_n 1, 1) := by decide +kernel
theorem dX8_keep_5 : decode cX8_keep 5 = .ok (.iconst 2, 1) := by decide +kernel
theorem dX8_keep_6 : decode cX8_keep 6 = .ok (.if_icmp .lt 6, 3) := by decide +kernel
theorem dX8_keep_9 : decode cX8_keep 9 = .ok (.ldc 163, 2) := by decide +kernel
theorem dX8_keep_11 : decode cX8_keep 11 = .ok (.ireturn, 1) := by decide +kernel
theorem dX8_keep_12 : decode cX8_keep 12 = .ok (.aload_n 0, 1) := by decide +kernel
theorem dX8_keep_13 : decode cX8_keep 13 = .ok (.getfield 45, 3) := by decide +kernel
theorem dX8_keep_16 : decode cX8_keep 16 = .ok (.iload_n 1, 1) := by decide +kernel
theorem dX8_keep_17 : decode cX8_keep 17 = .ok (.aaload, 1) := by decide +kernel
theorem dX8_keep_18 : decode cX8_keep 18 = .ok (.astore_n 2, 1) := by decide +kernel
theorem dX8_keep_19 : decode cX8_keep 19 = .ok (.aload_n 2, 1) := by decide +kernel
theorem dX8_keep_20 : decode cX8_keep 20 = .ok (.getfield 335, 3) := by decide +kernel
theorem dX8_keep_23 : decode cX8_keep 23 = .ok (.aload_n 0, 1) := by decide +kernel
theorem dX8_keep_24 : decode cX8_keep 24 = .ok (.getfield 29, 3) := by decide +kernel
theorem dX8_keep_27 : decode cX8_keep 27 = .ok (.invokevirtual 264, 3) := by decide +kernel
theorem dX8_keep_30 : decode cX8_keep 30 = .ok (.aload_n 2, 1) := by decide +kernel
theorem dX8_keep_31 : decode cX8_keep 31 = .ok (.aload_n 0, 1) := by decide +kernel
theorem dX8_keep_32 : decode cX8_keep 32 = .ok (.getfield 332, 3) := by decide +kernel
theorem dX8_keep_35 : decode cX8_keep 35 = .ok (.putfield 338, 3) := by decide +kernel
theorem dX8_keep_38 : decode cX8_keep 38 = .ok (.aload_n 2, 1) := by decide +kernel
theorem dX8_keep_39 : decode cX8_keep 39 = .ok (.iconst 1, 1) := by decide +kernel
theorem dX8_keep_40 : decode cX8_keep 40 = .ok (.putfield 112, 3) := by decide +kernel
theorem dX8_keep_43 : decode cX8_keep 43 = .ok (.aload_n 0, 1) := by decide +kernel
theorem dX8_keep_44 : decode cX8_keep 44 = .ok (.getfield 39, 3) := by decide +kernel
theorem dX8_keep_47 : decode cX8_keep 47 = .ok (.invokevirtual 105, 3) := by decide +kernel
theorem dX8_keep_50 : decode cX8_keep 50 = .ok (.iconst 1, 1) := by decide +kernel
theorem dX8_keep_51 : decode cX8_keep 51 = .ok (.ireturn, 1) := by decide +kernel
theorem dX8_goBack_0 : decode cX8_goBack 0 = .ok (.iload_n 1, 1) := by decide +kernel
theorem dX8_goBack_1 : decode cX8_goBack 1 = .ok (.ifCond .lt 8, 3) := by decide +kernel
theorem dX8_goBack_4 : decode cX8_goBack 4 = .ok (.iload_n 1, 1) := by decide +kernel
theorem dX8_goBack_5 : decode cX8_goBack 5 = .ok (.iconst 2, 1) := by decide +kernel
theorem dX8_goBack_6 : decode cX8_goBack 6 = .ok (.if_icmp .lt 6, 3) := by decide +kernel
theorem dX8_goBack_9 : decode cX8_goBack 9 = .ok (.ldc 163, 2) := by decide +kernel
theorem dX8_goBack_11 : decode cX8_goBack 11 = .ok (.ireturn, 1) := by decide +kernel
theorem dX8_goBack_12 : decode cX8_goBack 12 = .ok (.aload_n 0, 1) := by decide +kernel
theorem dX8_goBack_13 : decode cX8_goBack 13 = .ok (.getfield 45, 3) := by decide +kernel
theorem dX8_goBack_16 : decode cX8_goBack 16 = .ok (.iload_n 1, 1) := by decide +kernel
theorem dX8_goBack_17 : decode cX8_goBack 17 = .ok (.aaload, 1) := by decide +kernel
theorem dX8_goBack_18 : decode cX8_goBack 18 = .ok (.astore_n 2, 1) := by decide +kernel
theorem dX8_goBack_19 : decode cX8_goBack 19 = .ok (.aload_n 2, 1) := by decide +kernel
theorem dX8_goBack_20 : decode cX8_goBack 20 = .ok (.getfield 112, 3) := by decide +kernel
theorem dX8_goBack_23 : decode cX8_goBack 23 = .ok (.ifCond .ne 6, 3) := by decide +kernel
theorem dX8_goBack_26 : decode cX8_goBack 26 = .ok (.ldc 228, 2) := by decide +kernel
theorem dX8_goBack_28 : decode cX8_goBack 28 = .ok (.ireturn, 1) := by decide +kernel
theorem dX8_goBack_29 : decode cX8_goBack 29 = .ok (.aload_n 0, 1) := by decide +kernel
theorem dX8_goBack_30 : decode cX8_goBack 30 = .ok (.getfield 29, 3) := by decide +kernel
theorem dX8_goBack_33 : decode cX8_goBack 33 = .ok (.aload_n 2, 1) := by decide +kernel
theorem dX8_goBack_34 : decode cX8_goBack 34 = .ok (.getfield 335, 3) := by decide +kernel
theorem dX8_goBack_37 : decode cX8_goBack 37 = .ok (.invokevirtual 264, 3) := by decide +kernel
theorem dX8_goBack_40 : decode cX8_goBack 40 = .ok (.aload_n 0, 1) := by decide +kernel
theorem dX8_goBack_41 : decode cX8_goBack 41 = .ok (.aload_n 2, 1) := by decide +kernel
theorem dX8_goBack_42 : decode cX8_goBack 42 = .ok (.getfield 338, 3) := by decide +kernel
theorem dX8_goBack_45 : decode cX8_goBack 45 = .ok (.putfield 332, 3) := by decide +kernel
theorem dX8_goBack_48 : decode cX8_goBack 48 = .ok (.aload_n 0, 1) := by decide +kernel
theorem dX8_goBack_49 : decode cX8_goBack 49 = .ok (.getfield 39, 3) := by decide +kernel
theorem dX8_goBack_52 : decode cX8_goBack 52 = .ok (.invokevirtual 105, 3) := by decide +kernel
theorem dX8_goBack_55 : decode cX8_goBack 55 = .ok (.iconst 1, 1) := by decide +kernel
theorem dX8_goBack_56 : decode cX8_goBack 56 = .ok (.ireturn, 1) := by decide +kernel
theorem dX8_isWord_0 : decode cX8_isWord 0 = .ok (.iload_n 1, 1) := by decide +kernel
theorem dX8_isWord_1 : decode cX8_isWord 1 = .ok (.ifCond .lt 18, 3) := by decide +kernel
theorem dX8_isWord_4 : decode cX8_isWord 4 = .ok (.iload_n 1, 1) := by decide +kernel
theorem dX8_isWord_5 : decode cX8_isWord 5 = .ok (.aload_n 0, 1) := by decide +kernel
theorem dX8_isWord_6 : decode cX8_isWord 6 = .ok (.getfield 19, 3) := by decide +kernel
theorem dX8_isWord_9 : decode cX8_isWord 9 = .ok (.getfield 116, 3) := by decide +kernel
theorem dX8_isWord_12 : decode cX8_isWord 12 = .ok (.if_icmp .ge 7, 3) := by decide +kernel
theorem dX8_isWord_15 : decode cX8_isWord 15 = .ok (.iconst 1, 1) := by decide +kernel
theorem dX8_isWord_16 : decode cX8_isWord 16 = .ok (.goto 4, 3) := by decide +kernel
theorem dX8_isWord_19 : decode cX8_isWord 19 = .ok (.iconst 0, 1) := by decide +kernel
theorem dX8_isWord_20 : decode cX8_isWord 20 = .ok (.ireturn, 1) := by decide +kernel
theorem dX8_isPerson_0 : decode cX8_isPerson 0 = .ok (.iload_n 1, 1) := by decide +kernel
theorem dX8_isPerson_1 : decode cX8_isPerson 1 = .ok (.ifCond .lt 18, 3) := by decide +kernel
theorem dX8_isPerson_4 : decode cX8_isPerson 4 = .ok (.iload_n 1, 1) := by decide +kernel
theorem dX8_isPerson_5 : decode cX8_isPerson 5 = .ok (.aload_n 0, 1) := by decide +kernel
theorem dX8_isPerson_6 : decode cX8_isPerson 6 = .ok (.getfield 19, 3) := by decide +kernel
theorem dX8_isPerson_9 : decode cX8_isPerson 9 = .ok (.getfield 128, 3) := by decide +kernel
theorem dX8_isPerson_12 : decode cX8_isPerson 12 = .ok (.if_icmp .ge 7, 3) := by decide +kernel
theorem dX8_isPerson_15 : decode cX8_isPerson 15 = .ok (.iconst 1, 1) := by decide +kernel
theorem dX8_isPerson_16 : decode cX8_isPerson 16 = .ok (.goto 4, 3) := by decide +kernel
theorem dX8_isPerson_19 : decode cX8_isPerson 19 = .ok (.iconst 0, 1) := by decide +kernel
theorem dX8_isPerson_20 : decode cX8_isPerson 20 = .ok (.ireturn, 1) := by decide +kernel
theorem dX8_isNeed_0 : decode cX8_isNeed 0 = .ok (.iload_n 1, 1) := by decide +kernel
theorem dX8_isNeed_1 : decode cX8_isNeed 1 = .ok (.ifCond .lt 18, 3) := by decide +kernel
theorem dX8_isNeed_4 : decode cX8_isNeed 4 = .ok (.iload_n 1, 1) := by decide +kernel
theorem dX8_isNeed_5 : decode cX8_isNeed 5 = .ok (.aload_n 0, 1) := by decide +kernel
theorem dX8_isNeed_6 : decode cX8_isNeed 6 = .ok (.getfield 19, 3) := by decide +kernel
theorem dX8_isNeed_9 : decode cX8_isNeed 9 = .ok (.getfield 131, 3) := by decide +kernel
theorem dX8_isNeed_12 : decode cX8_isNeed 12 = .ok (.if_icmp .ge 7, 3) := by decide +kernel
theorem dX8_isNeed_15 : decode cX8_isNeed 15 = .ok (.iconst 1, 1) := by decide +kernel
theorem dX8_isNeed_16 : decode cX8_isNeed 16 = .ok (.goto 4, 3) := by decide +kernel
theorem dX8_isNeed_19 : decode cX8_isNeed 19 = .ok (.iconst 0, 1) := by decide +kernel
theorem dX8_isNeed_20 : decode cX8_isNeed 20 = .ok (.ireturn, 1) := by decide +kernel
theorem dX8_today_0 : decode cX8_today 0 = .ok (.aload_n 0, 1) := by decide +kernel
theorem dX8_today_1 : decode cX8_today 1 = .ok (.getfield 19, 3) := by decide +kernel
theorem dX8_today_4 : decode cX8_today 4 = .ok (.aload_n 0, 1) := by decide +kernel
theorem dX8_today_5 : decode cX8_today 5 = .ok (.getfield 29, 3) := by decide +kernel
theorem dX8_today_8 : decode cX8_today 8 = .ok (.getfield 134, 3) := by decide +kernel
theorem dX8_today_11 : decode cX8_today 11 = .ok (.invokevirtual 339, 3) := by decide +kernel
theorem dX8_today_14 : decode cX8_today 14 = .ok (.ireturn, 1) := by decide +kernel
theorem dX8_neverSaid_0 : decode cX8_neverSaid 0 = .ok (.iconst 0, 1) := by decide +kernel
theorem dX8_neverSaid_1 : decode cX8_neverSaid 1 = .ok (.istore_n 1, 1) := by decide +kernel
theorem dX8_neverSaid_2 : decode cX8_neverSaid 2 = .ok (.iconst 0, 1) := by decide +kernel
theorem dX8_neverSaid_3 : decode cX8_neverSaid 3 = .ok (.istore_n 2, 1) := by decide +kernel
theorem dX8_neverSaid_4 : decode cX8_neverSaid 4 = .ok (.iload_n 2, 1) := by decide +kernel
theorem dX8_neverSaid_5 : decode cX8_neverSaid 5 = .ok (.aload_n 0, 1) := by decide +kernel
theorem dX8_neverSaid_6 : decode cX8_neverSaid 6 = .ok (.getfield 19, 3) := by decide +kernel
theorem dX8_neverSaid_9 : decode cX8_neverSaid 9 = .ok (.getfield 116, 3) := by decide +kernel
theorem dX8_neverSaid_12 : decode cX8_neverSaid 12 = .ok (.if_icmp .ge 27, 3) := by decide +kernel
theorem dX8_neverSaid_15 : decode cX8_neverSaid 15 = .ok (.aload_n 0, 1) := by decide +kernel
theorem dX8_neverSaid_16 : decode cX8_neverSaid 16 = .ok (.getfield 29, 3) := by decide +kernel
theorem dX8_neverSaid_19 : decode cX8_neverSaid 19 = .ok (.getfield 180, 3) := by decide +kernel
theorem dX8_neverSaid_22 : decode cX8_neverSaid 22 = .ok (.iload_n 2, 1) := by decide +kernel
theorem dX8_neverSaid_23 : decode cX8_neverSaid 23 = .ok (.iaload, 1) := by decide +kernel
theorem dX8_neverSaid_24 : decode cX8_neverSaid 24 = .ok (.ifCond .ne 9, 3) := by decide +kernel
theorem dX8_neverSaid_27 : decode cX8_neverSaid 27 = .ok (.iload_n 1, 1) := by decide +kernel
theorem dX8_neverSaid_28 : decode cX8_neverSaid 28 = .ok (.iconst 1, 1) := by decide +kernel
theorem dX8_neverSaid_29 : decode cX8_neverSaid 29 = .ok (.iload_n 2, 1) := by decide +kernel
theorem dX8_neverSaid_30 : decode cX8_neverSaid 30 = .ok (.ishl, 1) := by decide +kernel
theorem dX8_neverSaid_31 : decode cX8_neverSaid 31 = .ok (.ior, 1) := by decide +kernel
theorem dX8_neverSaid_32 : decode cX8_neverSaid 32 = .ok (.istore_n 1, 1) := by decide +kernel
theorem dX8_neverSaid_33 : decode cX8_neverSaid 33 = .ok (.iinc 2 1, 3) := by decide +kernel
theorem dX8_neverSaid_36 : decode cX8_neverSaid 36 = .ok (.goto (-32), 3) := by decide +kernel
theorem dX8_neverSaid_39 : decode cX8_neverSaid 39 = .ok (.iload_n 1, 1) := by decide +kernel
theorem dX8_neverSaid_40 : decode cX8_neverSaid 40 = .ok (.ireturn, 1) := by decide +kernel
theorem dX8_refusalOfDays_0 : decode cX8_refusalOfDays 0 = .ok (.iload_n 1, 1) := by decide +kernel
theorem dX8_refusalOfDays_1 : decode cX8_refusalOfDays 1 = .ok (.iconst 1, 1) := by decide +kernel
theorem dX8_refusalOfDays_2 : decode cX8_refusalOfDays 2 = .ok (.if_icmp .lt 9, 3) := by decide +kernel
theorem dX8_refusalOfDays_5 : decode cX8_refusalOfDays 5 = .ok (.iload_n 1, 1) := by decide +kernel
theorem dX8_refusalOfDays_6 : decode cX8_refusalOfDays 6 = .ok (.bipush 60, 2) := by decide +kernel
theorem dX8_refusalOfDays_8 : decode cX8_refusalOfDays 8 = .ok (.if_icmp .le 6, 3) := by decide +kernel
theorem dX8_refusalOfDays_11 : decode cX8_refusalOfDays 11 = .ok (.ldc 78, 2) := by decide +kernel
theorem dX8_refusalOfDays_13 : decode cX8_refusalOfDays 13 = .ok (.ireturn, 1) := by decide +kernel
theorem dX8_refusalOfDays_14 : decode cX8_refusalOfDays 14 = .ok (.aload_n 0, 1) := by decide +kernel
theorem dX8_refusalOfDays_15 : decode cX8_refusalOfDays 15 = .ok (.getfield 19, 3) := by decide +kernel
theorem dX8_refusalOfDays_18 : decode cX8_refusalOfDays 18 = .ok (.getfield 122, 3) := by decide +kernel
theorem dX8_refusalOfDays_21 : decode cX8_refusalOfDays 21 = .ok (.ifCond .ne 6, 3) := by decide +kernel
theorem dX8_refusalOfDays_24 : decode cX8_refusalOfDays 24 = .ok (.ldc 228, 2) := by decide +kernel
theorem dX8_refusalOfDays_26 : decode cX8_refusalOfDays 26 = .ok (.ireturn, 1) := by decide +kernel
theorem dX8_refusalOfDays_27 : decode cX8_refusalOfDays 27 = .ok (.aload_n 0, 1) := by decide +kernel
theorem dX8_refusalOfDays_28 : decode cX8_refusalOfDays 28 = .ok (.getfield 29, 3) := by decide +kernel
theorem dX8_refusalOfDays_31 : decode cX8_refusalOfDays 31 = .ok (.getfield 134, 3) := by decide +kernel
theorem dX8_refusalOfDays_34 : decode cX8_refusalOfDays 34 = .ok (.sipush 9000, 3) := by decide +kernel
theorem dX8_refusalOfDays_37 : decode cX8_refusalOfDays 37 = .ok (.if_icmp .le 8, 3) := by decide +kernel
theorem dX8_refusalOfDays_40 : decode cX8_refusalOfDays 40 = .ok (.ldc 83, 2) := by decide +kernel
theorem dX8_refusalOfDays_42 : decode cX8_refusalOfDays 42 = .ok (.goto 4, 3) := by decide +kernel
theorem dX8_refusalOfDays_45 : decode cX8_refusalOfDays 45 = .ok (.iconst 0, 1) := by decide +kernel
theorem dX8_refusalOfDays_46 : decode cX8_refusalOfDays 46 = .ok (.ireturn, 1) := by decide +kernel
theorem dX8_drawOf_0 : decode cX8_drawOf 0 = .ok (.aload_n 0, 1) := by decide +kernel
theorem dX8_drawOf_1 : decode cX8_drawOf 1 = .ok (.getfield 332, 3) := by decide +kernel
theorem dX8_drawOf_4 : decode cX8_drawOf 4 = .ok (.i2l, 1) := by decide +kernel
theorem dX8_drawOf_5 : decode cX8_drawOf 5 = .ok (.ldc2_w 342, 3) := by decide +kernel
theorem dX8_drawOf_8 : decode cX8_drawOf 8 = .ok (.lmul, 1) := by decide +kernel
theorem dX8_drawOf_9 : decode cX8_drawOf 9 = .ok (.ldc2_w 344, 3) := by decide +kernel
theorem dX8_drawOf_12 : decode cX8_drawOf 12 = .ok (.ladd, 1) := by decide +kernel
theorem dX8_drawOf_13 : decode cX8_drawOf 13 = .ok (.ldc2_w 346, 3) := by decide +kernel
theorem dX8_drawOf_16 : decode cX8_drawOf 16 = .ok (.land, 1) := by decide +kernel
theorem dX8_drawOf_17 : decode cX8_drawOf 17 = .ok (.lstore_n 2, 1) := by decide +kernel
theorem dX8_drawOf_18 : decode cX8_drawOf 18 = .ok (.aload_n 0, 1) := by decide +kernel
theorem dX8_drawOf_19 : decode cX8_drawOf 19 = .ok (.lload_n 2, 1) := by decide +kernel
theorem dX8_drawOf_20 : decode cX8_drawOf 20 = .ok (.l2i, 1) := by decide +kernel
theorem dX8_drawOf_21 : decode cX8_drawOf 21 = .ok (.putfield 332, 3) := by decide +kernel
theorem dX8_drawOf_24 : decode cX8_drawOf 24 = .ok (.iload_n 1, 1) := by decide +kernel
theorem dX8_drawOf_25 : decode cX8_drawOf 25 = .ok (.ifCond .le 16, 3) := by decide +kernel
theorem dX8_drawOf_28 : decode cX8_drawOf 28 = .ok (.aload_n 0, 1) := by decide +kernel
theorem dX8_drawOf_29 : decode cX8_drawOf 29 = .ok (.getfield 332, 3) := by decide +kernel
theorem dX8_drawOf_32 : decode cX8_drawOf 32 = .ok (.ldc_w 348, 3) := by decide +kernel
theorem dX8_drawOf_35 : decode cX8_drawOf 35 = .ok (.idiv, 1) := by decide +kernel
theorem dX8_drawOf_36 : decode cX8_drawOf 36 = .ok (.iload_n 1, 1) := by decide +kernel
theorem dX8_drawOf_37 : decode cX8_drawOf 37 = .ok (.irem, 1) := by decide +kernel
theorem dX8_drawOf_38 : decode cX8_drawOf 38 = .ok (.goto 4, 3) := by decide +kernel
theorem dX8_drawOf_41 : decode cX8_drawOf 41 = .ok (.iconst 0, 1) := by decide +kernel
theorem dX8_drawOf_42 : decode cX8_drawOf 42 = .ok (.ireturn, 1) := by decide +kernel
theorem dX8_doByDraws_0 : decode cX8_doByDraws 0 = .ok (.aload_n 0, 1) := by decide +kernel
theorem dX8_doByDraws_1 : decode cX8_doByDraws 1 = .ok (.aload_n 0, 1) := by decide +kernel
theorem dX8_doByDraws_2 : decode cX8_doByDraws 2 = .ok (.getfield 19, 3) := by decide +kernel
theorem dX8_doByDraws_5 : decode cX8_doByDraws 5 = .ok (.getfield 128, 3) := by decide +kernel
theorem dX8_doByDraws_8 : decode cX8_doByDraws 8 = .ok (.invokevirtual 349, 3) := by decide +kernel
theorem dX8_doByDraws_11 : decode cX8_doByDraws 11 = .ok (.istore_n 1, 1) := by decide +kernel
theorem dX8_doByDraws_12 : decode cX8_doByDraws 12 = .ok (.aload_n 0, 1) := by decide +kernel
theorem dX8_doByDraws_13 : decode cX8_doByDraws 13 = .ok (.aload_n 0, 1) := by decide +kernel
theorem dX8_doByDraws_14 : decode cX8_doByDraws 14 = .ok (.getfield 19, 3) := by decide +kernel
theorem dX8_doByDraws_17 : decode cX8_doByDraws 17 = .ok (.getfield 116, 3) := by decide +kernel
theorem dX8_doByDraws_20 : decode cX8_doByDraws 20 = .ok (.invokevirtual 349, 3) := by decide +kernel
theorem dX8_doByDraws_23 : decode cX8_doByDraws 23 = .ok (.istore_n 2, 1) := by decide +kernel
theorem dX8_doByDraws_24 : decode cX8_doByDraws 24 = .ok (.aload_n 0, 1) := by decide +kernel
theorem dX8_doByDraws_25 : decode cX8_doByDraws 25 = .ok (.iconst 4, 1) := by decide +kernel
theorem dX8_doByDraws_26 : decode cX8_doByDraws 26 = .ok (.invokevirtual 349, 3) := by decide +kernel
theorem dX8_doByDraws_29 : decode cX8_doByDraws 29 = .ok (.istore_n 3, 1) := by decide +kernel
theorem dX8_doByDraws_30 : decode cX8_doByDraws 30 = .ok (.iload_n 3, 1) := by decide +kernel
theorem dX8_doByDraws_31 : decode cX8_doByDraws 31 = .ok (.ifCond .ne 27, 3) := by decide +kernel
theorem dX8_doByDraws_34 : decode cX8_doByDraws 34 = .ok (.aload_n 0, 1) := by decide +kernel
theorem dX8_doByDraws_35 : decode cX8_doByDraws 35 = .ok (.getfield 29, 3) := by decide +kernel
theorem dX8_doByDraws_38 : decode cX8_doByDraws 38 = .ok (.iload_n 1, 1) := by decide +kernel
theorem dX8_doByDraws_39 : decode cX8_doByDraws 39 = .ok (.iload_n 2, 1) := by decide +kernel
theorem dX8_doByDraws_40 : decode cX8_doByDraws 40 = .ok (.invokevirtual 225, 3) := by decide +kernel
theorem dX8_doByDraws_43 : decode cX8_doByDraws 43 = .ok (.ifCond .eq 15, 3) := by decide +kernel
theorem dX8_doByDraws_46 : decode cX8_doByDraws 46 = .ok (.aload_n 0, 1) := by decide +kernel
theorem dX8_doByDraws_47 : decode cX8_doByDraws 47 = .ok (.getfield 29, 3) := by decide +kernel
theorem dX8_doByDraws_50 : decode cX8_doByDraws 50 = .ok (.iload_n 1, 1) := by decide +kernel
theorem dX8_doByDraws_51 : decode cX8_doByDraws 51 = .ok (.iload_n 2, 1) := by decide +kernel
theorem dX8_doByDraws_52 : decode cX8_doByDraws 52 = .ok (.invokevirtual 229, 3) := by decide +kernel
theorem dX8_doByDraws_55 : decode cX8_doByDraws 55 = .ok (.goto 101, 3) := by decide +kernel
theorem dX8_doByDraws_58 : decode cX8_doByDraws 58 = .ok (.iload_n 3, 1) := by decide +kernel
theorem dX8_doByDraws_59 : decode cX8_doByDraws 59 = .ok (.iconst 1, 1) := by decide +kernel
theorem dX8_doByDraws_60 : decode cX8_doByDraws 60 = .ok (.if_icmp .ne 28, 3) := by decide +kernel
theorem dX8_doByDraws_63 : decode cX8_doByDraws 63 = .ok (.aload_n 0, 1) := by decide +kernel
theorem dX8_doByDraws_64 : decode cX8_doByDraws 64 = .ok (.getfield 29, 3) := by decide +kernel
theorem dX8_doByDraws_67 : decode cX8_doByDraws 67 = .ok (.getfield 173, 3) := by decide +kernel
theorem dX8_doByDraws_70 : decode cX8_doByDraws 70 = .ok (.iload_n 2, 1) := by decide +kernel
theorem dX8_doByDraws_71 : decode cX8_doByDraws 71 = .ok (.iaload, 1) := by decide +kernel
theorem dX8_doByDraws_72 : decode cX8_doByDraws 72 = .ok (.ifCond .le 16, 3) := by decide +kernel
theorem dX8_doByDraws_75 : decode cX8_doByDraws 75 = .ok (.aload_n 0, 1) := by decide +kernel
theorem dX8_doByDraws_76 : decode cX8_doByDraws 76 = .ok (.getfield 29, 3) := by decide +kernel
theorem dX8_doByDraws_79 : decode cX8_doByDraws 79 = .ok (.iload_n 1, 1) := by decide +kernel
theorem dX8_doByDraws_80 : decode cX8_doByDraws 80 = .ok (.iload_n 2, 1) := by decide +kernel
theorem dX8_doByDraws_81 : decode cX8_doByDraws 81 = .ok (.iconst 1, 1) := by decide +kernel
theorem dX8_doByDraws_82 : decode cX8_doByDraws 82 = .ok (.invokevirtual 245, 3) := by decide +kernel
theorem dX8_doByDraws_85 : decode cX8_doByDraws 85 = .ok (.goto 71, 3) := by decide +kernel
theorem dX8_doByDraws_88 : decode cX8_doByDraws 88 = .ok (.iload_n 3, 1) := by decide +kernel
theorem dX8_doByDraws_89 : decode cX8_doByDraws 89 = .ok (.iconst 2, 1) := by decide +kernel
theorem dX8_doByDraws_90 : decode cX8_doByDraws 90 = .ok (.if_icmp .ne 43, 3) := by decide +kernel
theorem dX8_doByDraws_93 : decode cX8_doByDraws 93 = .ok (.aload_n 0, 1) := by decide +kernel
theorem dX8_doByDraws_94 : decode cX8_doByDraws 94 = .ok (.getfield 29, 3) := by decide +kernel
theorem dX8_doByDraws_97 : decode cX8_doByDraws 97 = .ok (.iload_n 1, 1) := by decide +kernel
theorem dX8_doByDraws_98 : decode cX8_doByDraws 98 = .ok (.aload_n 0, 1) := by decide +kernel
theorem dX8_doByDraws_99 : decode cX8_doByDraws 99 = .ok (.getfield 19, 3) := by decide +kernel
theorem dX8_doByDraws_102 : decode cX8_doByDraws 102 = .ok (.iload_n 2, 1) := by decide +kernel
theorem dX8_doByDraws_103 : decode cX8_doByDraws 103 = .ok (.iconst 0, 1) := by decide +kernel
theorem dX8_doByDraws_104 : decode cX8_doByDraws 104 = .ok (.invokevirtual 183, 3) := by decide +kernel
theorem dX8_doByDraws_107 : decode cX8_doByDraws 107 = .ok (.invokevirtual 236, 3) := by decide +kernel
theorem dX8_doByDraws_110 : decode cX8_doByDraws 110 = .ok (.ifCond .eq 23, 3) := by decide +kernel
theorem dX8_doByDraws_113 : decode cX8_doByDraws 113 = .ok (.aload_n 0, 1) := by decide +kernel
theorem dX8_doByDraws_114 : decode cX8_doByDraws 114 = .ok (.getfield 29, 3) := by decide +kernel
theorem dX8_doByDraws_117 : decode cX8_doByDraws 117 = .ok (.iload_n 1, 1) := by decide +kernel
theorem dX8_doByDraws_118 : decode cX8_doByDraws 118 = .ok (.aload_n 0, 1) := by decide +kernel
theorem dX8_doByDraws_119 : decode cX8_doByDraws 119 = .ok (.getfield 19, 3) := by decide +kernel
theorem dX8_doByDraws_122 : decode cX8_doByDraws 122 = .ok (.iload_n 2, 1) := by decide +kernel
theorem dX8_doByDraws_123 : decode cX8_doByDraws 123 = .ok (.iconst 0, 1) := by decide +kernel
theorem dX8_doByDraws_124 : decode cX8_doByDraws 124 = .ok (.invokevirtual 183, 3) := by decide +kernel
theorem dX8_doByDraws_127 : decode cX8_doByDraws 127 = .ok (.invokevirtual 239, 3) := by decide +kernel
theorem dX8_doByDraws_130 : decode cX8_doByDraws 130 = .ok (.goto 26, 3) := by decide +kernel
theorem dX8_doByDraws_133 : decode cX8_doByDraws 133 = .ok (.iload_n 3, 1) := by decide +kernel
theorem dX8_doByDraws_134 : decode cX8_doByDraws 134 = .ok (.iconst 3, 1) := by decide +kernel
theorem dX8_doByDraws_135 : decode cX8_doByDraws 135 = .ok (.if_icmp .ne 21, 3) := by decide +kernel
theorem dX8_doByDraws_138 : decode cX8_doByDraws 138 = .ok (.aload_n 0, 1) := by decide +kernel
theorem dX8_doByDraws_139 : decode cX8_doByDraws 139 = .ok (.getfield 19, 3) := by decide +kernel
theorem dX8_doByDraws_142 : decode cX8_doByDraws 142 = .ok (.iload_n 2, 1) := by decide +kernel
theorem dX8_doByDraws_143 : decode cX8_doByDraws 143 = .ok (.invokevirtual 187, 3) := by decide +kernel
theorem dX8_doByDraws_146 : decode cX8_doByDraws 146 = .ok (.ifCond .eq 10, 3) := by decide +kernel
theorem dX8_doByDraws_149 : decode cX8_doByDraws 149 = .ok (.aload_n 0, 1) := by decide +kernel
theorem dX8_doByDraws_150 : decode cX8_doByDraws 150 = .ok (.getfield 29, 3) := by decide +kernel
theorem dX8_doByDraws_153 : decode cX8_doByDraws 153 = .ok (.invokevirtual 242, 3) := by decide +kernel
theorem dX8_doByDraws_156 : decode cX8_doByDraws 156 = .ok (.return_, 1) := by decide +kernel
theorem dX8_workOutCheap_0 : decode cX8_workOutCheap 0 = .ok (.iconst 0, 1) := by decide +kernel
theorem dX8_workOutCheap_1 : decode cX8_workOutCheap 1 = .ok (.istore_n 2, 1) := by decide +kernel
theorem dX8_workOutCheap_2 : decode cX8_workOutCheap 2 = .ok (.iload_n 2, 1) := by decide +kernel
theorem dX8_workOutCheap_3 : decode cX8_workOutCheap 3 = .ok (.bipush 8, 2) := by decide +kernel
theorem dX8_workOutCheap_5 : decode cX8_workOutCheap 5 = .ok (.if_icmp .ge 16, 3) := by decide +kernel
theorem dX8_workOutCheap_8 : decode cX8_workOutCheap 8 = .ok (.aload_n 0, 1) := by decide +kernel
theorem dX8_workOutCheap_9 : decode cX8_workOutCheap 9 = .ok (.getfield 70, 3) := by decide +kernel
theorem dX8_workOutCheap_12 : decode cX8_workOutCheap 12 = .ok (.iload_n 2, 1) := by decide +kernel
theorem dX8_workOutCheap_13 : decode cX8_workOutCheap 13 = .ok (.iconst (-1), 1) := by decide +kernel
theorem dX8_workOutCheap_14 : decode cX8_workOutCheap 14 = .ok (.iastore, 1) := by decide +kernel
theorem dX8_workOutCheap_15 : decode cX8_workOutCheap 15 = .ok (.iinc 2 1, 3) := by decide +kernel
theorem dX8_workOutCheap_18 : decode cX8_workOutCheap 18 = .ok (.goto (-16), 3) := by decide +kernel
theorem dX8_workOutCheap_21 : decode cX8_workOutCheap 21 = .ok (.iconst 0, 1) := by decide +kernel
theorem dX8_workOutCheap_22 : decode cX8_workOutCheap 22 = .ok (.istore_n 2, 1) := by decide +kernel
theorem dX8_workOutCheap_23 : decode cX8_workOutCheap 23 = .ok (.iload_n 2, 1) := by decide +kernel
theorem dX8_workOutCheap_24 : decode cX8_workOutCheap 24 = .ok (.aload_n 0, 1) := by decide +kernel
theorem dX8_workOutCheap_25 : decode cX8_workOutCheap 25 = .ok (.getfield 19, 3) := by decide +kernel
theorem dX8_workOutCheap_28 : decode cX8_workOutCheap 28 = .ok (.getfield 116, 3) := by decide +kernel
theorem dX8_workOutCheap_31 : decode cX8_workOutCheap 31 = .ok (.if_icmp .ge 88, 3) := by decide +kernel
theorem dX8_workOutCheap_34 : decode cX8_workOutCheap 34 = .ok (.iconst 0, 1) := by decide +kernel
theorem dX8_workOutCheap_35 : decode cX8_workOutCheap 35 = .ok (.istore_n 3, 1) := by decide +kernel
theorem dX8_workOutCheap_36 : decode cX8_workOutCheap 36 = .ok (.iload_n 3, 1) := by decide +kernel
theorem dX8_workOutCheap_37 : decode cX8_workOutCheap 37 = .ok (.aload_n 0, 1) := by decide +kernel
theorem dX8_workOutCheap_38 : decode cX8_workOutCheap 38 = .ok (.getfield 19, 3) := by decide +kernel
theorem dX8_workOutCheap_41 : decode cX8_workOutCheap 41 = .ok (.getfield 116, 3) := by decide +kernel
theorem dX8_workOutCheap_44 : decode cX8_workOutCheap 44 = .ok (.if_icmp .ge 69, 3) := by decide +kernel
theorem dX8_workOutCheap_47 : decode cX8_workOutCheap 47 = .ok (.iconst 0, 1) := by decide +kernel
theorem dX8_workOutCheap_48 : decode cX8_workOutCheap 48 = .ok (.istore 4, 2) := by decide +kernel
theorem dX8_workOutCheap_50 : decode cX8_workOutCheap 50 = .ok (.iload 4, 2) := by decide +kernel
theorem dX8_workOutCheap_52 : decode cX8_workOutCheap 52 = .ok (.iconst 4, 1) := by decide +kernel
theorem dX8_workOutCheap_53 : decode cX8_workOutCheap 53 = .ok (.if_icmp .ge 54, 3) := by decide +kernel
theorem dX8_workOutCheap_56 : decode cX8_workOutCheap 56 = .ok (.aload_n 0, 1) := by decide +kernel
theorem dX8_workOutCheap_57 : decode cX8_workOutCheap 57 = .ok (.iload_n 1, 1) := by decide +kernel
theorem dX8_workOutCheap_58 : decode cX8_workOutCheap 58 = .ok (.iload_n 3, 1) := by decide +kernel
theorem dX8_workOutCheap_59 : decode cX8_workOutCheap 59 = .ok (.iload 4, 2) := by decide +kernel
theorem dX8_workOutCheap_61 : decode cX8_workOutCheap 61 = .ok (.invokevirtual 352, 3) := by decide +kernel
theorem dX8_workOutCheap_64 : decode cX8_workOutCheap 64 = .ok (.istore 5, 2) := by decide +kernel
theorem dX8_workOutCheap_66 : decode cX8_workOutCheap 66 = .ok (.iload 5, 2) := by decide +kernel
theorem dX8_workOutCheap_68 : decode cX8_workOutCheap 68 = .ok (.iconst (-1), 1) := by decide +kernel
theorem dX8_workOutCheap_69 : decode cX8_workOutCheap 69 = .ok (.if_icmp .eq 32, 3) := by decide +kernel
theorem dX8_workOutCheap_72 : decode cX8_workOutCheap 72 = .ok (.aload_n 0, 1) := by decide +kernel
theorem dX8_workOutCheap_73 : decode cX8_workOutCheap 73 = .ok (.getfield 70, 3) := by decide +kernel
theorem dX8_workOutCheap_76 : decode cX8_workOutCheap 76 = .ok (.iload_n 3, 1) := by decide +kernel
theorem dX8_workOutCheap_77 : decode cX8_workOutCheap 77 = .ok (.iaload, 1) := by decide +kernel
theorem dX8_workOutCheap_78 : decode cX8_workOutCheap 78 = .ok (.iconst (-1), 1) := by decide +kernel
theorem dX8_workOutCheap_79 : decode cX8_workOutCheap 79 = .ok (.if_icmp .eq 14, 3) := by decide +kernel
theorem dX8_workOutCheap_82 : decode cX8_workOutCheap 82 = .ok (.iload 5, 2) := by decide +kernel
theorem dX8_workOutCheap_84 : decode cX8_workOutCheap 84 = .ok (.aload_n 0, 1) := by decide +kernel
theorem dX8_workOutCheap_85 : decode cX8_workOutCheap 85 = .ok (.getfield 70, 3) := by decide +kernel
theorem dX8_workOutCheap_88 : decode cX8_workOutCheap 88 = .ok (.iload_n 3, 1) := by decide +kernel
theorem dX8_workOutCheap_89 : decode cX8_workOutCheap 89 = .ok (.iaload, 1) := by decide +kernel
theorem dX8_workOutCheap_90 : decode cX8_workOutCheap 90 = .ok (.if_icmp .ge 11, 3) := by decide +kernel
theorem dX8_workOutCheap_93 : decode cX8_workOutCheap 93 = .ok (.aload_n 0, 1) := by decide +kernel
theorem dX8_workOutCheap_94 : decode cX8_workOutCheap 94 = .ok (.getfield 70, 3) := by decide +kernel
theorem dX8_workOutCheap_97 : decode cX8_workOutCheap 97 = .ok (.iload_n 3, 1) := by decide +kernel
theorem dX8_workOutCheap_98 : decode cX8_workOutCheap 98 = .ok (.iload 5, 2) := by decide +kernel
theorem dX8_workOutCheap_100 : decode cX8_workOutCheap 100 = .ok (.iastore, 1) := by decide +kernel
theorem dX8_workOutCheap_101 : decode cX8_workOutCheap 101 = .ok (.iinc 4 1, 3) := by decide +kernel
theorem dX8_workOutCheap_104 : decode cX8_workOutCheap 104 = .ok (.goto (-54), 3) := by decide +kernel
theorem dX8_workOutCheap_107 : decode cX8_workOutCheap 107 = .ok (.iinc 3 1, 3) := by decide +kernel
theorem dX8_workOutCheap_110 : decode cX8_workOutCheap 110 = .ok (.goto (-74), 3) := by decide +kernel
theorem dX8_workOutCheap_113 : decode cX8_workOutCheap 113 = .ok (.iinc 2 1, 3) := by decide +kernel
theorem dX8_workOutCheap_116 : decode cX8_workOutCheap 116 = .ok (.goto (-93), 3) := by decide +kernel
theorem dX8_workOutCheap_119 : decode cX8_workOutCheap 119 = .ok (.return_, 1) := by decide +kernel
theorem dX8_cheapestKind_0 : decode cX8_cheapestKind 0 = .ok (.iconst 0, 1) := by decide +kernel
theorem dX8_cheapestKind_1 : decode cX8_cheapestKind 1 = .ok (.istore_n 3, 1) := by decide +kernel
theorem dX8_cheapestKind_2 : decode cX8_cheapestKind 2 = .ok (.iload_n 3, 1) := by decide +kernel
theorem dX8_cheapestKind_3 : decode cX8_cheapestKind 3 = .ok (.iconst 4, 1) := by decide +kernel
theorem dX8_cheapestKind_4 : decode cX8_cheapestKind 4 = .ok (.if_icmp .ge 37, 3) := by decide +kernel
theorem dX8_cheapestKind_7 : decode cX8_cheapestKind 7 = .ok (.aload_n 0, 1) := by decide +kernel
theorem dX8_cheapestKind_8 : decode cX8_cheapestKind 8 = .ok (.getfield 70, 3) := by decide +kernel
theorem dX8_cheapestKind_11 : decode cX8_cheapestKind 11 = .ok (.iload_n 2, 1) := by decide +kernel
theorem dX8_cheapestKind_12 : decode cX8_cheapestKind 12 = .ok (.iaload, 1) := by decide +kernel
theorem dX8_cheapestKind_13 : decode cX8_cheapestKind 13 = .ok (.iconst (-1), 1) := by decide +kernel
theorem dX8_cheapestKind_14 : decode cX8_cheapestKind 14 = .ok (.if_icmp .eq 21, 3) := by decide +kernel
theorem dX8_cheapestKind_17 : decode cX8_cheapestKind 17 = .ok (.aload_n 0, 1) := by decide +kernel
theorem dX8_cheapestKind_18 : decode cX8_cheapestKind 18 = .ok (.iload_n 1, 1) := by decide +kernel
theorem dX8_cheapestKind_19 : decode cX8_cheapestKind 19 = .ok (.iload_n 2, 1) := by decide +kernel
theorem dX8_cheapestKind_20 : decode cX8_cheapestKind 20 = .ok (.iload_n 3, 1) := by decide +kernel
theorem dX8_cheapestKind_21 : decode cX8_cheapestKind 21 = .ok (.invokevirtual 352, 3) := by decide +kernel
theorem dX8_cheapestKind_24 : decode cX8_cheapestKind 24 = .ok (.aload_n 0, 1) := by decide +kernel
theorem dX8_cheapestKind_25 : decode cX8_cheapestKind 25 = .ok (.getfield 70, 3) := by decide +kernel
theorem dX8_cheapestKind_28 : decode cX8_cheapestKind 28 = .ok (.iload_n 2, 1) := by decide +kernel
theorem dX8_cheapestKind_29 : decode cX8_cheapestKind 29 = .ok (.iaload, 1) := by decide +kernel
theorem dX8_cheapestKind_30 : decode cX8_cheapestKind 30 = .ok (.if_icmp .ne 5, 3) := by decide +kernel
theorem dX8_cheapestKind_33 : decode cX8_cheapestKind 33 = .ok (.iload_n 3, 1) := by decide +kernel
theorem dX8_cheapestKind_34 : decode cX8_cheapestKind 34 = .ok (.ireturn, 1) := by decide +kernel
theorem dX8_cheapestKind_35 : decode cX8_cheapestKind 35 = .ok (.iinc 3 1, 3) := by decide +kernel
theorem dX8_cheapestKind_38 : decode cX8_cheapestKind 38 = .ok (.goto (-36), 3) := by decide +kernel
theorem dX8_cheapestKind_41 : decode cX8_cheapestKind 41 = .ok (.iconst (-1), 1) := by decide +kernel
theorem dX8_cheapestKind_42 : decode cX8_cheapestKind 42 = .ok (.ireturn, 1) := by decide +kernel
theorem dX8_costBy_0 : decode cX8_costBy 0 = .ok (.iload_n 3, 1) := by decide +kernel
theorem dX8_costBy_1 : decode cX8_costBy 1 = .ok (.ifCond .ne 29, 3) := by decide +kernel
theorem dX8_costBy_4 : decode cX8_costBy 4 = .ok (.aload_n 0, 1) := by decide +kernel
theorem dX8_costBy_5 : decode cX8_costBy 5 = .ok (.getfield 29, 3) := by decide +kernel
theorem dX8_costBy_8 : decode cX8_costBy 8 = .ok (.iload_n 1, 1) := by decide +kernel
theorem dX8_costBy_9 : decode cX8_costBy 9 = .ok (.iload_n 2, 1) := by decide +kernel
theorem dX8_costBy_10 : decode cX8_costBy 10 = .ok (.invokevirtual 225, 3) := by decide +kernel
theorem dX8_costBy_13 : decode cX8_costBy 13 = .ok (.ifCond .eq 15, 3) := by decide +kernel
theorem dX8_costBy_16 : decode cX8_costBy 16 = .ok (.aload_n 0, 1) := by decide +kernel
theorem dX8_costBy_17 : decode cX8_costBy 17 = .ok (.getfield 19, 3) := by decide +kernel
theorem dX8_costBy_20 : decode cX8_costBy 20 = .ok (.getfield 167, 3) := by decide +kernel
theorem dX8_costBy_23 : decode cX8_costBy 23 = .ok (.iload_n 2, 1) := by decide +kernel
theorem dX8_costBy_24 : decode cX8_costBy 24 = .ok (.iaload, 1) := by decide +kernel
theorem dX8_costBy_25 : decode cX8_costBy 25 = .ok (.goto 4, 3) := by decide +kernel
theorem dX8_costBy_28 : decode cX8_costBy 28 = .ok (.iconst (-1), 1) := by decide +kernel
theorem dX8_costBy_29 : decode cX8_costBy 29 = .ok (.ireturn, 1) := by decide +kernel
theorem dX8_costBy_30 : decode cX8_costBy 30 = .ok (.iload_n 3, 1) := by decide +kernel
theorem dX8_costBy_31 : decode cX8_costBy 31 = .ok (.iconst 1, 1) := by decide +kernel
theorem dX8_costBy_32 : decode cX8_costBy 32 = .ok (.if_icmp .ne 20, 3) := by decide +kernel
theorem dX8_costBy_35 : decode cX8_costBy 35 = .ok (.aload_n 0, 1) := by decide +kernel
theorem dX8_costBy_36 : decode cX8_costBy 36 = .ok (.getfield 19, 3) := by decide +kernel
theorem dX8_costBy_39 : decode cX8_costBy 39 = .ok (.iload_n 2, 1) := by decide +kernel
theorem dX8_costBy_40 : decode cX8_costBy 40 = .ok (.invokevirtual 187, 3) := by decide +kernel
theorem dX8_costBy_43 : decode cX8_costBy 43 = .ok (.ifCond .eq 7, 3) := by decide +kernel
theorem dX8_costBy_46 : decode cX8_costBy 46 = .ok (.iconst 0, 1) := by decide +kernel
theorem dX8_costBy_47 : decode cX8_costBy 47 = .ok (.goto 4, 3) := by decide +kernel
theorem dX8_costBy_50 : decode cX8_costBy 50 = .ok (.iconst (-1), 1) := by decide +kernel
theorem dX8_costBy_51 : decode cX8_costBy 51 = .ok (.ireturn, 1) := by decide +kernel
theorem dX8_costBy_52 : decode cX8_costBy 52 = .ok (.aload_n 0, 1) := by decide +kernel
theorem dX8_costBy_53 : decode cX8_costBy 53 = .ok (.aload_n 0, 1) := by decide +kernel
theorem dX8_costBy_54 : decode cX8_costBy 54 = .ok (.getfield 19, 3) := by decide +kernel
theorem dX8_costBy_57 : decode cX8_costBy 57 = .ok (.iload_n 2, 1) := by decide +kernel
theorem dX8_costBy_58 : decode cX8_costBy 58 = .ok (.iload_n 3, 1) := by decide +kernel
theorem dX8_costBy_59 : decode cX8_costBy 59 = .ok (.iconst 2, 1) := by decide +kernel
theorem dX8_costBy_60 : decode cX8_costBy 60 = .ok (.isub, 1) := by decide +kernel
theorem dX8_costBy_61 : decode cX8_costBy 61 = .ok (.invokevirtual 183, 3) := by decide +kernel
theorem dX8_costBy_64 : decode cX8_costBy 64 = .ok (.invokevirtual 355, 3) := by decide +kernel
theorem dX8_costBy_67 : decode cX8_costBy 67 = .ok (.ireturn, 1) := by decide +kernel
theorem dX8_cheapTogether_0 : decode cX8_cheapTogether 0 = .ok (.iconst 0, 1) := by decide +kernel
theorem dX8_cheapTogether_1 : decode cX8_cheapTogether 1 = .ok (.istore_n 2, 1) := by decide +kernel
theorem dX8_cheapTogether_2 : decode cX8_cheapTogether 2 = .ok (.iconst 0, 1) := by decide +kernel
theorem dX8_cheapTogether_3 : decode cX8_cheapTogether 3 = .ok (.istore_n 3, 1) := by decide +kernel
theorem dX8_cheapTogether_4 : decode cX8_cheapTogether 4 = .ok (.iload_n 3, 1) := by decide +kernel
theorem dX8_cheapTogether_5 : decode cX8_cheapTogether 5 = .ok (.bipush 8, 2) := by decide +kernel
theorem dX8_cheapTogether_7 : decode cX8_cheapTogether 7 = .ok (.if_icmp .ge 38, 3) := by decide +kernel
theorem dX8_cheapTogether_10 : decode cX8_cheapTogether 10 = .ok (.iload_n 1, 1) := by decide +kernel
theorem dX8_cheapTogether_11 : decode cX8_cheapTogether 11 = .ok (.iload_n 3, 1) := by decide +kernel
theorem dX8_cheapTogether_12 : decode cX8_cheapTogether 12 = .ok (.ishr, 1) := by decide +kernel
theorem dX8_cheapTogether_13 : decode cX8_cheapTogether 13 = .ok (.iconst 1, 1) := by decide +kernel
theorem dX8_cheapTogether_14 : decode cX8_cheapTogether 14 = .ok (.iand, 1) := by decide +kernel
theorem dX8_cheapTogether_15 : decode cX8_cheapTogether 15 = .ok (.ifCond .eq 24, 3) := by decide +kernel
theorem dX8_cheapTogether_18 : decode cX8_cheapTogether 18 = .ok (.aload_n 0, 1) := by decide +kernel
theorem dX8_cheapTogether_19 : decode cX8_cheapTogether 19 = .ok (.getfield 70, 3) := by decide +kernel
theorem dX8_cheapTogether_22 : decode cX8_cheapTogether 22 = .ok (.iload_n 3, 1) := by decide +kernel
theorem dX8_cheapTogether_23 : decode cX8_cheapTogether 23 = .ok (.iaload, 1) := by decide +kernel
theorem dX8_cheapTogether_24 : decode cX8_cheapTogether 24 = .ok (.iconst (-1), 1) := by decide +kernel
theorem dX8_cheapTogether_25 : decode cX8_cheapTogether 25 = .ok (.if_icmp .ne 5, 3) := by decide +kernel
theorem dX8_cheapTogether_28 : decode cX8_cheapTogether 28 = .ok (.iconst (-1), 1) := by decide +kernel
theorem dX8_cheapTogether_29 : decode cX8_cheapTogether 29 = .ok (.ireturn, 1) := by decide +kernel
theorem dX8_cheapTogether_30 : decode cX8_cheapTogether 30 = .ok (.iload_n 2, 1) := by decide +kernel
theorem dX8_cheapTogether_31 : decode cX8_cheapTogether 31 = .ok (.aload_n 0, 1) := by decide +kernel
theorem dX8_cheapTogether_32 : decode cX8_cheapTogether 32 = .ok (.getfield 70, 3) := by decide +kernel
theorem dX8_cheapTogether_35 : decode cX8_cheapTogether 35 = .ok (.iload_n 3, 1) := by decide +kernel
theorem dX8_cheapTogether_36 : decode cX8_cheapTogether 36 = .ok (.iaload, 1) := by decide +kernel
theorem dX8_cheapTogether_37 : decode cX8_cheapTogether 37 = .ok (.iadd, 1) := by decide +kernel
theorem dX8_cheapTogether_38 : decode cX8_cheapTogether 38 = .ok (.istore_n 2, 1) := by decide +kernel
theorem dX8_cheapTogether_39 : decode cX8_cheapTogether 39 = .ok (.iinc 3 1, 3) := by decide +kernel
theorem dX8_cheapTogether_42 : decode cX8_cheapTogether 42 = .ok (.goto (-38), 3) := by decide +kernel
theorem dX8_cheapTogether_45 : decode cX8_cheapTogether 45 = .ok (.iload_n 1, 1) := by decide +kernel
theorem dX8_cheapTogether_46 : decode cX8_cheapTogether 46 = .ok (.ifCond .ne 7, 3) := by decide +kernel
theorem dX8_cheapTogether_49 : decode cX8_cheapTogether 49 = .ok (.iconst (-1), 1) := by decide +kernel
theorem dX8_cheapTogether_50 : decode cX8_cheapTogether 50 = .ok (.goto 4, 3) := by decide +kernel
theorem dX8_cheapTogether_53 : decode cX8_cheapTogether 53 = .ok (.iload_n 2, 1) := by decide +kernel
theorem dX8_cheapTogether_54 : decode cX8_cheapTogether 54 = .ok (.ireturn, 1) := by decide +kernel
theorem dX8_isToComeOf_0 : decode cX8_isToComeOf 0 = .ok (.aload_n 0, 1) := by decide +kernel
theorem dX8_isToComeOf_1 : decode cX8_isToComeOf 1 = .ok (.getfield 19, 3) := by decide +kernel
theorem dX8_isToComeOf_4 : decode cX8_isToComeOf 4 = .ok (.getfield 202, 3) := by decide +kernel
theorem dX8_isToComeOf_7 : decode cX8_isToComeOf 7 = .ok (.iload_n 1, 1) := by decide +kernel
theorem dX8_isToComeOf_8 : decode cX8_isToComeOf 8 = .ok (.iaload, 1) := by decide +kernel
theorem dX8_isToComeOf_9 : decode cX8_isToComeOf 9 = .ok (.iload_n 2, 1) := by decide +kernel
theorem dX8_isToComeOf_10 : decode cX8_isToComeOf 10 = .ok (.if_icmp .ne 22, 3) := by decide +kernel
theorem dX8_isToComeOf_13 : decode cX8_isToComeOf 13 = .ok (.aload_n 0, 1) := by decide +kernel
theorem dX8_isToComeOf_14 : decode cX8_isToComeOf 14 = .ok (.getfield 19, 3) := by decide +kernel
theorem dX8_isToComeOf_17 : decode cX8_isToComeOf 17 = .ok (.iload_n 1, 1) := by decide +kernel
theorem dX8_isToComeOf_18 : decode cX8_isToComeOf 18 = .ok (.aload_n 0, 1) := by decide +kernel
theorem dX8_isToComeOf_19 : decode cX8_isToComeOf 19 = .ok (.invokevirtual 135, 3) := by decide +kernel
theorem dX8_isToComeOf_22 : decode cX8_isToComeOf 22 = .ok (.invokevirtual 211, 3) := by decide +kernel
theorem dX8_isToComeOf_25 : decode cX8_isToComeOf 25 = .ok (.ifCond .eq 7, 3) := by decide +kernel
theorem dX8_isToComeOf_28 : decode cX8_isToComeOf 28 = .ok (.iconst 1, 1) := by decide +kernel
theorem dX8_isToComeOf_29 : decode cX8_isToComeOf 29 = .ok (.goto 4, 3) := by decide +kernel
theorem dX8_isToComeOf_32 : decode cX8_isToComeOf 32 = .ok (.iconst 0, 1) := by decide +kernel
theorem dX8_isToComeOf_33 : decode cX8_isToComeOf 33 = .ok (.ireturn, 1) := by decide +kernel
theorem dX8_rankByWorth_0 : decode cX8_rankByWorth 0 = .ok (.aload_n 0, 1) := by decide +kernel
theorem dX8_rankByWorth_1 : decode cX8_rankByWorth 1 = .ok (.getfield 19, 3) := by decide +kernel
theorem dX8_rankByWorth_4 : decode cX8_rankByWorth 4 = .ok (.getfield 208, 3) := by decide +kernel
theorem dX8_rankByWorth_7 : decode cX8_rankByWorth 7 = .ok (.iload_n 1, 1) := by decide +kernel
theorem dX8_rankByWorth_8 : decode cX8_rankByWorth 8 = .ok (.iaload, 1) := by decide +kernel
theorem dX8_rankByWorth_9 : decode cX8_rankByWorth 9 = .ok (.istore_n 3, 1) := by decide +kernel
theorem dX8_rankByWorth_10 : decode cX8_rankByWorth 10 = .ok (.iconst 0, 1) := by decide +kernel
theorem dX8_rankByWorth_11 : decode cX8_rankByWorth 11 = .ok (.istore 4, 2) := by decide +kernel
theorem dX8_rankByWorth_13 : decode cX8_rankByWorth 13 = .ok (.iconst 0, 1) := by decide +kernel
theorem dX8_rankByWorth_14 : decode cX8_rankByWorth 14 = .ok (.istore 5, 2) := by decide +kernel
theorem dX8_rankByWorth_16 : decode cX8_rankByWorth 16 = .ok (.iload 5, 2) := by decide +kernel
theorem dX8_rankByWorth_18 : decode cX8_rankByWorth 18 = .ok (.aload_n 0, 1) := by decide +kernel
theorem dX8_rankByWorth_19 : decode cX8_rankByWorth 19 = .ok (.getfield 19, 3) := by decide +kernel
theorem dX8_rankByWorth_22 : decode cX8_rankByWorth 22 = .ok (.getfield 131, 3) := by decide +kernel
theorem dX8_rankByWorth_25 : decode cX8_rankByWorth 25 = .ok (.if_icmp .ge 52, 3) := by decide +kernel
theorem dX8_rankByWorth_28 : decode cX8_rankByWorth 28 = .ok (.aload_n 0, 1) := by decide +kernel
theorem dX8_rankByWorth_29 : decode cX8_rankByWorth 29 = .ok (.getfield 19, 3) := by decide +kernel
theorem dX8_rankByWorth_32 : decode cX8_rankByWorth 32 = .ok (.getfield 208, 3) := by decide +kernel
theorem dX8_rankByWorth_35 : decode cX8_rankByWorth 35 = .ok (.iload 5, 2) := by decide +kernel
theorem dX8_rankByWorth_37 : decode cX8_rankByWorth 37 = .ok (.iaload, 1) := by decide +kernel
theorem dX8_rankByWorth_38 : decode cX8_rankByWorth 38 = .ok (.istore 6, 2) := by decide +kernel
theorem dX8_rankByWorth_40 : decode cX8_rankByWorth 40 = .ok (.aload_n 0, 1) := by decide +kernel
theorem dX8_rankByWorth_41 : decode cX8_rankByWorth 41 = .ok (.iload 5, 2) := by decide +kernel
theorem dX8_rankByWorth_43 : decode cX8_rankByWorth 43 = .ok (.iload_n 2, 1) := by decide +kernel
theorem dX8_rankByWorth_44 : decode cX8_rankByWorth 44 = .ok (.invokevirtual 283, 3) := by decide +kernel
theorem dX8_rankByWorth_47 : decode cX8_rankByWorth 47 = .ok (.ifCond .eq 24, 3) := by decide +kernel
theorem dX8_rankByWorth_50 : decode cX8_rankByWorth 50 = .ok (.iload 6, 2) := by decide +kernel
theorem dX8_rankByWorth_52 : decode cX8_rankByWorth 52 = .ok (.iload_n 3, 1) := by decide +kernel
theorem dX8_rankByWorth_53 : decode cX8_rankByWorth 53 = .ok (.if_icmp .gt 15, 3) := by decide +kernel
theorem dX8_rankByWorth_56 : decode cX8_rankByWorth 56 = .ok (.iload 6, 2) := by decide +kernel
theorem dX8_rankByWorth_58 : decode cX8_rankByWorth 58 = .ok (.iload_n 3, 1) := by decide +kernel
theorem dX8_rankByWorth_59 : decode cX8_rankByWorth 59 = .ok (.if_icmp .ne 12, 3) := by decide +kernel
theorem dX8_rankByWorth_62 : decode cX8_rankByWorth 62 = .ok (.iload 5, 2) := by decide +kernel
theorem dX8_rankByWorth_64 : decode cX8_rankByWorth 64 = .ok (.iload_n 1, 1) := by decide +kernel
theorem dX8_rankByWorth_65 : decode cX8_rankByWorth 65 = .ok (.if_icmp .ge 6, 3) := by decide +kernel
theorem dX8_rankByWorth_68 : decode cX8_rankByWorth 68 = .ok (.iinc 4 1, 3) := by decide +kernel
theorem dX8_rankByWorth_71 : decode cX8_rankByWorth 71 = .ok (.iinc 5 1, 3) := by decide +kernel
theorem dX8_rankByWorth_74 : decode cX8_rankByWorth 74 = .ok (.goto (-58), 3) := by decide +kernel
theorem dX8_rankByWorth_77 : decode cX8_rankByWorth 77 = .ok (.iload 4, 2) := by decide +kernel
theorem dX8_rankByWorth_79 : decode cX8_rankByWorth 79 = .ok (.ireturn, 1) := by decide +kernel
theorem dX8_needsToCome_0 : decode cX8_needsToCome 0 = .ok (.iconst 0, 1) := by decide +kernel
theorem dX8_needsToCome_1 : decode cX8_needsToCome 1 = .ok (.istore_n 3, 1) := by decide +kernel
theorem dX8_needsToCome_2 : decode cX8_needsToCome 2 = .ok (.iconst 0, 1) := by decide +kernel
theorem dX8_needsToCome_3 : decode cX8_needsToCome 3 = .ok (.istore 4, 2) := by decide +kernel
theorem dX8_needsToCome_5 : decode cX8_needsToCome 5 = .ok (.iload 4, 2) := by decide +kernel
theorem dX8_needsToCome_7 : decode cX8_needsToCome 7 = .ok (.aload_n 0, 1) := by decide +kernel
theorem dX8_needsToCome_8 : decode cX8_needsToCome 8 = .ok (.getfield 19, 3) := by decide +kernel
theorem dX8_needsToCome_11 : decode cX8_needsToCome 11 = .ok (.getfield 131, 3) := by decide +kernel
theorem dX8_needsToCome_14 : decode cX8_needsToCome 14 = .ok (.if_icmp .ge 36, 3) := by decide +kernel
theorem dX8_needsToCome_17 : decode cX8_needsToCome 17 = .ok (.aload_n 0, 1) := by decide +kernel
theorem dX8_needsToCome_18 : decode cX8_needsToCome 18 = .ok (.getfield 19, 3) := by decide +kernel
theorem dX8_needsToCome_21 : decode cX8_needsToCome 21 = .ok (.getfield 199, 3) := by decide +kernel
theorem dX8_needsToCome_24 : decode cX8_needsToCome 24 = .ok (.iload 4, 2) := by decide +kernel
theorem dX8_needsToCome_26 : decode cX8_needsToCome 26 = .ok (.iaload, 1) := by decide +kernel
theorem dX8_needsToCome_27 : decode cX8_needsToCome 27 = .ok (.iload_n 1, 1) := by decide +kernel
theorem dX8_needsToCome_28 : decode cX8_needsToCome 28 = .ok (.if_icmp .ne 16, 3) := by decide +kernel
theorem dX8_needsToCome_31 : decode cX8_needsToCome 31 = .ok (.aload_n 0, 1) := by decide +kernel
theorem dX8_needsToCome_32 : decode cX8_needsToCome 32 = .ok (.iload 4, 2) := by decide +kernel
theorem dX8_needsToCome_34 : decode cX8_needsToCome 34 = .ok (.iload_n 2, 1) := by decide +kernel
theorem dX8_needsToCome_35 : decode cX8_needsToCome 35 = .ok (.invokevirtual 283, 3) := by decide +kernel
theorem dX8_needsToCome_38 : decode cX8_needsToCome 38 = .ok (.ifCond .eq 6, 3) := by decide +kernel
theorem dX8_needsToCome_41 : decode cX8_needsToCome 41 = .ok (.iinc 3 1, 3) := by decide +kernel
theorem dX8_needsToCome_44 : decode cX8_needsToCome 44 = .ok (.iinc 4 1, 3) := by decide +kernel
theorem dX8_needsToCome_47 : decode cX8_needsToCome 47 = .ok (.goto (-42), 3) := by decide +kernel
theorem dX8_needsToCome_50 : decode cX8_needsToCome 50 = .ok (.iload_n 3, 1) := by decide +kernel
theorem dX8_needsToCome_51 : decode cX8_needsToCome 51 = .ok (.ireturn, 1) := by decide +kernel
theorem dX8_wouldSell_0 : decode cX8_wouldSell 0 = .ok (.aload_n 0, 1) := by decide +kernel
theorem dX8_wouldSell_1 : decode cX8_wouldSell 1 = .ok (.getfield 29, 3) := by decide +kernel
theorem dX8_wouldSell_4 : decode cX8_wouldSell 4 = .ok (.getfield 173, 3) := by decide +kernel
theorem dX8_wouldSell_7 : decode cX8_wouldSell 7 = .ok (.iload_n 3, 1) := by decide +kernel
theorem dX8_wouldSell_8 : decode cX8_wouldSell 8 = .ok (.iaload, 1) := by decide +kernel
theorem dX8_wouldSell_9 : decode cX8_wouldSell 9 = .ok (.ifCond .ne 49, 3) := by decide +kernel
theorem dX8_wouldSell_12 : decode cX8_wouldSell 12 = .ok (.aload_n 0, 1) := by decide +kernel
theorem dX8_wouldSell_13 : decode cX8_wouldSell 13 = .ok (.getfield 29, 3) := by decide +kernel
theorem dX8_wouldSell_16 : decode cX8_wouldSell 16 = .ok (.iload_n 1, 1) := by decide +kernel
theorem dX8_wouldSell_17 : decode cX8_wouldSell 17 = .ok (.iload_n 3, 1) := by decide +kernel
theorem dX8_wouldSell_18 : decode cX8_wouldSell 18 = .ok (.invokevirtual 193, 3) := by decide +kernel
theorem dX8_wouldSell_21 : decode cX8_wouldSell 21 = .ok (.ifCond .le 37, 3) := by decide +kernel
theorem dX8_wouldSell_24 : decode cX8_wouldSell 24 = .ok (.aload_n 0, 1) := by decide +kernel
theorem dX8_wouldSell_25 : decode cX8_wouldSell 25 = .ok (.iload_n 1, 1) := by decide +kernel
theorem dX8_wouldSell_26 : decode cX8_wouldSell 26 = .ok (.iload_n 3, 1) := by decide +kernel
theorem dX8_wouldSell_27 : decode cX8_wouldSell 27 = .ok (.invokevirtual 293, 3) := by decide +kernel
theorem dX8_wouldSell_30 : decode cX8_wouldSell 30 = .ok (.ifCond .ne 28, 3) := by decide +kernel
theorem dX8_wouldSell_33 : decode cX8_wouldSell 33 = .ok (.aload_n 0, 1) := by decide +kernel
theorem dX8_wouldSell_34 : decode cX8_wouldSell 34 = .ok (.getfield 29, 3) := by decide +kernel
theorem dX8_wouldSell_37 : decode cX8_wouldSell 37 = .ok (.iload_n 2, 1) := by decide +kernel
theorem dX8_wouldSell_38 : decode cX8_wouldSell 38 = .ok (.iload_n 3, 1) := by decide +kernel
theorem dX8_wouldSell_39 : decode cX8_wouldSell 39 = .ok (.invokevirtual 193, 3) := by decide +kernel
theorem dX8_wouldSell_42 : decode cX8_wouldSell 42 = .ok (.ifCond .ne 16, 3) := by decide +kernel
theorem dX8_wouldSell_45 : decode cX8_wouldSell 45 = .ok (.aload_n 0, 1) := by decide +kernel
theorem dX8_wouldSell_46 : decode cX8_wouldSell 46 = .ok (.iload_n 2, 1) := by decide +kernel
theorem dX8_wouldSell_47 : decode cX8_wouldSell 47 = .ok (.iload_n 3, 1) := by decide +kernel
theorem dX8_wouldSell_48 : decode cX8_wouldSell 48 = .ok (.invokevirtual 293, 3) := by decide +kernel
theorem dX8_wouldSell_51 : decode cX8_wouldSell 51 = .ok (.ifCond .le 7, 3) := by decide +kernel
theorem dX8_wouldSell_54 : decode cX8_wouldSell 54 = .ok (.iconst 1, 1) := by decide +kernel
theorem dX8_wouldSell_55 : decode cX8_wouldSell 55 = .ok (.goto 4, 3) := by decide +kernel
theorem dX8_wouldSell_58 : decode cX8_wouldSell 58 = .ok (.iconst 0, 1) := by decide +kernel
theorem dX8_wouldSell_59 : decode cX8_wouldSell 59 = .ok (.ireturn, 1) := by decide +kernel
theorem dX8_oneNightMore_0 : decode cX8_oneNightMore 0 = .ok (.iconst 0, 1) := by decide +kernel
theorem dX8_oneNightMore_1 : decode cX8_oneNightMore 1 = .ok (.istore_n 2, 1) := by decide +kernel
theorem dX8_oneNightMore_2 : decode cX8_oneNightMore 2 = .ok (.iconst 1, 1) := by decide +kernel
theorem dX8_oneNightMore_3 : decode cX8_oneNightMore 3 = .ok (.istore_n 3, 1) := by decide +kernel
theorem dX8_oneNightMore_4 : decode cX8_oneNightMore 4 = .ok (.iload_n 3, 1) := by decide +kernel
theorem dX8_oneNightMore_5 : decode cX8_oneNightMore 5 = .ok (.bipush 6, 2) := by decide +kernel
theorem dX8_oneNightMore_7 : decode cX8_oneNightMore 7 = .ok (.if_icmp .gt 23, 3) := by decide +kernel
theorem dX8_oneNightMore_10 : decode cX8_oneNightMore 10 = .ok (.iload_n 2, 1) := by decide +kernel
theorem dX8_oneNightMore_11 : decode cX8_oneNightMore 11 = .ok (.sipush 1000, 3) := by decide +kernel
theorem dX8_oneNightMore_14 : decode cX8_oneNightMore 14 = .ok (.iload_n 3, 1) := by decide +kernel
theorem dX8_oneNightMore_15 : decode cX8_oneNightMore 15 = .ok (.imul, 1) := by decide +kernel
theorem dX8_oneNightMore_16 : decode cX8_oneNightMore 16 = .ok (.iload_n 1, 1) := by decide +kernel
theorem dX8_oneNightMore_17 : decode cX8_oneNightMore 17 = .ok (.iadd, 1) := by decide +kernel
theorem dX8_oneNightMore_18 : decode cX8_oneNightMore 18 = .ok (.iload_n 0, 1) := by decide +kernel
theorem dX8_oneNightMore_19 : decode cX8_oneNightMore 19 = .ok (.invokestatic 296, 3) := by decide +kernel
theorem dX8_oneNightMore_22 : decode cX8_oneNightMore 22 = .ok (.iadd, 1) := by decide +kernel
theorem dX8_oneNightMore_23 : decode cX8_oneNightMore 23 = .ok (.istore_n 2, 1) := by decide +kernel
theorem dX8_oneNightMore_24 : decode cX8_oneNightMore 24 = .ok (.iinc 3 1, 3) := by decide +kernel
theorem dX8_oneNightMore_27 : decode cX8_oneNightMore 27 = .ok (.goto (-23), 3) := by decide +kernel
theorem dX8_oneNightMore_30 : decode cX8_oneNightMore 30 = .ok (.iload_n 2, 1) := by decide +kernel
theorem dX8_oneNightMore_31 : decode cX8_oneNightMore 31 = .ok (.bipush 6, 2) := by decide +kernel
theorem dX8_oneNightMore_33 : decode cX8_oneNightMore 33 = .ok (.idiv, 1) := by decide +kernel
theorem dX8_oneNightMore_34 : decode cX8_oneNightMore 34 = .ok (.ireturn, 1) := by decide +kernel
theorem dX8_greatestPart_0 : decode cX8_greatestPart 0 = .ok (.iconst 0, 1) := by decide +kernel
theorem dX8_greatestPart_1 : decode cX8_greatestPart 1 = .ok (.istore 4, 2) := by decide +kernel
theorem dX8_greatestPart_3 : decode cX8_greatestPart 3 = .ok (.iconst 0, 1) := by decide +kernel
theorem dX8_greatestPart_4 : decode cX8_greatestPart 4 = .ok (.istore 5, 2) := by decide +kernel
theorem dX8_greatestPart_6 : decode cX8_greatestPart 6 = .ok (.iconst 0, 1) := by decide +kernel
theorem dX8_greatestPart_7 : decode cX8_greatestPart 7 = .ok (.istore 6, 2) := by decide +kernel
theorem dX8_greatestPart_9 : decode cX8_greatestPart 9 = .ok (.iload 6, 2) := by decide +kernel
theorem dX8_greatestPart_11 : decode cX8_greatestPart 11 = .ok (.aload_n 0, 1) := by decide +kernel
theorem dX8_greatestPart_12 : decode cX8_greatestPart 12 = .ok (.getfield 19, 3) := by decide +kernel
theorem dX8_greatestPart_15 : decode cX8_greatestPart 15 = .ok (.getfield 128, 3) := by decide +kernel
theorem dX8_greatestPart_18 : decode cX8_greatestPart 18 = .ok (.if_icmp .ge 44, 3) := by decide +kernel
theorem dX8_greatestPart_21 : decode cX8_greatestPart 21 = .ok (.iload_n 1, 1) := by decide +kernel
theorem dX8_greatestPart_22 : decode cX8_greatestPart 22 = .ok (.iload 6, 2) := by decide +kernel
theorem dX8_greatestPart_24 : decode cX8_greatestPart 24 = .ok (.ishr, 1) := by decide +kernel
theorem dX8_greatestPart_25 : decode cX8_greatestPart 25 = .ok (.iconst 1, 1) := by decide +kernel
theorem dX8_greatestPart_26 : decode cX8_greatestPart 26 = .ok (.iand, 1) := by decide +kernel
theorem dX8_greatestPart_27 : decode cX8_greatestPart 27 = .ok (.ifCond .ne 6, 3) := by decide +kernel
theorem dX8_greatestPart_30 : decode cX8_greatestPart 30 = .ok (.goto 26, 3) := by decide +kernel
theorem dX8_greatestPart_33 : decode cX8_greatestPart 33 = .ok (.aload_n 0, 1) := by decide +kernel
theorem dX8_greatestPart_34 : decode cX8_greatestPart 34 = .ok (.getfield 19, 3) := by decide +kernel
theorem dX8_greatestPart_37 : decode cX8_greatestPart 37 = .ok (.iload 6, 2) := by decide +kernel
theorem dX8_greatestPart_39 : decode cX8_greatestPart 39 = .ok (.iload_n 2, 1) := by decide +kernel
theorem dX8_greatestPart_40 : decode cX8_greatestPart 40 = .ok (.iload_n 3, 1) := by decide +kernel
theorem dX8_greatestPart_41 : decode cX8_greatestPart 41 = .ok (.invokevirtual 358, 3) := by decide +kernel
theorem dX8_greatestPart_44 : decode cX8_greatestPart 44 = .ok (.ifCond .eq 9, 3) := by decide +kernel
theorem dX8_greatestPart_47 : decode cX8_greatestPart 47 = .ok (.iinc 4 1, 3) := by decide +kernel
theorem dX8_greatestPart_50 : decode cX8_greatestPart 50 = .ok (.goto 6, 3) := by decide +kernel
theorem dX8_greatestPart_53 : decode cX8_greatestPart 53 = .ok (.iinc 5 1, 3) := by decide +kernel
theorem dX8_greatestPart_56 : decode cX8_greatestPart 56 = .ok (.iinc 6 1, 3) := by decide +kernel
theorem dX8_greatestPart_59 : decode cX8_greatestPart 59 = .ok (.goto (-50), 3) := by decide +kernel
theorem dX8_greatestPart_62 : decode cX8_greatestPart 62 = .ok (.iload 4, 2) := by decide +kernel
theorem dX8_greatestPart_64 : decode cX8_greatestPart 64 = .ok (.iload 5, 2) := by decide +kernel
theorem dX8_greatestPart_66 : decode cX8_greatestPart 66 = .ok (.invokestatic 296, 3) := by decide +kernel
theorem dX8_greatestPart_69 : decode cX8_greatestPart 69 = .ok (.ireturn, 1) := by decide +kernel
theorem dX9_init_0 : decode cX9_init 0 = .ok (.aload_n 0, 1) := by decide +kernel
theorem dX9_init_1 : decode cX9_init 1 = .ok (.invokespecial 1, 3) := by decide +kernel
theorem dX9_init_4 : decode cX9_init 4 = .ok (.aload_n 0, 1) := by decide +kernel
theorem dX9_init_5 : decode cX9_init 5 = .ok (.bipush 69, 2) := by decide +kernel
theorem dX9_init_7 : decode cX9_init 7 = .ok (.newarray .int, 2) := by decide +kernel
theorem dX9_init_9 : decode cX9_init 9 = .ok (.putfield 7, 3) := by decide +kernel
theorem dX9_init_12 : decode cX9_init 12 = .ok (.aload_n 0, 1) := by decide +kernel
theorem dX9_init_13 : decode cX9_init 13 = .ok (.bipush 69, 2) := by decide +kernel
theorem dX9_init_15 : decode cX9_init 15 = .ok (.newarray .int, 2) := by decide +kernel
theorem dX9_init_17 : decode cX9_init 17 = .ok (.putfield 13, 3) := by decide +kernel
theorem dX9_init_20 : decode cX9_init 20 = .ok (.aload_n 0, 1) := by decide +kernel
theorem dX9_init_21 : decode cX9_init 21 = .ok (.sipush 1104, 3) := by decide +kernel
theorem dX9_init_24 : decode cX9_init 24 = .ok (.newarray .int, 2) := by decide +kernel
theorem dX9_init_26 : decode cX9_init 26 = .ok (.putfield 16, 3) := by decide +kernel
theorem dX9_init_29 : decode cX9_init 29 = .ok (.aload_n 0, 1) := by decide +kernel
theorem dX9_init_30 : decode cX9_init 30 = .ok (.bipush 8, 2) := by decide +kernel
theorem dX9_init_32 : decode cX9_init 32 = .ok (.newarray .int, 2) := by decide +kernel
theorem dX9_init_34 : decode cX9_init 34 = .ok (.putfield 19, 3) := by decide +kernel
theorem dX9_init_37 : decode cX9_init 37 = .ok (.aload_n 0, 1) := by decide +kernel
theorem dX9_init_38 : decode cX9_init 38 = .ok (.bipush 8, 2) := by decide +kernel
theorem dX9_init_40 : decode cX9_init 40 = .ok (.newarray .int, 2) := by decide +kernel
theorem dX9_init_42 : decode cX9_init 42 = .ok (.putfield 22, 3) := by decide +kernel
theorem dX9_init_45 : decode cX9_init 45 = .ok (.aload_n 0, 1) := by decide +kernel
theorem dX9_init_46 : decode cX9_init 46 = .ok (.bipush 16, 2) := by decide +kernel
theorem dX9_init_48 : decode cX9_init 48 = .ok (.newarray .int, 2) := by decide +kernel
theorem dX9_init_50 : decode cX9_init 50 = .ok (.putfield 25, 3) := by decide +kernel
theorem dX9_init_53 : decode cX9_init 53 = .ok (.aload_n 0, 1) := by decide +kernel
theorem dX9_init_54 : decode cX9_init 54 = .ok (.bipush 8, 2) := by decide +kernel
theorem dX9_init_56 : decode cX9_init 56 = .ok (.newarray .boolean, 2) := by decide +kernel
theorem dX9_init_58 : decode cX9_init 58 = .ok (.putfield 28, 3) := by decide +kernel
theorem dX9_init_61 : decode cX9_init 61 = .ok (.aload_n 0, 1) := by decide +kernel
theorem dX9_init_62 : decode cX9_init 62 = .ok (.iconst 5, 1) := by decide +kernel
theorem dX9_init_63 : decode cX9_init 63 = .ok (.newarray .boolean, 2) := by decide +kernel
theorem dX9_init_65 : decode cX9_init 65 = .ok (.putfield 32, 3) := by decide +kernel
theorem dX9_init_68 : decode cX9_init 68 = .ok (.aload_n 0, 1) := by decide +kernel
theorem dX9_init_69 : decode cX9_init 69 = .ok (.bipush 32, 2) := by decide +kernel
theorem dX9_init_71 : decode cX9_init 71 = .ok (.newarray .int, 2) := by decide +kernel
theorem dX9_init_73 : decode cX9_init 73 = .ok (.putfield 35, 3) := by decide +kernel
theorem dX9_init_76 : decode cX9_init 76 = .ok (.aload_n 0, 1) := by decide +kernel
theorem dX9_init_77 : decode cX9_init 77 = .ok (.sipush 240, 3) := by decide +kernel
theorem dX9_init_80 : decode cX9_init 80 = .ok (.newarray .int, 2) := by decide +kernel
theorem dX9_init_82 : decode cX9_init 82 = .ok (.putfield 38, 3) := by decide +kernel
theorem dX9_init_85 : decode cX9_init 85 = .ok (.aload_n 0, 1) := by decide +kernel
theorem dX9_init_86 : decode cX9_init 86 = .ok (.iconst (-1), 1) := by decide +kernel
theorem dX9_init_87 : decode cX9_init 87 = .ok (.putfield 41, 3) := by decide +kernel
theorem dX9_init_90 : decode cX9_init 90 = .ok (.aload_n 0, 1) := by decide +kernel
theorem dX9_init_91 : decode cX9_init 91 = .ok (.bipush 8, 2) := by decide +kernel
theorem dX9_init_93 : decode cX9_init 93 = .ok (.newarray .int, 2) := by decide +kernel
theorem dX9_init_95 : decode cX9_init 95 = .ok (.putfield 45, 3) := by decide +kernel
theorem dX9_init_98 : decode cX9_init 98 = .ok (.aload_n 0, 1) := by decide +kernel
theorem dX9_init_99 : decode cX9_init 99 = .ok (.bipush 8, 2) := by decide +kernel
theorem dX9_init_101 : decode cX9_init 101 = .ok (.newarray .int, 2) := by decide +kernel
theorem dX9_init_103 : decode cX9_init 103 = .ok (.putfield 48, 3) := by decide +kernel
theorem dX9_init_106 : decode cX9_init 106 = .ok (.aload_n 0, 1) := by decide +kernel
theorem dX9_init_107 : decode cX9_init 107 = .ok (.bipush 8, 2) := by decide +kernel
theorem dX9_init_109 : decode cX9_init 109 = .ok (.newarray .int, 2) := by decide +kernel
theorem dX9_init_111 : decode cX9_init 111 = .ok (.putfield 51, 3) := by decide +kernel
theorem dX9_init_114 : decode cX9_init 114 = .ok (.aload_n 0, 1) := by decide +kernel
theorem dX9_init_115 : decode cX9_init 115 = .ok (.bipush 16, 2) := by decide +kernel
theorem dX9_init_117 : decode cX9_init 117 = .ok (.newarray .int, 2) := by decide +kernel
theorem dX9_init_119 : decode cX9_init 119 = .ok (.putfield 54, 3) := by decide +kernel
theorem dX9_init_122 : decode cX9_init 122 = .ok (.aload_n 0, 1) := by decide +kernel
theorem dX9_init_123 : decode cX9_init 123 = .ok (.bipush 8, 2) := by decide +kernel
theorem dX9_init_125 : decode cX9_init 125 = .ok (.newarray .boolean, 2) := by decide +kernel
theorem dX9_init_127 : decode cX9_init 127 = .ok (.putfield 57, 3) := by decide +kernel
theorem dX9_init_130 : decode cX9_init 130 = .ok (.aload_n 0, 1) := by decide +kernel
theorem dX9_init_131 : decode cX9_init 131 = .ok (.iconst 5, 1) := by decide +kernel
theorem dX9_init_132 : decode cX9_init 132 = .ok (.newarray .boolean, 2) := by decide +kernel
theorem dX9_init_134 : decode cX9_init 134 = .ok (.putfield 60, 3) := by decide +kernel
theorem dX9_init_137 : decode cX9_init 137 = .ok (.aload_n 0, 1) := by decide +kernel
theorem dX9_init_138 : decode cX9_init 138 = .ok (.bipush 32, 2) := by decide +kernel
theorem dX9_init_140 : decode cX9_init 140 = .ok (.newarray .int, 2) := by decide +kernel
theorem dX9_init_142 : decode cX9_init 142 = .ok (.putfield 63, 3) := by decide +kernel
theorem dX9_init_145 : decode cX9_init 145 = .ok (.aload_n 0, 1) := by decide +kernel
theorem dX9_init_146 : decode cX9_init 146 = .ok (.bipush 8, 2) := by decide +kernel
theorem dX9_init_148 : decode cX9_init 148 = .ok (.newarray .int, 2) := by decide +kernel
theorem dX9_init_150 : decode cX9_init 150 = .ok (.putfield 66, 3) := by decide +kernel
theorem dX9_init_153 : decode cX9_init 153 = .ok (.aload_n 0, 1) := by decide +kernel
theorem dX9_init_154 : decode cX9_init 154 = .ok (.bipush 8, 2) := by decide +kernel
theorem dX9_init_156 : decode cX9_init 156 = .ok (.newarray .int, 2) := by decide +kernel
theorem dX9_init_158 : decode cX9_init 158 = .ok (.putfield 69, 3) := by decide +kernel
theorem dX9_init_161 : decode cX9_init 161 = .ok (.aload_n 0, 1) := by decide +kernel
theorem dX9_init_162 : decode cX9_init 162 = .ok (.bipush 9, 2) := by decide +kernel
theorem dX9_init_164 : decode cX9_init 164 = .ok (.newarray .int, 2) := by decide +kernel
theorem dX9_init_166 : decode cX9_init 166 = .ok (.putfield 72, 3) := by decide +kernel
theorem dX9_init_169 : decode cX9_init 169 = .ok (.aload_n 0, 1) := by decide +kernel
theorem dX9_init_170 : decode cX9_init 170 = .ok (.bipush 9, 2) := by decide +kernel
theorem dX9_init_172 : decode cX9_init 172 = .ok (.newarray .int, 2) := by decide +kernel
theorem dX9_init_174 : decode cX9_init 174 = .ok (.putfield 75, 3) := by decide +kernel
theorem dX9_init_177 : decode cX9_init 177 = .ok (.aload_n 0, 1) := by decide +kernel
theorem dX9_init_178 : decode cX9_init 178 = .ok (.bipush 8, 2) := by decide +kernel
theorem dX9_init_180 : decode cX9_init 180 = .ok (.newarray .int, 2) := by decide +kernel
theorem dX9_init_182 : decode cX9_init 182 = .ok (.putfield 78, 3) := by decide +kernel
theorem dX9_init_185 : decode cX9_init 185 = .ok (.aload_n 0, 1) := by decide +kernel
theorem dX9_init_186 : decode cX9_init 186 = .ok (.bipush 8, 2) := by decide +kernel
theorem dX9_init_188 : decode cX9_init 188 = .ok (.newarray .int, 2) := by decide +kernel
theorem dX9_init_190 : decode cX9_init 190 = .ok (.putfield 81, 3) := by decide +kernel
theorem dX9_init_193 : decode cX9_init 193 = .ok (.aload_n 0, 1) := by decide +kernel
theorem dX9_init_194 : decode cX9_init 194 = .ok (.bipush 8, 2) := by decide +kernel
theorem dX9_init_196 : decode cX9_init 196 = .ok (.newarray .int, 2) := by decide +kernel
theorem dX9_init_198 : decode cX9_init 198 = .ok (.putfield 84, 3) := by decide +kernel
theorem dX9_init_201 : decode cX9_init 201 = .ok (.aload_n 0, 1) := by decide +kernel
theorem dX9_init_202 : decode cX9_init 202 = .ok (.bipush 10, 2) := by decide +kernel
theorem dX9_init_204 : decode cX9_init 204 = .ok (.newarray .int, 2) := by decide +kernel
theorem dX9_init_206 : decode cX9_init 206 = .ok (.putfield 87, 3) := by decide +kernel
theorem dX9_init_209 : decode cX9_init 209 = .ok (.aload_n 0, 1) := by decide +kernel
theorem dX9_init_210 : decode cX9_init 210 = .ok (.bipush 10, 2) := by decide +kernel
theorem dX9_init_212 : decode cX9_init 212 = .ok (.newarray .int, 2) := by decide +kernel
theorem dX9_init_214 : decode cX9_init 214 = .ok (.putfield 90, 3) := by decide +kernel
theorem dX9_init_217 : decode cX9_init 217 = .ok (.aload_n 0, 1) := by decide +kernel
theorem dX9_init_218 : decode cX9_init 218 = .ok (.bipush 6, 2) := by decide +kernel
theorem dX9_init_220 : decode cX9_init 220 = .ok (.newarray .int, 2) := by decide +kernel
theorem dX9_init_222 : decode cX9_init 222 = .ok (.putfield 93, 3) := by decide +kernel
theorem dX9_init_225 : decode cX9_init 225 = .ok (.aload_n 0, 1) := by decide +kernel
theorem dX9_init_226 : decode cX9_init 226 = .ok (.bipush 6, 2) := by decide +kernel
theorem dX9_init_228 : decode cX9_init 228 = .ok (.newarray .int, 2) := by decide +kernel
theorem dX9_init_230 : decode cX9_init 230 = .ok (.putfield 96, 3) := by decide +kernel
theorem dX9_init_233 : decode cX9_init 233 = .ok (.aload_n 0, 1) := by decide +kernel
theorem dX9_init_234 : decode cX9_init 234 = .ok (.bipush 6, 2) := by decide +kernel
theorem dX9_init_236 : decode cX9_init 236 = .ok (.newarray .boolean, 2) := by decide +kernel
theorem dX9_init_238 : decode cX9_init 238 = .ok (.putfield 99, 3) := by decide +kernel
theorem dX9_init_241 : decode cX9_init 241 = .ok (.aload_n 0, 1) := by decide +kernel
theorem dX9_init_242 : decode cX9_init 242 = .ok (.bipush 15, 2) := by decide +kernel
theorem dX9_init_244 : decode cX9_init 244 = .ok (.newarray .int, 2) := by decide +kernel
theorem dX9_init_246 : decode cX9_init 246 = .ok (.putfield 102, 3) := by decide +kernel
theorem dX9_init_249 : decode cX9_init 249 = .ok (.aload_n 0, 1) := by decide +kernel
theorem dX9_init_250 : decode cX9_init 250 = .ok (.bipush 15, 2) := by decide +kernel
theorem dX9_init_252 : decode cX9_init 252 = .ok (.newarray .int, 2) := by decide +kernel
theorem dX9_init_254 : decode cX9_init 254 = .ok (.putfield 105, 3) := by decide +kernel
theorem dX9_init_257 : decode cX9_init 257 = .ok (.aload_n 0, 1) := by decide +kernel
theorem dX9_init_258 : decode cX9_init 258 = .ok (.iconst 2, 1) := by decide +kernel
theorem dX9_init_259 : decode cX9_init 259 = .ok (.newarray .boolean, 2) := by decide +kernel
theorem dX9_init_261 : decode cX9_init 261 = .ok (.putfield 108, 3) := by decide +kernel
theorem dX9_init_264 : decode cX9_init 264 = .ok (.aload_n 0, 1) := by decide +kernel
theorem dX9_init_265 : decode cX9_init 265 = .ok (.sipush 138, 3) := by decide +kernel
theorem dX9_init_268 : decode cX9_init 268 = .ok (.newarray .int, 2) := by decide +kernel
theorem dX9_init_270 : decode cX9_init 270 = .ok (.putfield 111, 3) := by decide +kernel
theorem dX9_init_273 : decode cX9_init 273 = .ok (.aload_n 0, 1) := by decide +kernel
theorem dX9_init_274 : decode cX9_init 274 = .ok (.iconst 2, 1) := by decide +kernel
theorem dX9_init_275 : decode cX9_init 275 = .ok (.newarray .int, 2) := by decide +kernel
theorem dX9_init_277 : decode cX9_init 277 = .ok (.putfield 114, 3) := by decide +kernel
theorem dX9_init_280 : decode cX9_init 280 = .ok (.return_, 1) := by decide +kernel
theorem dX9_in_0 : decode cX9_in 0 = .ok (.lload_n 0, 1) := by decide +kernel
theorem dX9_in_1 : decode cX9_in 1 = .ok (.lload_n 2, 1) := by decide +kernel
theorem dX9_in_2 : decode cX9_in 2 = .ok (.lcmp, 1) := by decide +kernel
theorem dX9_in_3 : decode cX9_in 3 = .ok (.ifCond .lt 14, 3) := by decide +kernel
theorem dX9_in_6 : decode cX9_in 6 = .ok (.lload_n 0, 1) := by decide +kernel
theorem dX9_in_7 : decode cX9_in 7 = .ok (.lload 4, 2) := by decide +kernel
theorem dX9_in_9 : decode cX9_in 9 = .ok (.lcmp, 1) := by decide +kernel
theorem dX9_in_10 : decode cX9_in 10 = .ok (.ifCond .gt 7, 3) := by decide +kernel
theorem dX9_in_13 : decode cX9_in 13 = .ok (.iconst 1, 1) := by decide +kernel
theorem dX9_in_14 : decode cX9_in 14 = .ok (.goto 4, 3) := by decide +kernel
theorem dX9_in_17 : decode cX9_in 17 = .ok (.iconst 0, 1) := by decide +kernel
theorem dX9_in_18 : decode cX9_in 18 = .ok (.ireturn, 1) := by decide +kernel
theorem dX9_isWord_0 : decode cX9_isWord 0 = .ok (.iload_n 1, 1) := by decide +kernel
theorem dX9_isWord_1 : decode cX9_isWord 1 = .ok (.i2l, 1) := by decide +kernel
theorem dX9_isWord_2 : decode cX9_isWord 2 = .ok (.lconst 0, 1) := by decide +kernel
theorem dX9_isWord_3 : decode cX9_isWord 3 = .ok (.aload_n 0, 1) := by decide +kernel
theorem dX9_isWord_4 : decode cX9_isWord 4 = .ok (.getfield 117, 3) := by decide +kernel
theorem dX9_isWord_7 : decode cX9_isWord 7 = .ok (.iconst 1, 1) := by decide +kernel
theorem dX9_isWord_8 : decode cX9_isWord 8 = .ok (.isub, 1) := by decide +kernel
theorem dX9_isWord_9 : decode cX9_isWord 9 = .ok (.i2l, 1) := by decide +kernel
theorem dX9_isWord_10 : decode cX9_isWord 10 = .ok (.invokestatic 120, 3) := by decide +kernel
theorem dX9_isWord_13 : decode cX9_isWord 13 = .ok (.ireturn, 1) := by decide +kernel
theorem dX9_isPerson_0 : decode cX9_isPerson 0 = .ok (.iload_n 1, 1) := by decide +kernel
theorem dX9_isPerson_1 : decode cX9_isPerson 1 = .ok (.i2l, 1) := by decide +kernel
theorem dX9_isPerson_2 : decode cX9_isPerson 2 = .ok (.lconst 0, 1) := by decide +kernel
theorem dX9_isPerson_3 : decode cX9_isPerson 3 = .ok (.aload_n 0, 1) := by decide +kernel
theorem dX9_isPerson_4 : decode cX9_isPerson 4 = .ok (.getfield 124, 3) := by decide +kernel
theorem dX9_isPerson_7 : decode cX9_isPerson 7 = .ok (.iconst 1, 1) := by decide +kernel
theorem dX9_isPerson_8 : decode cX9_isPerson 8 = .ok (.isub, 1) := by decide +kernel
theorem dX9_isPerson_9 : decode cX9_isPerson 9 = .ok (.i2l, 1) := by decide +kernel
theorem dX9_isPerson_10 : decode cX9_isPerson 10 = .ok (.invokestatic 120, 3) := by decide +kernel
theorem dX9_isPerson_13 : decode cX9_isPerson 13 = .ok (.ireturn, 1) := by decide +kernel
theorem dX9_isNeed_0 : decode cX9_isNeed 0 = .ok (.iload_n 1, 1) := by decide +kernel
theorem dX9_isNeed_1 : decode cX9_isNeed 1 = .ok (.i2l, 1) := by decide +kernel
theorem dX9_isNeed_2 : decode cX9_isNeed 2 = .ok (.lconst 0, 1) := by decide +kernel
theorem dX9_isNeed_3 : decode cX9_isNeed 3 = .ok (.aload_n 0, 1) := by decide +kernel
theorem dX9_isNeed_4 : decode cX9_isNeed 4 = .ok (.getfield 127, 3) := by decide +kernel
theorem dX9_isNeed_7 : decode cX9_isNeed 7 = .ok (.iconst 1, 1) := by decide +kernel
theorem dX9_isNeed_8 : decode cX9_isNeed 8 = .ok (.isub, 1) := by decide +kernel
theorem dX9_isNeed_9 : decode cX9_isNeed 9 = .ok (.i2l, 1) := by decide +kernel
theorem dX9_isNeed_10 : decode cX9_isNeed 10 = .ok (.invokestatic 120, 3) := by decide +kernel
theorem dX9_isNeed_13 : decode cX9_isNeed 13 = .ok (.ireturn, 1) := by decide +kernel
theorem dX9_has_0 : decode cX9_has 0 = .ok (.iload_n 0, 1) := by decide +kernel
theorem dX9_has_1 : decode cX9_has 1 = .ok (.iload_n 1, 1) := by decide +kernel
theorem dX9_has_2 : decode cX9_has 2 = .ok (.ishr, 1) := by decide +kernel
theorem dX9_has_3 : decode cX9_has 3 = .ok (.iconst 1, 1) := by decide +kernel
theorem dX9_has_4 : decode cX9_has 4 = .ok (.iand, 1) := by decide +kernel
theorem dX9_has_5 : decode cX9_has 5 = .ok (.iconst 1, 1) := by decide +kernel
theorem dX9_has_6 : decode cX9_has 6 = .ok (.if_icmp .ne 7, 3) := by decide +kernel
theorem dX9_has_9 : decode cX9_has 9 = .ok (.iconst 1, 1) := by decide +kernel
theorem dX9_has_10 : decode cX9_has 10 = .ok (.goto 4, 3) := by decide +kernel
theorem dX9_has_13 : decode cX9_has 13 = .ok (.iconst 0, 1) := by decide +kernel
theorem dX9_has_14 : decode cX9_has 14 = .ok (.ireturn, 1) := by decide +kernel
theorem dX9_bits_0 : decode cX9_bits 0 = .ok (.iconst 0, 1) := by decide +kernel
theorem dX9_bits_1 : decode cX9_bits 1 = .ok (.istore_n 1, 1) := by decide +kernel
theorem dX9_bits_2 : decode cX9_bits 2 = .ok (.iconst 0, 1) := by decide +kernel
theorem dX9_bits_3 : decode cX9_bits 3 = .ok (.istore_n 2, 1) := by decide +kernel
theorem dX9_bits_4 : decode cX9_bits 4 = .ok (.iload_n 2, 1) := by decide +kernel
theorem dX9_bits_5 : decode cX9_bits 5 = .ok (.bipush 8, 2) := by decide +kernel
theorem dX9_bits_7 : decode cX9_bits 7 = .ok (.if_icmp .ge 17, 3) := by decide +kernel
theorem dX9_bits_10 : decode cX9_bits 10 = .ok (.iload_n 1, 1) := by decide +kernel
theorem dX9_bits_11 : decode cX9_bits 11 = .ok (.iload_n 0, 1) := by decide +kernel
theorem dX9_bits_12 : decode cX9_bits 12 = .ok (.iload_n 2, 1) := by decide +kernel
theorem dX9_bits_13 : decode cX9_bits 13 = .ok (.ishr, 1) := by decide +kernel
theorem dX9_bits_14 : decode cX9_bits 14 = .ok (.iconst 1, 1) := by decide +kernel
theorem dX9_bits_15 : decode cX9_bits 15 = .ok (.iand, 1) := by decide +kernel
theorem dX9_bits_16 : decode cX9_bits 16 = .ok (.iadd, 1) := by decide +kernel
theorem dX9_bits_17 : decode cX9_bits 17 = .ok (.istore_n 1, 1) := by decide +kernel
theorem dX9_bits_18 : decode cX9_bits 18 = .ok (.iinc 2 1, 3) := by decide +kernel
theorem dX9_bits_21 : decode cX9_bits 21 = .ok (.goto (-17), 3) := by decide +kernel
theorem dX9_bits_24 : decode cX9_bits 24 = .ok (.iload_n 1, 1) := by decide +kernel
theorem dX9_bits_25 : decode cX9_bits 25 = .ok (.ireturn, 1) := by decide +kernel
theorem dX9_up_0 : decode cX9_up 0 = .ok (.iload_n 0, 1) := by decide +kernel
theorem dX9_up_1 : decode cX9_up 1 = .ok (.iload_n 1, 1) := by decide +kernel
theorem dX9_up_2 : decode cX9_up 2 = .ok (.iadd, 1) := by decide +kernel
theorem dX9_up_3 : decode cX9_up 3 = .ok (.ldc 130, 2) := by decide +kernel
theorem dX9_up_5 : decode cX9_up 5 = .ok (.if_icmp .le 8, 3) := by decide +kernel
theorem dX9_up_8 : decode cX9_up 8 = .ok (.ldc 130, 2) := by decide +kernel
theorem dX9_up_10 : decode cX9_up 10 = .ok (.goto 6, 3) := by decide +kernel
theorem dX9_up_13 : decode cX9_up 13 = .ok (.iload_n 0, 1) := by decide +kernel
theorem dX9_up_14 : decode cX9_up 14 = .ok (.iload_n 1, 1) := by decide +kernel
theorem dX9_up_15 : decode cX9_up 15 = .ok (.iadd, 1) := by decide +kernel
theorem dX9_up_16 : decode cX9_up 16 = .ok (.ireturn, 1) := by decide +kernel
theorem dX9_person_0 : decode cX9_person 0 = .ok (.aload_n 0, 1) := by decide +kernel
theorem dX9_person_1 : decode cX9_person 1 = .ok (.getfield 35, 3) := by decide +kernel
theorem dX9_person_4 : decode cX9_person 4 = .ok (.iconst 4, 1) := by decide +kernel
theorem dX9_person_5 : decode cX9_person 5 = .ok (.iload_n 1, 1) := by decide +kernel
theorem dX9_person_6 : decode cX9_person 6 = .ok (.imul, 1) := by decide +kernel
theorem dX9_person_7 : decode cX9_person 7 = .ok (.iaload, 1) := by decide +kernel
theorem dX9_person_8 : decode cX9_person 8 = .ok (.ireturn, 1) := by decide +kernel
theorem dX9_wordOf_0 : decode cX9_wordOf 0 = .ok (.aload_n 0, 1) := by decide +kernel
theorem dX9_wordOf_1 : decode cX9_wordOf 1 = .ok (.getfield 35, 3) := by decide +kernel
theorem dX9_wordOf_4 : decode cX9_wordOf 4 = .ok (.iconst 4, 1) := by decide +kernel
theorem dX9_wordOf_5 : decode cX9_wordOf 5 = .ok (.iload_n 1, 1) := by decide +kernel
theorem dX9_wordOf_6 : decode cX9_wordOf 6 = .ok (.imul, 1) := by decide +kernel
theorem dX9_wordOf_7 : decode cX9_wordOf 7 = .ok (.iconst 1, 1) := by decide +kernel
theorem dX9_wordOf_8 : decode cX9_wordOf 8 = .ok (.iadd, 1) := by decide +kernel
theorem dX9_wordOf_9 : decode cX9_wordOf 9 = .ok (.iaload, 1) := by decide +kernel
theorem dX9_wordOf_10 : decode cX9_wordOf 10 = .ok (.ireturn, 1) := by decide +kernel
theorem dX9_dayOf_0 : decode cX9_dayOf 0 = .ok (.aload_n 0, 1) := by decide +kernel
theorem dX9_dayOf_1 : decode cX9_dayOf 1 = .ok (.getfield 35, 3) := by decide +kernel
theorem dX9_dayOf_4 : decode cX9_dayOf 4 = .ok (.iconst 4, 1) := by decide +kernel
theorem dX9_dayOf_5 : decode cX9_dayOf 5 = .ok (.iload_n 1, 1) := by decide +kernel
theorem dX9_dayOf_6 : decode cX9_dayOf 6 = .ok (.imul, 1) := by decide +kernel
theorem dX9_dayOf_7 : decode cX9_dayOf 7 = .ok (.iconst 2, 1) := by decide +kernel
theorem dX9_dayOf_8 : decode cX9_dayOf 8 = .ok (.iadd, 1) := by decide +kernel
theorem dX9_dayOf_9 : decode cX9_dayOf 9 = .ok (.iaload, 1) := by decide +kernel
theorem dX9_dayOf_10 : decode cX9_dayOf 10 = .ok (.ireturn, 1) := by decide +kernel
theorem dX9_worthOf_0 : decode cX9_worthOf 0 = .ok (.aload_n 0, 1) := by decide +kernel
theorem dX9_worthOf_1 : decode cX9_worthOf 1 = .ok (.getfield 35, 3) := by decide +kernel
theorem dX9_worthOf_4 : decode cX9_worthOf 4 = .ok (.iconst 4, 1) := by decide +kernel
theorem dX9_worthOf_5 : decode cX9_worthOf 5 = .ok (.iload_n 1, 1) := by decide +kernel
theorem dX9_worthOf_6 : decode cX9_worthOf 6 = .ok (.imul, 1) := by decide +kernel
theorem dX9_worthOf_7 : decode cX9_worthOf 7 = .ok (.iconst 3, 1) := by decide +kernel
theorem dX9_worthOf_8 : decode cX9_worthOf 8 = .ok (.iadd, 1) := by decide +kernel
theorem dX9_worthOf_9 : decode cX9_worthOf 9 = .ok (.iaload, 1) := by decide +kernel
theorem dX9_worthOf_10 : decode cX9_worthOf 10 = .ok (.ireturn, 1) := by decide +kernel
theorem dX9_feed_0 : decode cX9_feed 0 = .ok (.iload_n 1, 1) := by decide +kernel
theorem dX9_feed_1 : decode cX9_feed 1 = .ok (.i2l, 1) := by decide +kernel
theorem dX9_feed_2 : decode cX9_feed 2 = .ok (.lconst 0, 1) := by decide +kernel
theorem dX9_feed_3 : decode cX9_feed 3 = .ok (.ldc2_w 131, 3) := by decide +kernel
theorem dX9_feed_6 : decode cX9_feed 6 = .ok (.invokestatic 120, 3) := by decide +kernel
theorem dX9_feed_9 : decode cX9_feed 9 = .ok (.ifCond .ne 6, 3) := by decide +kernel
theorem dX9_feed_12 : decode cX9_feed 12 = .ok (.ldc 133, 2) := by decide +kernel
theorem dX9_feed_14 : decode cX9_feed 14 = .ok (.ireturn, 1) := by decide +kernel
theorem dX9_feed_15 : decode cX9_feed 15 = .ok (.aload_n 0, 1) := by decide +kernel
theorem dX9_feed_16 : decode cX9_feed 16 = .ok (.getfield 134, 3) := by decide +kernel
theorem dX9_feed_19 : decode cX9_feed 19 = .ok (.sipush 240, 3) := by decide +kernel
theorem dX9_feed_22 : decode cX9_feed 22 = .ok (.if_icmp .ne 6, 3) := by decide +kernel
theorem dX9_feed_25 : decode cX9_feed 25 = .ok (.ldc 137, 2) := by decide +kernel
theorem dX9_feed_27 : decode cX9_feed 27 = .ok (.ireturn, 1) := by decide +kernel
theorem dX9_feed_28 : decode cX9_feed 28 = .ok (.aload_n 0, 1) := by decide +kernel
theorem dX9_feed_29 : decode cX9_feed 29 = .ok (.getfield 38, 3) := by decide +kernel
theorem dX9_feed_32 : decode cX9_feed 32 = .ok (.aload_n 0, 1) := by decide +kernel
theorem dX9_feed_33 : decode cX9_feed 33 = .ok (.getfield 134, 3) := by decide +kernel
theorem dX9_feed_36 : decode cX9_feed 36 = .ok (.iload_n 1, 1) := by decide +kernel
theorem dX9_feed_37 : decode cX9_feed 37 = .ok (.iastore, 1) := by decide +kernel
theorem dX9_feed_38 : decode cX9_feed 38 = .ok (.aload_n 0, 1) := by decide +kernel
theorem dX9_feed_39 : decode cX9_feed 39 = .ok (.dup, 1) := by decide +kernel
theorem dX9_feed_40 : decode cX9_feed 40 = .ok (.getfield 134, 3) := by decide +kernel
theorem dX9_feed_43 : decode cX9_feed 43 = .ok (.iconst 1, 1) := by decide +kernel
theorem dX9_feed_44 : decode cX9_feed 44 = .ok (.iadd, 1) := by decide +kernel
theorem dX9_feed_45 : decode cX9_feed 45 = .ok (.putfield 134, 3) := by decide +kernel
theorem dX9_feed_48 : decode cX9_feed 48 = .ok (.aload_n 0, 1) := by decide +kernel
theorem dX9_feed_49 : decode cX9_feed 49 = .ok (.getfield 134, 3) := by decide +kernel
theorem dX9_feed_52 : decode cX9_feed 52 = .ok (.ireturn, 1) := by decide +kernel
theorem dX9_bad_0 : decode cX9_bad 0 = .ok (.aload_n 0, 1) := by decide +kernel
theorem dX9_bad_1 : decode cX9_bad 1 = .ok (.getfield 138, 3) := by decide +kernel
theorem dX9_bad_4 : decode cX9_bad 4 = .ok (.ifCond .ne 13, 3) := by decide +kernel
theorem dX9_bad_7 : decode cX9_bad 7 = .ok (.aload_n 0, 1) := by decide +kernel
theorem dX9_bad_8 : decode cX9_bad 8 = .ok (.iload_n 1, 1) := by decide +kernel
theorem dX9_bad_9 : decode cX9_bad 9 = .ok (.putfield 138, 3) := by decide +kernel
theorem dX9_bad_12 : decode cX9_bad 12 = .ok (.aload_n 0, 1) := by decide +kernel
theorem dX9_bad_13 : decode cX9_bad 13 = .ok (.iload_n 2, 1) := by decide +kernel
theorem dX9_bad_14 : decode cX9_bad 14 = .ok (.putfield 141, 3) := by decide +kernel
theorem dX9_bad_17 : decode cX9_bad 17 = .ok (.return_, 1) := by decide +kernel
theorem dX9_letterNow_0 : decode cX9_letterNow 0 = .ok (.aload_n 0, 1) := by decide +kernel
theorem dX9_letterNow_1 : decode cX9_letterNow 1 = .ok (.getfield 138, 3) := by decide +kernel
theorem dX9_letterNow_4 : decode cX9_letterNow 4 = .ok (.ifCond .ne 41, 3) := by decide +kernel
theorem dX9_letterNow_7 : decode cX9_letterNow 7 = .ok (.aload_n 0, 1) := by decide +kernel
theorem dX9_letterNow_8 : decode cX9_letterNow 8 = .ok (.getfield 144, 3) := by decide +kernel
theorem dX9_letterNow_11 : decode cX9_letterNow 11 = .ok (.aload_n 0, 1) := by decide +kernel
theorem dX9_letterNow_12 : decode cX9_letterNow 12 = .ok (.getfield 134, 3) := by decide +kernel
theorem dX9_letterNow_15 : decode cX9_letterNow 15 = .ok (.if_icmp .ge 30, 3) := by decide +kernel
theorem dX9_letterNow_18 : decode cX9_letterNow 18 = .ok (.aload_n 0, 1) := by decide +kernel
theorem dX9_letterNow_19 : decode cX9_letterNow 19 = .ok (.getfield 38, 3) := by decide +kernel
theorem dX9_letterNow_22 : decode cX9_letterNow 22 = .ok (.aload_n 0, 1) := by decide +kernel
theorem dX9_letterNow_23 : decode cX9_letterNow 23 = .ok (.getfield 144, 3) := by decide +kernel
theorem dX9_letterNow_26 : decode cX9_letterNow 26 = .ok (.iaload, 1) := by decide +kernel
theorem dX9_letterNow_27 : decode cX9_letterNow 27 = .ok (.bipush 32, 2) := by decide +kernel
theorem dX9_letterNow_29 : decode cX9_letterNow 29 = .ok (.if_icmp .ne 16, 3) := by decide +kernel
theorem dX9_letterNow_32 : decode cX9_letterNow 32 = .ok (.aload_n 0, 1) := by decide +kernel
theorem dX9_letterNow_33 : decode cX9_letterNow 33 = .ok (.dup, 1) := by decide +kernel
theorem dX9_letterNow_34 : decode cX9_letterNow 34 = .ok (.getfield 144, 3) := by decide +kernel
theorem dX9_letterNow_37 : decode cX9_letterNow 37 = .ok (.iconst 1, 1) := by decide +kernel
theorem dX9_letterNow_38 : decode cX9_letterNow 38 = .ok (.iadd, 1) := by decide +kernel
theorem dX9_letterNow_39 : decode cX9_letterNow 39 = .ok (.putfield 144, 3) := by decide +kernel
theorem dX9_letterNow_42 : decode cX9_letterNow 42 = .ok (.goto (-42), 3) := by decide +kernel
theorem dX9_letterNow_45 : decode cX9_letterNow 45 = .ok (.aload_n 0, 1) := by decide +kernel
theorem dX9_letterNow_46 : decode cX9_letterNow 46 = .ok (.getfield 138, 3) := by decide +kernel
theorem dX9_letterNow_49 : decode cX9_letterNow 49 = .ok (.ifCond .ne 26, 3) := by decide +kernel
theorem dX9_letterNow_52 : decode cX9_letterNow 52 = .ok (.aload_n 0, 1) := by decide +kernel
theorem dX9_letterNow_53 : decode cX9_letterNow 53 = .ok (.getfield 144, 3) := by decide +kernel
theorem dX9_letterNow_56 : decode cX9_letterNow 56 = .ok (.aload_n 0, 1) := by decide +kernel
theorem dX9_letterNow_57 : decode cX9_letterNow 57 = .ok (.getfield 134, 3) := by decide +kernel
theorem dX9_letterNow_60 : decode cX9_letterNow 60 = .ok (.if_icmp .ge 15, 3) := by decide +kernel
theorem dX9_letterNow_63 : decode cX9_letterNow 63 = .ok (.aload_n 0, 1) := by decide +kernel
theorem dX9_letterNow_64 : decode cX9_letterNow 64 = .ok (.getfield 38, 3) := by decide +kernel
theorem dX9_letterNow_67 : decode cX9_letterNow 67 = .ok (.aload_n 0, 1) := by decide +kernel
theorem dX9_letterNow_68 : decode cX9_letterNow 68 = .ok (.getfield 144, 3) := by decide +kernel
theorem dX9_letterNow_71 : decode cX9_letterNow 71 = .ok (.iaload, 1) := by decide +kernel
theorem dX9_letterNow_72 : decode cX9_letterNow 72 = .ok (.goto 4, 3) := by decide +kernel
theorem dX9_letterNow_75 : decode cX9_letterNow 75 = .ok (.iconst (-1), 1) := by decide +kernel
theorem dX9_letterNow_76 : decode cX9_letterNow 76 = .ok (.ireturn, 1) := by decide +kernel
theorem dX9_isFigure_0 : decode cX9_isFigure 0 = .ok (.iload_n 0, 1) := by decide +kernel
theorem dX9_isFigure_1 : decode cX9_isFigure 1 = .ok (.bipush 48, 2) := by decide +kernel
theorem dX9_isFigure_3 : decode cX9_isFigure 3 = .ok (.if_icmp .lt 13, 3) := by decide +kernel
theorem dX9_isFigure_6 : decode cX9_isFigure 6 = .ok (.iload_n 0, 1) := by decide +kernel
theorem dX9_isFigure_7 : decode cX9_isFigure 7 = .ok (.bipush 57, 2) := by decide +kernel
theorem dX9_isFigure_9 : decode cX9_isFigure 9 = .ok (.if_icmp .gt 7, 3) := by decide +kernel
theorem dX9_isFigure_12 : decode cX9_isFigure 12 = .ok (.iconst 1, 1) := by decide +kernel
theorem dX9_isFigure_13 : decode cX9_isFigure 13 = .ok (.goto 4, 3) := by decide +kernel
theorem dX9_isFigure_16 : decode cX9_isFigure 16 = .ok (.iconst 0, 1) := by decide +kernel
theorem dX9_isFigure_17 : decode cX9_isFigure 17 = .ok (.ireturn, 1) := by decide +kernel
theorem dX9_number_0 : decode cX9_number 0 = .ok (.aload_n 0, 1) := by decide +kernel
theorem dX9_number_1 : decode cX9_number 1 = .ok (.invokevirtual 147, 3) := by decide +kernel
theorem dX9_number_4 : decode cX9_number 4 = .ok (.istore_n 3, 1) := by decide +kernel
theorem dX9_number_5 : decode cX9_number 5 = .ok (.aload_n 0, 1) := by decide +kernel
theorem dX9_number_6 : decode cX9_number 6 = .ok (.getfield 144, 3) := by decide +kernel
theorem dX9_number_9 : decode cX9_number 9 = .ok (.istore 4, 2) := by decide +kernel
theorem dX9_number_11 : decode cX9_number 11 = .ok (.iload_n 3, 1) := by decide +kernel
theorem dX9_number_12 : decode cX9_number 12 = .ok (.invokestatic 151, 3) := by decide +kernel
theorem dX9_number_15 : decode cX9_number 15 = .ok (.ifCond .ne 14, 3) := by decide +kernel
theorem dX9_number_18 : decode cX9_number 18 = .ok (.aload_n 0, 1) := by decide +kernel
theorem dX9_number_19 : decode cX9_number 19 = .ok (.iconst 1, 1) := by decide +kernel
theorem dX9_number_20 : decode cX9_number 20 = .ok (.aload_n 0, 1) := by decide +kernel
theorem dX9_number_21 : decode cX9_number 21 = .ok (.getfield 144, 3) := by decide +kernel
theorem dX9_number_24 : decode cX9_number 24 = .ok (.invokevirtual 155, 3) := by decide +kernel
theorem dX9_number_27 : decode cX9_number 27 = .ok (.iconst 0, 1) := by decide +kernel
theorem dX9_number_28 : decode cX9_number 28 = .ok (.ireturn, 1) := by decide +kernel
theorem dX9_number_29 : decode cX9_number 29 = .ok (.iconst 0, 1) := by decide +kernel
theorem dX9_number_30 : decode cX9_number 30 = .ok (.istore 5, 2) := by decide +kernel
theorem dX9_number_32 : decode cX9_number 32 = .ok (.aload_n 0, 1) := by decide +kernel
theorem dX9_number_33 : decode cX9_number 33 = .ok (.getfield 144, 3) := by decide +kernel
theorem dX9_number_36 : decode cX9_number 36 = .ok (.aload_n 0, 1) := by decide +kernel
theorem dX9_number_37 : decode cX9_number 37 = .ok (.getfield 134, 3) := by decide +kernel
theorem dX9_number_40 : decode cX9_number 40 = .ok (.if_icmp .ge 64, 3) := by decide +kernel
theorem dX9_number_43 : decode cX9_number 43 = .ok (.aload_n 0, 1) := by decide +kernel
theorem dX9_number_44 : decode cX9_number 44 = .ok (.getfield 38, 3) := by decide +kernel
theorem dX9_number_47 : decode cX9_number 47 = .ok (.aload_n 0, 1) := by decide +kernel
theorem dX9_number_48 : decode cX9_number 48 = .ok (.getfield 144, 3) := by decide +kernel
theorem dX9_number_51 : decode cX9_number 51 = .ok (.iaload, 1) := by decide +kernel
theorem dX9_number_52 : decode cX9_number 52 = .ok (.invokestatic 151, 3) := by decide +kernel
theorem dX9_number_55 : decode cX9_number 55 = .ok (.ifCond .eq 49, 3) := by decide +kernel
theorem dX9_number_58 : decode cX9_number 58 = .ok (.iload 5, 2) := by decide +kernel
theorem dX9_number_60 : decode cX9_number 60 = .ok (.sipush 9999, 3) := by decide +kernel
theorem dX9_number_63 : decode cX9_number 63 = .ok (.if_icmp .le 8, 3) := by decide +kernel
theorem dX9_number_66 : decode cX9_number 66 = .ok (.iload 5, 2) := by decide +kernel
theorem dX9_number_68 : decode cX9_number 68 = .ok (.goto 21, 3) := by decide +kernel
theorem dX9_number_71 : decode cX9_number 71 = .ok (.bipush 10, 2) := by decide +kernel
theorem dX9_number_73 : decode cX9_number 73 = .ok (.iload 5, 2) := by decide +kernel
theorem dX9_number_75 : decode cX9_number 75 = .ok (.imul, 1) := by decide +kernel
theorem dX9_number_76 : decode cX9_number 76 = .ok (.aload_n 0, 1) := by decide +kernel
theorem dX9_number_77 : decode cX9_number 77 = .ok (.getfield 38, 3) := by decide +kernel
theorem dX9_number_80 : decode cX9_number 80 = .ok (.aload_n 0, 1) := by decide +kernel
theorem dX9_number_81 : decode cX9_number 81 = .ok (.getfield 144, 3) := by decide +kernel
theorem dX9_number_84 : decode cX9_number 84 = .ok (.iaload, 1) := by decide +kernel
theorem dX9_number_85 : decode cX9_number 85 = .ok (.iadd, 1) := by decide +kernel
theorem dX9_number_86 : decode cX9_number 86 = .ok (.bipush 48, 2) := by decide +kernel
theorem dX9_number_88 : decode cX9_number 88 = .ok (.isub, 1) := by decide +kernel
theorem dX9_number_89 : decode cX9_number 89 = .ok (.istore 5, 2) := by decide +kernel
theorem dX9_number_91 : decode cX9_number 91 = .ok (.aload_n 0, 1) := by decide +kernel
theorem dX9_number_92 : decode cX9_number 92 = .ok (.dup, 1) := by decide +kernel
theorem dX9_number_93 : decode cX9_number 93 = .ok (.getfield 144, 3) := by decide +kernel
theorem dX9_number_96 : decode cX9_number 96 = .ok (.iconst 1, 1) := by decide +kernel
theorem dX9_number_97 : decode cX9_number 97 = .ok (.iadd, 1) := by decide +kernel
theorem dX9_number_98 : decode cX9_number 98 = .ok (.putfield 144, 3) := by decide +kernel
theorem dX9_number_101 : decode cX9_number 101 = .ok (.goto (-69), 3) := by decide +kernel
theorem dX9_number_104 : decode cX9_number 104 = .ok (.aload_n 0, 1) := by decide +kernel
theorem dX9_number_105 : decode cX9_number 105 = .ok (.getfield 144, 3) := by decide +kernel
theorem dX9_number_108 : decode cX9_number 108 = .ok (.iload 4, 2) := by decide +kernel
theorem dX9_number_110 : decode cX9_number 110 = .ok (.isub, 1) := by decide +kernel
theorem dX9_number_111 : decode cX9_number 111 = .ok (.iconst 3, 1) := by decide +kernel
theorem dX9_number_112 : decode cX9_number 112 = .ok (.if_icmp .gt 16, 3) := by decide +kernel
theorem dX9_number_115 : decode cX9_number 115 = .ok (.iload 5, 2) := by decide +kernel
theorem dX9_number_117 : decode cX9_number 117 = .ok (.i2l, 1) := by decide +kernel
theorem dX9_number_118 : decode cX9_number 118 = .ok (.iload_n 1, 1) := by decide +kernel
theorem dX9_number_119 : decode cX9_number 119 = .ok (.i2l, 1) := by decide +kernel
theorem dX9_number_120 : decode cX9_number 120 = .ok (.iload_n 2, 1) := by decide +kernel
theorem dX9_number_121 : decode cX9_number 121 = .ok (.i2l, 1) := by decide +kernel
theorem dX9_number_122 : decode cX9_number 122 = .ok (.invokestatic 120, 3) := by decide +kernel
theorem dX9_number_125 : decode cX9_number 125 = .ok (.ifCond .ne 10, 3) := by decide +kernel
theorem dX9_number_128 : decode cX9_number 128 = .ok (.aload_n 0, 1) := by decide +kernel
theorem dX9_number_129 : decode cX9_number 129 = .ok (.iconst 2, 1) := by decide +kernel
theorem dX9_number_130 : decode cX9_number 130 = .ok (.iload 4, 2) := by decide +kernel
theorem dX9_number_132 : decode cX9_number 132 = .ok (.invokevirtual 155, 3) := by decide +kernel
theorem dX9_number_135 : decode cX9_number 135 = .ok (.iload 5, 2) := by decide +kernel
theorem dX9_number_137 : decode cX9_number 137 = .ok (.ireturn, 1) := by decide +kernel
theorem dX9_wordTold_0 : decode cX9_wordTold 0 = .ok (.aload_n 0, 1) := by decide +kernel
theorem dX9_wordTold_1 : decode cX9_wordTold 1 = .ok (.invokevirtual 147, 3) := by decide +kernel
theorem dX9_wordTold_4 : decode cX9_wordTold 4 = .ok (.istore_n 1, 1) := by decide +kernel
theorem dX9_wordTold_5 : decode cX9_wordTold 5 = .ok (.aload_n 0, 1) := by decide +kernel
theorem dX9_wordTold_6 : decode cX9_wordTold 6 = .ok (.aload_n 0, 1) := by decide +kernel
theorem dX9_wordTold_7 : decode cX9_wordTold 7 = .ok (.getfield 144, 3) := by decide +kernel
theorem dX9_wordTold_10 : decode cX9_wordTold 10 = .ok (.putfield 159, 3) := by decide +kernel
theorem dX9_wordTold_13 : decode cX9_wordTold 13 = .ok (.aload_n 0, 1) := by decide +kernel
theorem dX9_wordTold_14 : decode cX9_wordTold 14 = .ok (.iconst 0, 1) := by decide +kernel
theorem dX9_wordTold_15 : decode cX9_wordTold 15 = .ok (.aload_n 0, 1) := by decide +kernel
theorem dX9_wordTold_16 : decode cX9_wordTold 16 = .ok (.getfield 162, 3) := by decide +kernel
theorem dX9_wordTold_19 : decode cX9_wordTold 19 = .ok (.iconst 1, 1) := by decide +kernel
theorem dX9_wordTold_20 : decode cX9_wordTold 20 = .ok (.isub, 1) := by decide +kernel
theorem dX9_wordTold_21 : decode cX9_wordTold 21 = .ok (.invokevirtual 165, 3) := by decide +kernel
theorem dX9_wordTold_24 : decode cX9_wordTold 24 = .ok (.ireturn, 1) := by decide +kernel
theorem dX9_end_0 : decode cX9_end 0 = .ok (.aload_n 0, 1) := by decide +kernel
theorem dX9_end_1 : decode cX9_end 1 = .ok (.invokevirtual 147, 3) := by decide +kernel
theorem dX9_end_4 : decode cX9_end 4 = .ok (.bipush 59, 2) := by decide +kernel
theorem dX9_end_6 : decode cX9_end 6 = .ok (.if_icmp .ne 16, 3) := by decide +kernel
theorem dX9_end_9 : decode cX9_end 9 = .ok (.aload_n 0, 1) := by decide +kernel
theorem dX9_end_10 : decode cX9_end 10 = .ok (.dup, 1) := by decide +kernel
theorem dX9_end_11 : decode cX9_end 11 = .ok (.getfield 144, 3) := by decide +kernel
theorem dX9_end_14 : decode cX9_end 14 = .ok (.iconst 1, 1) := by decide +kernel
theorem dX9_end_15 : decode cX9_end 15 = .ok (.iadd, 1) := by decide +kernel
theorem dX9_end_16 : decode cX9_end 16 = .ok (.putfield 144, 3) := by decide +kernel
theorem dX9_end_19 : decode cX9_end 19 = .ok (.goto 12, 3) := by decide +kernel
theorem dX9_end_22 : decode cX9_end 22 = .ok (.aload_n 0, 1) := by decide +kernel
theorem dX9_end_23 : decode cX9_end 23 = .ok (.iconst 1, 1) := by decide +kernel
theorem dX9_end_24 : decode cX9_end 24 = .ok (.aload_n 0, 1) := by decide +kernel
theorem dX9_end_25 : decode cX9_end 25 = .ok (.getfield 144, 3) := by decide +kernel
theorem dX9_end_28 : decode cX9_end 28 = .ok (.invokevirtual 155, 3) := by decide +kernel
theorem dX9_end_31 : decode cX9_end 31 = .ok (.return_, 1) := by decide +kernel
theorem dX9_readWord_0 : decode cX9_readWord 0 = .ok (.aload_n 0, 1) := by decide +kernel
theorem dX9_readWord_1 : decode cX9_readWord 1 = .ok (.getfield 162, 3) := by decide +kernel
theorem dX9_readWord_4 : decode cX9_readWord 4 = .ok (.bipush 8, 2) := by decide +kernel
theorem dX9_readWord_6 : decode cX9_readWord 6 = .ok (.if_icmp .ne 12, 3) := by decide +kernel
theorem dX9_readWord_9 : decode cX9_readWord 9 = .ok (.aload_n 0, 1) := by decide +kernel
theorem dX9_readWord_10 : decode cX9_readWord 10 = .ok (.iconst 3, 1) := by decide +kernel
theorem dX9_readWord_11 : decode cX9_readWord 11 = .ok (.aload_n 0, 1) := by decide +kernel
theorem dX9_readWord_12 : decode cX9_readWord 12 = .ok (.getfield 144, 3) := by decide +kernel
theorem dX9_readWord_15 : decode cX9_readWord 15 = .ok (.invokevirtual 155, 3) := by decide +kernel
theorem dX9_readWord_18 : decode cX9_readWord 18 = .ok (.aload_n 0, 1) := by decide +kernel
theorem dX9_readWord_19 : decode cX9_readWord 19 = .ok (.dup, 1) := by decide +kernel
theorem dX9_readWord_20 : decode cX9_readWord 20 = .ok (.getfield 144, 3) := by decide +kernel
theorem dX9_readWord_23 : decode cX9_readWord 23 = .ok (.iconst 1, 1) := by decide +kernel
theorem dX9_readWord_24 : decode cX9_readWord 24 = .ok (.iadd, 1) := by decide +kernel
theorem dX9_readWord_25 : decode cX9_readWord 25 = .ok (.putfield 144, 3) := by decide +kernel
theorem dX9_readWord_28 : decode cX9_readWord 28 = .ok (.aload_n 0, 1) := by decide +kernel
theorem dX9_readWord_29 : decode cX9_readWord 29 = .ok (.iconst 0, 1) := by decide +kernel
theorem dX9_readWord_30 : decode cX9_readWord 30 = .ok (.bipush 99, 2) := by decide +kernel
theorem dX9_readWord_32 : decode cX9_readWord 32 = .ok (.invokevirtual 165, 3) := by decide +kernel
theorem dX9_readWord_35 : decode cX9_readWord 35 = .ok (.istore_n 1, 1) := by decide +kernel
theorem dX9_readWord_36 : decode cX9_readWord 36 = .ok (.aload_n 0, 1) := by decide +kernel
theorem dX9_readWord_37 : decode cX9_readWord 37 = .ok (.iconst 1, 1) := by decide +kernel
theorem dX9_readWord_38 : decode cX9_readWord 38 = .ok (.bipush 99, 2) := by decide +kernel
theorem dX9_readWord_40 : decode cX9_readWord 40 = .ok (.invokevirtual 165, 3) := by decide +kernel
theorem dX9_readWord_43 : decode cX9_readWord 43 = .ok (.istore_n 2, 1) := by decide +kernel
theorem dX9_readWord_44 : decode cX9_readWord 44 = .ok (.aload_n 0, 1) := by decide +kernel
theorem dX9_readWord_45 : decode cX9_readWord 45 = .ok (.iconst 0, 1) := by decide +kernel
theorem dX9_readWord_46 : decode cX9_readWord 46 = .ok (.bipush 9, 2) := by decide +kernel
theorem dX9_readWord_48 : decode cX9_readWord 48 = .ok (.invokevirtual 165, 3) := by decide +kernel
theorem dX9_readWord_51 : decode cX9_readWord 51 = .ok (.istore_n 3, 1) := by decide +kernel
theorem dX9_readWord_52 : decode cX9_readWord 52 = .ok (.aload_n 0, 1) := by decide +kernel
theorem dX9_readWord_53 : decode cX9_readWord 53 = .ok (.invokevirtual 169, 3) := by decide +kernel
theorem dX9_readWord_56 : decode cX9_readWord 56 = .ok (.aload_n 0, 1) := by decide +kernel
theorem dX9_readWord_57 : decode cX9_readWord 57 = .ok (.getfield 138, 3) := by decide +kernel
