theorem dX0_init_0 : decode cX0_init 0 = .ok (.aload_n 0, 1) := by decide +kernel
theorem dX0_init_1 : decode cX0_init 1 = .ok (.invokespecial 3, 3) := by decide +kernel
theorem dX0_init_4 : decode cX0_init 4 = .ok (.aload_n 0, 1) := by decide +kernel
theorem dX0_init_5 : decode cX0_init 5 = .ok (.bipush 15, 2) := by decide +kernel
theorem dX0_init_7 : decode cX0_init 7 = .ok (.newarray .int, 2) := by decide +kernel
theorem dX0_init_9 : decode cX0_init 9 = .ok (.putfield 9, 3) := by decide +kernel
theorem dX0_init_12 : decode cX0_init 12 = .ok (.aload_n 0, 1) := by decide +kernel
theorem dX0_init_13 : decode cX0_init 13 = .ok (.bipush 15, 2) := by decide +kernel
theorem dX0_init_15 : decode cX0_init 15 = .ok (.newarray .int, 2) := by decide +kernel
theorem dX0_init_17 : decode cX0_init 17 = .ok (.putfield 15, 3) := by decide +kernel
theorem dX0_init_20 : decode cX0_init 20 = .ok (.return_, 1) := by decide +kernel
theorem dX0_clear_0 : decode cX0_clear 0 = .ok (.aload_n 0, 1) := by decide +kernel
theorem dX0_clear_1 : decode cX0_clear 1 = .ok (.iconst 0, 1) := by decide +kernel
theorem dX0_clear_2 : decode cX0_clear 2 = .ok (.putfield 18, 3) := by decide +kernel
theorem dX0_clear_5 : decode cX0_clear 5 = .ok (.return_, 1) := by decide +kernel
theorem dX0_enter_0 : decode cX0_enter 0 = .ok (.aload_n 0, 1) := by decide +kernel
theorem dX0_enter_1 : decode cX0_enter 1 = .ok (.getfield 18, 3) := by decide +kernel
theorem dX0_enter_4 : decode cX0_enter 4 = .ok (.bipush 15, 2) := by decide +kernel
theorem dX0_enter_6 : decode cX0_enter 6 = .ok (.if_icmp .ge 33, 3) := by decide +kernel
theorem dX0_enter_9 : decode cX0_enter 9 = .ok (.aload_n 0, 1) := by decide +kernel
theorem dX0_enter_10 : decode cX0_enter 10 = .ok (.getfield 9, 3) := by decide +kernel
theorem dX0_enter_13 : decode cX0_enter 13 = .ok (.aload_n 0, 1) := by decide +kernel
theorem dX0_enter_14 : decode cX0_enter 14 = .ok (.getfield 18, 3) := by decide +kernel
theorem dX0_enter_17 : decode cX0_enter 17 = .ok (.iload_n 1, 1) := by decide +kernel
theorem dX0_enter_18 : decode cX0_enter 18 = .ok (.iastore, 1) := by decide +kernel
theorem dX0_enter_19 : decode cX0_enter 19 = .ok (.aload_n 0, 1) := by decide +kernel
theorem dX0_enter_20 : decode cX0_enter 20 = .ok (.getfield 15, 3) := by decide +kernel
theorem dX0_enter_23 : decode cX0_enter 23 = .ok (.aload_n 0, 1) := by decide +kernel
theorem dX0_enter_24 : decode cX0_enter 24 = .ok (.getfield 18, 3) := by decide +kernel
theorem dX0_enter_27 : decode cX0_enter 27 = .ok (.iload_n 2, 1) := by decide +kernel
theorem dX0_enter_28 : decode cX0_enter 28 = .ok (.iastore, 1) := by decide +kernel
theorem dX0_enter_29 : decode cX0_enter 29 = .ok (.aload_n 0, 1) := by decide +kernel
theorem dX0_enter_30 : decode cX0_enter 30 = .ok (.dup, 1) := by decide +kernel
theorem dX0_enter_31 : decode cX0_enter 31 = .ok (.getfield 18, 3) := by decide +kernel
theorem dX0_enter_34 : decode cX0_enter 34 = .ok (.iconst 1, 1) := by decide +kernel
theorem dX0_enter_35 : decode cX0_enter 35 = .ok (.iadd, 1) := by decide +kernel
theorem dX0_enter_36 : decode cX0_enter 36 = .ok (.putfield 18, 3) := by decide +kernel
theorem dX0_enter_39 : decode cX0_enter 39 = .ok (.return_, 1) := by decide +kernel
theorem dX0_firstWrong_0 : decode cX0_firstWrong 0 = .ok (.iconst 0, 1) := by decide +kernel
theorem dX0_firstWrong_1 : decode cX0_firstWrong 1 = .ok (.istore_n 2, 1) := by decide +kernel
theorem dX0_firstWrong_2 : decode cX0_firstWrong 2 = .ok (.iload_n 2, 1) := by decide +kernel
theorem dX0_firstWrong_3 : decode cX0_firstWrong 3 = .ok (.aload_n 0, 1) := by decide +kernel
theorem dX0_firstWrong_4 : decode cX0_firstWrong 4 = .ok (.getfield 18, 3) := by decide +kernel
theorem dX0_firstWrong_7 : decode cX0_firstWrong 7 = .ok (.if_icmp .ge 31, 3) := by decide +kernel
theorem dX0_firstWrong_10 : decode cX0_firstWrong 10 = .ok (.aload_n 1, 1) := by decide +kernel
theorem dX0_firstWrong_11 : decode cX0_firstWrong 11 = .ok (.getfield 22, 3) := by decide +kernel
theorem dX0_firstWrong_14 : decode cX0_firstWrong 14 = .ok (.aload_n 0, 1) := by decide +kernel
theorem dX0_firstWrong_15 : decode cX0_firstWrong 15 = .ok (.getfield 9, 3) := by decide +kernel
theorem dX0_firstWrong_18 : decode cX0_firstWrong 18 = .ok (.iload_n 2, 1) := by decide +kernel
theorem dX0_firstWrong_19 : decode cX0_firstWrong 19 = .ok (.iaload, 1) := by decide +kernel
theorem dX0_firstWrong_20 : decode cX0_firstWrong 20 = .ok (.iaload, 1) := by decide +kernel
theorem dX0_firstWrong_21 : decode cX0_firstWrong 21 = .ok (.aload_n 0, 1) := by decide +kernel
theorem dX0_firstWrong_22 : decode cX0_firstWrong 22 = .ok (.getfield 15, 3) := by decide +kernel
theorem dX0_firstWrong_25 : decode cX0_firstWrong 25 = .ok (.iload_n 2, 1) := by decide +kernel
theorem dX0_firstWrong_26 : decode cX0_firstWrong 26 = .ok (.iaload, 1) := by decide +kernel
theorem dX0_firstWrong_27 : decode cX0_firstWrong 27 = .ok (.if_icmp .eq 5, 3) := by decide +kernel
theorem dX0_firstWrong_30 : decode cX0_firstWrong 30 = .ok (.iload_n 2, 1) := by decide +kernel
theorem dX0_firstWrong_31 : decode cX0_firstWrong 31 = .ok (.ireturn, 1) := by decide +kernel
theorem dX0_firstWrong_32 : decode cX0_firstWrong 32 = .ok (.iinc 2 1, 3) := by decide +kernel
theorem dX0_firstWrong_35 : decode cX0_firstWrong 35 = .ok (.goto (-33), 3) := by decide +kernel
theorem dX0_firstWrong_38 : decode cX0_firstWrong 38 = .ok (.iconst (-1), 1) := by decide +kernel
theorem dX0_firstWrong_39 : decode cX0_firstWrong 39 = .ok (.ireturn, 1) := by decide +kernel
theorem dX1_init_0 : decode cX1_init 0 = .ok (.aload_n 0, 1) := by decide +kernel
theorem dX1_init_1 : decode cX1_init 1 = .ok (.invokespecial 1, 3) := by decide +kernel
theorem dX1_init_4 : decode cX1_init 4 = .ok (.aload_n 0, 1) := by decide +kernel
theorem dX1_init_5 : decode cX1_init 5 = .ok (.new 7, 3) := by decide +kernel
theorem dX1_init_8 : decode cX1_init 8 = .ok (.dup, 1) := by decide +kernel
theorem dX1_init_9 : decode cX1_init 9 = .ok (.invokespecial 9, 3) := by decide +kernel
theorem dX1_init_12 : decode cX1_init 12 = .ok (.putfield 10, 3) := by decide +kernel
theorem dX1_init_15 : decode cX1_init 15 = .ok (.return_, 1) := by decide +kernel
theorem dX2_init_0 : decode cX2_init 0 = .ok (.aload_n 0, 1) := by decide +kernel
theorem dX2_init_1 : decode cX2_init 1 = .ok (.invokespecial 3, 3) := by decide +kernel
theorem dX2_init_4 : decode cX2_init 4 = .ok (.aload_n 0, 1) := by decide +kernel
theorem dX2_init_5 : decode cX2_init 5 = .ok (.bipush 6, 2) := by decide +kernel
theorem dX2_init_7 : decode cX2_init 7 = .ok (.newarray .int, 2) := by decide +kernel
theorem dX2_init_9 : decode cX2_init 9 = .ok (.putfield 9, 3) := by decide +kernel
theorem dX2_init_12 : decode cX2_init 12 = .ok (.aload_n 0, 1) := by decide +kernel
theorem dX2_init_13 : decode cX2_init 13 = .ok (.bipush 6, 2) := by decide +kernel
theorem dX2_init_15 : decode cX2_init 15 = .ok (.newarray .int, 2) := by decide +kernel
theorem dX2_init_17 : decode cX2_init 17 = .ok (.putfield 15, 3) := by decide +kernel
theorem dX2_init_20 : decode cX2_init 20 = .ok (.aload_n 0, 1) := by decide +kernel
theorem dX2_init_21 : decode cX2_init 21 = .ok (.bipush 6, 2) := by decide +kernel
theorem dX2_init_23 : decode cX2_init 23 = .ok (.newarray .boolean, 2) := by decide +kernel
theorem dX2_init_25 : decode cX2_init 25 = .ok (.putfield 18, 3) := by decide +kernel
theorem dX2_init_28 : decode cX2_init 28 = .ok (.return_, 1) := by decide +kernel
theorem dX2_clear_0 : decode cX2_clear 0 = .ok (.aload_n 0, 1) := by decide +kernel
theorem dX2_clear_1 : decode cX2_clear 1 = .ok (.iconst 0, 1) := by decide +kernel
theorem dX2_clear_2 : decode cX2_clear 2 = .ok (.putfield 22, 3) := by decide +kernel
theorem dX2_clear_5 : decode cX2_clear 5 = .ok (.return_, 1) := by decide +kernel
theorem dX2_tie_0 : decode cX2_tie 0 = .ok (.aload_n 0, 1) := by decide +kernel
theorem dX2_tie_1 : decode cX2_tie 1 = .ok (.getfield 22, 3) := by decide +kernel
theorem dX2_tie_4 : decode cX2_tie 4 = .ok (.bipush 6, 2) := by decide +kernel
theorem dX2_tie_6 : decode cX2_tie 6 = .ok (.if_icmp .ge 43, 3) := by decide +kernel
theorem dX2_tie_9 : decode cX2_tie 9 = .ok (.aload_n 0, 1) := by decide +kernel
theorem dX2_tie_10 : decode cX2_tie 10 = .ok (.getfield 9, 3) := by decide +kernel
theorem dX2_tie_13 : decode cX2_tie 13 = .ok (.aload_n 0, 1) := by decide +kernel
theorem dX2_tie_14 : decode cX2_tie 14 = .ok (.getfield 22, 3) := by decide +kernel
theorem dX2_tie_17 : decode cX2_tie 17 = .ok (.iload_n 1, 1) := by decide +kernel
theorem dX2_tie_18 : decode cX2_tie 18 = .ok (.iastore, 1) := by decide +kernel
theorem dX2_tie_19 : decode cX2_tie 19 = .ok (.aload_n 0, 1) := by decide +kernel
theorem dX2_tie_20 : decode cX2_tie 20 = .ok (.getfield 15, 3) := by decide +kernel
theorem dX2_tie_23 : decode cX2_tie 23 = .ok (.aload_n 0, 1) := by decide +kernel
theorem dX2_tie_24 : decode cX2_tie 24 = .ok (.getfield 22, 3) := by decide +kernel
theorem dX2_tie_27 : decode cX2_tie 27 = .ok (.iload_n 2, 1) := by decide +kernel
theorem dX2_tie_28 : decode cX2_tie 28 = .ok (.iastore, 1) := by decide +kernel
theorem dX2_tie_29 : decode cX2_tie 29 = .ok (.aload_n 0, 1) := by decide +kernel
theorem dX2_tie_30 : decode cX2_tie 30 = .ok (.getfield 18, 3) := by decide +kernel
theorem dX2_tie_33 : decode cX2_tie 33 = .ok (.aload_n 0, 1) := by decide +kernel
theorem dX2_tie_34 : decode cX2_tie 34 = .ok (.getfield 22, 3) := by decide +kernel
theorem dX2_tie_37 : decode cX2_tie 37 = .ok (.iload_n 3, 1) := by decide +kernel
theorem dX2_tie_38 : decode cX2_tie 38 = .ok (.bastore, 1) := by decide +kernel
theorem dX2_tie_39 : decode cX2_tie 39 = .ok (.aload_n 0, 1) := by decide +kernel
theorem dX2_tie_40 : decode cX2_tie 40 = .ok (.dup, 1) := by decide +kernel
theorem dX2_tie_41 : decode cX2_tie 41 = .ok (.getfield 22, 3) := by decide +kernel
theorem dX2_tie_44 : decode cX2_tie 44 = .ok (.iconst 1, 1) := by decide +kernel
theorem dX2_tie_45 : decode cX2_tie 45 = .ok (.iadd, 1) := by decide +kernel
theorem dX2_tie_46 : decode cX2_tie 46 = .ok (.putfield 22, 3) := by decide +kernel
theorem dX2_tie_49 : decode cX2_tie 49 = .ok (.return_, 1) := by decide +kernel
theorem dX2_fitting_0 : decode cX2_fitting 0 = .ok (.iconst 0, 1) := by decide +kernel
theorem dX2_fitting_1 : decode cX2_fitting 1 = .ok (.istore_n 2, 1) := by decide +kernel
theorem dX2_fitting_2 : decode cX2_fitting 2 = .ok (.iconst 0, 1) := by decide +kernel
theorem dX2_fitting_3 : decode cX2_fitting 3 = .ok (.istore_n 3, 1) := by decide +kernel
theorem dX2_fitting_4 : decode cX2_fitting 4 = .ok (.iload_n 3, 1) := by decide +kernel
theorem dX2_fitting_5 : decode cX2_fitting 5 = .ok (.aload_n 1, 1) := by decide +kernel
theorem dX2_fitting_6 : decode cX2_fitting 6 = .ok (.getfield 26, 3) := by decide +kernel
theorem dX2_fitting_9 : decode cX2_fitting 9 = .ok (.if_icmp .ge 24, 3) := by decide +kernel
theorem dX2_fitting_12 : decode cX2_fitting 12 = .ok (.aload_n 0, 1) := by decide +kernel
theorem dX2_fitting_13 : decode cX2_fitting 13 = .ok (.aload_n 1, 1) := by decide +kernel
theorem dX2_fitting_14 : decode cX2_fitting 14 = .ok (.iload_n 3, 1) := by decide +kernel
theorem dX2_fitting_15 : decode cX2_fitting 15 = .ok (.invokevirtual 31, 3) := by decide +kernel
theorem dX2_fitting_18 : decode cX2_fitting 18 = .ok (.ifCond .eq 9, 3) := by decide +kernel
theorem dX2_fitting_21 : decode cX2_fitting 21 = .ok (.iload_n 2, 1) := by decide +kernel
theorem dX2_fitting_22 : decode cX2_fitting 22 = .ok (.iconst 1, 1) := by decide +kernel
theorem dX2_fitting_23 : decode cX2_fitting 23 = .ok (.iload_n 3, 1) := by decide +kernel
theorem dX2_fitting_24 : decode cX2_fitting 24 = .ok (.ishl, 1) := by decide +kernel
theorem dX2_fitting_25 : decode cX2_fitting 25 = .ok (.ior, 1) := by decide +kernel
theorem dX2_fitting_26 : decode cX2_fitting 26 = .ok (.istore_n 2, 1) := by decide +kernel
theorem dX2_fitting_27 : decode cX2_fitting 27 = .ok (.iinc 3 1, 3) := by decide +kernel
theorem dX2_fitting_30 : decode cX2_fitting 30 = .ok (.goto (-26), 3) := by decide +kernel
theorem dX2_fitting_33 : decode cX2_fitting 33 = .ok (.iload_n 2, 1) := by decide +kernel
theorem dX2_fitting_34 : decode cX2_fitting 34 = .ok (.ireturn, 1) := by decide +kernel
theorem dX2_fits_0 : decode cX2_fits 0 = .ok (.iconst 0, 1) := by decide +kernel
theorem dX2_fits_1 : decode cX2_fits 1 = .ok (.istore_n 3, 1) := by decide +kernel
theorem dX2_fits_2 : decode cX2_fits 2 = .ok (.iload_n 3, 1) := by decide +kernel
theorem dX2_fits_3 : decode cX2_fits 3 = .ok (.aload_n 0, 1) := by decide +kernel
theorem dX2_fits_4 : decode cX2_fits 4 = .ok (.getfield 22, 3) := by decide +kernel
theorem dX2_fits_7 : decode cX2_fits 7 = .ok (.if_icmp .ge 37, 3) := by decide +kernel
theorem dX2_fits_10 : decode cX2_fits 10 = .ok (.aload_n 1, 1) := by decide +kernel
theorem dX2_fits_11 : decode cX2_fits 11 = .ok (.iload_n 2, 1) := by decide +kernel
theorem dX2_fits_12 : decode cX2_fits 12 = .ok (.aload_n 0, 1) := by decide +kernel
theorem dX2_fits_13 : decode cX2_fits 13 = .ok (.getfield 9, 3) := by decide +kernel
theorem dX2_fits_16 : decode cX2_fits 16 = .ok (.iload_n 3, 1) := by decide +kernel
theorem dX2_fits_17 : decode cX2_fits 17 = .ok (.iaload, 1) := by decide +kernel
theorem dX2_fits_18 : decode cX2_fits 18 = .ok (.aload_n 0, 1) := by decide +kernel
theorem dX2_fits_19 : decode cX2_fits 19 = .ok (.getfield 15, 3) := by decide +kernel
theorem dX2_fits_22 : decode cX2_fits 22 = .ok (.iload_n 3, 1) := by decide +kernel
theorem dX2_fits_23 : decode cX2_fits 23 = .ok (.iaload, 1) := by decide +kernel
theorem dX2_fits_24 : decode cX2_fits 24 = .ok (.invokevirtual 35, 3) := by decide +kernel
theorem dX2_fits_27 : decode cX2_fits 27 = .ok (.aload_n 0, 1) := by decide +kernel
theorem dX2_fits_28 : decode cX2_fits 28 = .ok (.getfield 18, 3) := by decide +kernel
theorem dX2_fits_31 : decode cX2_fits 31 = .ok (.iload_n 3, 1) := by decide +kernel
theorem dX2_fits_32 : decode cX2_fits 32 = .ok (.baload, 1) := by decide +kernel
theorem dX2_fits_33 : decode cX2_fits 33 = .ok (.if_icmp .eq 5, 3) := by decide +kernel
theorem dX2_fits_36 : decode cX2_fits 36 = .ok (.iconst 0, 1) := by decide +kernel
theorem dX2_fits_37 : decode cX2_fits 37 = .ok (.ireturn, 1) := by decide +kernel
theorem dX2_fits_38 : decode cX2_fits 38 = .ok (.iinc 3 1, 3) := by decide +kernel
theorem dX2_fits_41 : decode cX2_fits 41 = .ok (.goto (-39), 3) := by decide +kernel
theorem dX2_fits_44 : decode cX2_fits 44 = .ok (.iconst 1, 1) := by decide +kernel
theorem dX2_fits_45 : decode cX2_fits 45 = .ok (.ireturn, 1) := by decide +kernel
theorem dX3_init_0 : decode cX3_init 0 = .ok (.aload_n 0, 1) := by decide +kernel
theorem dX3_init_1 : decode cX3_init 1 = .ok (.invokespecial 3, 3) := by decide +kernel
theorem dX3_init_4 : decode cX3_init 4 = .ok (.aload_n 0, 1) := by decide +kernel
theorem dX3_init_5 : decode cX3_init 5 = .ok (.bipush 16, 2) := by decide +kernel
theorem dX3_init_7 : decode cX3_init 7 = .ok (.anewarray 9, 3) := by decide +kernel
theorem dX3_init_10 : decode cX3_init 10 = .ok (.putfield 11, 3) := by decide +kernel
theorem dX3_init_13 : decode cX3_init 13 = .ok (.iconst 0, 1) := by decide +kernel
theorem dX3_init_14 : decode cX3_init 14 = .ok (.istore_n 1, 1) := by decide +kernel
theorem dX3_init_15 : decode cX3_init 15 = .ok (.iload_n 1, 1) := by decide +kernel
theorem dX3_init_16 : decode cX3_init 16 = .ok (.bipush 16, 2) := by decide +kernel
theorem dX3_init_18 : decode cX3_init 18 = .ok (.if_icmp .ge 22, 3) := by decide +kernel
theorem dX3_init_21 : decode cX3_init 21 = .ok (.aload_n 0, 1) := by decide +kernel
theorem dX3_init_22 : decode cX3_init 22 = .ok (.getfield 11, 3) := by decide +kernel
theorem dX3_init_25 : decode cX3_init 25 = .ok (.iload_n 1, 1) := by decide +kernel
theorem dX3_init_26 : decode cX3_init 26 = .ok (.new 9, 3) := by decide +kernel
theorem dX3_init_29 : decode cX3_init 29 = .ok (.dup, 1) := by decide +kernel
theorem dX3_init_30 : decode cX3_init 30 = .ok (.invokespecial 17, 3) := by decide +kernel
theorem dX3_init_33 : decode cX3_init 33 = .ok (.aastore, 1) := by decide +kernel
theorem dX3_init_34 : decode cX3_init 34 = .ok (.iinc 1 1, 3) := by decide +kernel
theorem dX3_init_37 : decode cX3_init 37 = .ok (.goto (-22), 3) := by decide +kernel
theorem dX3_init_40 : decode cX3_init 40 = .ok (.return_, 1) := by decide +kernel
theorem dX3_forget_0 : decode cX3_forget 0 = .ok (.aload_n 0, 1) := by decide +kernel
theorem dX3_forget_1 : decode cX3_forget 1 = .ok (.iconst 0, 1) := by decide +kernel
theorem dX3_forget_2 : decode cX3_forget 2 = .ok (.putfield 18, 3) := by decide +kernel
theorem dX3_forget_5 : decode cX3_forget 5 = .ok (.return_, 1) := by decide +kernel
theorem dX3_remember_0 : decode cX3_remember 0 = .ok (.aload_n 0, 1) := by decide +kernel
theorem dX3_remember_1 : decode cX3_remember 1 = .ok (.getfield 11, 3) := by decide +kernel
theorem dX3_remember_4 : decode cX3_remember 4 = .ok (.aload_n 0, 1) := by decide +kernel
theorem dX3_remember_5 : decode cX3_remember 5 = .ok (.getfield 22, 3) := by decide +kernel
theorem dX3_remember_8 : decode cX3_remember 8 = .ok (.aaload, 1) := by decide +kernel
theorem dX3_remember_9 : decode cX3_remember 9 = .ok (.aload_n 1, 1) := by decide +kernel
theorem dX3_remember_10 : decode cX3_remember 10 = .ok (.invokevirtual 25, 3) := by decide +kernel
theorem dX3_remember_13 : decode cX3_remember 13 = .ok (.aload_n 0, 1) := by decide +kernel
theorem dX3_remember_14 : decode cX3_remember 14 = .ok (.aload_n 0, 1) := by decide +kernel
theorem dX3_remember_15 : decode cX3_remember 15 = .ok (.getfield 22, 3) := by decide +kernel
theorem dX3_remember_18 : decode cX3_remember 18 = .ok (.iconst 1, 1) := by decide +kernel
theorem dX3_remember_19 : decode cX3_remember 19 = .ok (.iadd, 1) := by decide +kernel
theorem dX3_remember_20 : decode cX3_remember 20 = .ok (.bipush 16, 2) := by decide +kernel
theorem dX3_remember_22 : decode cX3_remember 22 = .ok (.irem, 1) := by decide +kernel
theorem dX3_remember_23 : decode cX3_remember 23 = .ok (.putfield 22, 3) := by decide +kernel
theorem dX3_remember_26 : decode cX3_remember 26 = .ok (.aload_n 0, 1) := by decide +kernel
theorem dX3_remember_27 : decode cX3_remember 27 = .ok (.bipush 16, 2) := by decide +kernel
theorem dX3_remember_29 : decode cX3_remember 29 = .ok (.aload_n 0, 1) := by decide +kernel
theorem dX3_remember_30 : decode cX3_remember 30 = .ok (.getfield 18, 3) := by decide +kernel
theorem dX3_remember_33 : decode cX3_remember 33 = .ok (.iconst 1, 1) := by decide +kernel
theorem dX3_remember_34 : decode cX3_remember 34 = .ok (.iadd, 1) := by decide +kernel
theorem dX3_remember_35 : decode cX3_remember 35 = .ok (.invokestatic 29, 3) := by decide +kernel
theorem dX3_remember_38 : decode cX3_remember 38 = .ok (.putfield 18, 3) := by decide +kernel
theorem dX3_remember_41 : decode cX3_remember 41 = .ok (.return_, 1) := by decide +kernel
theorem dX3_returnTo_0 : decode cX3_returnTo 0 = .ok (.aload_n 0, 1) := by decide +kernel
theorem dX3_returnTo_1 : decode cX3_returnTo 1 = .ok (.aload_n 0, 1) := by decide +kernel
theorem dX3_returnTo_2 : decode cX3_returnTo 2 = .ok (.getfield 22, 3) := by decide +kernel
theorem dX3_returnTo_5 : decode cX3_returnTo 5 = .ok (.bipush 16, 2) := by decide +kernel
theorem dX3_returnTo_7 : decode cX3_returnTo 7 = .ok (.iadd, 1) := by decide +kernel
theorem dX3_returnTo_8 : decode cX3_returnTo 8 = .ok (.iconst 1, 1) := by decide +kernel
theorem dX3_returnTo_9 : decode cX3_returnTo 9 = .ok (.isub, 1) := by decide +kernel
theorem dX3_returnTo_10 : decode cX3_returnTo 10 = .ok (.bipush 16, 2) := by decide +kernel
theorem dX3_returnTo_12 : decode cX3_returnTo 12 = .ok (.irem, 1) := by decide +kernel
theorem dX3_returnTo_13 : decode cX3_returnTo 13 = .ok (.putfield 22, 3) := by decide +kernel
theorem dX3_returnTo_16 : decode cX3_returnTo 16 = .ok (.aload_n 0, 1) := by decide +kernel
theorem dX3_returnTo_17 : decode cX3_returnTo 17 = .ok (.dup, 1) := by decide +kernel
theorem dX3_returnTo_18 : decode cX3_returnTo 18 = .ok (.getfield 18, 3) := by decide +kernel
theorem dX3_returnTo_21 : decode cX3_returnTo 21 = .ok (.iconst 1, 1) := by decide +kernel
theorem dX3_returnTo_22 : decode cX3_returnTo 22 = .ok (.isub, 1) := by decide +kernel
theorem dX3_returnTo_23 : decode cX3_returnTo 23 = .ok (.putfield 18, 3) := by decide +kernel
theorem dX3_returnTo_26 : decode cX3_returnTo 26 = .ok (.aload_n 1, 1) := by decide +kernel
theorem dX3_returnTo_27 : decode cX3_returnTo 27 = .ok (.aload_n 0, 1) := by decide +kernel
theorem dX3_returnTo_28 : decode cX3_returnTo 28 = .ok (.getfield 11, 3) := by decide +kernel
theorem dX3_returnTo_31 : decode cX3_returnTo 31 = .ok (.aload_n 0, 1) := by decide +kernel
theorem dX3_returnTo_32 : decode cX3_returnTo 32 = .ok (.getfield 22, 3) := by decide +kernel
theorem dX3_returnTo_35 : decode cX3_returnTo 35 = .ok (.aaload, 1) := by decide +kernel
theorem dX3_returnTo_36 : decode cX3_returnTo 36 = .ok (.invokevirtual 25, 3) := by decide +kernel
theorem dX3_returnTo_39 : decode cX3_returnTo 39 = .ok (.return_, 1) := by decide +kernel
theorem dX4_init_0 : decode cX4_init 0 = .ok (.aload_n 0, 1) := by decide +kernel
theorem dX4_init_1 : decode cX4_init 1 = .ok (.invokespecial 3, 3) := by decide +kernel
theorem dX4_init_4 : decode cX4_init 4 = .ok (.aload_n 0, 1) := by decide +kernel
theorem dX4_init_5 : decode cX4_init 5 = .ok (.bipush 8, 2) := by decide +kernel
theorem dX4_init_7 : decode cX4_init 7 = .ok (.newarray .int, 2) := by decide +kernel
theorem dX4_init_9 : decode cX4_init 9 = .ok (.putfield 9, 3) := by decide +kernel
theorem dX4_init_12 : decode cX4_init 12 = .ok (.aload_n 0, 1) := by decide +kernel
theorem dX4_init_13 : decode cX4_init 13 = .ok (.bipush 8, 2) := by decide +kernel
theorem dX4_init_15 : decode cX4_init 15 = .ok (.newarray .int, 2) := by decide +kernel
theorem dX4_init_17 : decode cX4_init 17 = .ok (.putfield 15, 3) := by decide +kernel
theorem dX4_init_20 : decode cX4_init 20 = .ok (.aload_n 0, 1) := by decide +kernel
theorem dX4_init_21 : decode cX4_init 21 = .ok (.bipush 8, 2) := by decide +kernel
theorem dX4_init_23 : decode cX4_init 23 = .ok (.newarray .int, 2) := by decide +kernel
theorem dX4_init_25 : decode cX4_init 25 = .ok (.putfield 18, 3) := by decide +kernel
theorem dX4_init_28 : decode cX4_init 28 = .ok (.aload_n 0, 1) := by decide +kernel
theorem dX4_init_29 : decode cX4_init 29 = .ok (.bipush 40, 2) := by decide +kernel
theorem dX4_init_31 : decode cX4_init 31 = .ok (.newarray .int, 2) := by decide +kernel
theorem dX4_init_33 : decode cX4_init 33 = .ok (.putfield 21, 3) := by decide +kernel
theorem dX4_init_36 : decode cX4_init 36 = .ok (.aload_n 0, 1) := by decide +kernel
theorem dX4_init_37 : decode cX4_init 37 = .ok (.bipush 9, 2) := by decide +kernel
theorem dX4_init_39 : decode cX4_init 39 = .ok (.newarray .int, 2) := by decide +kernel
theorem dX4_init_41 : decode cX4_init 41 = .ok (.putfield 24, 3) := by decide +kernel
theorem dX4_init_44 : decode cX4_init 44 = .ok (.aload_n 0, 1) := by decide +kernel
theorem dX4_init_45 : decode cX4_init 45 = .ok (.bipush 8, 2) := by decide +kernel
theorem dX4_init_47 : decode cX4_init 47 = .ok (.newarray .int, 2) := by decide +kernel
theorem dX4_init_49 : decode cX4_init 49 = .ok (.putfield 27, 3) := by decide +kernel
theorem dX4_init_52 : decode cX4_init 52 = .ok (.aload_n 0, 1) := by decide +kernel
theorem dX4_init_53 : decode cX4_init 53 = .ok (.bipush 8, 2) := by decide +kernel
theorem dX4_init_55 : decode cX4_init 55 = .ok (.newarray .int, 2) := by decide +kernel
theorem dX4_init_57 : decode cX4_init 57 = .ok (.putfield 30, 3) := by decide +kernel
theorem dX4_init_60 : decode cX4_init 60 = .ok (.return_, 1) := by decide +kernel
theorem dX4_workOut_0 : decode cX4_workOut 0 = .ok (.aload_n 0, 1) := by decide +kernel
theorem dX4_workOut_1 : decode cX4_workOut 1 = .ok (.aload_n 1, 1) := by decide +kernel
theorem dX4_workOut_2 : decode cX4_workOut 2 = .ok (.aload_n 2, 1) := by decide +kernel
theorem dX4_workOut_3 : decode cX4_workOut 3 = .ok (.invokevirtual 33, 3) := by decide +kernel
theorem dX4_workOut_6 : decode cX4_workOut 6 = .ok (.aload_n 0, 1) := by decide +kernel
theorem dX4_workOut_7 : decode cX4_workOut 7 = .ok (.iconst (-1), 1) := by decide +kernel
theorem dX4_workOut_8 : decode cX4_workOut 8 = .ok (.putfield 37, 3) := by decide +kernel
theorem dX4_workOut_11 : decode cX4_workOut 11 = .ok (.aload_n 0, 1) := by decide +kernel
theorem dX4_workOut_12 : decode cX4_workOut 12 = .ok (.iconst 0, 1) := by decide +kernel
theorem dX4_workOut_13 : decode cX4_workOut 13 = .ok (.putfield 41, 3) := by decide +kernel
theorem dX4_workOut_16 : decode cX4_workOut 16 = .ok (.aload_n 0, 1) := by decide +kernel
theorem dX4_workOut_17 : decode cX4_workOut 17 = .ok (.getstatic 44, 3) := by decide +kernel
theorem dX4_workOut_20 : decode cX4_workOut 20 = .ok (.iconst 0, 1) := by decide +kernel
theorem dX4_workOut_21 : decode cX4_workOut 21 = .ok (.iconst 0, 1) := by decide +kernel
theorem dX4_workOut_22 : decode cX4_workOut 22 = .ok (.iconst 0, 1) := by decide +kernel
theorem dX4_workOut_23 : decode cX4_workOut 23 = .ok (.invokestatic 47, 3) := by decide +kernel
theorem dX4_workOut_26 : decode cX4_workOut 26 = .ok (.aload_n 0, 1) := by decide +kernel
theorem dX4_workOut_27 : decode cX4_workOut 27 = .ok (.dup, 1) := by decide +kernel
theorem dX4_workOut_28 : decode cX4_workOut 28 = .ok (.getfield 41, 3) := by decide +kernel
theorem dX4_workOut_31 : decode cX4_workOut 31 = .ok (.iconst 1, 1) := by decide +kernel
theorem dX4_workOut_32 : decode cX4_workOut 32 = .ok (.iadd, 1) := by decide +kernel
theorem dX4_workOut_33 : decode cX4_workOut 33 = .ok (.putfield 41, 3) := by decide +kernel
theorem dX4_workOut_36 : decode cX4_workOut 36 = .ok (.aload_n 0, 1) := by decide +kernel
theorem dX4_workOut_37 : decode cX4_workOut 37 = .ok (.getstatic 51, 3) := by decide +kernel
theorem dX4_workOut_40 : decode cX4_workOut 40 = .ok (.iconst 0, 1) := by decide +kernel
theorem dX4_workOut_41 : decode cX4_workOut 41 = .ok (.iconst 0, 1) := by decide +kernel
theorem dX4_workOut_42 : decode cX4_workOut 42 = .ok (.iconst 0, 1) := by decide +kernel
theorem dX4_workOut_43 : decode cX4_workOut 43 = .ok (.invokestatic 47, 3) := by decide +kernel
theorem dX4_workOut_46 : decode cX4_workOut 46 = .ok (.return_, 1) := by decide +kernel
theorem dX4_howMet_0 : decode cX4_howMet 0 = .ok (.aload_n 0, 1) := by decide +kernel
theorem dX4_howMet_1 : decode cX4_howMet 1 = .ok (.getfield 15, 3) := by decide +kernel
theorem dX4_howMet_4 : decode cX4_howMet 4 = .ok (.iload_n 1, 1) := by decide +kernel
theorem dX4_howMet_5 : decode cX4_howMet 5 = .ok (.iaload, 1) := by decide +kernel
theorem dX4_howMet_6 : decode cX4_howMet 6 = .ok (.iconst (-1), 1) := by decide +kernel
theorem dX4_howMet_7 : decode cX4_howMet 7 = .ok (.if_icmp .ne 7, 3) := by decide +kernel
theorem dX4_howMet_10 : decode cX4_howMet 10 = .ok (.iconst (-1), 1) := by decide +kernel
theorem dX4_howMet_11 : decode cX4_howMet 11 = .ok (.goto 14, 3) := by decide +kernel
theorem dX4_howMet_14 : decode cX4_howMet 14 = .ok (.aload_n 0, 1) := by decide +kernel
theorem dX4_howMet_15 : decode cX4_howMet 15 = .ok (.getfield 30, 3) := by decide +kernel
theorem dX4_howMet_18 : decode cX4_howMet 18 = .ok (.aload_n 0, 1) := by decide +kernel
theorem dX4_howMet_19 : decode cX4_howMet 19 = .ok (.getfield 15, 3) := by decide +kernel
theorem dX4_howMet_22 : decode cX4_howMet 22 = .ok (.iload_n 1, 1) := by decide +kernel
theorem dX4_howMet_23 : decode cX4_howMet 23 = .ok (.iaload, 1) := by decide +kernel
theorem dX4_howMet_24 : decode cX4_howMet 24 = .ok (.iaload, 1) := by decide +kernel
theorem dX4_howMet_25 : decode cX4_howMet 25 = .ok (.ireturn, 1) := by decide +kernel
theorem dX4_gather_0 : decode cX4_gather 0 = .ok (.iconst 0, 1) := by decide +kernel
theorem dX4_gather_1 : decode cX4_gather 1 = .ok (.istore_n 3, 1) := by decide +kernel
theorem dX4_gather_2 : decode cX4_gather 2 = .ok (.iload_n 3, 1) := by decide +kernel
theorem dX4_gather_3 : decode cX4_gather 3 = .ok (.bipush 8, 2) := by decide +kernel
theorem dX4_gather_5 : decode cX4_gather 5 = .ok (.if_icmp .ge 20, 3) := by decide +kernel
theorem dX4_gather_8 : decode cX4_gather 8 = .ok (.aload_n 0, 1) := by decide +kernel
theorem dX4_gather_9 : decode cX4_gather 9 = .ok (.getfield 9, 3) := by decide +kernel
theorem dX4_gather_12 : decode cX4_gather 12 = .ok (.iload_n 3, 1) := by decide +kernel
theorem dX4_gather_13 : decode cX4_gather 13 = .ok (.aload_n 2, 1) := by decide +kernel
theorem dX4_gather_14 : decode cX4_gather 14 = .ok (.iload_n 3, 1) := by decide +kernel
theorem dX4_gather_15 : decode cX4_gather 15 = .ok (.invokevirtual 54, 3) := by decide +kernel
theorem dX4_gather_18 : decode cX4_gather 18 = .ok (.iastore, 1) := by decide +kernel
theorem dX4_gather_19 : decode cX4_gather 19 = .ok (.iinc 3 1, 3) := by decide +kernel
theorem dX4_gather_22 : decode cX4_gather 22 = .ok (.goto (-20), 3) := by decide +kernel
theorem dX4_gather_25 : decode cX4_gather 25 = .ok (.aload_n 0, 1) := by decide +kernel
theorem dX4_gather_26 : decode cX4_gather 26 = .ok (.iconst 0, 1) := by decide +kernel
theorem dX4_gather_27 : decode cX4_gather 27 = .ok (.putfield 59, 3) := by decide +kernel
theorem dX4_gather_30 : decode cX4_gather 30 = .ok (.iconst 0, 1) := by decide +kernel
theorem dX4_gather_31 : decode cX4_gather 31 = .ok (.istore_n 3, 1) := by decide +kernel
theorem dX4_gather_32 : decode cX4_gather 32 = .ok (.iload_n 3, 1) := by decide +kernel
theorem dX4_gather_33 : decode cX4_gather 33 = .ok (.aload_n 1, 1) := by decide +kernel
theorem dX4_gather_34 : decode cX4_gather 34 = .ok (.getfield 62, 3) := by decide +kernel
theorem dX4_gather_37 : decode cX4_gather 37 = .ok (.if_icmp .ge 78, 3) := by decide +kernel
theorem dX4_gather_40 : decode cX4_gather 40 = .ok (.aload_n 0, 1) := by decide +kernel
theorem dX4_gather_41 : decode cX4_gather 41 = .ok (.getfield 15, 3) := by decide +kernel
theorem dX4_gather_44 : decode cX4_gather 44 = .ok (.iload_n 3, 1) := by decide +kernel
theorem dX4_gather_45 : decode cX4_gather 45 = .ok (.iconst (-1), 1) := by decide +kernel
theorem dX4_gather_46 : decode cX4_gather 46 = .ok (.iastore, 1) := by decide +kernel
theorem dX4_gather_47 : decode cX4_gather 47 = .ok (.aload_n 1, 1) := by decide +kernel
theorem dX4_gather_48 : decode cX4_gather 48 = .ok (.iload_n 3, 1) := by decide +kernel
theorem dX4_gather_49 : decode cX4_gather 49 = .ok (.aload_n 1, 1) := by decide +kernel
theorem dX4_gather_50 : decode cX4_gather 50 = .ok (.aload_n 2, 1) := by decide +kernel
theorem dX4_gather_51 : decode cX4_gather 51 = .ok (.getfield 67, 3) := by decide +kernel
theorem dX4_gather_54 : decode cX4_gather 54 = .ok (.invokevirtual 70, 3) := by decide +kernel
theorem dX4_gather_57 : decode cX4_gather 57 = .ok (.invokevirtual 73, 3) := by decide +kernel
theorem dX4_gather_60 : decode cX4_gather 60 = .ok (.ifCond .eq 49, 3) := by decide +kernel
theorem dX4_gather_63 : decode cX4_gather 63 = .ok (.aload_n 0, 1) := by decide +kernel
theorem dX4_gather_64 : decode cX4_gather 64 = .ok (.getfield 15, 3) := by decide +kernel
theorem dX4_gather_67 : decode cX4_gather 67 = .ok (.iload_n 3, 1) := by decide +kernel
theorem dX4_gather_68 : decode cX4_gather 68 = .ok (.aload_n 0, 1) := by decide +kernel
theorem dX4_gather_69 : decode cX4_gather 69 = .ok (.getfield 59, 3) := by decide +kernel
theorem dX4_gather_72 : decode cX4_gather 72 = .ok (.iastore, 1) := by decide +kernel
theorem dX4_gather_73 : decode cX4_gather 73 = .ok (.aload_n 0, 1) := by decide +kernel
theorem dX4_gather_74 : decode cX4_gather 74 = .ok (.getfield 18, 3) := by decide +kernel
theorem dX4_gather_77 : decode cX4_gather 77 = .ok (.aload_n 0, 1) := by decide +kernel
theorem dX4_gather_78 : decode cX4_gather 78 = .ok (.getfield 59, 3) := by decide +kernel
theorem dX4_gather_81 : decode cX4_gather 81 = .ok (.aload_n 1, 1) := by decide +kernel
theorem dX4_gather_82 : decode cX4_gather 82 = .ok (.getfield 77, 3) := by decide +kernel
theorem dX4_gather_85 : decode cX4_gather 85 = .ok (.iload_n 3, 1) := by decide +kernel
theorem dX4_gather_86 : decode cX4_gather 86 = .ok (.iaload, 1) := by decide +kernel
theorem dX4_gather_87 : decode cX4_gather 87 = .ok (.iastore, 1) := by decide +kernel
theorem dX4_gather_88 : decode cX4_gather 88 = .ok (.aload_n 0, 1) := by decide +kernel
theorem dX4_gather_89 : decode cX4_gather 89 = .ok (.aload_n 1, 1) := by decide +kernel
theorem dX4_gather_90 : decode cX4_gather 90 = .ok (.aload_n 1, 1) := by decide +kernel
theorem dX4_gather_91 : decode cX4_gather 91 = .ok (.getfield 80, 3) := by decide +kernel
theorem dX4_gather_94 : decode cX4_gather 94 = .ok (.iload_n 3, 1) := by decide +kernel
theorem dX4_gather_95 : decode cX4_gather 95 = .ok (.iaload, 1) := by decide +kernel
theorem dX4_gather_96 : decode cX4_gather 96 = .ok (.invokevirtual 83, 3) := by decide +kernel
theorem dX4_gather_99 : decode cX4_gather 99 = .ok (.aload_n 0, 1) := by decide +kernel
theorem dX4_gather_100 : decode cX4_gather 100 = .ok (.dup, 1) := by decide +kernel
theorem dX4_gather_101 : decode cX4_gather 101 = .ok (.getfield 59, 3) := by decide +kernel
theorem dX4_gather_104 : decode cX4_gather 104 = .ok (.iconst 1, 1) := by decide +kernel
theorem dX4_gather_105 : decode cX4_gather 105 = .ok (.iadd, 1) := by decide +kernel
theorem dX4_gather_106 : decode cX4_gather 106 = .ok (.putfield 59, 3) := by decide +kernel
theorem dX4_gather_109 : decode cX4_gather 109 = .ok (.iinc 3 1, 3) := by decide +kernel
theorem dX4_gather_112 : decode cX4_gather 112 = .ok (.goto (-80), 3) := by decide +kernel
theorem dX4_gather_115 : decode cX4_gather 115 = .ok (.aload_n 0, 1) := by decide +kernel
theorem dX4_gather_116 : decode cX4_gather 116 = .ok (.getfield 24, 3) := by decide +kernel
theorem dX4_gather_119 : decode cX4_gather 119 = .ok (.aload_n 0, 1) := by decide +kernel
theorem dX4_gather_120 : decode cX4_gather 120 = .ok (.getfield 59, 3) := by decide +kernel
theorem dX4_gather_123 : decode cX4_gather 123 = .ok (.iconst 0, 1) := by decide +kernel
theorem dX4_gather_124 : decode cX4_gather 124 = .ok (.iastore, 1) := by decide +kernel
theorem dX4_gather_125 : decode cX4_gather 125 = .ok (.aload_n 0, 1) := by decide +kernel
theorem dX4_gather_126 : decode cX4_gather 126 = .ok (.getfield 59, 3) := by decide +kernel
theorem dX4_gather_129 : decode cX4_gather 129 = .ok (.iconst 1, 1) := by decide +kernel
theorem dX4_gather_130 : decode cX4_gather 130 = .ok (.isub, 1) := by decide +kernel
theorem dX4_gather_131 : decode cX4_gather 131 = .ok (.istore_n 3, 1) := by decide +kernel
theorem dX4_gather_132 : decode cX4_gather 132 = .ok (.iload_n 3, 1) := by decide +kernel
theorem dX4_gather_133 : decode cX4_gather 133 = .ok (.ifCond .lt 30, 3) := by decide +kernel
theorem dX4_gather_136 : decode cX4_gather 136 = .ok (.aload_n 0, 1) := by decide +kernel
theorem dX4_gather_137 : decode cX4_gather 137 = .ok (.getfield 24, 3) := by decide +kernel
theorem dX4_gather_140 : decode cX4_gather 140 = .ok (.iload_n 3, 1) := by decide +kernel
theorem dX4_gather_141 : decode cX4_gather 141 = .ok (.aload_n 0, 1) := by decide +kernel
theorem dX4_gather_142 : decode cX4_gather 142 = .ok (.getfield 24, 3) := by decide +kernel
theorem dX4_gather_145 : decode cX4_gather 145 = .ok (.iload_n 3, 1) := by decide +kernel
theorem dX4_gather_146 : decode cX4_gather 146 = .ok (.iconst 1, 1) := by decide +kernel
theorem dX4_gather_147 : decode cX4_gather 147 = .ok (.iadd, 1) := by decide +kernel
theorem dX4_gather_148 : decode cX4_gather 148 = .ok (.iaload, 1) := by decide +kernel
theorem dX4_gather_149 : decode cX4_gather 149 = .ok (.aload_n 0, 1) := by decide +kernel
theorem dX4_gather_150 : decode cX4_gather 150 = .ok (.getfield 18, 3) := by decide +kernel
theorem dX4_gather_153 : decode cX4_gather 153 = .ok (.iload_n 3, 1) := by decide +kernel
theorem dX4_gather_154 : decode cX4_gather 154 = .ok (.iaload, 1) := by decide +kernel
theorem dX4_gather_155 : decode cX4_gather 155 = .ok (.iadd, 1) := by decide +kernel
theorem dX4_gather_156 : decode cX4_gather 156 = .ok (.iastore, 1) := by decide +kernel
theorem dX4_gather_157 : decode cX4_gather 157 = .ok (.iinc 3 (-1), 3) := by decide +kernel
theorem dX4_gather_160 : decode cX4_gather 160 = .ok (.goto (-28), 3) := by decide +kernel
theorem dX4_gather_163 : decode cX4_gather 163 = .ok (.return_, 1) := by decide +kernel
theorem dX4_gatherUses_0 : decode cX4_gatherUses 0 = .ok (.aload_n 0, 1) := by decide +kernel
theorem dX4_gatherUses_1 : decode cX4_gatherUses 1 = .ok (.getfield 59, 3) := by decide +kernel
theorem dX4_gatherUses_4 : decode cX4_gatherUses 4 = .ok (.iconst 5, 1) := by decide +kernel
theorem dX4_gatherUses_5 : decode cX4_gatherUses 5 = .ok (.imul, 1) := by decide +kernel
theorem dX4_gatherUses_6 : decode cX4_gatherUses 6 = .ok (.istore_n 3, 1) := by decide +kernel
theorem dX4_gatherUses_7 : decode cX4_gatherUses 7 = .ok (.aload_n 0, 1) := by decide +kernel
theorem dX4_gatherUses_8 : decode cX4_gatherUses 8 = .ok (.getfield 21, 3) := by decide +kernel
theorem dX4_gatherUses_11 : decode cX4_gatherUses 11 = .ok (.iload_n 3, 1) := by decide +kernel
theorem dX4_gatherUses_12 : decode cX4_gatherUses 12 = .ok (.iconst 0, 1) := by decide +kernel
theorem dX4_gatherUses_13 : decode cX4_gatherUses 13 = .ok (.iadd, 1) := by decide +kernel
theorem dX4_gatherUses_14 : decode cX4_gatherUses 14 = .ok (.iconst 0, 1) := by decide +kernel
theorem dX4_gatherUses_15 : decode cX4_gatherUses 15 = .ok (.iastore, 1) := by decide +kernel
theorem dX4_gatherUses_16 : decode cX4_gatherUses 16 = .ok (.aload_n 0, 1) := by decide +kernel
theorem dX4_gatherUses_17 : decode cX4_gatherUses 17 = .ok (.getfield 21, 3) := by decide +kernel
theorem dX4_gatherUses_20 : decode cX4_gatherUses 20 = .ok (.iload_n 3, 1) := by decide +kernel
theorem dX4_gatherUses_21 : decode cX4_gatherUses 21 = .ok (.iconst 1, 1) := by decide +kernel
theorem dX4_gatherUses_22 : decode cX4_gatherUses 22 = .ok (.iadd, 1) := by decide +kernel
theorem dX4_gatherUses_23 : decode cX4_gatherUses 23 = .ok (.iconst 1, 1) := by decide +kernel
theorem dX4_gatherUses_24 : decode cX4_gatherUses 24 = .ok (.iload_n 2, 1) := by decide +kernel
theorem dX4_gatherUses_25 : decode cX4_gatherUses 25 = .ok (.ishl, 1) := by decide +kernel
theorem dX4_gatherUses_26 : decode cX4_gatherUses 26 = .ok (.iastore, 1) := by decide +kernel
theorem dX4_gatherUses_27 : decode cX4_gatherUses 27 = .ok (.iconst 0, 1) := by decide +kernel
theorem dX4_gatherUses_28 : decode cX4_gatherUses 28 = .ok (.istore 4, 2) := by decide +kernel
theorem dX4_gatherUses_30 : decode cX4_gatherUses 30 = .ok (.iload 4, 2) := by decide +kernel
theorem dX4_gatherUses_32 : decode cX4_gatherUses 32 = .ok (.iconst 2, 1) := by decide +kernel
theorem dX4_gatherUses_33 : decode cX4_gatherUses 33 = .ok (.if_icmp .ge 40, 3) := by decide +kernel
theorem dX4_gatherUses_36 : decode cX4_gatherUses 36 = .ok (.aload_n 1, 1) := by decide +kernel
theorem dX4_gatherUses_37 : decode cX4_gatherUses 37 = .ok (.iload_n 2, 1) := by decide +kernel
theorem dX4_gatherUses_38 : decode cX4_gatherUses 38 = .ok (.iload 4, 2) := by decide +kernel
theorem dX4_gatherUses_40 : decode cX4_gatherUses 40 = .ok (.invokevirtual 87, 3) := by decide +kernel
theorem dX4_gatherUses_43 : decode cX4_gatherUses 43 = .ok (.istore 5, 2) := by decide +kernel
theorem dX4_gatherUses_45 : decode cX4_gatherUses 45 = .ok (.aload_n 0, 1) := by decide +kernel
theorem dX4_gatherUses_46 : decode cX4_gatherUses 46 = .ok (.getfield 21, 3) := by decide +kernel
theorem dX4_gatherUses_49 : decode cX4_gatherUses 49 = .ok (.iload_n 3, 1) := by decide +kernel
theorem dX4_gatherUses_50 : decode cX4_gatherUses 50 = .ok (.iconst 2, 1) := by decide +kernel
theorem dX4_gatherUses_51 : decode cX4_gatherUses 51 = .ok (.iadd, 1) := by decide +kernel
theorem dX4_gatherUses_52 : decode cX4_gatherUses 52 = .ok (.iload 4, 2) := by decide +kernel
theorem dX4_gatherUses_54 : decode cX4_gatherUses 54 = .ok (.iadd, 1) := by decide +kernel
theorem dX4_gatherUses_55 : decode cX4_gatherUses 55 = .ok (.iload 5, 2) := by decide +kernel
theorem dX4_gatherUses_57 : decode cX4_gatherUses 57 = .ok (.ifCond .ne 7, 3) := by decide +kernel
theorem dX4_gatherUses_60 : decode cX4_gatherUses 60 = .ok (.iconst (-1), 1) := by decide +kernel
theorem dX4_gatherUses_61 : decode cX4_gatherUses 61 = .ok (.goto 5, 3) := by decide +kernel
theorem dX4_gatherUses_64 : decode cX4_gatherUses 64 = .ok (.iload 5, 2) := by decide +kernel
theorem dX4_gatherUses_66 : decode cX4_gatherUses 66 = .ok (.iastore, 1) := by decide +kernel
theorem dX4_gatherUses_67 : decode cX4_gatherUses 67 = .ok (.iinc 4 1, 3) := by decide +kernel
theorem dX4_gatherUses_70 : decode cX4_gatherUses 70 = .ok (.goto (-40), 3) := by decide +kernel
theorem dX4_gatherUses_73 : decode cX4_gatherUses 73 = .ok (.aload_n 0, 1) := by decide +kernel
theorem dX4_gatherUses_74 : decode cX4_gatherUses 74 = .ok (.getfield 21, 3) := by decide +kernel
theorem dX4_gatherUses_77 : decode cX4_gatherUses 77 = .ok (.iload_n 3, 1) := by decide +kernel
theorem dX4_gatherUses_78 : decode cX4_gatherUses 78 = .ok (.iconst 4, 1) := by decide +kernel
theorem dX4_gatherUses_79 : decode cX4_gatherUses 79 = .ok (.iadd, 1) := by decide +kernel
theorem dX4_gatherUses_80 : decode cX4_gatherUses 80 = .ok (.aload_n 1, 1) := by decide +kernel
theorem dX4_gatherUses_81 : decode cX4_gatherUses 81 = .ok (.iload_n 2, 1) := by decide +kernel
theorem dX4_gatherUses_82 : decode cX4_gatherUses 82 = .ok (.invokevirtual 91, 3) := by decide +kernel
theorem dX4_gatherUses_85 : decode cX4_gatherUses 85 = .ok (.ifCond .eq 7, 3) := by decide +kernel
theorem dX4_gatherUses_88 : decode cX4_gatherUses 88 = .ok (.iconst 0, 1) := by decide +kernel
theorem dX4_gatherUses_89 : decode cX4_gatherUses 89 = .ok (.goto 4, 3) := by decide +kernel
theorem dX4_gatherUses_92 : decode cX4_gatherUses 92 = .ok (.iconst (-1), 1) := by decide +kernel
theorem dX4_gatherUses_93 : decode cX4_gatherUses 93 = .ok (.iastore, 1) := by decide +kernel
theorem dX4_gatherUses_94 : decode cX4_gatherUses 94 = .ok (.return_, 1) := by decide +kernel
theorem dX4_search_0 : decode cX4_search 0 = .ok (.aload_n 0, 1) := by decide +kernel
theorem dX4_search_1 : decode cX4_search 1 = .ok (.iload_n 3, 1) := by decide +kernel
theorem dX4_search_2 : decode cX4_search 2 = .ok (.aload_n 0, 1) := by decide +kernel
theorem dX4_search_3 : decode cX4_search 3 = .ok (.getfield 24, 3) := by decide +kernel
theorem dX4_search_6 : decode cX4_search 6 = .ok (.iload_n 2, 1) := by decide +kernel
theorem dX4_search_7 : decode cX4_search 7 = .ok (.iaload, 1) := by decide +kernel
theorem dX4_search_8 : decode cX4_search 8 = .ok (.iadd, 1) := by decide +kernel
theorem dX4_search_9 : decode cX4_search 9 = .ok (.iload 4, 2) := by decide +kernel
theorem dX4_search_11 : decode cX4_search 11 = .ok (.invokevirtual 95, 3) := by decide +kernel
theorem dX4_search_14 : decode cX4_search 14 = .ok (.ifCond .ne 4, 3) := by decide +kernel
theorem dX4_search_17 : decode cX4_search 17 = .ok (.return_, 1) := by decide +kernel
theorem dX4_search_18 : decode cX4_search 18 = .ok (.iload_n 2, 1) := by decide +kernel
theorem dX4_search_19 : decode cX4_search 19 = .ok (.aload_n 0, 1) := by decide +kernel
theorem dX4_search_20 : decode cX4_search 20 = .ok (.getfield 59, 3) := by decide +kernel
theorem dX4_search_23 : decode cX4_search 23 = .ok (.if_icmp .lt 11, 3) := by decide +kernel
theorem dX4_search_26 : decode cX4_search 26 = .ok (.aload_n 0, 1) := by decide +kernel
theorem dX4_search_27 : decode cX4_search 27 = .ok (.iload_n 3, 1) := by decide +kernel
theorem dX4_search_28 : decode cX4_search 28 = .ok (.iload 4, 2) := by decide +kernel
theorem dX4_search_30 : decode cX4_search 30 = .ok (.invokevirtual 98, 3) := by decide +kernel
theorem dX4_search_33 : decode cX4_search 33 = .ok (.return_, 1) := by decide +kernel
theorem dX4_search_34 : decode cX4_search 34 = .ok (.aload_n 1, 1) := by decide +kernel
theorem dX4_search_35 : decode cX4_search 35 = .ok (.astore 5, 2) := by decide +kernel
theorem dX4_search_37 : decode cX4_search 37 = .ok (.aload 5, 2) := by decide +kernel
theorem dX4_search_39 : decode cX4_search 39 = .ok (.arraylength, 1) := by decide +kernel
theorem dX4_search_40 : decode cX4_search 40 = .ok (.istore 6, 2) := by decide +kernel
theorem dX4_search_42 : decode cX4_search 42 = .ok (.iconst 0, 1) := by decide +kernel
theorem dX4_search_43 : decode cX4_search 43 = .ok (.istore 7, 2) := by decide +kernel
theorem dX4_search_45 : decode cX4_search 45 = .ok (.iload 7, 2) := by decide +kernel
theorem dX4_search_47 : decode cX4_search 47 = .ok (.iload 6, 2) := by decide +kernel
theorem dX4_search_49 : decode cX4_search 49 = .ok (.if_icmp .ge 97, 3) := by decide +kernel
theorem dX4_search_52 : decode cX4_search 52 = .ok (.aload 5, 2) := by decide +kernel
theorem dX4_search_54 : decode cX4_search 54 = .ok (.iload 7, 2) := by decide +kernel
theorem dX4_search_56 : decode cX4_search 56 = .ok (.iaload, 1) := by decide +kernel
theorem dX4_search_57 : decode cX4_search 57 = .ok (.istore 8, 2) := by decide +kernel
theorem dX4_search_59 : decode cX4_search 59 = .ok (.aload_n 0, 1) := by decide +kernel
theorem dX4_search_60 : decode cX4_search 60 = .ok (.getfield 21, 3) := by decide +kernel
theorem dX4_search_63 : decode cX4_search 63 = .ok (.iload_n 2, 1) := by decide +kernel
theorem dX4_search_64 : decode cX4_search 64 = .ok (.iconst 5, 1) := by decide +kernel
theorem dX4_search_65 : decode cX4_search 65 = .ok (.imul, 1) := by decide +kernel
theorem dX4_search_66 : decode cX4_search 66 = .ok (.iload 8, 2) := by decide +kernel
theorem dX4_search_68 : decode cX4_search 68 = .ok (.iadd, 1) := by decide +kernel
theorem dX4_search_69 : decode cX4_search 69 = .ok (.iaload, 1) := by decide +kernel
theorem dX4_search_70 : decode cX4_search 70 = .ok (.istore 9, 2) := by decide +kernel
theorem dX4_search_72 : decode cX4_search 72 = .ok (.aload_n 0, 1) := by decide +kernel
theorem dX4_search_73 : decode cX4_search 73 = .ok (.iload 9, 2) := by decide +kernel
theorem dX4_search_75 : decode cX4_search 75 = .ok (.invokevirtual 102, 3) := by decide +kernel
theorem dX4_search_78 : decode cX4_search 78 = .ok (.ifCond .eq 62, 3) := by decide +kernel
theorem dX4_search_81 : decode cX4_search 81 = .ok (.aload_n 0, 1) := by decide +kernel
theorem dX4_search_82 : decode cX4_search 82 = .ok (.iload 9, 2) := by decide +kernel
theorem dX4_search_84 : decode cX4_search 84 = .ok (.iconst (-1), 1) := by decide +kernel
theorem dX4_search_85 : decode cX4_search 85 = .ok (.invokevirtual 105, 3) := by decide +kernel
theorem dX4_search_88 : decode cX4_search 88 = .ok (.aload_n 0, 1) := by decide +kernel
theorem dX4_search_89 : decode cX4_search 89 = .ok (.getfield 27, 3) := by decide +kernel
theorem dX4_search_92 : decode cX4_search 92 = .ok (.iload_n 2, 1) := by decide +kernel
theorem dX4_search_93 : decode cX4_search 93 = .ok (.iload 8, 2) := by decide +kernel
theorem dX4_search_95 : decode cX4_search 95 = .ok (.iastore, 1) := by decide +kernel
theorem dX4_search_96 : decode cX4_search 96 = .ok (.iload 8, 2) := by decide +kernel
theorem dX4_search_98 : decode cX4_search 98 = .ok (.ifCond .ne 7, 3) := by decide +kernel
theorem dX4_search_101 : decode cX4_search 101 = .ok (.iconst 0, 1) := by decide +kernel
theorem dX4_search_102 : decode cX4_search 102 = .ok (.goto 9, 3) := by decide +kernel
theorem dX4_search_105 : decode cX4_search 105 = .ok (.aload_n 0, 1) := by decide +kernel
theorem dX4_search_106 : decode cX4_search 106 = .ok (.getfield 18, 3) := by decide +kernel
theorem dX4_search_109 : decode cX4_search 109 = .ok (.iload_n 2, 1) := by decide +kernel
theorem dX4_search_110 : decode cX4_search 110 = .ok (.iaload, 1) := by decide +kernel
theorem dX4_search_111 : decode cX4_search 111 = .ok (.istore 10, 2) := by decide +kernel
theorem dX4_search_113 : decode cX4_search 113 = .ok (.aload_n 0, 1) := by decide +kernel
theorem dX4_search_114 : decode cX4_search 114 = .ok (.aload_n 1, 1) := by decide +kernel
theorem dX4_search_115 : decode cX4_search 115 = .ok (.iload_n 2, 1) := by decide +kernel
theorem dX4_search_116 : decode cX4_search 116 = .ok (.iconst 1, 1) := by decide +kernel
theorem dX4_search_117 : decode cX4_search 117 = .ok (.iadd, 1) := by decide +kernel
theorem dX4_search_118 : decode cX4_search 118 = .ok (.iload_n 3, 1) := by decide +kernel
theorem dX4_search_119 : decode cX4_search 119 = .ok (.iload 10, 2) := by decide +kernel
theorem dX4_search_121 : decode cX4_search 121 = .ok (.iadd, 1) := by decide +kernel
theorem dX4_search_122 : decode cX4_search 122 = .ok (.iload 4, 2) := by decide +kernel
theorem dX4_search_124 : decode cX4_search 124 = .ok (.iload 9, 2) := by decide +kernel
theorem dX4_search_126 : decode cX4_search 126 = .ok (.invokestatic 108, 3) := by decide +kernel
theorem dX4_search_129 : decode cX4_search 129 = .ok (.iadd, 1) := by decide +kernel
theorem dX4_search_130 : decode cX4_search 130 = .ok (.invokestatic 47, 3) := by decide +kernel
theorem dX4_search_133 : decode cX4_search 133 = .ok (.aload_n 0, 1) := by decide +kernel
theorem dX4_search_134 : decode cX4_search 134 = .ok (.iload 9, 2) := by decide +kernel
theorem dX4_search_136 : decode cX4_search 136 = .ok (.iconst 1, 1) := by decide +kernel
theorem dX4_search_137 : decode cX4_search 137 = .ok (.invokevirtual 105, 3) := by decide +kernel
theorem dX4_search_140 : decode cX4_search 140 = .ok (.iinc 7 1, 3) := by decide +kernel
theorem dX4_search_143 : decode cX4_search 143 = .ok (.goto (-98), 3) := by decide +kernel
theorem dX4_search_146 : decode cX4_search 146 = .ok (.return_, 1) := by decide +kernel
theorem dX4_mayBeBetter_0 : decode cX4_mayBeBetter 0 = .ok (.iload_n 1, 1) := by decide +kernel
theorem dX4_mayBeBetter_1 : decode cX4_mayBeBetter 1 = .ok (.aload_n 0, 1) := by decide +kernel
theorem dX4_mayBeBetter_2 : decode cX4_mayBeBetter 2 = .ok (.getfield 37, 3) := by decide +kernel
theorem dX4_mayBeBetter_5 : decode cX4_mayBeBetter 5 = .ok (.if_icmp .gt 19, 3) := by decide +kernel
theorem dX4_mayBeBetter_8 : decode cX4_mayBeBetter 8 = .ok (.iload_n 1, 1) := by decide +kernel
theorem dX4_mayBeBetter_9 : decode cX4_mayBeBetter 9 = .ok (.aload_n 0, 1) := by decide +kernel
theorem dX4_mayBeBetter_10 : decode cX4_mayBeBetter 10 = .ok (.getfield 37, 3) := by decide +kernel
theorem dX4_mayBeBetter_13 : decode cX4_mayBeBetter 13 = .ok (.if_icmp .ne 15, 3) := by decide +kernel
theorem dX4_mayBeBetter_16 : decode cX4_mayBeBetter 16 = .ok (.iload_n 2, 1) := by decide +kernel
theorem dX4_mayBeBetter_17 : decode cX4_mayBeBetter 17 = .ok (.aload_n 0, 1) := by decide +kernel
theorem dX4_mayBeBetter_18 : decode cX4_mayBeBetter 18 = .ok (.getfield 41, 3) := by decide +kernel
theorem dX4_mayBeBetter_21 : decode cX4_mayBeBetter 21 = .ok (.if_icmp .ge 7, 3) := by decide +kernel
theorem dX4_mayBeBetter_24 : decode cX4_mayBeBetter 24 = .ok (.iconst 1, 1) := by decide +kernel
theorem dX4_mayBeBetter_25 : decode cX4_mayBeBetter 25 = .ok (.goto 4, 3) := by decide +kernel
theorem dX4_mayBeBetter_28 : decode cX4_mayBeBetter 28 = .ok (.iconst 0, 1) := by decide +kernel
theorem dX4_mayBeBetter_29 : decode cX4_mayBeBetter 29 = .ok (.ireturn, 1) := by decide +kernel
theorem dX4_take_0 : decode cX4_take 0 = .ok (.aload_n 0, 1) := by decide +kernel
theorem dX4_take_1 : decode cX4_take 1 = .ok (.iload_n 1, 1) := by decide +kernel
theorem dX4_take_2 : decode cX4_take 2 = .ok (.putfield 37, 3) := by decide +kernel
theorem dX4_take_5 : decode cX4_take 5 = .ok (.aload_n 0, 1) := by decide +kernel
theorem dX4_take_6 : decode cX4_take 6 = .ok (.iload_n 2, 1) := by decide +kernel
theorem dX4_take_7 : decode cX4_take 7 = .ok (.putfield 41, 3) := by decide +kernel
theorem dX4_take_10 : decode cX4_take 10 = .ok (.aload_n 0, 1) := by decide +kernel
theorem dX4_take_11 : decode cX4_take 11 = .ok (.getfield 27, 3) := by decide +kernel
theorem dX4_take_14 : decode cX4_take 14 = .ok (.iconst 0, 1) := by decide +kernel
theorem dX4_take_15 : decode cX4_take 15 = .ok (.aload_n 0, 1) := by decide +kernel
theorem dX4_take_16 : decode cX4_take 16 = .ok (.getfield 30, 3) := by decide +kernel
theorem dX4_take_19 : decode cX4_take 19 = .ok (.iconst 0, 1) := by decide +kernel
theorem dX4_take_20 : decode cX4_take 20 = .ok (.aload_n 0, 1) := by decide +kernel
theorem dX4_take_21 : decode cX4_take 21 = .ok (.getfield 59, 3) := by decide +kernel
theorem dX4_take_24 : decode cX4_take 24 = .ok (.invokestatic 113, 3) := by decide +kernel
theorem dX4_take_27 : decode cX4_take 27 = .ok (.return_, 1) := by decide +kernel
theorem dX4_affords_0 : decode cX4_affords 0 = .ok (.iload_n 1, 1) := by decide +kernel
theorem dX4_affords_1 : decode cX4_affords 1 = .ok (.iconst (-1), 1) := by decide +kernel
theorem dX4_affords_2 : decode cX4_affords 2 = .ok (.if_icmp .ne 5, 3) := by decide +kernel
theorem dX4_affords_5 : decode cX4_affords 5 = .ok (.iconst 0, 1) := by decide +kernel
theorem dX4_affords_6 : decode cX4_affords 6 = .ok (.ireturn, 1) := by decide +kernel
theorem dX4_affords_7 : decode cX4_affords 7 = .ok (.iconst 0, 1) := by decide +kernel
theorem dX4_affords_8 : decode cX4_affords 8 = .ok (.istore_n 2, 1) := by decide +kernel
theorem dX4_affords_9 : decode cX4_affords 9 = .ok (.iload_n 2, 1) := by decide +kernel
theorem dX4_affords_10 : decode cX4_affords 10 = .ok (.bipush 8, 2) := by decide +kernel
theorem dX4_affords_12 : decode cX4_affords 12 = .ok (.if_icmp .ge 28, 3) := by decide +kernel
theorem dX4_affords_15 : decode cX4_affords 15 = .ok (.iload_n 1, 1) := by decide +kernel
theorem dX4_affords_16 : decode cX4_affords 16 = .ok (.iload_n 2, 1) := by decide +kernel
theorem dX4_affords_17 : decode cX4_affords 17 = .ok (.ishr, 1) := by decide +kernel
theorem dX4_affords_18 : decode cX4_affords 18 = .ok (.iconst 1, 1) := by decide +kernel
theorem dX4_affords_19 : decode cX4_affords 19 = .ok (.iand, 1) := by decide +kernel
theorem dX4_affords_20 : decode cX4_affords 20 = .ok (.ifCond .eq 14, 3) := by decide +kernel
theorem dX4_affords_23 : decode cX4_affords 23 = .ok (.aload_n 0, 1) := by decide +kernel
theorem dX4_affords_24 : decode cX4_affords 24 = .ok (.getfield 9, 3) := by decide +kernel
theorem dX4_affords_27 : decode cX4_affords 27 = .ok (.iload_n 2, 1) := by decide +kernel
theorem dX4_affords_28 : decode cX4_affords 28 = .ok (.iaload, 1) := by decide +kernel
theorem dX4_affords_29 : decode cX4_affords 29 = .ok (.ifCond .gt 5, 3) := by decide +kernel
theorem dX4_affords_32 : decode cX4_affords 32 = .ok (.iconst 0, 1) := by decide +kernel
theorem dX4_affords_33 : decode cX4_affords 33 = .ok (.ireturn, 1) := by decide +kernel
theorem dX4_affords_34 : decode cX4_affords 34 = .ok (.iinc 2 1, 3) := by decide +kernel
theorem dX4_affords_37 : decode cX4_affords 37 = .ok (.goto (-28), 3) := by decide +kernel
theorem dX4_affords_40 : decode cX4_affords 40 = .ok (.iconst 1, 1) := by decide +kernel
theorem dX4_affords_41 : decode cX4_affords 41 = .ok (.ireturn, 1) := by decide +kernel
theorem dX4_change_0 : decode cX4_change 0 = .ok (.iconst 0, 1) := by decide +kernel
theorem dX4_change_1 : decode cX4_change 1 = .ok (.istore_n 3, 1) := by decide +kernel
theorem dX4_change_2 : decode cX4_change 2 = .ok (.iload_n 3, 1) := by decide +kernel
theorem dX4_change_3 : decode cX4_change 3 = .ok (.bipush 8, 2) := by decide +kernel
theorem dX4_change_5 : decode cX4_change 5 = .ok (.if_icmp .ge 27, 3) := by decide +kernel
theorem dX4_change_8 : decode cX4_change 8 = .ok (.iload_n 1, 1) := by decide +kernel
theorem dX4_change_9 : decode cX4_change 9 = .ok (.iload_n 3, 1) := by decide +kernel
theorem dX4_change_10 : decode cX4_change 10 = .ok (.ishr, 1) := by decide +kernel
theorem dX4_change_11 : decode cX4_change 11 = .ok (.iconst 1, 1) := by decide +kernel
theorem dX4_change_12 : decode cX4_change 12 = .ok (.iand, 1) := by decide +kernel
theorem dX4_change_13 : decode cX4_change 13 = .ok (.ifCond .eq 13, 3) := by decide +kernel
theorem dX4_change_16 : decode cX4_change 16 = .ok (.aload_n 0, 1) := by decide +kernel
theorem dX4_change_17 : decode cX4_change 17 = .ok (.getfield 9, 3) := by decide +kernel
theorem dX4_change_20 : decode cX4_change 20 = .ok (.iload_n 3, 1) := by decide +kernel
theorem dX4_change_21 : decode cX4_change 21 = .ok (.dup2, 1) := by decide +kernel
theorem dX4_change_22 : decode cX4_change 22 = .ok (.iaload, 1) := by decide +kernel
theorem dX4_change_23 : decode cX4_change 23 = .ok (.iload_n 2, 1) := by decide +kernel
theorem dX4_change_24 : decode cX4_change 24 = .ok (.iadd, 1) := by decide +kernel
theorem dX4_change_25 : decode cX4_change 25 = .ok (.iastore, 1) := by decide +kernel
theorem dX4_change_26 : decode cX4_change 26 = .ok (.iinc 3 1, 3) := by decide +kernel
theorem dX4_change_29 : decode cX4_change 29 = .ok (.goto (-27), 3) := by decide +kernel
theorem dX4_change_32 : decode cX4_change 32 = .ok (.return_, 1) := by decide +kernel
theorem dX5_init_0 : decode cX5_init 0 = .ok (.aload_n 0, 1) := by decide +kernel
theorem dX5_init_1 : decode cX5_init 1 = .ok (.invokespecial 3, 3) := by decide +kernel
theorem dX5_init_4 : decode cX5_init 4 = .ok (.aload_n 0, 1) := by decide +kernel
theorem dX5_init_5 : decode cX5_init 5 = .ok (.bipush 8, 2) := by decide +kernel
theorem dX5_init_7 : decode cX5_init 7 = .ok (.newarray .int, 2) := by decide +kernel
theorem dX5_init_9 : decode cX5_init 9 = .ok (.putfield 9, 3) := by decide +kernel
theorem dX5_init_12 : decode cX5_init 12 = .ok (.aload_n 0, 1) := by decide +kernel
theorem dX5_init_13 : decode cX5_init 13 = .ok (.bipush 8, 2) := by decide +kernel
theorem dX5_init_15 : decode cX5_init 15 = .ok (.newarray .int, 2) := by decide +kernel
theorem dX5_init_17 : decode cX5_init 17 = .ok (.putfield 15, 3) := by decide +kernel
theorem dX5_init_20 : decode cX5_init 20 = .ok (.aload_n 0, 1) := by decide +kernel
theorem dX5_init_21 : decode cX5_init 21 = .ok (.bipush 8, 2) := by decide +kernel
theorem dX5_init_23 : decode cX5_init 23 = .ok (.newarray .int, 2) := by decide +kernel
theorem dX5_init_25 : decode cX5_init 25 = .ok (.putfield 18, 3) := by decide +kernel
theorem dX5_init_28 : decode cX5_init 28 = .ok (.aload_n 0, 1) := by decide +kernel
theorem dX5_init_29 : decode cX5_init 29 = .ok (.bipush 40, 2) := by decide +kernel
theorem dX5_init_31 : decode cX5_init 31 = .ok (.newarray .int, 2) := by decide +kernel
theorem dX5_init_33 : decode cX5_init 33 = .ok (.putfield 21, 3) := by decide +kernel
theorem dX5_init_36 : decode cX5_init 36 = .ok (.return_, 1) := by decide +kernel
theorem dX5_begin_0 : decode cX5_begin 0 = .ok (.aload_n 0, 1) := by decide +kernel
theorem dX5_begin_1 : decode cX5_begin 1 = .ok (.iconst 0, 1) := by decide +kernel
theorem dX5_begin_2 : decode cX5_begin 2 = .ok (.putfield 24, 3) := by decide +kernel
theorem dX5_begin_5 : decode cX5_begin 5 = .ok (.aload_n 0, 1) := by decide +kernel
theorem dX5_begin_6 : decode cX5_begin 6 = .ok (.iconst 0, 1) := by decide +kernel
theorem dX5_begin_7 : decode cX5_begin 7 = .ok (.putfield 28, 3) := by decide +kernel
theorem dX5_begin_10 : decode cX5_begin 10 = .ok (.aload_n 0, 1) := by decide +kernel
theorem dX5_begin_11 : decode cX5_begin 11 = .ok (.iconst 0, 1) := by decide +kernel
theorem dX5_begin_12 : decode cX5_begin 12 = .ok (.putfield 31, 3) := by decide +kernel
theorem dX5_begin_15 : decode cX5_begin 15 = .ok (.aload_n 0, 1) := by decide +kernel
theorem dX5_begin_16 : decode cX5_begin 16 = .ok (.iconst 0, 1) := by decide +kernel
theorem dX5_begin_17 : decode cX5_begin 17 = .ok (.putfield 34, 3) := by decide +kernel
theorem dX5_begin_20 : decode cX5_begin 20 = .ok (.aload_n 0, 1) := by decide +kernel
theorem dX5_begin_21 : decode cX5_begin 21 = .ok (.iconst 0, 1) := by decide +kernel
theorem dX5_begin_22 : decode cX5_begin 22 = .ok (.putfield 37, 3) := by decide +kernel
theorem dX5_begin_25 : decode cX5_begin 25 = .ok (.iconst 0, 1) := by decide +kernel
theorem dX5_begin_26 : decode cX5_begin 26 = .ok (.istore_n 2, 1) := by decide +kernel
theorem dX5_begin_27 : decode cX5_begin 27 = .ok (.iload_n 2, 1) := by decide +kernel
theorem dX5_begin_28 : decode cX5_begin 28 = .ok (.bipush 8, 2) := by decide +kernel
theorem dX5_begin_30 : decode cX5_begin 30 = .ok (.if_icmp .ge 40, 3) := by decide +kernel
theorem dX5_begin_33 : decode cX5_begin 33 = .ok (.aload_n 0, 1) := by decide +kernel
theorem dX5_begin_34 : decode cX5_begin 34 = .ok (.getfield 9, 3) := by decide +kernel
theorem dX5_begin_37 : decode cX5_begin 37 = .ok (.iload_n 2, 1) := by decide +kernel
theorem dX5_begin_38 : decode cX5_begin 38 = .ok (.iload_n 2, 1) := by decide +kernel
theorem dX5_begin_39 : decode cX5_begin 39 = .ok (.aload_n 1, 1) := by decide +kernel
theorem dX5_begin_40 : decode cX5_begin 40 = .ok (.getfield 40, 3) := by decide +kernel
theorem dX5_begin_43 : decode cX5_begin 43 = .ok (.if_icmp .ge 12, 3) := by decide +kernel
theorem dX5_begin_46 : decode cX5_begin 46 = .ok (.aload_n 1, 1) := by decide +kernel
theorem dX5_begin_47 : decode cX5_begin 47 = .ok (.getfield 45, 3) := by decide +kernel
theorem dX5_begin_50 : decode cX5_begin 50 = .ok (.iload_n 2, 1) := by decide +kernel
theorem dX5_begin_51 : decode cX5_begin 51 = .ok (.iaload, 1) := by decide +kernel
theorem dX5_begin_52 : decode cX5_begin 52 = .ok (.goto 4, 3) := by decide +kernel
theorem dX5_begin_55 : decode cX5_begin 55 = .ok (.iconst 0, 1) := by decide +kernel
theorem dX5_begin_56 : decode cX5_begin 56 = .ok (.iastore, 1) := by decide +kernel
theorem dX5_begin_57 : decode cX5_begin 57 = .ok (.aload_n 0, 1) := by decide +kernel
theorem dX5_begin_58 : decode cX5_begin 58 = .ok (.getfield 18, 3) := by decide +kernel
theorem dX5_begin_61 : decode cX5_begin 61 = .ok (.iload_n 2, 1) := by decide +kernel
theorem dX5_begin_62 : decode cX5_begin 62 = .ok (.iconst 0, 1) := by decide +kernel
theorem dX5_begin_63 : decode cX5_begin 63 = .ok (.iastore, 1) := by decide +kernel
theorem dX5_begin_64 : decode cX5_begin 64 = .ok (.iinc 2 1, 3) := by decide +kernel
theorem dX5_begin_67 : decode cX5_begin 67 = .ok (.goto (-40), 3) := by decide +kernel
theorem dX5_begin_70 : decode cX5_begin 70 = .ok (.aload_n 0, 1) := by decide +kernel
theorem dX5_begin_71 : decode cX5_begin 71 = .ok (.invokevirtual 46, 3) := by decide +kernel
theorem dX5_begin_74 : decode cX5_begin 74 = .ok (.return_, 1) := by decide +kernel
theorem dX5_copy_0 : decode cX5_copy 0 = .ok (.aload_n 0, 1) := by decide +kernel
theorem dX5_copy_1 : decode cX5_copy 1 = .ok (.aload_n 1, 1) := by decide +kernel
theorem dX5_copy_2 : decode cX5_copy 2 = .ok (.getfield 24, 3) := by decide +kernel
theorem dX5_copy_5 : decode cX5_copy 5 = .ok (.putfield 24, 3) := by decide +kernel
theorem dX5_copy_8 : decode cX5_copy 8 = .ok (.aload_n 0, 1) := by decide +kernel
theorem dX5_copy_9 : decode cX5_copy 9 = .ok (.aload_n 1, 1) := by decide +kernel
theorem dX5_copy_10 : decode cX5_copy 10 = .ok (.getfield 28, 3) := by decide +kernel
theorem dX5_copy_13 : decode cX5_copy 13 = .ok (.putfield 28, 3) := by decide +kernel
theorem dX5_copy_16 : decode cX5_copy 16 = .ok (.aload_n 0, 1) := by decide +kernel
theorem dX5_copy_17 : decode cX5_copy 17 = .ok (.aload_n 1, 1) := by decide +kernel
theorem dX5_copy_18 : decode cX5_copy 18 = .ok (.getfield 31, 3) := by decide +kernel
theorem dX5_copy_21 : decode cX5_copy 21 = .ok (.putfield 31, 3) := by decide +kernel
theorem dX5_copy_24 : decode cX5_copy 24 = .ok (.aload_n 0, 1) := by decide +kernel
theorem dX5_copy_25 : decode cX5_copy 25 = .ok (.aload_n 1, 1) := by decide +kernel
theorem dX5_copy_26 : decode cX5_copy 26 = .ok (.getfield 34, 3) := by decide +kernel
theorem dX5_copy_29 : decode cX5_copy 29 = .ok (.putfield 34, 3) := by decide +kernel
theorem dX5_copy_32 : decode cX5_copy 32 = .ok (.aload_n 0, 1) := by decide +kernel
theorem dX5_copy_33 : decode cX5_copy 33 = .ok (.aload_n 1, 1) := by decide +kernel
theorem dX5_copy_34 : decode cX5_copy 34 = .ok (.getfield 37, 3) := by decide +kernel
theorem dX5_copy_37 : decode cX5_copy 37 = .ok (.putfield 37, 3) := by decide +kernel
theorem dX5_copy_40 : decode cX5_copy 40 = .ok (.aload_n 1, 1) := by decide +kernel
theorem dX5_copy_41 : decode cX5_copy 41 = .ok (.getfield 9, 3) := by decide +kernel
theorem dX5_copy_44 : decode cX5_copy 44 = .ok (.iconst 0, 1) := by decide +kernel
theorem dX5_copy_45 : decode cX5_copy 45 = .ok (.aload_n 0, 1) := by decide +kernel
theorem dX5_copy_46 : decode cX5_copy 46 = .ok (.getfield 9, 3) := by decide +kernel
theorem dX5_copy_49 : decode cX5_copy 49 = .ok (.iconst 0, 1) := by decide +kernel
theorem dX5_copy_50 : decode cX5_copy 50 = .ok (.bipush 8, 2) := by decide +kernel
theorem dX5_copy_52 : decode cX5_copy 52 = .ok (.invokestatic 49, 3) := by decide +kernel
theorem dX5_copy_55 : decode cX5_copy 55 = .ok (.aload_n 1, 1) := by decide +kernel
theorem dX5_copy_56 : decode cX5_copy 56 = .ok (.getfield 15, 3) := by decide +kernel
theorem dX5_copy_59 : decode cX5_copy 59 = .ok (.iconst 0, 1) := by decide +kernel
theorem dX5_copy_60 : decode cX5_copy 60 = .ok (.aload_n 0, 1) := by decide +kernel
theorem dX5_copy_61 : decode cX5_copy 61 = .ok (.getfield 15, 3) := by decide +kernel
theorem dX5_copy_64 : decode cX5_copy 64 = .ok (.iconst 0, 1) := by decide +kernel
theorem dX5_copy_65 : decode cX5_copy 65 = .ok (.bipush 8, 2) := by decide +kernel
theorem dX5_copy_67 : decode cX5_copy 67 = .ok (.invokestatic 49, 3) := by decide +kernel
theorem dX5_copy_70 : decode cX5_copy 70 = .ok (.aload_n 1, 1) := by decide +kernel
theorem dX5_copy_71 : decode cX5_copy 71 = .ok (.getfield 18, 3) := by decide +kernel
theorem dX5_copy_74 : decode cX5_copy 74 = .ok (.iconst 0, 1) := by decide +kernel
theorem dX5_copy_75 : decode cX5_copy 75 = .ok (.aload_n 0, 1) := by decide +kernel
theorem dX5_copy_76 : decode cX5_copy 76 = .ok (.getfield 18, 3) := by decide +kernel
theorem dX5_copy_79 : decode cX5_copy 79 = .ok (.iconst 0, 1) := by decide +kernel
theorem dX5_copy_80 : decode cX5_copy 80 = .ok (.bipush 8, 2) := by decide +kernel
theorem dX5_copy_82 : decode cX5_copy 82 = .ok (.invokestatic 49, 3) := by decide +kernel
theorem dX5_copy_85 : decode cX5_copy 85 = .ok (.aload_n 1, 1) := by decide +kernel
theorem dX5_copy_86 : decode cX5_copy 86 = .ok (.getfield 21, 3) := by decide +kernel
theorem dX5_copy_89 : decode cX5_copy 89 = .ok (.iconst 0, 1) := by decide +kernel
theorem dX5_copy_90 : decode cX5_copy 90 = .ok (.aload_n 0, 1) := by decide +kernel
theorem dX5_copy_91 : decode cX5_copy 91 = .ok (.getfield 21, 3) := by decide +kernel
theorem dX5_copy_94 : decode cX5_copy 94 = .ok (.iconst 0, 1) := by decide +kernel
theorem dX5_copy_95 : decode cX5_copy 95 = .ok (.bipush 40, 2) := by decide +kernel
theorem dX5_copy_97 : decode cX5_copy 97 = .ok (.invokestatic 49, 3) := by decide +kernel
theorem dX5_copy_100 : decode cX5_copy 100 = .ok (.return_, 1) := by decide +kernel
theorem dX5_hoardedBy_0 : decode cX5_hoardedBy 0 = .ok (.aload_n 0, 1) := by decide +kernel
theorem dX5_hoardedBy_1 : decode cX5_hoardedBy 1 = .ok (.getfield 21, 3) := by decide +kernel
theorem dX5_hoardedBy_4 : decode cX5_hoardedBy 4 = .ok (.iload_n 1, 1) := by decide +kernel
theorem dX5_hoardedBy_5 : decode cX5_hoardedBy 5 = .ok (.bipush 8, 2) := by decide +kernel
theorem dX5_hoardedBy_7 : decode cX5_hoardedBy 7 = .ok (.imul, 1) := by decide +kernel
theorem dX5_hoardedBy_8 : decode cX5_hoardedBy 8 = .ok (.iload_n 2, 1) := by decide +kernel
theorem dX5_hoardedBy_9 : decode cX5_hoardedBy 9 = .ok (.iadd, 1) := by decide +kernel
theorem dX5_hoardedBy_10 : decode cX5_hoardedBy 10 = .ok (.iaload, 1) := by decide +kernel
theorem dX5_hoardedBy_11 : decode cX5_hoardedBy 11 = .ok (.ireturn, 1) := by decide +kernel
theorem dX5_addHoarded_0 : decode cX5_addHoarded 0 = .ok (.aload_n 0, 1) := by decide +kernel
theorem dX5_addHoarded_1 : decode cX5_addHoarded 1 = .ok (.getfield 21, 3) := by decide +kernel
theorem dX5_addHoarded_4 : decode cX5_addHoarded 4 = .ok (.iload_n 1, 1) := by decide +kernel
theorem dX5_addHoarded_5 : decode cX5_addHoarded 5 = .ok (.bipush 8, 2) := by decide +kernel
theorem dX5_addHoarded_7 : decode cX5_addHoarded 7 = .ok (.imul, 1) := by decide +kernel
theorem dX5_addHoarded_8 : decode cX5_addHoarded 8 = .ok (.iload_n 2, 1) := by decide +kernel
theorem dX5_addHoarded_9 : decode cX5_addHoarded 9 = .ok (.iadd, 1) := by decide +kernel
theorem dX5_addHoarded_10 : decode cX5_addHoarded 10 = .ok (.dup2, 1) := by decide +kernel
theorem dX5_addHoarded_11 : decode cX5_addHoarded 11 = .ok (.iaload, 1) := by decide +kernel
theorem dX5_addHoarded_12 : decode cX5_addHoarded 12 = .ok (.iload_n 3, 1) := by decide +kernel
theorem dX5_addHoarded_13 : decode cX5_addHoarded 13 = .ok (.iadd, 1) := by decide +kernel
theorem dX5_addHoarded_14 : decode cX5_addHoarded 14 = .ok (.iastore, 1) := by decide +kernel
theorem dX5_addHoarded_15 : decode cX5_addHoarded 15 = .ok (.return_, 1) := by decide +kernel
theorem dX5_hoardedByAll_0 : decode cX5_hoardedByAll 0 = .ok (.iconst 0, 1) := by decide +kernel
theorem dX5_hoardedByAll_1 : decode cX5_hoardedByAll 1 = .ok (.istore_n 2, 1) := by decide +kernel
theorem dX5_hoardedByAll_2 : decode cX5_hoardedByAll 2 = .ok (.iconst 0, 1) := by decide +kernel
theorem dX5_hoardedByAll_3 : decode cX5_hoardedByAll 3 = .ok (.istore_n 3, 1) := by decide +kernel
theorem dX5_hoardedByAll_4 : decode cX5_hoardedByAll 4 = .ok (.iload_n 3, 1) := by decide +kernel
theorem dX5_hoardedByAll_5 : decode cX5_hoardedByAll 5 = .ok (.iconst 5, 1) := by decide +kernel
theorem dX5_hoardedByAll_6 : decode cX5_hoardedByAll 6 = .ok (.if_icmp .ge 18, 3) := by decide +kernel
theorem dX5_hoardedByAll_9 : decode cX5_hoardedByAll 9 = .ok (.iload_n 2, 1) := by decide +kernel
theorem dX5_hoardedByAll_10 : decode cX5_hoardedByAll 10 = .ok (.aload_n 0, 1) := by decide +kernel
theorem dX5_hoardedByAll_11 : decode cX5_hoardedByAll 11 = .ok (.iload_n 3, 1) := by decide +kernel
theorem dX5_hoardedByAll_12 : decode cX5_hoardedByAll 12 = .ok (.iload_n 1, 1) := by decide +kernel
theorem dX5_hoardedByAll_13 : decode cX5_hoardedByAll 13 = .ok (.invokevirtual 55, 3) := by decide +kernel
theorem dX5_hoardedByAll_16 : decode cX5_hoardedByAll 16 = .ok (.iadd, 1) := by decide +kernel
theorem dX5_hoardedByAll_17 : decode cX5_hoardedByAll 17 = .ok (.istore_n 2, 1) := by decide +kernel
theorem dX5_hoardedByAll_18 : decode cX5_hoardedByAll 18 = .ok (.iinc 3 1, 3) := by decide +kernel
theorem dX5_hoardedByAll_21 : decode cX5_hoardedByAll 21 = .ok (.goto (-17), 3) := by decide +kernel
theorem dX5_hoardedByAll_24 : decode cX5_hoardedByAll 24 = .ok (.iload_n 2, 1) := by decide +kernel
theorem dX5_hoardedByAll_25 : decode cX5_hoardedByAll 25 = .ok (.ireturn, 1) := by decide +kernel
theorem dX5_supply_0 : decode cX5_supply 0 = .ok (.aload_n 0, 1) := by decide +kernel
theorem dX5_supply_1 : decode cX5_supply 1 = .ok (.getfield 15, 3) := by decide +kernel
theorem dX5_supply_4 : decode cX5_supply 4 = .ok (.iload_n 1, 1) := by decide +kernel
theorem dX5_supply_5 : decode cX5_supply 5 = .ok (.iaload, 1) := by decide +kernel
theorem dX5_supply_6 : decode cX5_supply 6 = .ok (.aload_n 0, 1) := by decide +kernel
theorem dX5_supply_7 : decode cX5_supply 7 = .ok (.iload_n 1, 1) := by decide +kernel
theorem dX5_supply_8 : decode cX5_supply 8 = .ok (.invokevirtual 59, 3) := by decide +kernel
theorem dX5_supply_11 : decode cX5_supply 11 = .ok (.iadd, 1) := by decide +kernel
theorem dX5_supply_12 : decode cX5_supply 12 = .ok (.ireturn, 1) := by decide +kernel
theorem dX5_sayable_0 : decode cX5_sayable 0 = .ok (.aload_n 0, 1) := by decide +kernel
theorem dX5_sayable_1 : decode cX5_sayable 1 = .ok (.getfield 15, 3) := by decide +kernel
theorem dX5_sayable_4 : decode cX5_sayable 4 = .ok (.iload_n 2, 1) := by decide +kernel
theorem dX5_sayable_5 : decode cX5_sayable 5 = .ok (.iaload, 1) := by decide +kernel
theorem dX5_sayable_6 : decode cX5_sayable 6 = .ok (.aload_n 0, 1) := by decide +kernel
theorem dX5_sayable_7 : decode cX5_sayable 7 = .ok (.getfield 21, 3) := by decide +kernel
theorem dX5_sayable_10 : decode cX5_sayable 10 = .ok (.iload_n 1, 1) := by decide +kernel
theorem dX5_sayable_11 : decode cX5_sayable 11 = .ok (.bipush 8, 2) := by decide +kernel
theorem dX5_sayable_13 : decode cX5_sayable 13 = .ok (.imul, 1) := by decide +kernel
theorem dX5_sayable_14 : decode cX5_sayable 14 = .ok (.iload_n 2, 1) := by decide +kernel
theorem dX5_sayable_15 : decode cX5_sayable 15 = .ok (.iadd, 1) := by decide +kernel
theorem dX5_sayable_16 : decode cX5_sayable 16 = .ok (.iaload, 1) := by decide +kernel
theorem dX5_sayable_17 : decode cX5_sayable 17 = .ok (.iadd, 1) := by decide +kernel
theorem dX5_sayable_18 : decode cX5_sayable 18 = .ok (.ireturn, 1) := by decide +kernel
theorem dX5_canSay_0 : decode cX5_canSay 0 = .ok (.aload_n 0, 1) := by decide +kernel
theorem dX5_canSay_1 : decode cX5_canSay 1 = .ok (.iload_n 1, 1) := by decide +kernel
theorem dX5_canSay_2 : decode cX5_canSay 2 = .ok (.iload_n 2, 1) := by decide +kernel
theorem dX5_canSay_3 : decode cX5_canSay 3 = .ok (.invokevirtual 63, 3) := by decide +kernel
theorem dX5_canSay_6 : decode cX5_canSay 6 = .ok (.ifCond .le 7, 3) := by decide +kernel
theorem dX5_canSay_9 : decode cX5_canSay 9 = .ok (.iconst 1, 1) := by decide +kernel
theorem dX5_canSay_10 : decode cX5_canSay 10 = .ok (.goto 4, 3) := by decide +kernel
theorem dX5_canSay_13 : decode cX5_canSay 13 = .ok (.iconst 0, 1) := by decide +kernel
theorem dX5_canSay_14 : decode cX5_canSay 14 = .ok (.ireturn, 1) := by decide +kernel
theorem dX5_speak_0 : decode cX5_speak 0 = .ok (.aload_n 0, 1) := by decide +kernel
theorem dX5_speak_1 : decode cX5_speak 1 = .ok (.iload_n 1, 1) := by decide +kernel
theorem dX5_speak_2 : decode cX5_speak 2 = .ok (.iload_n 2, 1) := by decide +kernel
theorem dX5_speak_3 : decode cX5_speak 3 = .ok (.invokevirtual 55, 3) := by decide +kernel
theorem dX5_speak_6 : decode cX5_speak 6 = .ok (.ifCond .le 13, 3) := by decide +kernel
theorem dX5_speak_9 : decode cX5_speak 9 = .ok (.aload_n 0, 1) := by decide +kernel
theorem dX5_speak_10 : decode cX5_speak 10 = .ok (.iload_n 1, 1) := by decide +kernel
theorem dX5_speak_11 : decode cX5_speak 11 = .ok (.iload_n 2, 1) := by decide +kernel
theorem dX5_speak_12 : decode cX5_speak 12 = .ok (.iconst (-1), 1) := by decide +kernel
theorem dX5_speak_13 : decode cX5_speak 13 = .ok (.invokevirtual 66, 3) := by decide +kernel
theorem dX5_speak_16 : decode cX5_speak 16 = .ok (.goto 13, 3) := by decide +kernel
theorem dX5_speak_19 : decode cX5_speak 19 = .ok (.aload_n 0, 1) := by decide +kernel
theorem dX5_speak_20 : decode cX5_speak 20 = .ok (.getfield 15, 3) := by decide +kernel
theorem dX5_speak_23 : decode cX5_speak 23 = .ok (.iload_n 2, 1) := by decide +kernel
theorem dX5_speak_24 : decode cX5_speak 24 = .ok (.dup2, 1) := by decide +kernel
theorem dX5_speak_25 : decode cX5_speak 25 = .ok (.iaload, 1) := by decide +kernel
theorem dX5_speak_26 : decode cX5_speak 26 = .ok (.iconst 1, 1) := by decide +kernel
theorem dX5_speak_27 : decode cX5_speak 27 = .ok (.isub, 1) := by decide +kernel
theorem dX5_speak_28 : decode cX5_speak 28 = .ok (.iastore, 1) := by decide +kernel
theorem dX5_speak_29 : decode cX5_speak 29 = .ok (.aload_n 0, 1) := by decide +kernel
theorem dX5_speak_30 : decode cX5_speak 30 = .ok (.getfield 18, 3) := by decide +kernel
theorem dX5_speak_33 : decode cX5_speak 33 = .ok (.iload_n 2, 1) := by decide +kernel
theorem dX5_speak_34 : decode cX5_speak 34 = .ok (.aload_n 0, 1) := by decide +kernel
theorem dX5_speak_35 : decode cX5_speak 35 = .ok (.getfield 18, 3) := by decide +kernel
theorem dX5_speak_38 : decode cX5_speak 38 = .ok (.iload_n 2, 1) := by decide +kernel
theorem dX5_speak_39 : decode cX5_speak 39 = .ok (.iaload, 1) := by decide +kernel
theorem dX5_speak_40 : decode cX5_speak 40 = .ok (.iconst 1, 1) := by decide +kernel
theorem dX5_speak_41 : decode cX5_speak 41 = .ok (.invokestatic 70, 3) := by decide +kernel
theorem dX5_speak_44 : decode cX5_speak 44 = .ok (.iastore, 1) := by decide +kernel
theorem dX5_speak_45 : decode cX5_speak 45 = .ok (.return_, 1) := by decide +kernel
theorem dX5_canGo_0 : decode cX5_canGo 0 = .ok (.iconst 0, 1) := by decide +kernel
theorem dX5_canGo_1 : decode cX5_canGo 1 = .ok (.istore_n 3, 1) := by decide +kernel
theorem dX5_canGo_2 : decode cX5_canGo 2 = .ok (.iload_n 3, 1) := by decide +kernel
theorem dX5_canGo_3 : decode cX5_canGo 3 = .ok (.bipush 8, 2) := by decide +kernel
theorem dX5_canGo_5 : decode cX5_canGo 5 = .ok (.if_icmp .ge 28, 3) := by decide +kernel
theorem dX5_canGo_8 : decode cX5_canGo 8 = .ok (.iload_n 2, 1) := by decide +kernel
theorem dX5_canGo_9 : decode cX5_canGo 9 = .ok (.iload_n 3, 1) := by decide +kernel
theorem dX5_canGo_10 : decode cX5_canGo 10 = .ok (.ishr, 1) := by decide +kernel
theorem dX5_canGo_11 : decode cX5_canGo 11 = .ok (.iconst 1, 1) := by decide +kernel
theorem dX5_canGo_12 : decode cX5_canGo 12 = .ok (.iand, 1) := by decide +kernel
theorem dX5_canGo_13 : decode cX5_canGo 13 = .ok (.ifCond .eq 14, 3) := by decide +kernel
theorem dX5_canGo_16 : decode cX5_canGo 16 = .ok (.aload_n 0, 1) := by decide +kernel
theorem dX5_canGo_17 : decode cX5_canGo 17 = .ok (.iload_n 1, 1) := by decide +kernel
theorem dX5_canGo_18 : decode cX5_canGo 18 = .ok (.iload_n 3, 1) := by decide +kernel
theorem dX5_canGo_19 : decode cX5_canGo 19 = .ok (.invokevirtual 73, 3) := by decide +kernel
theorem dX5_canGo_22 : decode cX5_canGo 22 = .ok (.ifCond .ne 5, 3) := by decide +kernel
theorem dX5_canGo_25 : decode cX5_canGo 25 = .ok (.iconst 0, 1) := by decide +kernel
theorem dX5_canGo_26 : decode cX5_canGo 26 = .ok (.ireturn, 1) := by decide +kernel
theorem dX5_canGo_27 : decode cX5_canGo 27 = .ok (.iinc 3 1, 3) := by decide +kernel
theorem dX5_canGo_30 : decode cX5_canGo 30 = .ok (.goto (-28), 3) := by decide +kernel
theorem dX5_canGo_33 : decode cX5_canGo 33 = .ok (.iload_n 2, 1) := by decide +kernel
theorem dX5_canGo_34 : decode cX5_canGo 34 = .ok (.ifCond .eq 7, 3) := by decide +kernel
theorem dX5_canGo_37 : decode cX5_canGo 37 = .ok (.iconst 1, 1) := by decide +kernel
theorem dX5_canGo_38 : decode cX5_canGo 38 = .ok (.goto 4, 3) := by decide +kernel
theorem dX5_canGo_41 : decode cX5_canGo 41 = .ok (.iconst 0, 1) := by decide +kernel
theorem dX5_canGo_42 : decode cX5_canGo 42 = .ok (.ireturn, 1) := by decide +kernel
theorem dX5_go_0 : decode cX5_go 0 = .ok (.iconst 0, 1) := by decide +kernel
theorem dX5_go_1 : decode cX5_go 1 = .ok (.istore_n 3, 1) := by decide +kernel
theorem dX5_go_2 : decode cX5_go 2 = .ok (.iload_n 3, 1) := by decide +kernel
theorem dX5_go_3 : decode cX5_go 3 = .ok (.bipush 8, 2) := by decide +kernel
theorem dX5_go_5 : decode cX5_go 5 = .ok (.if_icmp .ge 23, 3) := by decide +kernel
theorem dX5_go_8 : decode cX5_go 8 = .ok (.iload_n 2, 1) := by decide +kernel
theorem dX5_go_9 : decode cX5_go 9 = .ok (.iload_n 3, 1) := by decide +kernel
theorem dX5_go_10 : decode cX5_go 10 = .ok (.ishr, 1) := by decide +kernel
theorem dX5_go_11 : decode cX5_go 11 = .ok (.iconst 1, 1) := by decide +kernel
theorem dX5_go_12 : decode cX5_go 12 = .ok (.iand, 1) := by decide +kernel
theorem dX5_go_13 : decode cX5_go 13 = .ok (.ifCond .eq 9, 3) := by decide +kernel
theorem dX5_go_16 : decode cX5_go 16 = .ok (.aload_n 0, 1) := by decide +kernel
theorem dX5_go_17 : decode cX5_go 17 = .ok (.iload_n 1, 1) := by decide +kernel
theorem dX5_go_18 : decode cX5_go 18 = .ok (.iload_n 3, 1) := by decide +kernel
theorem dX5_go_19 : decode cX5_go 19 = .ok (.invokevirtual 77, 3) := by decide +kernel
theorem dX5_go_22 : decode cX5_go 22 = .ok (.iinc 3 1, 3) := by decide +kernel
theorem dX5_go_25 : decode cX5_go 25 = .ok (.goto (-23), 3) := by decide +kernel
theorem dX5_go_28 : decode cX5_go 28 = .ok (.return_, 1) := by decide +kernel
theorem dX5_gesture_0 : decode cX5_gesture 0 = .ok (.aload_n 0, 1) := by decide +kernel
theorem dX5_gesture_1 : decode cX5_gesture 1 = .ok (.aload_n 0, 1) := by decide +kernel
theorem dX5_gesture_2 : decode cX5_gesture 2 = .ok (.getfield 37, 3) := by decide +kernel
theorem dX5_gesture_5 : decode cX5_gesture 5 = .ok (.iconst 1, 1) := by decide +kernel
theorem dX5_gesture_6 : decode cX5_gesture 6 = .ok (.invokestatic 70, 3) := by decide +kernel
theorem dX5_gesture_9 : decode cX5_gesture 9 = .ok (.putfield 37, 3) := by decide +kernel
theorem dX5_gesture_12 : decode cX5_gesture 12 = .ok (.return_, 1) := by decide +kernel
theorem dX5_store_0 : decode cX5_store 0 = .ok (.aload_n 0, 1) := by decide +kernel
theorem dX5_store_1 : decode cX5_store 1 = .ok (.getfield 15, 3) := by decide +kernel
theorem dX5_store_4 : decode cX5_store 4 = .ok (.iload_n 2, 1) := by decide +kernel
theorem dX5_store_5 : decode cX5_store 5 = .ok (.dup2, 1) := by decide +kernel
theorem dX5_store_6 : decode cX5_store 6 = .ok (.iaload, 1) := by decide +kernel
theorem dX5_store_7 : decode cX5_store 7 = .ok (.iload_n 3, 1) := by decide +kernel
theorem dX5_store_8 : decode cX5_store 8 = .ok (.isub, 1) := by decide +kernel
theorem dX5_store_9 : decode cX5_store 9 = .ok (.iastore, 1) := by decide +kernel
theorem dX5_store_10 : decode cX5_store 10 = .ok (.aload_n 0, 1) := by decide +kernel
theorem dX5_store_11 : decode cX5_store 11 = .ok (.iload_n 1, 1) := by decide +kernel
theorem dX5_store_12 : decode cX5_store 12 = .ok (.iload_n 2, 1) := by decide +kernel
theorem dX5_store_13 : decode cX5_store 13 = .ok (.iload_n 3, 1) := by decide +kernel
theorem dX5_store_14 : decode cX5_store 14 = .ok (.invokevirtual 66, 3) := by decide +kernel
theorem dX5_store_17 : decode cX5_store 17 = .ok (.return_, 1) := by decide +kernel
theorem dX5_passDay_0 : decode cX5_passDay 0 = .ok (.aload_n 1, 1) := by decide +kernel
theorem dX5_passDay_1 : decode cX5_passDay 1 = .ok (.aload_n 0, 1) := by decide +kernel
theorem dX5_passDay_2 : decode cX5_passDay 2 = .ok (.getfield 24, 3) := by decide +kernel
theorem dX5_passDay_5 : decode cX5_passDay 5 = .ok (.invokevirtual 81, 3) := by decide +kernel
theorem dX5_passDay_8 : decode cX5_passDay 8 = .ok (.istore_n 2, 1) := by decide +kernel
theorem dX5_passDay_9 : decode cX5_passDay 9 = .ok (.iconst 0, 1) := by decide +kernel
theorem dX5_passDay_10 : decode cX5_passDay 10 = .ok (.istore_n 3, 1) := by decide +kernel
theorem dX5_passDay_11 : decode cX5_passDay 11 = .ok (.iload_n 3, 1) := by decide +kernel
theorem dX5_passDay_12 : decode cX5_passDay 12 = .ok (.aload_n 1, 1) := by decide +kernel
theorem dX5_passDay_13 : decode cX5_passDay 13 = .ok (.getfield 84, 3) := by decide +kernel
theorem dX5_passDay_16 : decode cX5_passDay 16 = .ok (.if_icmp .ge 25, 3) := by decide +kernel
theorem dX5_passDay_19 : decode cX5_passDay 19 = .ok (.aload_n 1, 1) := by decide +kernel
theorem dX5_passDay_20 : decode cX5_passDay 20 = .ok (.getfield 87, 3) := by decide +kernel
theorem dX5_passDay_23 : decode cX5_passDay 23 = .ok (.iload_n 3, 1) := by decide +kernel
theorem dX5_passDay_24 : decode cX5_passDay 24 = .ok (.iaload, 1) := by decide +kernel
theorem dX5_passDay_25 : decode cX5_passDay 25 = .ok (.iload_n 2, 1) := by decide +kernel
theorem dX5_passDay_26 : decode cX5_passDay 26 = .ok (.if_icmp .ne 9, 3) := by decide +kernel
theorem dX5_passDay_29 : decode cX5_passDay 29 = .ok (.aload_n 0, 1) := by decide +kernel
theorem dX5_passDay_30 : decode cX5_passDay 30 = .ok (.aload_n 1, 1) := by decide +kernel
theorem dX5_passDay_31 : decode cX5_passDay 31 = .ok (.iload_n 3, 1) := by decide +kernel
theorem dX5_passDay_32 : decode cX5_passDay 32 = .ok (.invokevirtual 90, 3) := by decide +kernel
theorem dX5_passDay_35 : decode cX5_passDay 35 = .ok (.iinc 3 1, 3) := by decide +kernel
theorem dX5_passDay_38 : decode cX5_passDay 38 = .ok (.goto (-27), 3) := by decide +kernel
theorem dX5_passDay_41 : decode cX5_passDay 41 = .ok (.aload_n 0, 1) := by decide +kernel
theorem dX5_passDay_42 : decode cX5_passDay 42 = .ok (.dup, 1) := by decide +kernel
theorem dX5_passDay_43 : decode cX5_passDay 43 = .ok (.getfield 24, 3) := by decide +kernel
theorem dX5_passDay_46 : decode cX5_passDay 46 = .ok (.iconst 1, 1) := by decide +kernel
theorem dX5_passDay_47 : decode cX5_passDay 47 = .ok (.iadd, 1) := by decide +kernel
theorem dX5_passDay_48 : decode cX5_passDay 48 = .ok (.putfield 24, 3) := by decide +kernel
theorem dX5_passDay_51 : decode cX5_passDay 51 = .ok (.aload_n 1, 1) := by decide +kernel
theorem dX5_passDay_52 : decode cX5_passDay 52 = .ok (.aload_n 0, 1) := by decide +kernel
theorem dX5_passDay_53 : decode cX5_passDay 53 = .ok (.getfield 24, 3) := by decide +kernel
theorem dX5_passDay_56 : decode cX5_passDay 56 = .ok (.invokevirtual 81, 3) := by decide +kernel
theorem dX5_passDay_59 : decode cX5_passDay 59 = .ok (.ifCond .ne 7, 3) := by decide +kernel
theorem dX5_passDay_62 : decode cX5_passDay 62 = .ok (.aload_n 0, 1) := by decide +kernel
theorem dX5_passDay_63 : decode cX5_passDay 63 = .ok (.invokevirtual 46, 3) := by decide +kernel
theorem dX5_passDay_66 : decode cX5_passDay 66 = .ok (.return_, 1) := by decide +kernel
theorem dX5_meetOrLose_0 : decode cX5_meetOrLose 0 = .ok (.aload_n 0, 1) := by decide +kernel
theorem dX5_meetOrLose_1 : decode cX5_meetOrLose 1 = .ok (.aload_n 1, 1) := by decide +kernel
theorem dX5_meetOrLose_2 : decode cX5_meetOrLose 2 = .ok (.aload_n 1, 1) := by decide +kernel
theorem dX5_meetOrLose_3 : decode cX5_meetOrLose 3 = .ok (.getfield 94, 3) := by decide +kernel
theorem dX5_meetOrLose_6 : decode cX5_meetOrLose 6 = .ok (.iload_n 2, 1) := by decide +kernel
theorem dX5_meetOrLose_7 : decode cX5_meetOrLose 7 = .ok (.iaload, 1) := by decide +kernel
theorem dX5_meetOrLose_8 : decode cX5_meetOrLose 8 = .ok (.aload_n 1, 1) := by decide +kernel
theorem dX5_meetOrLose_9 : decode cX5_meetOrLose 9 = .ok (.getfield 97, 3) := by decide +kernel
theorem dX5_meetOrLose_12 : decode cX5_meetOrLose 12 = .ok (.iload_n 2, 1) := by decide +kernel
theorem dX5_meetOrLose_13 : decode cX5_meetOrLose 13 = .ok (.iaload, 1) := by decide +kernel
theorem dX5_meetOrLose_14 : decode cX5_meetOrLose 14 = .ok (.invokevirtual 100, 3) := by decide +kernel
theorem dX5_meetOrLose_17 : decode cX5_meetOrLose 17 = .ok (.ifCond .eq 18, 3) := by decide +kernel
theorem dX5_meetOrLose_20 : decode cX5_meetOrLose 20 = .ok (.aload_n 0, 1) := by decide +kernel
theorem dX5_meetOrLose_21 : decode cX5_meetOrLose 21 = .ok (.aload_n 0, 1) := by decide +kernel
theorem dX5_meetOrLose_22 : decode cX5_meetOrLose 22 = .ok (.getfield 28, 3) := by decide +kernel
theorem dX5_meetOrLose_25 : decode cX5_meetOrLose 25 = .ok (.iconst 1, 1) := by decide +kernel
theorem dX5_meetOrLose_26 : decode cX5_meetOrLose 26 = .ok (.invokestatic 70, 3) := by decide +kernel
theorem dX5_meetOrLose_29 : decode cX5_meetOrLose 29 = .ok (.putfield 28, 3) := by decide +kernel
theorem dX5_meetOrLose_32 : decode cX5_meetOrLose 32 = .ok (.goto 32, 3) := by decide +kernel
theorem dX5_meetOrLose_35 : decode cX5_meetOrLose 35 = .ok (.aload_n 0, 1) := by decide +kernel
theorem dX5_meetOrLose_36 : decode cX5_meetOrLose 36 = .ok (.aload_n 0, 1) := by decide +kernel
theorem dX5_meetOrLose_37 : decode cX5_meetOrLose 37 = .ok (.getfield 31, 3) := by decide +kernel
theorem dX5_meetOrLose_40 : decode cX5_meetOrLose 40 = .ok (.iconst 1, 1) := by decide +kernel
theorem dX5_meetOrLose_41 : decode cX5_meetOrLose 41 = .ok (.invokestatic 70, 3) := by decide +kernel
theorem dX5_meetOrLose_44 : decode cX5_meetOrLose 44 = .ok (.putfield 31, 3) := by decide +kernel
theorem dX5_meetOrLose_47 : decode cX5_meetOrLose 47 = .ok (.aload_n 0, 1) := by decide +kernel
theorem dX5_meetOrLose_48 : decode cX5_meetOrLose 48 = .ok (.aload_n 0, 1) := by decide +kernel
theorem dX5_meetOrLose_49 : decode cX5_meetOrLose 49 = .ok (.getfield 34, 3) := by decide +kernel
theorem dX5_meetOrLose_52 : decode cX5_meetOrLose 52 = .ok (.aload_n 1, 1) := by decide +kernel
theorem dX5_meetOrLose_53 : decode cX5_meetOrLose 53 = .ok (.getfield 104, 3) := by decide +kernel
theorem dX5_meetOrLose_56 : decode cX5_meetOrLose 56 = .ok (.iload_n 2, 1) := by decide +kernel
theorem dX5_meetOrLose_57 : decode cX5_meetOrLose 57 = .ok (.iaload, 1) := by decide +kernel
theorem dX5_meetOrLose_58 : decode cX5_meetOrLose 58 = .ok (.invokestatic 70, 3) := by decide +kernel
theorem dX5_meetOrLose_61 : decode cX5_meetOrLose 61 = .ok (.putfield 34, 3) := by decide +kernel
theorem dX5_meetOrLose_64 : decode cX5_meetOrLose 64 = .ok (.return_, 1) := by decide +kernel
theorem dX5_meets_0 : decode cX5_meets 0 = .ok (.aload_n 0, 1) := by decide +kernel
theorem dX5_meets_1 : decode cX5_meets 1 = .ok (.iload_n 2, 1) := by decide +kernel
theorem dX5_meets_2 : decode cX5_meets 2 = .ok (.iload_n 3, 1) := by decide +kernel
theorem dX5_meets_3 : decode cX5_meets 3 = .ok (.invokevirtual 73, 3) := by decide +kernel
theorem dX5_meets_6 : decode cX5_meets 6 = .ok (.ifCond .eq 11, 3) := by decide +kernel
theorem dX5_meets_9 : decode cX5_meets 9 = .ok (.aload_n 0, 1) := by decide +kernel
theorem dX5_meets_10 : decode cX5_meets 10 = .ok (.iload_n 2, 1) := by decide +kernel
theorem dX5_meets_11 : decode cX5_meets 11 = .ok (.iload_n 3, 1) := by decide +kernel
theorem dX5_meets_12 : decode cX5_meets 12 = .ok (.invokevirtual 77, 3) := by decide +kernel
theorem dX5_meets_15 : decode cX5_meets 15 = .ok (.iconst 1, 1) := by decide +kernel
theorem dX5_meets_16 : decode cX5_meets 16 = .ok (.ireturn, 1) := by decide +kernel
theorem dX5_meets_17 : decode cX5_meets 17 = .ok (.iconst 0, 1) := by decide +kernel
theorem dX5_meets_18 : decode cX5_meets 18 = .ok (.istore 4, 2) := by decide +kernel
theorem dX5_meets_20 : decode cX5_meets 20 = .ok (.iload 4, 2) := by decide +kernel
theorem dX5_meets_22 : decode cX5_meets 22 = .ok (.iconst 2, 1) := by decide +kernel
theorem dX5_meets_23 : decode cX5_meets 23 = .ok (.if_icmp .ge 37, 3) := by decide +kernel
theorem dX5_meets_26 : decode cX5_meets 26 = .ok (.aload_n 1, 1) := by decide +kernel
theorem dX5_meets_27 : decode cX5_meets 27 = .ok (.iload_n 3, 1) := by decide +kernel
theorem dX5_meets_28 : decode cX5_meets 28 = .ok (.iload 4, 2) := by decide +kernel
theorem dX5_meets_30 : decode cX5_meets 30 = .ok (.invokevirtual 107, 3) := by decide +kernel
theorem dX5_meets_33 : decode cX5_meets 33 = .ok (.istore 5, 2) := by decide +kernel
theorem dX5_meets_35 : decode cX5_meets 35 = .ok (.aload_n 0, 1) := by decide +kernel
theorem dX5_meets_36 : decode cX5_meets 36 = .ok (.iload_n 2, 1) := by decide +kernel
theorem dX5_meets_37 : decode cX5_meets 37 = .ok (.iload 5, 2) := by decide +kernel
theorem dX5_meets_39 : decode cX5_meets 39 = .ok (.invokevirtual 110, 3) := by decide +kernel
theorem dX5_meets_42 : decode cX5_meets 42 = .ok (.ifCond .eq 12, 3) := by decide +kernel
theorem dX5_meets_45 : decode cX5_meets 45 = .ok (.aload_n 0, 1) := by decide +kernel
theorem dX5_meets_46 : decode cX5_meets 46 = .ok (.iload_n 2, 1) := by decide +kernel
theorem dX5_meets_47 : decode cX5_meets 47 = .ok (.iload 5, 2) := by decide +kernel
theorem dX5_meets_49 : decode cX5_meets 49 = .ok (.invokevirtual 113, 3) := by decide +kernel
theorem dX5_meets_52 : decode cX5_meets 52 = .ok (.iconst 1, 1) := by decide +kernel
theorem dX5_meets_53 : decode cX5_meets 53 = .ok (.ireturn, 1) := by decide +kernel
theorem dX5_meets_54 : decode cX5_meets 54 = .ok (.iinc 4 1, 3) := by decide +kernel
theorem dX5_meets_57 : decode cX5_meets 57 = .ok (.goto (-37), 3) := by decide +kernel
theorem dX5_meets_60 : decode cX5_meets 60 = .ok (.aload_n 1, 1) := by decide +kernel
theorem dX5_meets_61 : decode cX5_meets 61 = .ok (.iload_n 3, 1) := by decide +kernel
theorem dX5_meets_62 : decode cX5_meets 62 = .ok (.invokevirtual 116, 3) := by decide +kernel
theorem dX5_meets_65 : decode cX5_meets 65 = .ok (.ifCond .eq 9, 3) := by decide +kernel
theorem dX5_meets_68 : decode cX5_meets 68 = .ok (.aload_n 0, 1) := by decide +kernel
theorem dX5_meets_69 : decode cX5_meets 69 = .ok (.invokevirtual 120, 3) := by decide +kernel
theorem dX5_meets_72 : decode cX5_meets 72 = .ok (.iconst 1, 1) := by decide +kernel
theorem dX5_meets_73 : decode cX5_meets 73 = .ok (.ireturn, 1) := by decide +kernel
theorem dX5_meets_74 : decode cX5_meets 74 = .ok (.iconst 0, 1) := by decide +kernel
theorem dX5_meets_75 : decode cX5_meets 75 = .ok (.ireturn, 1) := by decide +kernel
theorem dX5_beginYear_0 : decode cX5_beginYear 0 = .ok (.iconst 0, 1) := by decide +kernel
theorem dX5_beginYear_1 : decode cX5_beginYear 1 = .ok (.istore_n 1, 1) := by decide +kernel
theorem dX5_beginYear_2 : decode cX5_beginYear 2 = .ok (.iload_n 1, 1) := by decide +kernel
theorem dX5_beginYear_3 : decode cX5_beginYear 3 = .ok (.bipush 8, 2) := by decide +kernel
theorem dX5_beginYear_5 : decode cX5_beginYear 5 = .ok (.if_icmp .ge 21, 3) := by decide +kernel
theorem dX5_beginYear_8 : decode cX5_beginYear 8 = .ok (.aload_n 0, 1) := by decide +kernel
theorem dX5_beginYear_9 : decode cX5_beginYear 9 = .ok (.getfield 15, 3) := by decide +kernel
theorem dX5_beginYear_12 : decode cX5_beginYear 12 = .ok (.iload_n 1, 1) := by decide +kernel
theorem dX5_beginYear_13 : decode cX5_beginYear 13 = .ok (.aload_n 0, 1) := by decide +kernel
theorem dX5_beginYear_14 : decode cX5_beginYear 14 = .ok (.getfield 9, 3) := by decide +kernel
theorem dX5_beginYear_17 : decode cX5_beginYear 17 = .ok (.iload_n 1, 1) := by decide +kernel
theorem dX5_beginYear_18 : decode cX5_beginYear 18 = .ok (.iaload, 1) := by decide +kernel
theorem dX5_beginYear_19 : decode cX5_beginYear 19 = .ok (.iastore, 1) := by decide +kernel
theorem dX5_beginYear_20 : decode cX5_beginYear 20 = .ok (.iinc 1 1, 3) := by decide +kernel
theorem dX5_beginYear_23 : decode cX5_beginYear 23 = .ok (.goto (-21), 3) := by decide +kernel
theorem dX5_beginYear_26 : decode cX5_beginYear 26 = .ok (.iconst 0, 1) := by decide +kernel
theorem dX5_beginYear_27 : decode cX5_beginYear 27 = .ok (.istore_n 1, 1) := by decide +kernel
theorem dX5_beginYear_28 : decode cX5_beginYear 28 = .ok (.iload_n 1, 1) := by decide +kernel
theorem dX5_beginYear_29 : decode cX5_beginYear 29 = .ok (.aload_n 0, 1) := by decide +kernel
theorem dX5_beginYear_30 : decode cX5_beginYear 30 = .ok (.getfield 21, 3) := by decide +kernel
theorem dX5_beginYear_33 : decode cX5_beginYear 33 = .ok (.arraylength, 1) := by decide +kernel
theorem dX5_beginYear_34 : decode cX5_beginYear 34 = .ok (.if_icmp .ge 16, 3) := by decide +kernel
theorem dX5_beginYear_37 : decode cX5_beginYear 37 = .ok (.aload_n 0, 1) := by decide +kernel
theorem dX5_beginYear_38 : decode cX5_beginYear 38 = .ok (.getfield 21, 3) := by decide +kernel
theorem dX5_beginYear_41 : decode cX5_beginYear 41 = .ok (.iload_n 1, 1) := by decide +kernel
theorem dX5_beginYear_42 : decode cX5_beginYear 42 = .ok (.iconst 0, 1) := by decide +kernel
theorem dX5_beginYear_43 : decode cX5_beginYear 43 = .ok (.iastore, 1) := by decide +kernel
theorem dX5_beginYear_44 : decode cX5_beginYear 44 = .ok (.iinc 1 1, 3) := by decide +kernel
theorem dX5_beginYear_47 : decode cX5_beginYear 47 = .ok (.goto (-19), 3) := by decide +kernel
theorem dX5_beginYear_50 : decode cX5_beginYear 50 = .ok (.return_, 1) := by decide +kernel
theorem dX5_counted_0 : decode cX5_counted 0 = .ok (.ldc 123, 2) := by decide +kernel
theorem dX5_counted_2 : decode cX5_counted 2 = .ok (.iload_n 0, 1) := by decide +kernel
theorem dX5_counted_3 : decode cX5_counted 3 = .ok (.iload_n 1, 1) := by decide +kernel
theorem dX5_counted_4 : decode cX5_counted 4 = .ok (.iadd, 1) := by decide +kernel
theorem dX5_counted_5 : decode cX5_counted 5 = .ok (.invokestatic 124, 3) := by decide +kernel
theorem dX5_counted_8 : decode cX5_counted 8 = .ok (.ireturn, 1) := by decide +kernel
theorem dX6_init_0 : decode cX6_init 0 = .ok (.aload_n 0, 1) := by decide +kernel
theorem dX6_init_1 : decode cX6_init 1 = .ok (.invokespecial 3, 3) := by decide +kernel
theorem dX6_init_4 : decode cX6_init 4 = .ok (.aload_n 0, 1) := by decide +kernel
theorem dX6_init_5 : decode cX6_init 5 = .ok (.sipush 240, 3) := by decide +kernel
theorem dX6_init_8 : decode cX6_init 8 = .ok (.newarray .int, 2) := by decide +kernel
theorem dX6_init_10 : decode cX6_init 10 = .ok (.putfield 9, 3) := by decide +kernel
theorem dX6_init_13 : decode cX6_init 13 = .ok (.aload_n 0, 1) := by decide +kernel
theorem dX6_init_14 : decode cX6_init 14 = .ok (.iconst (-1), 1) := by decide +kernel
theorem dX6_init_15 : decode cX6_init 15 = .ok (.putfield 15, 3) := by decide +kernel
theorem dX6_init_18 : decode cX6_init 18 = .ok (.return_, 1) := by decide +kernel
theorem dX6_isFull_0 : decode cX6_isFull 0 = .ok (.aload_n 0, 1) := by decide +kernel
theorem dX6_isFull_1 : decode cX6_isFull 1 = .ok (.getfield 19, 3) := by decide +kernel
theorem dX6_isFull_4 : decode cX6_isFull 4 = .ok (.sipush 240, 3) := by decide +kernel
theorem dX6_isFull_7 : decode cX6_isFull 7 = .ok (.if_icmp .lt 7, 3) := by decide +kernel
theorem dX6_isFull_10 : decode cX6_isFull 10 = .ok (.iconst 1, 1) := by decide +kernel
theorem dX6_isFull_11 : decode cX6_isFull 11 = .ok (.goto 4, 3) := by decide +kernel
theorem dX6_isFull_14 : decode cX6_isFull 14 = .ok (.iconst 0, 1) := by decide +kernel
theorem dX6_isFull_15 : decode cX6_isFull 15 = .ok (.ireturn, 1) := by decide +kernel
theorem dX6_add_0 : decode cX6_add 0 = .ok (.aload_n 0, 1) := by decide +kernel
theorem dX6_add_1 : decode cX6_add 1 = .ok (.getfield 19, 3) := by decide +kernel
theorem dX6_add_4 : decode cX6_add 4 = .ok (.sipush 240, 3) := by decide +kernel
theorem dX6_add_7 : decode cX6_add 7 = .ok (.if_icmp .ge 23, 3) := by decide +kernel
theorem dX6_add_10 : decode cX6_add 10 = .ok (.aload_n 0, 1) := by decide +kernel
theorem dX6_add_11 : decode cX6_add 11 = .ok (.getfield 9, 3) := by decide +kernel
theorem dX6_add_14 : decode cX6_add 14 = .ok (.aload_n 0, 1) := by decide +kernel
theorem dX6_add_15 : decode cX6_add 15 = .ok (.getfield 19, 3) := by decide +kernel
theorem dX6_add_18 : decode cX6_add 18 = .ok (.iload_n 1, 1) := by decide +kernel
theorem dX6_add_19 : decode cX6_add 19 = .ok (.iastore, 1) := by decide +kernel
theorem dX6_add_20 : decode cX6_add 20 = .ok (.aload_n 0, 1) := by decide +kernel
theorem dX6_add_21 : decode cX6_add 21 = .ok (.dup, 1) := by decide +kernel
theorem dX6_add_22 : decode cX6_add 22 = .ok (.getfield 19, 3) := by decide +kernel
theorem dX6_add_25 : decode cX6_add 25 = .ok (.iconst 1, 1) := by decide +kernel
theorem dX6_add_26 : decode cX6_add 26 = .ok (.iadd, 1) := by decide +kernel
theorem dX6_add_27 : decode cX6_add 27 = .ok (.putfield 19, 3) := by decide +kernel
theorem dX6_add_30 : decode cX6_add 30 = .ok (.return_, 1) := by decide +kernel
theorem dX6_empty_0 : decode cX6_empty 0 = .ok (.aload_n 0, 1) := by decide +kernel
theorem dX6_empty_1 : decode cX6_empty 1 = .ok (.iconst 0, 1) := by decide +kernel
theorem dX6_empty_2 : decode cX6_empty 2 = .ok (.putfield 19, 3) := by decide +kernel
theorem dX6_empty_5 : decode cX6_empty 5 = .ok (.return_, 1) := by decide +kernel
theorem dX6_readInto_0 : decode cX6_readInto 0 = .ok (.aload_n 1, 1) := by decide +kernel
theorem dX6_readInto_1 : decode cX6_readInto 1 = .ok (.invokevirtual 22, 3) := by decide +kernel
theorem dX6_readInto_4 : decode cX6_readInto 4 = .ok (.aload_n 0, 1) := by decide +kernel
theorem dX6_readInto_5 : decode cX6_readInto 5 = .ok (.iconst 0, 1) := by decide +kernel
theorem dX6_readInto_6 : decode cX6_readInto 6 = .ok (.putfield 27, 3) := by decide +kernel
theorem dX6_readInto_9 : decode cX6_readInto 9 = .ok (.aload_n 0, 1) := by decide +kernel
theorem dX6_readInto_10 : decode cX6_readInto 10 = .ok (.iconst (-1), 1) := by decide +kernel
theorem dX6_readInto_11 : decode cX6_readInto 11 = .ok (.putfield 15, 3) := by decide +kernel
theorem dX6_readInto_14 : decode cX6_readInto 14 = .ok (.aload_n 0, 1) := by decide +kernel
theorem dX6_readInto_15 : decode cX6_readInto 15 = .ok (.iconst 0, 1) := by decide +kernel
theorem dX6_readInto_16 : decode cX6_readInto 16 = .ok (.putfield 30, 3) := by decide +kernel
theorem dX6_readInto_19 : decode cX6_readInto 19 = .ok (.aload_n 0, 1) := by decide +kernel
theorem dX6_readInto_20 : decode cX6_readInto 20 = .ok (.invokevirtual 33, 3) := by decide +kernel
theorem dX6_readInto_23 : decode cX6_readInto 23 = .ok (.iconst 0, 1) := by decide +kernel
theorem dX6_readInto_24 : decode cX6_readInto 24 = .ok (.istore_n 2, 1) := by decide +kernel
theorem dX6_readInto_25 : decode cX6_readInto 25 = .ok (.iload_n 2, 1) := by decide +kernel
theorem dX6_readInto_26 : decode cX6_readInto 26 = .ok (.sipush 240, 3) := by decide +kernel
theorem dX6_readInto_29 : decode cX6_readInto 29 = .ok (.if_icmp .ge 36, 3) := by decide +kernel
theorem dX6_readInto_32 : decode cX6_readInto 32 = .ok (.aload_n 0, 1) := by decide +kernel
theorem dX6_readInto_33 : decode cX6_readInto 33 = .ok (.getfield 27, 3) := by decide +kernel
theorem dX6_readInto_36 : decode cX6_readInto 36 = .ok (.ifCond .ne 29, 3) := by decide +kernel
theorem dX6_readInto_39 : decode cX6_readInto 39 = .ok (.aload_n 0, 1) := by decide +kernel
theorem dX6_readInto_40 : decode cX6_readInto 40 = .ok (.getfield 30, 3) := by decide +kernel
theorem dX6_readInto_43 : decode cX6_readInto 43 = .ok (.aload_n 0, 1) := by decide +kernel
theorem dX6_readInto_44 : decode cX6_readInto 44 = .ok (.getfield 19, 3) := by decide +kernel
theorem dX6_readInto_47 : decode cX6_readInto 47 = .ok (.if_icmp .ge 18, 3) := by decide +kernel
theorem dX6_readInto_50 : decode cX6_readInto 50 = .ok (.aload_n 0, 1) := by decide +kernel
theorem dX6_readInto_51 : decode cX6_readInto 51 = .ok (.aload_n 1, 1) := by decide +kernel
theorem dX6_readInto_52 : decode cX6_readInto 52 = .ok (.invokevirtual 36, 3) := by decide +kernel
theorem dX6_readInto_55 : decode cX6_readInto 55 = .ok (.aload_n 0, 1) := by decide +kernel
theorem dX6_readInto_56 : decode cX6_readInto 56 = .ok (.invokevirtual 33, 3) := by decide +kernel
theorem dX6_readInto_59 : decode cX6_readInto 59 = .ok (.iinc 2 1, 3) := by decide +kernel
theorem dX6_readInto_62 : decode cX6_readInto 62 = .ok (.goto (-37), 3) := by decide +kernel
theorem dX6_readInto_65 : decode cX6_readInto 65 = .ok (.return_, 1) := by decide +kernel
theorem dX6_readClause_0 : decode cX6_readClause 0 = .ok (.aload_n 0, 1) := by decide +kernel
theorem dX6_readClause_1 : decode cX6_readClause 1 = .ok (.invokevirtual 40, 3) := by decide +kernel
theorem dX6_readClause_4 : decode cX6_readClause 4 = .ok (.istore_n 2, 1) := by decide +kernel
theorem dX6_readClause_5 : decode cX6_readClause 5 = .ok (.aload_n 0, 1) := by decide +kernel
theorem dX6_readClause_6 : decode cX6_readClause 6 = .ok (.aload_n 1, 1) := by decide +kernel
theorem dX6_readClause_7 : decode cX6_readClause 7 = .ok (.iload_n 2, 1) := by decide +kernel
theorem dX6_readClause_8 : decode cX6_readClause 8 = .ok (.invokevirtual 44, 3) := by decide +kernel
theorem dX6_readClause_11 : decode cX6_readClause 11 = .ok (.istore_n 3, 1) := by decide +kernel
theorem dX6_readClause_12 : decode cX6_readClause 12 = .ok (.iload_n 3, 1) := by decide +kernel
theorem dX6_readClause_13 : decode cX6_readClause 13 = .ok (.ifCond .eq 13, 3) := by decide +kernel
theorem dX6_readClause_16 : decode cX6_readClause 16 = .ok (.aload_n 0, 1) := by decide +kernel
theorem dX6_readClause_17 : decode cX6_readClause 17 = .ok (.aload_n 0, 1) := by decide +kernel
theorem dX6_readClause_18 : decode cX6_readClause 18 = .ok (.getfield 30, 3) := by decide +kernel
theorem dX6_readClause_21 : decode cX6_readClause 21 = .ok (.iload_n 3, 1) := by decide +kernel
theorem dX6_readClause_22 : decode cX6_readClause 22 = .ok (.invokevirtual 48, 3) := by decide +kernel
theorem dX6_readClause_25 : decode cX6_readClause 25 = .ok (.return_, 1) := by decide +kernel
theorem dX6_readClause_26 : decode cX6_readClause 26 = .ok (.aload_n 0, 1) := by decide +kernel
theorem dX6_readClause_27 : decode cX6_readClause 27 = .ok (.dup, 1) := by decide +kernel
theorem dX6_readClause_28 : decode cX6_readClause 28 = .ok (.getfield 30, 3) := by decide +kernel
theorem dX6_readClause_31 : decode cX6_readClause 31 = .ok (.iconst 1, 1) := by decide +kernel
theorem dX6_readClause_32 : decode cX6_readClause 32 = .ok (.iadd, 1) := by decide +kernel
theorem dX6_readClause_33 : decode cX6_readClause 33 = .ok (.putfield 30, 3) := by decide +kernel
theorem dX6_readClause_36 : decode cX6_readClause 36 = .ok (.iload_n 2, 1) := by decide +kernel
theorem dX6_readClause_37 : decode cX6_readClause 37 = .ok (.lookupswitch 111 #[(97, 73), (111, 81), (112, 89), (119, 65), (121, 51)], 51) := by decide +kernel
theorem dX6_readClause_88 : decode cX6_readClause 88 = .ok (.aload_n 1, 1) := by decide +kernel
theorem dX6_readClause_89 : decode cX6_readClause 89 = .ok (.aload_n 0, 1) := by decide +kernel
theorem dX6_readClause_90 : decode cX6_readClause 90 = .ok (.iconst 1, 1) := by decide +kernel
theorem dX6_readClause_91 : decode cX6_readClause 91 = .ok (.bipush 99, 2) := by decide +kernel
theorem dX6_readClause_93 : decode cX6_readClause 93 = .ok (.invokevirtual 52, 3) := by decide +kernel
theorem dX6_readClause_96 : decode cX6_readClause 96 = .ok (.putfield 56, 3) := by decide +kernel
theorem dX6_readClause_99 : decode cX6_readClause 99 = .ok (.goto 54, 3) := by decide +kernel
theorem dX6_readClause_102 : decode cX6_readClause 102 = .ok (.aload_n 0, 1) := by decide +kernel
theorem dX6_readClause_103 : decode cX6_readClause 103 = .ok (.aload_n 1, 1) := by decide +kernel
theorem dX6_readClause_104 : decode cX6_readClause 104 = .ok (.invokevirtual 59, 3) := by decide +kernel
theorem dX6_readClause_107 : decode cX6_readClause 107 = .ok (.goto 46, 3) := by decide +kernel
theorem dX6_readClause_110 : decode cX6_readClause 110 = .ok (.aload_n 0, 1) := by decide +kernel
theorem dX6_readClause_111 : decode cX6_readClause 111 = .ok (.aload_n 1, 1) := by decide +kernel
theorem dX6_readClause_112 : decode cX6_readClause 112 = .ok (.invokevirtual 62, 3) := by decide +kernel
theorem dX6_readClause_115 : decode cX6_readClause 115 = .ok (.goto 38, 3) := by decide +kernel
theorem dX6_readClause_118 : decode cX6_readClause 118 = .ok (.aload_n 0, 1) := by decide +kernel
theorem dX6_readClause_119 : decode cX6_readClause 119 = .ok (.aload_n 1, 1) := by decide +kernel
theorem dX6_readClause_120 : decode cX6_readClause 120 = .ok (.invokevirtual 65, 3) := by decide +kernel
theorem dX6_readClause_123 : decode cX6_readClause 123 = .ok (.goto 30, 3) := by decide +kernel
theorem dX6_readClause_126 : decode cX6_readClause 126 = .ok (.aload_n 1, 1) := by decide +kernel
theorem dX6_readClause_127 : decode cX6_readClause 127 = .ok (.aload_n 0, 1) := by decide +kernel
theorem dX6_readClause_128 : decode cX6_readClause 128 = .ok (.iconst 0, 1) := by decide +kernel
theorem dX6_readClause_129 : decode cX6_readClause 129 = .ok (.iconst 1, 1) := by decide +kernel
theorem dX6_readClause_130 : decode cX6_readClause 130 = .ok (.invokevirtual 52, 3) := by decide +kernel
theorem dX6_readClause_133 : decode cX6_readClause 133 = .ok (.iconst 1, 1) := by decide +kernel
theorem dX6_readClause_134 : decode cX6_readClause 134 = .ok (.if_icmp .ne 7, 3) := by decide +kernel
theorem dX6_readClause_137 : decode cX6_readClause 137 = .ok (.iconst 1, 1) := by decide +kernel
theorem dX6_readClause_138 : decode cX6_readClause 138 = .ok (.goto 4, 3) := by decide +kernel
theorem dX6_readClause_141 : decode cX6_readClause 141 = .ok (.iconst 0, 1) := by decide +kernel
theorem dX6_readClause_142 : decode cX6_readClause 142 = .ok (.invokevirtual 68, 3) := by decide +kernel
theorem dX6_readClause_145 : decode cX6_readClause 145 = .ok (.goto 8, 3) := by decide +kernel
theorem dX6_readClause_148 : decode cX6_readClause 148 = .ok (.aload_n 0, 1) := by decide +kernel
theorem dX6_readClause_149 : decode cX6_readClause 149 = .ok (.aload_n 1, 1) := by decide +kernel
theorem dX6_readClause_150 : decode cX6_readClause 150 = .ok (.invokevirtual 72, 3) := by decide +kernel
theorem dX6_readClause_153 : decode cX6_readClause 153 = .ok (.aload_n 0, 1) := by decide +kernel
theorem dX6_readClause_154 : decode cX6_readClause 154 = .ok (.invokevirtual 33, 3) := by decide +kernel
theorem dX6_readClause_157 : decode cX6_readClause 157 = .ok (.aload_n 0, 1) := by decide +kernel
theorem dX6_readClause_158 : decode cX6_readClause 158 = .ok (.invokevirtual 40, 3) := by decide +kernel
theorem dX6_readClause_161 : decode cX6_readClause 161 = .ok (.bipush 59, 2) := by decide +kernel
theorem dX6_readClause_163 : decode cX6_readClause 163 = .ok (.if_icmp .ne 16, 3) := by decide +kernel
theorem dX6_readClause_166 : decode cX6_readClause 166 = .ok (.aload_n 0, 1) := by decide +kernel
theorem dX6_readClause_167 : decode cX6_readClause 167 = .ok (.dup, 1) := by decide +kernel
theorem dX6_readClause_168 : decode cX6_readClause 168 = .ok (.getfield 30, 3) := by decide +kernel
theorem dX6_readClause_171 : decode cX6_readClause 171 = .ok (.iconst 1, 1) := by decide +kernel
theorem dX6_readClause_172 : decode cX6_readClause 172 = .ok (.iadd, 1) := by decide +kernel
theorem dX6_readClause_173 : decode cX6_readClause 173 = .ok (.putfield 30, 3) := by decide +kernel
theorem dX6_readClause_176 : decode cX6_readClause 176 = .ok (.goto 12, 3) := by decide +kernel
theorem dX6_readClause_179 : decode cX6_readClause 179 = .ok (.aload_n 0, 1) := by decide +kernel
theorem dX6_readClause_180 : decode cX6_readClause 180 = .ok (.aload_n 0, 1) := by decide +kernel
theorem dX6_readClause_181 : decode cX6_readClause 181 = .ok (.getfield 30, 3) := by decide +kernel
theorem dX6_readClause_184 : decode cX6_readClause 184 = .ok (.iconst 1, 1) := by decide +kernel
theorem dX6_readClause_185 : decode cX6_readClause 185 = .ok (.invokevirtual 48, 3) := by decide +kernel
theorem dX6_readClause_188 : decode cX6_readClause 188 = .ok (.return_, 1) := by decide +kernel
theorem dX6_faultOfName_0 : decode cX6_faultOfName 0 = .ok (.iload_n 2, 1) := by decide +kernel
theorem dX6_faultOfName_1 : decode cX6_faultOfName 1 = .ok (.bipush 121, 2) := by decide +kernel
theorem dX6_faultOfName_3 : decode cX6_faultOfName 3 = .ok (.if_icmp .ne 16, 3) := by decide +kernel
theorem dX6_faultOfName_6 : decode cX6_faultOfName 6 = .ok (.aload_n 1, 1) := by decide +kernel
theorem dX6_faultOfName_7 : decode cX6_faultOfName 7 = .ok (.getfield 56, 3) := by decide +kernel
theorem dX6_faultOfName_10 : decode cX6_faultOfName 10 = .ok (.ifCond .ne 7, 3) := by decide +kernel
theorem dX6_faultOfName_13 : decode cX6_faultOfName 13 = .ok (.iconst 0, 1) := by decide +kernel
theorem dX6_faultOfName_14 : decode cX6_faultOfName 14 = .ok (.goto 4, 3) := by decide +kernel
theorem dX6_faultOfName_17 : decode cX6_faultOfName 17 = .ok (.iconst 3, 1) := by decide +kernel
theorem dX6_faultOfName_18 : decode cX6_faultOfName 18 = .ok (.ireturn, 1) := by decide +kernel
theorem dX6_faultOfName_19 : decode cX6_faultOfName 19 = .ok (.aload_n 1, 1) := by decide +kernel
theorem dX6_faultOfName_20 : decode cX6_faultOfName 20 = .ok (.getfield 56, 3) := by decide +kernel
theorem dX6_faultOfName_23 : decode cX6_faultOfName 23 = .ok (.ifCond .ne 5, 3) := by decide +kernel
theorem dX6_faultOfName_26 : decode cX6_faultOfName 26 = .ok (.iconst 1, 1) := by decide +kernel
theorem dX6_faultOfName_27 : decode cX6_faultOfName 27 = .ok (.ireturn, 1) := by decide +kernel
theorem dX6_faultOfName_28 : decode cX6_faultOfName 28 = .ok (.iload_n 2, 1) := by decide +kernel
theorem dX6_faultOfName_29 : decode cX6_faultOfName 29 = .ok (.lookupswitch 112 #[(97, 66), (110, 97), (111, 81), (112, 83), (119, 51)], 51) := by decide +kernel
theorem dX6_faultOfName_80 : decode cX6_faultOfName 80 = .ok (.aload_n 1, 1) := by decide +kernel
theorem dX6_faultOfName_81 : decode cX6_faultOfName 81 = .ok (.getfield 75, 3) := by decide +kernel
theorem dX6_faultOfName_84 : decode cX6_faultOfName 84 = .ok (.bipush 8, 2) := by decide +kernel
theorem dX6_faultOfName_86 : decode cX6_faultOfName 86 = .ok (.if_icmp .ge 7, 3) := by decide +kernel
theorem dX6_faultOfName_89 : decode cX6_faultOfName 89 = .ok (.iconst 0, 1) := by decide +kernel
theorem dX6_faultOfName_90 : decode cX6_faultOfName 90 = .ok (.goto 4, 3) := by decide +kernel
theorem dX6_faultOfName_93 : decode cX6_faultOfName 93 = .ok (.iconst 3, 1) := by decide +kernel
theorem dX6_faultOfName_94 : decode cX6_faultOfName 94 = .ok (.ireturn, 1) := by decide +kernel
theorem dX6_faultOfName_95 : decode cX6_faultOfName 95 = .ok (.aload_n 1, 1) := by decide +kernel
theorem dX6_faultOfName_96 : decode cX6_faultOfName 96 = .ok (.getfield 78, 3) := by decide +kernel
theorem dX6_faultOfName_99 : decode cX6_faultOfName 99 = .ok (.bipush 10, 2) := by decide +kernel
theorem dX6_faultOfName_101 : decode cX6_faultOfName 101 = .ok (.if_icmp .ge 7, 3) := by decide +kernel
theorem dX6_faultOfName_104 : decode cX6_faultOfName 104 = .ok (.iconst 0, 1) := by decide +kernel
theorem dX6_faultOfName_105 : decode cX6_faultOfName 105 = .ok (.goto 4, 3) := by decide +kernel
theorem dX6_faultOfName_108 : decode cX6_faultOfName 108 = .ok (.iconst 3, 1) := by decide +kernel
theorem dX6_faultOfName_109 : decode cX6_faultOfName 109 = .ok (.ireturn, 1) := by decide +kernel
theorem dX6_faultOfName_110 : decode cX6_faultOfName 110 = .ok (.iconst 0, 1) := by decide +kernel
theorem dX6_faultOfName_111 : decode cX6_faultOfName 111 = .ok (.ireturn, 1) := by decide +kernel
theorem dX6_faultOfName_112 : decode cX6_faultOfName 112 = .ok (.aload_n 1, 1) := by decide +kernel
theorem dX6_faultOfName_113 : decode cX6_faultOfName 113 = .ok (.getfield 81, 3) := by decide +kernel
theorem dX6_faultOfName_116 : decode cX6_faultOfName 116 = .ok (.iconst 5, 1) := by decide +kernel
theorem dX6_faultOfName_117 : decode cX6_faultOfName 117 = .ok (.if_icmp .ge 7, 3) := by decide +kernel
theorem dX6_faultOfName_120 : decode cX6_faultOfName 120 = .ok (.iconst 0, 1) := by decide +kernel
theorem dX6_faultOfName_121 : decode cX6_faultOfName 121 = .ok (.goto 4, 3) := by decide +kernel
theorem dX6_faultOfName_124 : decode cX6_faultOfName 124 = .ok (.iconst 3, 1) := by decide +kernel
theorem dX6_faultOfName_125 : decode cX6_faultOfName 125 = .ok (.ireturn, 1) := by decide +kernel
theorem dX6_faultOfName_126 : decode cX6_faultOfName 126 = .ok (.aload_n 1, 1) := by decide +kernel
theorem dX6_faultOfName_127 : decode cX6_faultOfName 127 = .ok (.getfield 84, 3) := by decide +kernel
theorem dX6_faultOfName_130 : decode cX6_faultOfName 130 = .ok (.bipush 8, 2) := by decide +kernel
theorem dX6_faultOfName_132 : decode cX6_faultOfName 132 = .ok (.if_icmp .ge 7, 3) := by decide +kernel
theorem dX6_faultOfName_135 : decode cX6_faultOfName 135 = .ok (.iconst 0, 1) := by decide +kernel
theorem dX6_faultOfName_136 : decode cX6_faultOfName 136 = .ok (.goto 4, 3) := by decide +kernel
theorem dX6_faultOfName_139 : decode cX6_faultOfName 139 = .ok (.iconst 3, 1) := by decide +kernel
theorem dX6_faultOfName_140 : decode cX6_faultOfName 140 = .ok (.ireturn, 1) := by decide +kernel
theorem dX6_faultOfName_141 : decode cX6_faultOfName 141 = .ok (.iconst 1, 1) := by decide +kernel
theorem dX6_faultOfName_142 : decode cX6_faultOfName 142 = .ok (.ireturn, 1) := by decide +kernel
theorem dX6_readWord_0 : decode cX6_readWord 0 = .ok (.aload_n 0, 1) := by decide +kernel
theorem dX6_readWord_1 : decode cX6_readWord 1 = .ok (.iconst 0, 1) := by decide +kernel
theorem dX6_readWord_2 : decode cX6_readWord 2 = .ok (.bipush 99, 2) := by decide +kernel
theorem dX6_readWord_4 : decode cX6_readWord 4 = .ok (.invokevirtual 52, 3) := by decide +kernel
theorem dX6_readWord_7 : decode cX6_readWord 7 = .ok (.istore_n 2, 1) := by decide +kernel
theorem dX6_readWord_8 : decode cX6_readWord 8 = .ok (.aload_n 0, 1) := by decide +kernel
theorem dX6_readWord_9 : decode cX6_readWord 9 = .ok (.iconst 1, 1) := by decide +kernel
theorem dX6_readWord_10 : decode cX6_readWord 10 = .ok (.bipush 99, 2) := by decide +kernel
theorem dX6_readWord_12 : decode cX6_readWord 12 = .ok (.invokevirtual 52, 3) := by decide +kernel
theorem dX6_readWord_15 : decode cX6_readWord 15 = .ok (.istore_n 3, 1) := by decide +kernel
theorem dX6_readWord_16 : decode cX6_readWord 16 = .ok (.aload_n 0, 1) := by decide +kernel
theorem dX6_readWord_17 : decode cX6_readWord 17 = .ok (.iconst 0, 1) := by decide +kernel
theorem dX6_readWord_18 : decode cX6_readWord 18 = .ok (.bipush 9, 2) := by decide +kernel
theorem dX6_readWord_20 : decode cX6_readWord 20 = .ok (.invokevirtual 52, 3) := by decide +kernel
theorem dX6_readWord_23 : decode cX6_readWord 23 = .ok (.istore 4, 2) := by decide +kernel
theorem dX6_readWord_25 : decode cX6_readWord 25 = .ok (.aload_n 1, 1) := by decide +kernel
theorem dX6_readWord_26 : decode cX6_readWord 26 = .ok (.iload_n 2, 1) := by decide +kernel
theorem dX6_readWord_27 : decode cX6_readWord 27 = .ok (.iload_n 3, 1) := by decide +kernel
theorem dX6_readWord_28 : decode cX6_readWord 28 = .ok (.iload 4, 2) := by decide +kernel
theorem dX6_readWord_30 : decode cX6_readWord 30 = .ok (.invokevirtual 87, 3) := by decide +kernel
theorem dX6_readWord_33 : decode cX6_readWord 33 = .ok (.return_, 1) := by decide +kernel
theorem dX6_readWay_0 : decode cX6_readWay 0 = .ok (.aload_n 0, 1) := by decide +kernel
theorem dX6_readWay_1 : decode cX6_readWay 1 = .ok (.iconst 0, 1) := by decide +kernel
theorem dX6_readWay_2 : decode cX6_readWay 2 = .ok (.aload_n 1, 1) := by decide +kernel
theorem dX6_readWay_3 : decode cX6_readWay 3 = .ok (.getfield 75, 3) := by decide +kernel
theorem dX6_readWay_6 : decode cX6_readWay 6 = .ok (.iconst 1, 1) := by decide +kernel
theorem dX6_readWay_7 : decode cX6_readWay 7 = .ok (.isub, 1) := by decide +kernel
theorem dX6_readWay_8 : decode cX6_readWay 8 = .ok (.invokevirtual 52, 3) := by decide +kernel
theorem dX6_readWay_11 : decode cX6_readWay 11 = .ok (.istore_n 2, 1) := by decide +kernel
theorem dX6_readWay_12 : decode cX6_readWay 12 = .ok (.aload_n 1, 1) := by decide +kernel
theorem dX6_readWay_13 : decode cX6_readWay 13 = .ok (.iload_n 2, 1) := by decide +kernel
theorem dX6_readWay_14 : decode cX6_readWay 14 = .ok (.iconst 1, 1) := by decide +kernel
theorem dX6_readWay_15 : decode cX6_readWay 15 = .ok (.invokevirtual 91, 3) := by decide +kernel
theorem dX6_readWay_18 : decode cX6_readWay 18 = .ok (.ifCond .eq 12, 3) := by decide +kernel
theorem dX6_readWay_21 : decode cX6_readWay 21 = .ok (.aload_n 0, 1) := by decide +kernel
theorem dX6_readWay_22 : decode cX6_readWay 22 = .ok (.aload_n 0, 1) := by decide +kernel
theorem dX6_readWay_23 : decode cX6_readWay 23 = .ok (.getfield 94, 3) := by decide +kernel
theorem dX6_readWay_26 : decode cX6_readWay 26 = .ok (.iconst 4, 1) := by decide +kernel
theorem dX6_readWay_27 : decode cX6_readWay 27 = .ok (.invokevirtual 48, 3) := by decide +kernel
theorem dX6_readWay_30 : decode cX6_readWay 30 = .ok (.aload_n 0, 1) := by decide +kernel
theorem dX6_readWay_31 : decode cX6_readWay 31 = .ok (.iconst 1, 1) := by decide +kernel
theorem dX6_readWay_32 : decode cX6_readWay 32 = .ok (.sipush 255, 3) := by decide +kernel
theorem dX6_readWay_35 : decode cX6_readWay 35 = .ok (.invokevirtual 52, 3) := by decide +kernel
theorem dX6_readWay_38 : decode cX6_readWay 38 = .ok (.istore_n 3, 1) := by decide +kernel
theorem dX6_readWay_39 : decode cX6_readWay 39 = .ok (.iload_n 3, 1) := by decide +kernel
theorem dX6_readWay_40 : decode cX6_readWay 40 = .ok (.aload_n 1, 1) := by decide +kernel
theorem dX6_readWay_41 : decode cX6_readWay 41 = .ok (.getfield 75, 3) := by decide +kernel
theorem dX6_readWay_44 : decode cX6_readWay 44 = .ok (.ishr, 1) := by decide +kernel
theorem dX6_readWay_45 : decode cX6_readWay 45 = .ok (.ifCond .ne 11, 3) := by decide +kernel
theorem dX6_readWay_48 : decode cX6_readWay 48 = .ok (.iload_n 3, 1) := by decide +kernel
theorem dX6_readWay_49 : decode cX6_readWay 49 = .ok (.iload_n 2, 1) := by decide +kernel
theorem dX6_readWay_50 : decode cX6_readWay 50 = .ok (.ishr, 1) := by decide +kernel
theorem dX6_readWay_51 : decode cX6_readWay 51 = .ok (.iconst 1, 1) := by decide +kernel
theorem dX6_readWay_52 : decode cX6_readWay 52 = .ok (.iand, 1) := by decide +kernel
theorem dX6_readWay_53 : decode cX6_readWay 53 = .ok (.ifCond .eq 12, 3) := by decide +kernel
theorem dX6_readWay_56 : decode cX6_readWay 56 = .ok (.aload_n 0, 1) := by decide +kernel
theorem dX6_readWay_57 : decode cX6_readWay 57 = .ok (.aload_n 0, 1) := by decide +kernel
theorem dX6_readWay_58 : decode cX6_readWay 58 = .ok (.getfield 94, 3) := by decide +kernel
theorem dX6_readWay_61 : decode cX6_readWay 61 = .ok (.iconst 2, 1) := by decide +kernel
theorem dX6_readWay_62 : decode cX6_readWay 62 = .ok (.invokevirtual 48, 3) := by decide +kernel
theorem dX6_readWay_65 : decode cX6_readWay 65 = .ok (.aload_n 1, 1) := by decide +kernel
theorem dX6_readWay_66 : decode cX6_readWay 66 = .ok (.iload_n 2, 1) := by decide +kernel
theorem dX6_readWay_67 : decode cX6_readWay 67 = .ok (.iload_n 3, 1) := by decide +kernel
theorem dX6_readWay_68 : decode cX6_readWay 68 = .ok (.invokevirtual 97, 3) := by decide +kernel
theorem dX6_readWay_71 : decode cX6_readWay 71 = .ok (.return_, 1) := by decide +kernel
theorem dX6_readPointing_0 : decode cX6_readPointing 0 = .ok (.aload_n 0, 1) := by decide +kernel
theorem dX6_readPointing_1 : decode cX6_readPointing 1 = .ok (.iconst 0, 1) := by decide +kernel
theorem dX6_readPointing_2 : decode cX6_readPointing 2 = .ok (.aload_n 1, 1) := by decide +kernel
theorem dX6_readPointing_3 : decode cX6_readPointing 3 = .ok (.getfield 75, 3) := by decide +kernel
theorem dX6_readPointing_6 : decode cX6_readPointing 6 = .ok (.iconst 1, 1) := by decide +kernel
theorem dX6_readPointing_7 : decode cX6_readPointing 7 = .ok (.isub, 1) := by decide +kernel
theorem dX6_readPointing_8 : decode cX6_readPointing 8 = .ok (.invokevirtual 52, 3) := by decide +kernel
theorem dX6_readPointing_11 : decode cX6_readPointing 11 = .ok (.istore_n 2, 1) := by decide +kernel
theorem dX6_readPointing_12 : decode cX6_readPointing 12 = .ok (.aload_n 1, 1) := by decide +kernel
theorem dX6_readPointing_13 : decode cX6_readPointing 13 = .ok (.iload_n 2, 1) := by decide +kernel
theorem dX6_readPointing_14 : decode cX6_readPointing 14 = .ok (.invokevirtual 100, 3) := by decide +kernel
theorem dX6_readPointing_17 : decode cX6_readPointing 17 = .ok (.ifCond .eq 12, 3) := by decide +kernel
theorem dX6_readPointing_20 : decode cX6_readPointing 20 = .ok (.aload_n 0, 1) := by decide +kernel
theorem dX6_readPointing_21 : decode cX6_readPointing 21 = .ok (.aload_n 0, 1) := by decide +kernel
theorem dX6_readPointing_22 : decode cX6_readPointing 22 = .ok (.getfield 94, 3) := by decide +kernel
theorem dX6_readPointing_25 : decode cX6_readPointing 25 = .ok (.iconst 4, 1) := by decide +kernel
theorem dX6_readPointing_26 : decode cX6_readPointing 26 = .ok (.invokevirtual 48, 3) := by decide +kernel
theorem dX6_readPointing_29 : decode cX6_readPointing 29 = .ok (.aload_n 1, 1) := by decide +kernel
theorem dX6_readPointing_30 : decode cX6_readPointing 30 = .ok (.dup, 1) := by decide +kernel
theorem dX6_readPointing_31 : decode cX6_readPointing 31 = .ok (.getfield 104, 3) := by decide +kernel
theorem dX6_readPointing_34 : decode cX6_readPointing 34 = .ok (.iconst 1, 1) := by decide +kernel
theorem dX6_readPointing_35 : decode cX6_readPointing 35 = .ok (.iload_n 2, 1) := by decide +kernel
theorem dX6_readPointing_36 : decode cX6_readPointing 36 = .ok (.ishl, 1) := by decide +kernel
theorem dX6_readPointing_37 : decode cX6_readPointing 37 = .ok (.ior, 1) := by decide +kernel
theorem dX6_readPointing_38 : decode cX6_readPointing 38 = .ok (.putfield 104, 3) := by decide +kernel
theorem dX6_readPointing_41 : decode cX6_readPointing 41 = .ok (.return_, 1) := by decide +kernel
theorem dX6_readNeed_0 : decode cX6_readNeed 0 = .ok (.aload_n 0, 1) := by decide +kernel
theorem dX6_readNeed_1 : decode cX6_readNeed 1 = .ok (.iconst 0, 1) := by decide +kernel
theorem dX6_readNeed_2 : decode cX6_readNeed 2 = .ok (.aload_n 1, 1) := by decide +kernel
theorem dX6_readNeed_3 : decode cX6_readNeed 3 = .ok (.getfield 81, 3) := by decide +kernel
theorem dX6_readNeed_6 : decode cX6_readNeed 6 = .ok (.iconst 1, 1) := by decide +kernel
theorem dX6_readNeed_7 : decode cX6_readNeed 7 = .ok (.isub, 1) := by decide +kernel
theorem dX6_readNeed_8 : decode cX6_readNeed 8 = .ok (.invokevirtual 52, 3) := by decide +kernel
theorem dX6_readNeed_11 : decode cX6_readNeed 11 = .ok (.istore_n 2, 1) := by decide +kernel
theorem dX6_readNeed_12 : decode cX6_readNeed 12 = .ok (.aload_n 0, 1) := by decide +kernel
theorem dX6_readNeed_13 : decode cX6_readNeed 13 = .ok (.iconst 0, 1) := by decide +kernel
theorem dX6_readNeed_14 : decode cX6_readNeed 14 = .ok (.aload_n 1, 1) := by decide +kernel
theorem dX6_readNeed_15 : decode cX6_readNeed 15 = .ok (.getfield 75, 3) := by decide +kernel
theorem dX6_readNeed_18 : decode cX6_readNeed 18 = .ok (.iconst 1, 1) := by decide +kernel
theorem dX6_readNeed_19 : decode cX6_readNeed 19 = .ok (.isub, 1) := by decide +kernel
theorem dX6_readNeed_20 : decode cX6_readNeed 20 = .ok (.invokevirtual 52, 3) := by decide +kernel
theorem dX6_readNeed_23 : decode cX6_readNeed 23 = .ok (.istore_n 3, 1) := by decide +kernel
theorem dX6_readNeed_24 : decode cX6_readNeed 24 = .ok (.aload_n 0, 1) := by decide +kernel
theorem dX6_readNeed_25 : decode cX6_readNeed 25 = .ok (.iconst 0, 1) := by decide +kernel
theorem dX6_readNeed_26 : decode cX6_readNeed 26 = .ok (.aload_n 1, 1) := by decide +kernel
theorem dX6_readNeed_27 : decode cX6_readNeed 27 = .ok (.getfield 56, 3) := by decide +kernel
theorem dX6_readNeed_30 : decode cX6_readNeed 30 = .ok (.iconst 1, 1) := by decide +kernel
theorem dX6_readNeed_31 : decode cX6_readNeed 31 = .ok (.isub, 1) := by decide +kernel
theorem dX6_readNeed_32 : decode cX6_readNeed 32 = .ok (.invokevirtual 52, 3) := by decide +kernel
theorem dX6_readNeed_35 : decode cX6_readNeed 35 = .ok (.istore 4, 2) := by decide +kernel
theorem dX6_readNeed_37 : decode cX6_readNeed 37 = .ok (.aload_n 0, 1) := by decide +kernel
theorem dX6_readNeed_38 : decode cX6_readNeed 38 = .ok (.iconst 0, 1) := by decide +kernel
theorem dX6_readNeed_39 : decode cX6_readNeed 39 = .ok (.bipush 99, 2) := by decide +kernel
theorem dX6_readNeed_41 : decode cX6_readNeed 41 = .ok (.invokevirtual 52, 3) := by decide +kernel
theorem dX6_readNeed_44 : decode cX6_readNeed 44 = .ok (.istore 5, 2) := by decide +kernel
theorem dX6_readNeed_46 : decode cX6_readNeed 46 = .ok (.aload_n 1, 1) := by decide +kernel
theorem dX6_readNeed_47 : decode cX6_readNeed 47 = .ok (.iload_n 2, 1) := by decide +kernel
theorem dX6_readNeed_48 : decode cX6_readNeed 48 = .ok (.iload_n 3, 1) := by decide +kernel
theorem dX6_readNeed_49 : decode cX6_readNeed 49 = .ok (.iload 4, 2) := by decide +kernel
theorem dX6_readNeed_51 : decode cX6_readNeed 51 = .ok (.iload 5, 2) := by decide +kernel
theorem dX6_readNeed_53 : decode cX6_readNeed 53 = .ok (.invokevirtual 107, 3) := by decide +kernel
theorem dX6_readNeed_56 : decode cX6_readNeed 56 = .ok (.return_, 1) := by decide +kernel
theorem dX6_readNumber_0 : decode cX6_readNumber 0 = .ok (.aload_n 0, 1) := by decide +kernel
theorem dX6_readNumber_1 : decode cX6_readNumber 1 = .ok (.getfield 27, 3) := by decide +kernel
theorem dX6_readNumber_4 : decode cX6_readNumber 4 = .ok (.ifCond .eq 5, 3) := by decide +kernel
theorem dX6_readNumber_7 : decode cX6_readNumber 7 = .ok (.iconst 0, 1) := by decide +kernel
theorem dX6_readNumber_8 : decode cX6_readNumber 8 = .ok (.ireturn, 1) := by decide +kernel
theorem dX6_readNumber_9 : decode cX6_readNumber 9 = .ok (.aload_n 0, 1) := by decide +kernel
theorem dX6_readNumber_10 : decode cX6_readNumber 10 = .ok (.invokevirtual 33, 3) := by decide +kernel
theorem dX6_readNumber_13 : decode cX6_readNumber 13 = .ok (.aload_n 0, 1) := by decide +kernel
theorem dX6_readNumber_14 : decode cX6_readNumber 14 = .ok (.aload_n 0, 1) := by decide +kernel
theorem dX6_readNumber_15 : decode cX6_readNumber 15 = .ok (.getfield 30, 3) := by decide +kernel
theorem dX6_readNumber_18 : decode cX6_readNumber 18 = .ok (.putfield 94, 3) := by decide +kernel
theorem dX6_readNumber_21 : decode cX6_readNumber 21 = .ok (.iconst 0, 1) := by decide +kernel
theorem dX6_readNumber_22 : decode cX6_readNumber 22 = .ok (.istore_n 3, 1) := by decide +kernel
theorem dX6_readNumber_23 : decode cX6_readNumber 23 = .ok (.aload_n 0, 1) := by decide +kernel
theorem dX6_readNumber_24 : decode cX6_readNumber 24 = .ok (.getfield 30, 3) := by decide +kernel
theorem dX6_readNumber_27 : decode cX6_readNumber 27 = .ok (.istore 4, 2) := by decide +kernel
theorem dX6_readNumber_29 : decode cX6_readNumber 29 = .ok (.iload 4, 2) := by decide +kernel
theorem dX6_readNumber_31 : decode cX6_readNumber 31 = .ok (.aload_n 0, 1) := by decide +kernel
theorem dX6_readNumber_32 : decode cX6_readNumber 32 = .ok (.getfield 19, 3) := by decide +kernel
theorem dX6_readNumber_35 : decode cX6_readNumber 35 = .ok (.if_icmp .ge 65, 3) := by decide +kernel
theorem dX6_readNumber_38 : decode cX6_readNumber 38 = .ok (.aload_n 0, 1) := by decide +kernel
theorem dX6_readNumber_39 : decode cX6_readNumber 39 = .ok (.getfield 9, 3) := by decide +kernel
theorem dX6_readNumber_42 : decode cX6_readNumber 42 = .ok (.iload 4, 2) := by decide +kernel
theorem dX6_readNumber_44 : decode cX6_readNumber 44 = .ok (.iaload, 1) := by decide +kernel
theorem dX6_readNumber_45 : decode cX6_readNumber 45 = .ok (.bipush 48, 2) := by decide +kernel
theorem dX6_readNumber_47 : decode cX6_readNumber 47 = .ok (.if_icmp .lt 53, 3) := by decide +kernel
theorem dX6_readNumber_50 : decode cX6_readNumber 50 = .ok (.aload_n 0, 1) := by decide +kernel
theorem dX6_readNumber_51 : decode cX6_readNumber 51 = .ok (.getfield 9, 3) := by decide +kernel
theorem dX6_readNumber_54 : decode cX6_readNumber 54 = .ok (.iload 4, 2) := by decide +kernel
theorem dX6_readNumber_56 : decode cX6_readNumber 56 = .ok (.iaload, 1) := by decide +kernel
theorem dX6_readNumber_57 : decode cX6_readNumber 57 = .ok (.bipush 57, 2) := by decide +kernel
theorem dX6_readNumber_59 : decode cX6_readNumber 59 = .ok (.if_icmp .gt 41, 3) := by decide +kernel
theorem dX6_readNumber_62 : decode cX6_readNumber 62 = .ok (.sipush 1000, 3) := by decide +kernel
theorem dX6_readNumber_65 : decode cX6_readNumber 65 = .ok (.bipush 10, 2) := by decide +kernel
theorem dX6_readNumber_67 : decode cX6_readNumber 67 = .ok (.iload_n 3, 1) := by decide +kernel
theorem dX6_readNumber_68 : decode cX6_readNumber 68 = .ok (.imul, 1) := by decide +kernel
theorem dX6_readNumber_69 : decode cX6_readNumber 69 = .ok (.aload_n 0, 1) := by decide +kernel
theorem dX6_readNumber_70 : decode cX6_readNumber 70 = .ok (.getfield 9, 3) := by decide +kernel
theorem dX6_readNumber_73 : decode cX6_readNumber 73 = .ok (.iload 4, 2) := by decide +kernel
theorem dX6_readNumber_75 : decode cX6_readNumber 75 = .ok (.iaload, 1) := by decide +kernel
theorem dX6_readNumber_76 : decode cX6_readNumber 76 = .ok (.iadd, 1) := by decide +kernel
theorem dX6_readNumber_77 : decode cX6_readNumber 77 = .ok (.bipush 48, 2) := by decide +kernel
theorem dX6_readNumber_79 : decode cX6_readNumber 79 = .ok (.isub, 1) := by decide +kernel
theorem dX6_readNumber_80 : decode cX6_readNumber 80 = .ok (.invokestatic 111, 3) := by decide +kernel
theorem dX6_readNumber_83 : decode cX6_readNumber 83 = .ok (.istore_n 3, 1) := by decide +kernel
theorem dX6_readNumber_84 : decode cX6_readNumber 84 = .ok (.aload_n 0, 1) := by decide +kernel
theorem dX6_readNumber_85 : decode cX6_readNumber 85 = .ok (.dup, 1) := by decide +kernel
theorem dX6_readNumber_86 : decode cX6_readNumber 86 = .ok (.getfield 30, 3) := by decide +kernel
theorem dX6_readNumber_89 : decode cX6_readNumber 89 = .ok (.iconst 1, 1) := by decide +kernel
theorem dX6_readNumber_90 : decode cX6_readNumber 90 = .ok (.iadd, 1) := by decide +kernel
theorem dX6_readNumber_91 : decode cX6_readNumber 91 = .ok (.putfield 30, 3) := by decide +kernel
theorem dX6_readNumber_94 : decode cX6_readNumber 94 = .ok (.iinc 4 1, 3) := by decide +kernel
theorem dX6_readNumber_97 : decode cX6_readNumber 97 = .ok (.goto (-68), 3) := by decide +kernel
theorem dX6_readNumber_100 : decode cX6_readNumber 100 = .ok (.aload_n 0, 1) := by decide +kernel
theorem dX6_readNumber_101 : decode cX6_readNumber 101 = .ok (.getfield 30, 3) := by decide +kernel
theorem dX6_readNumber_104 : decode cX6_readNumber 104 = .ok (.aload_n 0, 1) := by decide +kernel
theorem dX6_readNumber_105 : decode cX6_readNumber 105 = .ok (.getfield 94, 3) := by decide +kernel
theorem dX6_readNumber_108 : decode cX6_readNumber 108 = .ok (.if_icmp .ne 15, 3) := by decide +kernel
theorem dX6_readNumber_111 : decode cX6_readNumber 111 = .ok (.aload_n 0, 1) := by decide +kernel
theorem dX6_readNumber_112 : decode cX6_readNumber 112 = .ok (.aload_n 0, 1) := by decide +kernel
theorem dX6_readNumber_113 : decode cX6_readNumber 113 = .ok (.getfield 30, 3) := by decide +kernel
theorem dX6_readNumber_116 : decode cX6_readNumber 116 = .ok (.iconst 1, 1) := by decide +kernel
theorem dX6_readNumber_117 : decode cX6_readNumber 117 = .ok (.invokevirtual 48, 3) := by decide +kernel
theorem dX6_readNumber_120 : decode cX6_readNumber 120 = .ok (.goto 35, 3) := by decide +kernel
theorem dX6_readNumber_123 : decode cX6_readNumber 123 = .ok (.aload_n 0, 1) := by decide +kernel
theorem dX6_readNumber_124 : decode cX6_readNumber 124 = .ok (.getfield 30, 3) := by decide +kernel
theorem dX6_readNumber_127 : decode cX6_readNumber 127 = .ok (.aload_n 0, 1) := by decide +kernel
theorem dX6_readNumber_128 : decode cX6_readNumber 128 = .ok (.getfield 94, 3) := by decide +kernel
theorem dX6_readNumber_131 : decode cX6_readNumber 131 = .ok (.isub, 1) := by decide +kernel
theorem dX6_readNumber_132 : decode cX6_readNumber 132 = .ok (.iconst 3, 1) := by decide +kernel
theorem dX6_readNumber_133 : decode cX6_readNumber 133 = .ok (.if_icmp .gt 13, 3) := by decide +kernel
theorem dX6_readNumber_136 : decode cX6_readNumber 136 = .ok (.iload_n 3, 1) := by decide +kernel
theorem dX6_readNumber_137 : decode cX6_readNumber 137 = .ok (.iload_n 1, 1) := by decide +kernel
theorem dX6_readNumber_138 : decode cX6_readNumber 138 = .ok (.if_icmp .lt 8, 3) := by decide +kernel
theorem dX6_readNumber_141 : decode cX6_readNumber 141 = .ok (.iload_n 3, 1) := by decide +kernel
theorem dX6_readNumber_142 : decode cX6_readNumber 142 = .ok (.iload_n 2, 1) := by decide +kernel
theorem dX6_readNumber_143 : decode cX6_readNumber 143 = .ok (.if_icmp .le 12, 3) := by decide +kernel
theorem dX6_readNumber_146 : decode cX6_readNumber 146 = .ok (.aload_n 0, 1) := by decide +kernel
theorem dX6_readNumber_147 : decode cX6_readNumber 147 = .ok (.aload_n 0, 1) := by decide +kernel
theorem dX6_readNumber_148 : decode cX6_readNumber 148 = .ok (.getfield 94, 3) := by decide +kernel
theorem dX6_readNumber_151 : decode cX6_readNumber 151 = .ok (.iconst 2, 1) := by decide +kernel
theorem dX6_readNumber_152 : decode cX6_readNumber 152 = .ok (.invokevirtual 48, 3) := by decide +kernel
theorem dX6_readNumber_155 : decode cX6_readNumber 155 = .ok (.aload_n 0, 1) := by decide +kernel
theorem dX6_readNumber_156 : decode cX6_readNumber 156 = .ok (.getfield 27, 3) := by decide +kernel
theorem dX6_readNumber_159 : decode cX6_readNumber 159 = .ok (.ifCond .ne 7, 3) := by decide +kernel
theorem dX6_readNumber_162 : decode cX6_readNumber 162 = .ok (.iload_n 3, 1) := by decide +kernel
theorem dX6_readNumber_163 : decode cX6_readNumber 163 = .ok (.goto 4, 3) := by decide +kernel
theorem dX6_readNumber_166 : decode cX6_readNumber 166 = .ok (.iconst 0, 1) := by decide +kernel
theorem dX6_readNumber_167 : decode cX6_readNumber 167 = .ok (.ireturn, 1) := by decide +kernel
theorem dX6_skipBlanks_0 : decode cX6_skipBlanks 0 = .ok (.aload_n 0, 1) := by decide +kernel
theorem dX6_skipBlanks_1 : decode cX6_skipBlanks 1 = .ok (.getfield 30, 3) := by decide +kernel
theorem dX6_skipBlanks_4 : decode cX6_skipBlanks 4 = .ok (.istore_n 1, 1) := by decide +kernel
theorem dX6_skipBlanks_5 : decode cX6_skipBlanks 5 = .ok (.iload_n 1, 1) := by decide +kernel
theorem dX6_skipBlanks_6 : decode cX6_skipBlanks 6 = .ok (.aload_n 0, 1) := by decide +kernel
theorem dX6_skipBlanks_7 : decode cX6_skipBlanks 7 = .ok (.getfield 19, 3) := by decide +kernel
theorem dX6_skipBlanks_10 : decode cX6_skipBlanks 10 = .ok (.if_icmp .ge 30, 3) := by decide +kernel
theorem dX6_skipBlanks_13 : decode cX6_skipBlanks 13 = .ok (.aload_n 0, 1) := by decide +kernel
theorem dX6_skipBlanks_14 : decode cX6_skipBlanks 14 = .ok (.getfield 9, 3) := by decide +kernel
theorem dX6_skipBlanks_17 : decode cX6_skipBlanks 17 = .ok (.iload_n 1, 1) := by decide +kernel
theorem dX6_skipBlanks_18 : decode cX6_skipBlanks 18 = .ok (.iaload, 1) := by decide +kernel
theorem dX6_skipBlanks_19 : decode cX6_skipBlanks 19 = .ok (.bipush 32, 2) := by decide +kernel
theorem dX6_skipBlanks_21 : decode cX6_skipBlanks 21 = .ok (.if_icmp .ne 19, 3) := by decide +kernel
theorem dX6_skipBlanks_24 : decode cX6_skipBlanks 24 = .ok (.aload_n 0, 1) := by decide +kernel
theorem dX6_skipBlanks_25 : decode cX6_skipBlanks 25 = .ok (.dup, 1) := by decide +kernel
theorem dX6_skipBlanks_26 : decode cX6_skipBlanks 26 = .ok (.getfield 30, 3) := by decide +kernel
theorem dX6_skipBlanks_29 : decode cX6_skipBlanks 29 = .ok (.iconst 1, 1) := by decide +kernel
theorem dX6_skipBlanks_30 : decode cX6_skipBlanks 30 = .ok (.iadd, 1) := by decide +kernel
theorem dX6_skipBlanks_31 : decode cX6_skipBlanks 31 = .ok (.putfield 30, 3) := by decide +kernel
theorem dX6_skipBlanks_34 : decode cX6_skipBlanks 34 = .ok (.iinc 1 1, 3) := by decide +kernel
theorem dX6_skipBlanks_37 : decode cX6_skipBlanks 37 = .ok (.goto (-32), 3) := by decide +kernel
theorem dX6_skipBlanks_40 : decode cX6_skipBlanks 40 = .ok (.return_, 1) := by decide +kernel
theorem dX6_letterHere_0 : decode cX6_letterHere 0 = .ok (.aload_n 0, 1) := by decide +kernel
theorem dX6_letterHere_1 : decode cX6_letterHere 1 = .ok (.getfield 30, 3) := by decide +kernel
theorem dX6_letterHere_4 : decode cX6_letterHere 4 = .ok (.ifCond .lt 26, 3) := by decide +kernel
theorem dX6_letterHere_7 : decode cX6_letterHere 7 = .ok (.aload_n 0, 1) := by decide +kernel
theorem dX6_letterHere_8 : decode cX6_letterHere 8 = .ok (.getfield 30, 3) := by decide +kernel
theorem dX6_letterHere_11 : decode cX6_letterHere 11 = .ok (.aload_n 0, 1) := by decide +kernel
theorem dX6_letterHere_12 : decode cX6_letterHere 12 = .ok (.getfield 19, 3) := by decide +kernel
theorem dX6_letterHere_15 : decode cX6_letterHere 15 = .ok (.if_icmp .ge 15, 3) := by decide +kernel
theorem dX6_letterHere_18 : decode cX6_letterHere 18 = .ok (.aload_n 0, 1) := by decide +kernel
theorem dX6_letterHere_19 : decode cX6_letterHere 19 = .ok (.getfield 9, 3) := by decide +kernel
theorem dX6_letterHere_22 : decode cX6_letterHere 22 = .ok (.aload_n 0, 1) := by decide +kernel
theorem dX6_letterHere_23 : decode cX6_letterHere 23 = .ok (.getfield 30, 3) := by decide +kernel
theorem dX6_letterHere_26 : decode cX6_letterHere 26 = .ok (.iaload, 1) := by decide +kernel
theorem dX6_letterHere_27 : decode cX6_letterHere 27 = .ok (.goto 4, 3) := by decide +kernel
theorem dX6_letterHere_30 : decode cX6_letterHere 30 = .ok (.iconst (-1), 1) := by decide +kernel
theorem dX6_letterHere_31 : decode cX6_letterHere 31 = .ok (.ireturn, 1) := by decide +kernel
theorem dX6_blame_0 : decode cX6_blame 0 = .ok (.aload_n 0, 1) := by decide +kernel
theorem dX6_blame_1 : decode cX6_blame 1 = .ok (.getfield 27, 3) := by decide +kernel
theorem dX6_blame_4 : decode cX6_blame 4 = .ok (.ifCond .ne 13, 3) := by decide +kernel
theorem dX6_blame_7 : decode cX6_blame 7 = .ok (.aload_n 0, 1) := by decide +kernel
theorem dX6_blame_8 : decode cX6_blame 8 = .ok (.iload_n 2, 1) := by decide +kernel
theorem dX6_blame_9 : decode cX6_blame 9 = .ok (.putfield 27, 3) := by decide +kernel
theorem dX6_blame_12 : decode cX6_blame 12 = .ok (.aload_n 0, 1) := by decide +kernel
theorem dX6_blame_13 : decode cX6_blame 13 = .ok (.iload_n 1, 1) := by decide +kernel
theorem dX6_blame_14 : decode cX6_blame 14 = .ok (.putfield 15, 3) := by decide +kernel
theorem dX6_blame_17 : decode cX6_blame 17 = .ok (.return_, 1) := by decide +kernel
theorem dX7_init_0 : decode cX7_init 0 = .ok (.aload_n 0, 1) := by decide +kernel
theorem dX7_init_1 : decode cX7_init 1 = .ok (.invokespecial 3, 3) := by decide +kernel
theorem dX7_init_4 : decode cX7_init 4 = .ok (.aload_n 0, 1) := by decide +kernel
theorem dX7_init_5 : decode cX7_init 5 = .ok (.bipush 8, 2) := by decide +kernel
theorem dX7_init_7 : decode cX7_init 7 = .ok (.newarray .int, 2) := by decide +kernel
theorem dX7_init_9 : decode cX7_init 9 = .ok (.putfield 9, 3) := by decide +kernel
theorem dX7_init_12 : decode cX7_init 12 = .ok (.aload_n 0, 1) := by decide +kernel
theorem dX7_init_13 : decode cX7_init 13 = .ok (.bipush 8, 2) := by decide +kernel
theorem dX7_init_15 : decode cX7_init 15 = .ok (.newarray .int, 2) := by decide +kernel
theorem dX7_init_17 : decode cX7_init 17 = .ok (.putfield 15, 3) := by decide +kernel
theorem dX7_init_20 : decode cX7_init 20 = .ok (.aload_n 0, 1) := by decide +kernel
theorem dX7_init_21 : decode cX7_init 21 = .ok (.bipush 8, 2) := by decide +kernel
theorem dX7_init_23 : decode cX7_init 23 = .ok (.newarray .int, 2) := by decide +kernel
theorem dX7_init_25 : decode cX7_init 25 = .ok (.putfield 18, 3) := by decide +kernel
theorem dX7_init_28 : decode cX7_init 28 = .ok (.aload_n 0, 1) := by decide +kernel
theorem dX7_init_29 : decode cX7_init 29 = .ok (.bipush 16, 2) := by decide +kernel
theorem dX7_init_31 : decode cX7_init 31 = .ok (.newarray .int, 2) := by decide +kernel
theorem dX7_init_33 : decode cX7_init 33 = .ok (.putfield 21, 3) := by decide +kernel
theorem dX7_init_36 : decode cX7_init 36 = .ok (.aload_n 0, 1) := by decide +kernel
theorem dX7_init_37 : decode cX7_init 37 = .ok (.bipush 8, 2) := by decide +kernel
theorem dX7_init_39 : decode cX7_init 39 = .ok (.newarray .int, 2) := by decide +kernel
theorem dX7_init_41 : decode cX7_init 41 = .ok (.putfield 24, 3) := by decide +kernel
theorem dX7_init_44 : decode cX7_init 44 = .ok (.aload_n 0, 1) := by decide +kernel
theorem dX7_init_45 : decode cX7_init 45 = .ok (.bipush 8, 2) := by decide +kernel
theorem dX7_init_47 : decode cX7_init 47 = .ok (.newarray .int, 2) := by decide +kernel
theorem dX7_init_49 : decode cX7_init 49 = .ok (.putfield 27, 3) := by decide +kernel
theorem dX7_init_52 : decode cX7_init 52 = .ok (.aload_n 0, 1) := by decide +kernel
theorem dX7_init_53 : decode cX7_init 53 = .ok (.bipush 8, 2) := by decide +kernel
theorem dX7_init_55 : decode cX7_init 55 = .ok (.newarray .int, 2) := by decide +kernel
theorem dX7_init_57 : decode cX7_init 57 = .ok (.putfield 30, 3) := by decide +kernel
theorem dX7_init_60 : decode cX7_init 60 = .ok (.aload_n 0, 1) := by decide +kernel
theorem dX7_init_61 : decode cX7_init 61 = .ok (.bipush 8, 2) := by decide +kernel
theorem dX7_init_63 : decode cX7_init 63 = .ok (.newarray .int, 2) := by decide +kernel
theorem dX7_init_65 : decode cX7_init 65 = .ok (.putfield 33, 3) := by decide +kernel
theorem dX7_init_68 : decode cX7_init 68 = .ok (.return_, 1) := by decide +kernel
theorem dX7_clear_0 : decode cX7_clear 0 = .ok (.aload_n 0, 1) := by decide +kernel
theorem dX7_clear_1 : decode cX7_clear 1 = .ok (.iconst 0, 1) := by decide +kernel
theorem dX7_clear_2 : decode cX7_clear 2 = .ok (.putfield 36, 3) := by decide +kernel
theorem dX7_clear_5 : decode cX7_clear 5 = .ok (.aload_n 0, 1) := by decide +kernel
theorem dX7_clear_6 : decode cX7_clear 6 = .ok (.iconst 0, 1) := by decide +kernel
theorem dX7_clear_7 : decode cX7_clear 7 = .ok (.putfield 40, 3) := by decide +kernel
theorem dX7_clear_10 : decode cX7_clear 10 = .ok (.aload_n 0, 1) := by decide +kernel
theorem dX7_clear_11 : decode cX7_clear 11 = .ok (.iconst 0, 1) := by decide +kernel
theorem dX7_clear_12 : decode cX7_clear 12 = .ok (.putfield 43, 3) := by decide +kernel
theorem dX7_clear_15 : decode cX7_clear 15 = .ok (.aload_n 0, 1) := by decide +kernel
theorem dX7_clear_16 : decode cX7_clear 16 = .ok (.iconst 0, 1) := by decide +kernel
theorem dX7_clear_17 : decode cX7_clear 17 = .ok (.putfield 46, 3) := by decide +kernel
theorem dX7_clear_20 : decode cX7_clear 20 = .ok (.aload_n 0, 1) := by decide +kernel
theorem dX7_clear_21 : decode cX7_clear 21 = .ok (.iconst 0, 1) := by decide +kernel
theorem dX7_clear_22 : decode cX7_clear 22 = .ok (.putfield 49, 3) := by decide +kernel
theorem dX7_clear_25 : decode cX7_clear 25 = .ok (.aload_n 0, 1) := by decide +kernel
theorem dX7_clear_26 : decode cX7_clear 26 = .ok (.iconst 0, 1) := by decide +kernel
theorem dX7_clear_27 : decode cX7_clear 27 = .ok (.putfield 52, 3) := by decide +kernel
theorem dX7_clear_30 : decode cX7_clear 30 = .ok (.aload_n 0, 1) := by decide +kernel
theorem dX7_clear_31 : decode cX7_clear 31 = .ok (.iconst 0, 1) := by decide +kernel
theorem dX7_clear_32 : decode cX7_clear 32 = .ok (.putfield 55, 3) := by decide +kernel
theorem dX7_clear_35 : decode cX7_clear 35 = .ok (.iconst 0, 1) := by decide +kernel
theorem dX7_clear_36 : decode cX7_clear 36 = .ok (.istore_n 1, 1) := by decide +kernel
theorem dX7_clear_37 : decode cX7_clear 37 = .ok (.iload_n 1, 1) := by decide +kernel
theorem dX7_clear_38 : decode cX7_clear 38 = .ok (.aload_n 0, 1) := by decide +kernel
theorem dX7_clear_39 : decode cX7_clear 39 = .ok (.getfield 21, 3) := by decide +kernel
theorem dX7_clear_42 : decode cX7_clear 42 = .ok (.arraylength, 1) := by decide +kernel
theorem dX7_clear_43 : decode cX7_clear 43 = .ok (.if_icmp .ge 16, 3) := by decide +kernel
theorem dX7_clear_46 : decode cX7_clear 46 = .ok (.aload_n 0, 1) := by decide +kernel
theorem dX7_clear_47 : decode cX7_clear 47 = .ok (.getfield 21, 3) := by decide +kernel
theorem dX7_clear_50 : decode cX7_clear 50 = .ok (.iload_n 1, 1) := by decide +kernel
theorem dX7_clear_51 : decode cX7_clear 51 = .ok (.iconst 0, 1) := by decide +kernel
theorem dX7_clear_52 : decode cX7_clear 52 = .ok (.iastore, 1) := by decide +kernel
theorem dX7_clear_53 : decode cX7_clear 53 = .ok (.iinc 1 1, 3) := by decide +kernel
theorem dX7_clear_56 : decode cX7_clear 56 = .ok (.goto (-19), 3) := by decide +kernel
theorem dX7_clear_59 : decode cX7_clear 59 = .ok (.return_, 1) := by decide +kernel
theorem dX7_addWord_0 : decode cX7_addWord 0 = .ok (.aload_n 0, 1) := by decide +kernel
theorem dX7_addWord_1 : decode cX7_addWord 1 = .ok (.getfield 40, 3) := by decide +kernel
theorem dX7_addWord_4 : decode cX7_addWord 4 = .ok (.bipush 8, 2) := by decide +kernel
theorem dX7_addWord_6 : decode cX7_addWord 6 = .ok (.if_icmp .ge 43, 3) := by decide +kernel
theorem dX7_addWord_9 : decode cX7_addWord 9 = .ok (.aload_n 0, 1) := by decide +kernel
theorem dX7_addWord_10 : decode cX7_addWord 10 = .ok (.getfield 9, 3) := by decide +kernel
theorem dX7_addWord_13 : decode cX7_addWord 13 = .ok (.aload_n 0, 1) := by decide +kernel
theorem dX7_addWord_14 : decode cX7_addWord 14 = .ok (.getfield 40, 3) := by decide +kernel
theorem dX7_addWord_17 : decode cX7_addWord 17 = .ok (.iload_n 1, 1) := by decide +kernel
theorem dX7_addWord_18 : decode cX7_addWord 18 = .ok (.iastore, 1) := by decide +kernel
theorem dX7_addWord_19 : decode cX7_addWord 19 = .ok (.aload_n 0, 1) := by decide +kernel
theorem dX7_addWord_20 : decode cX7_addWord 20 = .ok (.getfield 15, 3) := by decide +kernel
theorem dX7_addWord_23 : decode cX7_addWord 23 = .ok (.aload_n 0, 1) := by decide +kernel
theorem dX7_addWord_24 : decode cX7_addWord 24 = .ok (.getfield 40, 3) := by decide +kernel
theorem dX7_addWord_27 : decode cX7_addWord 27 = .ok (.iload_n 2, 1) := by decide +kernel
theorem dX7_addWord_28 : decode cX7_addWord 28 = .ok (.iastore, 1) := by decide +kernel
theorem dX7_addWord_29 : decode cX7_addWord 29 = .ok (.aload_n 0, 1) := by decide +kernel
theorem dX7_addWord_30 : decode cX7_addWord 30 = .ok (.getfield 18, 3) := by decide +kernel
theorem dX7_addWord_33 : decode cX7_addWord 33 = .ok (.aload_n 0, 1) := by decide +kernel
theorem dX7_addWord_34 : decode cX7_addWord 34 = .ok (.getfield 40, 3) := by decide +kernel
theorem dX7_addWord_37 : decode cX7_addWord 37 = .ok (.iload_n 3, 1) := by decide +kernel
theorem dX7_addWord_38 : decode cX7_addWord 38 = .ok (.iastore, 1) := by decide +kernel
theorem dX7_addWord_39 : decode cX7_addWord 39 = .ok (.aload_n 0, 1) := by decide +kernel
theorem dX7_addWord_40 : decode cX7_addWord 40 = .ok (.dup, 1) := by decide +kernel
theorem dX7_addWord_41 : decode cX7_addWord 41 = .ok (.getfield 40, 3) := by decide +kernel
theorem dX7_addWord_44 : decode cX7_addWord 44 = .ok (.iconst 1, 1) := by decide +kernel
theorem dX7_addWord_45 : decode cX7_addWord 45 = .ok (.iadd, 1) := by decide +kernel
theorem dX7_addWord_46 : decode cX7_addWord 46 = .ok (.putfield 40, 3) := by decide +kernel
theorem dX7_addWord_49 : decode cX7_addWord 49 = .ok (.return_, 1) := by decide +kernel
theorem dX7_addWay_0 : decode cX7_addWay 0 = .ok (.iconst 0, 1) := by decide +kernel
theorem dX7_addWay_1 : decode cX7_addWay 1 = .ok (.istore_n 3, 1) := by decide +kernel
theorem dX7_addWay_2 : decode cX7_addWay 2 = .ok (.iload_n 3, 1) := by decide +kernel
theorem dX7_addWay_3 : decode cX7_addWay 3 = .ok (.iconst 2, 1) := by decide +kernel
theorem dX7_addWay_4 : decode cX7_addWay 4 = .ok (.if_icmp .ge 60, 3) := by decide +kernel
theorem dX7_addWay_7 : decode cX7_addWay 7 = .ok (.iload_n 1, 1) := by decide +kernel
theorem dX7_addWay_8 : decode cX7_addWay 8 = .ok (.iconst 2, 1) := by decide +kernel
theorem dX7_addWay_9 : decode cX7_addWay 9 = .ok (.imul, 1) := by decide +kernel
theorem dX7_addWay_10 : decode cX7_addWay 10 = .ok (.iload_n 3, 1) := by decide +kernel
theorem dX7_addWay_11 : decode cX7_addWay 11 = .ok (.iadd, 1) := by decide +kernel
theorem dX7_addWay_12 : decode cX7_addWay 12 = .ok (.istore 4, 2) := by decide +kernel
theorem dX7_addWay_14 : decode cX7_addWay 14 = .ok (.iload 4, 2) := by decide +kernel
theorem dX7_addWay_16 : decode cX7_addWay 16 = .ok (.ifCond .lt 42, 3) := by decide +kernel
theorem dX7_addWay_19 : decode cX7_addWay 19 = .ok (.iload 4, 2) := by decide +kernel
theorem dX7_addWay_21 : decode cX7_addWay 21 = .ok (.aload_n 0, 1) := by decide +kernel
theorem dX7_addWay_22 : decode cX7_addWay 22 = .ok (.getfield 21, 3) := by decide +kernel
theorem dX7_addWay_25 : decode cX7_addWay 25 = .ok (.arraylength, 1) := by decide +kernel
theorem dX7_addWay_26 : decode cX7_addWay 26 = .ok (.if_icmp .ge 32, 3) := by decide +kernel
theorem dX7_addWay_29 : decode cX7_addWay 29 = .ok (.aload_n 0, 1) := by decide +kernel
theorem dX7_addWay_30 : decode cX7_addWay 30 = .ok (.getfield 21, 3) := by decide +kernel
theorem dX7_addWay_33 : decode cX7_addWay 33 = .ok (.iload 4, 2) := by decide +kernel
theorem dX7_addWay_35 : decode cX7_addWay 35 = .ok (.iaload, 1) := by decide +kernel
theorem dX7_addWay_36 : decode cX7_addWay 36 = .ok (.ifCond .ne 22, 3) := by decide +kernel
theorem dX7_addWay_39 : decode cX7_addWay 39 = .ok (.aload_n 0, 1) := by decide +kernel
theorem dX7_addWay_40 : decode cX7_addWay 40 = .ok (.getfield 21, 3) := by decide +kernel
theorem dX7_addWay_43 : decode cX7_addWay 43 = .ok (.iload 4, 2) := by decide +kernel
theorem dX7_addWay_45 : decode cX7_addWay 45 = .ok (.iload_n 2, 1) := by decide +kernel
theorem dX7_addWay_46 : decode cX7_addWay 46 = .ok (.iastore, 1) := by decide +kernel
theorem dX7_addWay_47 : decode cX7_addWay 47 = .ok (.aload_n 0, 1) := by decide +kernel
theorem dX7_addWay_48 : decode cX7_addWay 48 = .ok (.dup, 1) := by decide +kernel
theorem dX7_addWay_49 : decode cX7_addWay 49 = .ok (.getfield 43, 3) := by decide +kernel
theorem dX7_addWay_52 : decode cX7_addWay 52 = .ok (.iconst 1, 1) := by decide +kernel
theorem dX7_addWay_53 : decode cX7_addWay 53 = .ok (.iadd, 1) := by decide +kernel
theorem dX7_addWay_54 : decode cX7_addWay 54 = .ok (.putfield 43, 3) := by decide +kernel
theorem dX7_addWay_57 : decode cX7_addWay 57 = .ok (.return_, 1) := by decide +kernel
theorem dX7_addWay_58 : decode cX7_addWay 58 = .ok (.iinc 3 1, 3) := by decide +kernel
theorem dX7_addWay_61 : decode cX7_addWay 61 = .ok (.goto (-59), 3) := by decide +kernel
theorem dX7_addWay_64 : decode cX7_addWay 64 = .ok (.return_, 1) := by decide +kernel
theorem dX7_addPerson_0 : decode cX7_addPerson 0 = .ok (.aload_n 0, 1) := by decide +kernel
theorem dX7_addPerson_1 : decode cX7_addPerson 1 = .ok (.getfield 46, 3) := by decide +kernel
theorem dX7_addPerson_4 : decode cX7_addPerson 4 = .ok (.iconst 5, 1) := by decide +kernel
theorem dX7_addPerson_5 : decode cX7_addPerson 5 = .ok (.if_icmp .ge 36, 3) := by decide +kernel
theorem dX7_addPerson_8 : decode cX7_addPerson 8 = .ok (.aload_n 0, 1) := by decide +kernel
theorem dX7_addPerson_9 : decode cX7_addPerson 9 = .ok (.dup, 1) := by decide +kernel
theorem dX7_addPerson_10 : decode cX7_addPerson 10 = .ok (.getfield 55, 3) := by decide +kernel
theorem dX7_addPerson_13 : decode cX7_addPerson 13 = .ok (.iload_n 1, 1) := by decide +kernel
theorem dX7_addPerson_14 : decode cX7_addPerson 14 = .ok (.ifCond .eq 12, 3) := by decide +kernel
theorem dX7_addPerson_17 : decode cX7_addPerson 17 = .ok (.iconst 1, 1) := by decide +kernel
theorem dX7_addPerson_18 : decode cX7_addPerson 18 = .ok (.aload_n 0, 1) := by decide +kernel
theorem dX7_addPerson_19 : decode cX7_addPerson 19 = .ok (.getfield 46, 3) := by decide +kernel
theorem dX7_addPerson_22 : decode cX7_addPerson 22 = .ok (.ishl, 1) := by decide +kernel
theorem dX7_addPerson_23 : decode cX7_addPerson 23 = .ok (.goto 4, 3) := by decide +kernel
theorem dX7_addPerson_26 : decode cX7_addPerson 26 = .ok (.iconst 0, 1) := by decide +kernel
theorem dX7_addPerson_27 : decode cX7_addPerson 27 = .ok (.ior, 1) := by decide +kernel
theorem dX7_addPerson_28 : decode cX7_addPerson 28 = .ok (.putfield 55, 3) := by decide +kernel
theorem dX7_addPerson_31 : decode cX7_addPerson 31 = .ok (.aload_n 0, 1) := by decide +kernel
theorem dX7_addPerson_32 : decode cX7_addPerson 32 = .ok (.dup, 1) := by decide +kernel
theorem dX7_addPerson_33 : decode cX7_addPerson 33 = .ok (.getfield 46, 3) := by decide +kernel
theorem dX7_addPerson_36 : decode cX7_addPerson 36 = .ok (.iconst 1, 1) := by decide +kernel
theorem dX7_addPerson_37 : decode cX7_addPerson 37 = .ok (.iadd, 1) := by decide +kernel
theorem dX7_addPerson_38 : decode cX7_addPerson 38 = .ok (.putfield 46, 3) := by decide +kernel
theorem dX7_addPerson_41 : decode cX7_addPerson 41 = .ok (.return_, 1) := by decide +kernel
theorem dX7_addNeed_0 : decode cX7_addNeed 0 = .ok (.aload_n 0, 1) := by decide +kernel
theorem dX7_addNeed_1 : decode cX7_addNeed 1 = .ok (.getfield 49, 3) := by decide +kernel
theorem dX7_addNeed_4 : decode cX7_addNeed 4 = .ok (.bipush 8, 2) := by decide +kernel
theorem dX7_addNeed_6 : decode cX7_addNeed 6 = .ok (.if_icmp .ge 54, 3) := by decide +kernel
theorem dX7_addNeed_9 : decode cX7_addNeed 9 = .ok (.aload_n 0, 1) := by decide +kernel
theorem dX7_addNeed_10 : decode cX7_addNeed 10 = .ok (.getfield 24, 3) := by decide +kernel
theorem dX7_addNeed_13 : decode cX7_addNeed 13 = .ok (.aload_n 0, 1) := by decide +kernel
theorem dX7_addNeed_14 : decode cX7_addNeed 14 = .ok (.getfield 49, 3) := by decide +kernel
theorem dX7_addNeed_17 : decode cX7_addNeed 17 = .ok (.iload_n 1, 1) := by decide +kernel
theorem dX7_addNeed_18 : decode cX7_addNeed 18 = .ok (.iastore, 1) := by decide +kernel
theorem dX7_addNeed_19 : decode cX7_addNeed 19 = .ok (.aload_n 0, 1) := by decide +kernel
theorem dX7_addNeed_20 : decode cX7_addNeed 20 = .ok (.getfield 27, 3) := by decide +kernel
theorem dX7_addNeed_23 : decode cX7_addNeed 23 = .ok (.aload_n 0, 1) := by decide +kernel
theorem dX7_addNeed_24 : decode cX7_addNeed 24 = .ok (.getfield 49, 3) := by decide +kernel
theorem dX7_addNeed_27 : decode cX7_addNeed 27 = .ok (.iload_n 2, 1) := by decide +kernel
theorem dX7_addNeed_28 : decode cX7_addNeed 28 = .ok (.iastore, 1) := by decide +kernel
theorem dX7_addNeed_29 : decode cX7_addNeed 29 = .ok (.aload_n 0, 1) := by decide +kernel
theorem dX7_addNeed_30 : decode cX7_addNeed 30 = .ok (.getfield 30, 3) := by decide +kernel
theorem dX7_addNeed_33 : decode cX7_addNeed 33 = .ok (.aload_n 0, 1) := by decide +kernel
theorem dX7_addNeed_34 : decode cX7_addNeed 34 = .ok (.getfield 49, 3) := by decide +kernel
theorem dX7_addNeed_37 : decode cX7_addNeed 37 = .ok (.iload_n 3, 1) := by decide +kernel
theorem dX7_addNeed_38 : decode cX7_addNeed 38 = .ok (.iastore, 1) := by decide +kernel
theorem dX7_addNeed_39 : decode cX7_addNeed 39 = .ok (.aload_n 0, 1) := by decide +kernel
theorem dX7_addNeed_40 : decode cX7_addNeed 40 = .ok (.getfield 33, 3) := by decide +kernel
theorem dX7_addNeed_43 : decode cX7_addNeed 43 = .ok (.aload_n 0, 1) := by decide +kernel
theorem dX7_addNeed_44 : decode cX7_addNeed 44 = .ok (.getfield 49, 3) := by decide +kernel
theorem dX7_addNeed_47 : decode cX7_addNeed 47 = .ok (.iload 4, 2) := by decide +kernel
theorem dX7_addNeed_49 : decode cX7_addNeed 49 = .ok (.iastore, 1) := by decide +kernel
theorem dX7_addNeed_50 : decode cX7_addNeed 50 = .ok (.aload_n 0, 1) := by decide +kernel
theorem dX7_addNeed_51 : decode cX7_addNeed 51 = .ok (.dup, 1) := by decide +kernel
theorem dX7_addNeed_52 : decode cX7_addNeed 52 = .ok (.getfield 49, 3) := by decide +kernel
theorem dX7_addNeed_55 : decode cX7_addNeed 55 = .ok (.iconst 1, 1) := by decide +kernel
theorem dX7_addNeed_56 : decode cX7_addNeed 56 = .ok (.iadd, 1) := by decide +kernel
theorem dX7_addNeed_57 : decode cX7_addNeed 57 = .ok (.putfield 49, 3) := by decide +kernel
theorem dX7_addNeed_60 : decode cX7_addNeed 60 = .ok (.return_, 1) := by decide +kernel
theorem dX7_wayRound_0 : decode cX7_wayRound 0 = .ok (.iload_n 1, 1) := by decide +kernel
theorem dX7_wayRound_1 : decode cX7_wayRound 1 = .ok (.iconst 2, 1) := by decide +kernel
theorem dX7_wayRound_2 : decode cX7_wayRound 2 = .ok (.imul, 1) := by decide +kernel
theorem dX7_wayRound_3 : decode cX7_wayRound 3 = .ok (.iload_n 2, 1) := by decide +kernel
theorem dX7_wayRound_4 : decode cX7_wayRound 4 = .ok (.iadd, 1) := by decide +kernel
theorem dX7_wayRound_5 : decode cX7_wayRound 5 = .ok (.istore_n 3, 1) := by decide +kernel
theorem dX7_wayRound_6 : decode cX7_wayRound 6 = .ok (.iload_n 3, 1) := by decide +kernel
theorem dX7_wayRound_7 : decode cX7_wayRound 7 = .ok (.ifCond .lt 21, 3) := by decide +kernel
theorem dX7_wayRound_10 : decode cX7_wayRound 10 = .ok (.iload_n 3, 1) := by decide +kernel
theorem dX7_wayRound_11 : decode cX7_wayRound 11 = .ok (.aload_n 0, 1) := by decide +kernel
theorem dX7_wayRound_12 : decode cX7_wayRound 12 = .ok (.getfield 21, 3) := by decide +kernel
theorem dX7_wayRound_15 : decode cX7_wayRound 15 = .ok (.arraylength, 1) := by decide +kernel
theorem dX7_wayRound_16 : decode cX7_wayRound 16 = .ok (.if_icmp .ge 12, 3) := by decide +kernel
theorem dX7_wayRound_19 : decode cX7_wayRound 19 = .ok (.aload_n 0, 1) := by decide +kernel
theorem dX7_wayRound_20 : decode cX7_wayRound 20 = .ok (.getfield 21, 3) := by decide +kernel
theorem dX7_wayRound_23 : decode cX7_wayRound 23 = .ok (.iload_n 3, 1) := by decide +kernel
theorem dX7_wayRound_24 : decode cX7_wayRound 24 = .ok (.iaload, 1) := by decide +kernel
theorem dX7_wayRound_25 : decode cX7_wayRound 25 = .ok (.goto 4, 3) := by decide +kernel
theorem dX7_wayRound_28 : decode cX7_wayRound 28 = .ok (.iconst 0, 1) := by decide +kernel
theorem dX7_wayRound_29 : decode cX7_wayRound 29 = .ok (.ireturn, 1) := by decide +kernel
theorem dX7_canPoint_0 : decode cX7_canPoint 0 = .ok (.aload_n 0, 1) := by decide +kernel
theorem dX7_canPoint_1 : decode cX7_canPoint 1 = .ok (.getfield 52, 3) := by decide +kernel
theorem dX7_canPoint_4 : decode cX7_canPoint 4 = .ok (.iload_n 1, 1) := by decide +kernel
theorem dX7_canPoint_5 : decode cX7_canPoint 5 = .ok (.ishr, 1) := by decide +kernel
theorem dX7_canPoint_6 : decode cX7_canPoint 6 = .ok (.iconst 1, 1) := by decide +kernel
theorem dX7_canPoint_7 : decode cX7_canPoint 7 = .ok (.iand, 1) := by decide +kernel
theorem dX7_canPoint_8 : decode cX7_canPoint 8 = .ok (.ifCond .eq 7, 3) := by decide +kernel
theorem dX7_canPoint_11 : decode cX7_canPoint 11 = .ok (.iconst 1, 1) := by decide +kernel
theorem dX7_canPoint_12 : decode cX7_canPoint 12 = .ok (.goto 4, 3) := by decide +kernel
theorem dX7_canPoint_15 : decode cX7_canPoint 15 = .ok (.iconst 0, 1) := by decide +kernel
theorem dX7_canPoint_16 : decode cX7_canPoint 16 = .ok (.ireturn, 1) := by decide +kernel
theorem dX7_dayOfYear_0 : decode cX7_dayOfYear 0 = .ok (.aload_n 0, 1) := by decide +kernel
theorem dX7_dayOfYear_1 : decode cX7_dayOfYear 1 = .ok (.getfield 36, 3) := by decide +kernel
theorem dX7_dayOfYear_4 : decode cX7_dayOfYear 4 = .ok (.ifCond .le 12, 3) := by decide +kernel
theorem dX7_dayOfYear_7 : decode cX7_dayOfYear 7 = .ok (.iload_n 1, 1) := by decide +kernel
theorem dX7_dayOfYear_8 : decode cX7_dayOfYear 8 = .ok (.aload_n 0, 1) := by decide +kernel
theorem dX7_dayOfYear_9 : decode cX7_dayOfYear 9 = .ok (.getfield 36, 3) := by decide +kernel
theorem dX7_dayOfYear_12 : decode cX7_dayOfYear 12 = .ok (.irem, 1) := by decide +kernel
theorem dX7_dayOfYear_13 : decode cX7_dayOfYear 13 = .ok (.goto 4, 3) := by decide +kernel
theorem dX7_dayOfYear_16 : decode cX7_dayOfYear 16 = .ok (.iconst 0, 1) := by decide +kernel
theorem dX7_dayOfYear_17 : decode cX7_dayOfYear 17 = .ok (.ireturn, 1) := by decide +kernel
theorem dX7_isToCome_0 : decode cX7_isToCome 0 = .ok (.aload_n 0, 1) := by decide +kernel
theorem dX7_isToCome_1 : decode cX7_isToCome 1 = .ok (.getfield 30, 3) := by decide +kernel
theorem dX7_isToCome_4 : decode cX7_isToCome 4 = .ok (.iload_n 1, 1) := by decide +kernel
theorem dX7_isToCome_5 : decode cX7_isToCome 5 = .ok (.iaload, 1) := by decide +kernel
theorem dX7_isToCome_6 : decode cX7_isToCome 6 = .ok (.iload_n 2, 1) := by decide +kernel
theorem dX7_isToCome_7 : decode cX7_isToCome 7 = .ok (.if_icmp .lt 7, 3) := by decide +kernel
theorem dX7_isToCome_10 : decode cX7_isToCome 10 = .ok (.iconst 1, 1) := by decide +kernel
theorem dX7_isToCome_11 : decode cX7_isToCome 11 = .ok (.goto 4, 3) := by decide +kernel
theorem dX7_isToCome_14 : decode cX7_isToCome 14 = .ok (.iconst 0, 1) := by decide +kernel
theorem dX7_isToCome_15 : decode cX7_isToCome 15 = .ok (.ireturn, 1) := by decide +kernel
theorem dX7_wouldHaveSaid_0 : decode cX7_wouldHaveSaid 0 = .ok (.aload_n 0, 1) := by decide +kernel
theorem dX7_wouldHaveSaid_1 : decode cX7_wouldHaveSaid 1 = .ok (.getfield 55, 3) := by decide +kernel
theorem dX7_wouldHaveSaid_4 : decode cX7_wouldHaveSaid 4 = .ok (.iload_n 1, 1) := by decide +kernel
theorem dX7_wouldHaveSaid_5 : decode cX7_wouldHaveSaid 5 = .ok (.ishr, 1) := by decide +kernel
theorem dX7_wouldHaveSaid_6 : decode cX7_wouldHaveSaid 6 = .ok (.iconst 1, 1) := by decide +kernel
theorem dX7_wouldHaveSaid_7 : decode cX7_wouldHaveSaid 7 = .ok (.iand, 1) := by decide +kernel
theorem dX7_wouldHaveSaid_8 : decode cX7_wouldHaveSaid 8 = .ok (.ifCond .eq 7, 3) := by decide +kernel
theorem dX7_wouldHaveSaid_11 : decode cX7_wouldHaveSaid 11 = .ok (.iconst 1, 1) := by decide +kernel
theorem dX7_wouldHaveSaid_12 : decode cX7_wouldHaveSaid 12 = .ok (.goto 4, 3) := by decide +kernel
theorem dX7_wouldHaveSaid_15 : decode cX7_wouldHaveSaid 15 = .ok (.iconst 0, 1) := by decide +kernel
theorem dX7_wouldHaveSaid_16 : decode cX7_wouldHaveSaid 16 = .ok (.istore 4, 2) := by decide +kernel
theorem dX7_wouldHaveSaid_18 : decode cX7_wouldHaveSaid 18 = .ok (.iconst 0, 1) := by decide +kernel
theorem dX7_wouldHaveSaid_19 : decode cX7_wouldHaveSaid 19 = .ok (.istore 5, 2) := by decide +kernel
theorem dX7_wouldHaveSaid_21 : decode cX7_wouldHaveSaid 21 = .ok (.iload 5, 2) := by decide +kernel
theorem dX7_wouldHaveSaid_23 : decode cX7_wouldHaveSaid 23 = .ok (.aload_n 0, 1) := by decide +kernel
theorem dX7_wouldHaveSaid_24 : decode cX7_wouldHaveSaid 24 = .ok (.getfield 49, 3) := by decide +kernel
theorem dX7_wouldHaveSaid_27 : decode cX7_wouldHaveSaid 27 = .ok (.if_icmp .ge 45, 3) := by decide +kernel
theorem dX7_wouldHaveSaid_30 : decode cX7_wouldHaveSaid 30 = .ok (.aload_n 0, 1) := by decide +kernel
theorem dX7_wouldHaveSaid_31 : decode cX7_wouldHaveSaid 31 = .ok (.getfield 24, 3) := by decide +kernel
theorem dX7_wouldHaveSaid_34 : decode cX7_wouldHaveSaid 34 = .ok (.iload 5, 2) := by decide +kernel
theorem dX7_wouldHaveSaid_36 : decode cX7_wouldHaveSaid 36 = .ok (.iaload, 1) := by decide +kernel
theorem dX7_wouldHaveSaid_37 : decode cX7_wouldHaveSaid 37 = .ok (.iload_n 1, 1) := by decide +kernel
theorem dX7_wouldHaveSaid_38 : decode cX7_wouldHaveSaid 38 = .ok (.if_icmp .ne 28, 3) := by decide +kernel
theorem dX7_wouldHaveSaid_41 : decode cX7_wouldHaveSaid 41 = .ok (.aload_n 0, 1) := by decide +kernel
theorem dX7_wouldHaveSaid_42 : decode cX7_wouldHaveSaid 42 = .ok (.getfield 27, 3) := by decide +kernel
theorem dX7_wouldHaveSaid_45 : decode cX7_wouldHaveSaid 45 = .ok (.iload 5, 2) := by decide +kernel
theorem dX7_wouldHaveSaid_47 : decode cX7_wouldHaveSaid 47 = .ok (.iaload, 1) := by decide +kernel
theorem dX7_wouldHaveSaid_48 : decode cX7_wouldHaveSaid 48 = .ok (.iload_n 2, 1) := by decide +kernel
theorem dX7_wouldHaveSaid_49 : decode cX7_wouldHaveSaid 49 = .ok (.if_icmp .ne 17, 3) := by decide +kernel
theorem dX7_wouldHaveSaid_52 : decode cX7_wouldHaveSaid 52 = .ok (.aload_n 0, 1) := by decide +kernel
theorem dX7_wouldHaveSaid_53 : decode cX7_wouldHaveSaid 53 = .ok (.getfield 30, 3) := by decide +kernel
theorem dX7_wouldHaveSaid_56 : decode cX7_wouldHaveSaid 56 = .ok (.iload 5, 2) := by decide +kernel
theorem dX7_wouldHaveSaid_58 : decode cX7_wouldHaveSaid 58 = .ok (.iaload, 1) := by decide +kernel
theorem dX7_wouldHaveSaid_59 : decode cX7_wouldHaveSaid 59 = .ok (.iload_n 3, 1) := by decide +kernel
theorem dX7_wouldHaveSaid_60 : decode cX7_wouldHaveSaid 60 = .ok (.if_icmp .ne 6, 3) := by decide +kernel
theorem dX7_wouldHaveSaid_63 : decode cX7_wouldHaveSaid 63 = .ok (.iload 4, 2) := by decide +kernel
theorem dX7_wouldHaveSaid_65 : decode cX7_wouldHaveSaid 65 = .ok (.ireturn, 1) := by decide +kernel
theorem dX7_wouldHaveSaid_66 : decode cX7_wouldHaveSaid 66 = .ok (.iinc 5 1, 3) := by decide +kernel
theorem dX7_wouldHaveSaid_69 : decode cX7_wouldHaveSaid 69 = .ok (.goto (-48), 3) := by decide +kernel
theorem dX7_wouldHaveSaid_72 : decode cX7_wouldHaveSaid 72 = .ok (.iload 4, 2) := by decide +kernel
theorem dX7_wouldHaveSaid_74 : decode cX7_wouldHaveSaid 74 = .ok (.ifCond .ne 7, 3) := by decide +kernel
theorem dX7_wouldHaveSaid_77 : decode cX7_wouldHaveSaid 77 = .ok (.iconst 1, 1) := by decide +kernel
theorem dX7_wouldHaveSaid_78 : decode cX7_wouldHaveSaid 78 = .ok (.goto 4, 3) := by decide +kernel
theorem dX7_wouldHaveSaid_81 : decode cX7_wouldHaveSaid 81 = .ok (.iconst 0, 1) := by decide +kernel
theorem dX7_wouldHaveSaid_82 : decode cX7_wouldHaveSaid 82 = .ok (.ireturn, 1) := by decide +kernel
theorem dX8_init_0 : decode cX8_init 0 = .ok (.aload_n 0, 1) := by decide +kernel
theorem dX8_init_1 : decode cX8_init 1 = .ok (.invokespecial 1, 3) := by decide +kernel
theorem dX8_init_4 : decode cX8_init 4 = .ok (.aload_n 0, 1) := by decide +kernel
theorem dX8_init_5 : decode cX8_init 5 = .ok (.new 7, 3) := by decide +kernel
theorem dX8_init_8 : decode cX8_init 8 = .ok (.dup, 1) := by decide +kernel
theorem dX8_init_9 : decode cX8_init 9 = .ok (.invokespecial 9, 3) := by decide +kernel
theorem dX8_init_12 : decode cX8_init 12 = .ok (.putfield 10, 3) := by decide +kernel
theorem dX8_init_15 : decode cX8_init 15 = .ok (.aload_n 0, 1) := by decide +kernel
theorem dX8_init_16 : decode cX8_init 16 = .ok (.new 16, 3) := by decide +kernel
theorem dX8_init_19 : decode cX8_init 19 = .ok (.dup, 1) := by decide +kernel
theorem dX8_init_20 : decode cX8_init 20 = .ok (.invokespecial 18, 3) := by decide +kernel
theorem dX8_init_23 : decode cX8_init 23 = .ok (.putfield 19, 3) := by decide +kernel
theorem dX8_init_26 : decode cX8_init 26 = .ok (.aload_n 0, 1) := by decide +kernel
theorem dX8_init_27 : decode cX8_init 27 = .ok (.new 16, 3) := by decide +kernel
theorem dX8_init_30 : decode cX8_init 30 = .ok (.dup, 1) := by decide +kernel
theorem dX8_init_31 : decode cX8_init 31 = .ok (.invokespecial 18, 3) := by decide +kernel
theorem dX8_init_34 : decode cX8_init 34 = .ok (.putfield 23, 3) := by decide +kernel
theorem dX8_init_37 : decode cX8_init 37 = .ok (.aload_n 0, 1) := by decide +kernel
theorem dX8_init_38 : decode cX8_init 38 = .ok (.new 26, 3) := by decide +kernel
theorem dX8_init_41 : decode cX8_init 41 = .ok (.dup, 1) := by decide +kernel
theorem dX8_init_42 : decode cX8_init 42 = .ok (.invokespecial 28, 3) := by decide +kernel
theorem dX8_init_45 : decode cX8_init 45 = .ok (.putfield 29, 3) := by decide +kernel
theorem dX8_init_48 : decode cX8_init 48 = .ok (.aload_n 0, 1) := by decide +kernel
theorem dX8_init_49 : decode cX8_init 49 = .ok (.new 26, 3) := by decide +kernel
theorem dX8_init_52 : decode cX8_init 52 = .ok (.dup, 1) := by decide +kernel
theorem dX8_init_53 : decode cX8_init 53 = .ok (.invokespecial 28, 3) := by decide +kernel
theorem dX8_init_56 : decode cX8_init 56 = .ok (.putfield 33, 3) := by decide +kernel
theorem dX8_init_59 : decode cX8_init 59 = .ok (.aload_n 0, 1) := by decide +kernel
theorem dX8_init_60 : decode cX8_init 60 = .ok (.new 36, 3) := by decide +kernel
theorem dX8_init_63 : decode cX8_init 63 = .ok (.dup, 1) := by decide +kernel
theorem dX8_init_64 : decode cX8_init 64 = .ok (.invokespecial 38, 3) := by decide +kernel
theorem dX8_init_67 : decode cX8_init 67 = .ok (.putfield 39, 3) := by decide +kernel
theorem dX8_init_70 : decode cX8_init 70 = .ok (.aload_n 0, 1) := by decide +kernel
theorem dX8_init_71 : decode cX8_init 71 = .ok (.iconst 2, 1) := by decide +kernel
theorem dX8_init_72 : decode cX8_init 72 = .ok (.anewarray 43, 3) := by decide +kernel
theorem dX8_init_75 : decode cX8_init 75 = .ok (.putfield 45, 3) := by decide +kernel
theorem dX8_init_78 : decode cX8_init 78 = .ok (.aload_n 0, 1) := by decide +kernel
theorem dX8_init_79 : decode cX8_init 79 = .ok (.new 49, 3) := by decide +kernel
theorem dX8_init_82 : decode cX8_init 82 = .ok (.dup, 1) := by decide +kernel
theorem dX8_init_83 : decode cX8_init 83 = .ok (.invokespecial 51, 3) := by decide +kernel
theorem dX8_init_86 : decode cX8_init 86 = .ok (.putfield 52, 3) := by decide +kernel
theorem dX8_init_89 : decode cX8_init 89 = .ok (.aload_n 0, 1) := by decide +kernel
theorem dX8_init_90 : decode cX8_init 90 = .ok (.new 56, 3) := by decide +kernel
theorem dX8_init_93 : decode cX8_init 93 = .ok (.dup, 1) := by decide +kernel
theorem dX8_init_94 : decode cX8_init 94 = .ok (.invokespecial 58, 3) := by decide +kernel
theorem dX8_init_97 : decode cX8_init 97 = .ok (.putfield 59, 3) := by decide +kernel
theorem dX8_init_100 : decode cX8_init 100 = .ok (.aload_n 0, 1) := by decide +kernel
theorem dX8_init_101 : decode cX8_init 101 = .ok (.new 63, 3) := by decide +kernel
theorem dX8_init_104 : decode cX8_init 104 = .ok (.dup, 1) := by decide +kernel
theorem dX8_init_105 : decode cX8_init 105 = .ok (.invokespecial 65, 3) := by decide +kernel
theorem dX8_init_108 : decode cX8_init 108 = .ok (.putfield 66, 3) := by decide +kernel
theorem dX8_init_111 : decode cX8_init 111 = .ok (.aload_n 0, 1) := by decide +kernel
theorem dX8_init_112 : decode cX8_init 112 = .ok (.bipush 8, 2) := by decide +kernel
theorem dX8_init_114 : decode cX8_init 114 = .ok (.newarray .int, 2) := by decide +kernel
theorem dX8_init_116 : decode cX8_init 116 = .ok (.putfield 70, 3) := by decide +kernel
theorem dX8_init_119 : decode cX8_init 119 = .ok (.aload_n 0, 1) := by decide +kernel
theorem dX8_init_120 : decode cX8_init 120 = .ok (.bipush 10, 2) := by decide +kernel
theorem dX8_init_122 : decode cX8_init 122 = .ok (.newarray .int, 2) := by decide +kernel
theorem dX8_init_124 : decode cX8_init 124 = .ok (.putfield 74, 3) := by decide +kernel
theorem dX8_init_127 : decode cX8_init 127 = .ok (.iconst 0, 1) := by decide +kernel
theorem dX8_init_128 : decode cX8_init 128 = .ok (.istore_n 1, 1) := by decide +kernel
theorem dX8_init_129 : decode cX8_init 129 = .ok (.iload_n 1, 1) := by decide +kernel
theorem dX8_init_130 : decode cX8_init 130 = .ok (.iconst 2, 1) := by decide +kernel
theorem dX8_init_131 : decode cX8_init 131 = .ok (.if_icmp .ge 22, 3) := by decide +kernel
theorem dX8_init_134 : decode cX8_init 134 = .ok (.aload_n 0, 1) := by decide +kernel
theorem dX8_init_135 : decode cX8_init 135 = .ok (.getfield 45, 3) := by decide +kernel
theorem dX8_init_138 : decode cX8_init 138 = .ok (.iload_n 1, 1) := by decide +kernel
theorem dX8_init_139 : decode cX8_init 139 = .ok (.new 43, 3) := by decide +kernel
theorem dX8_init_142 : decode cX8_init 142 = .ok (.dup, 1) := by decide +kernel
theorem dX8_init_143 : decode cX8_init 143 = .ok (.invokespecial 77, 3) := by decide +kernel
theorem dX8_init_146 : decode cX8_init 146 = .ok (.aastore, 1) := by decide +kernel
theorem dX8_init_147 : decode cX8_init 147 = .ok (.iinc 1 1, 3) := by decide +kernel
theorem dX8_init_150 : decode cX8_init 150 = .ok (.goto (-21), 3) := by decide +kernel
theorem dX8_init_153 : decode cX8_init 153 = .ok (.return_, 1) := by decide +kernel
theorem dX8_feed_0 : decode cX8_feed 0 = .ok (.iload_n 1, 1) := by decide +kernel
theorem dX8_feed_1 : decode cX8_feed 1 = .ok (.ifCond .lt 10, 3) := by decide +kernel
theorem dX8_feed_4 : decode cX8_feed 4 = .ok (.iload_n 1, 1) := by decide +kernel
theorem dX8_feed_5 : decode cX8_feed 5 = .ok (.sipush 255, 3) := by decide +kernel
theorem dX8_feed_8 : decode cX8_feed 8 = .ok (.if_icmp .le 6, 3) := by decide +kernel
theorem dX8_feed_11 : decode cX8_feed 11 = .ok (.ldc 78, 2) := by decide +kernel
theorem dX8_feed_13 : decode cX8_feed 13 = .ok (.ireturn, 1) := by decide +kernel
theorem dX8_feed_14 : decode cX8_feed 14 = .ok (.aload_n 0, 1) := by decide +kernel
theorem dX8_feed_15 : decode cX8_feed 15 = .ok (.getfield 10, 3) := by decide +kernel
theorem dX8_feed_18 : decode cX8_feed 18 = .ok (.invokevirtual 79, 3) := by decide +kernel
theorem dX8_feed_21 : decode cX8_feed 21 = .ok (.ifCond .eq 6, 3) := by decide +kernel
theorem dX8_feed_24 : decode cX8_feed 24 = .ok (.ldc 83, 2) := by decide +kernel
theorem dX8_feed_26 : decode cX8_feed 26 = .ok (.ireturn, 1) := by decide +kernel
theorem dX8_feed_27 : decode cX8_feed 27 = .ok (.aload_n 0, 1) := by decide +kernel
theorem dX8_feed_28 : decode cX8_feed 28 = .ok (.getfield 10, 3) := by decide +kernel
theorem dX8_feed_31 : decode cX8_feed 31 = .ok (.iload_n 1, 1) := by decide +kernel
theorem dX8_feed_32 : decode cX8_feed 32 = .ok (.invokevirtual 84, 3) := by decide +kernel
theorem dX8_feed_35 : decode cX8_feed 35 = .ok (.aload_n 0, 1) := by decide +kernel
theorem dX8_feed_36 : decode cX8_feed 36 = .ok (.getfield 10, 3) := by decide +kernel
theorem dX8_feed_39 : decode cX8_feed 39 = .ok (.getfield 88, 3) := by decide +kernel
theorem dX8_feed_42 : decode cX8_feed 42 = .ok (.ireturn, 1) := by decide +kernel
theorem dX8_town_0 : decode cX8_town 0 = .ok (.aload_n 0, 1) := by decide +kernel
theorem dX8_town_1 : decode cX8_town 1 = .ok (.getfield 10, 3) := by decide +kernel
theorem dX8_town_4 : decode cX8_town 4 = .ok (.aload_n 0, 1) := by decide +kernel
theorem dX8_town_5 : decode cX8_town 5 = .ok (.getfield 23, 3) := by decide +kernel
theorem dX8_town_8 : decode cX8_town 8 = .ok (.invokevirtual 92, 3) := by decide +kernel
theorem dX8_town_11 : decode cX8_town 11 = .ok (.aload_n 0, 1) := by decide +kernel
theorem dX8_town_12 : decode cX8_town 12 = .ok (.getfield 10, 3) := by decide +kernel
theorem dX8_town_15 : decode cX8_town 15 = .ok (.invokevirtual 96, 3) := by decide +kernel
theorem dX8_town_18 : decode cX8_town 18 = .ok (.aload_n 0, 1) := by decide +kernel
theorem dX8_town_19 : decode cX8_town 19 = .ok (.getfield 10, 3) := by decide +kernel
theorem dX8_town_22 : decode cX8_town 22 = .ok (.getfield 99, 3) := by decide +kernel
theorem dX8_town_25 : decode cX8_town 25 = .ok (.ifCond .eq 14, 3) := by decide +kernel
theorem dX8_town_28 : decode cX8_town 28 = .ok (.bipush (-10), 2) := by decide +kernel
theorem dX8_town_30 : decode cX8_town 30 = .ok (.aload_n 0, 1) := by decide +kernel
theorem dX8_town_31 : decode cX8_town 31 = .ok (.getfield 10, 3) := by decide +kernel
theorem dX8_town_34 : decode cX8_town 34 = .ok (.getfield 99, 3) := by decide +kernel
theorem dX8_town_37 : decode cX8_town 37 = .ok (.isub, 1) := by decide +kernel
theorem dX8_town_38 : decode cX8_town 38 = .ok (.ireturn, 1) := by decide +kernel
theorem dX8_town_39 : decode cX8_town 39 = .ok (.aload_n 0, 1) := by decide +kernel
theorem dX8_town_40 : decode cX8_town 40 = .ok (.getfield 19, 3) := by decide +kernel
theorem dX8_town_43 : decode cX8_town 43 = .ok (.astore_n 1, 1) := by decide +kernel
theorem dX8_town_44 : decode cX8_town 44 = .ok (.aload_n 0, 1) := by decide +kernel
theorem dX8_town_45 : decode cX8_town 45 = .ok (.aload_n 0, 1) := by decide +kernel
theorem dX8_town_46 : decode cX8_town 46 = .ok (.getfield 23, 3) := by decide +kernel
theorem dX8_town_49 : decode cX8_town 49 = .ok (.putfield 19, 3) := by decide +kernel
theorem dX8_town_52 : decode cX8_town 52 = .ok (.aload_n 0, 1) := by decide +kernel
theorem dX8_town_53 : decode cX8_town 53 = .ok (.aload_n 1, 1) := by decide +kernel
theorem dX8_town_54 : decode cX8_town 54 = .ok (.putfield 23, 3) := by decide +kernel
theorem dX8_town_57 : decode cX8_town 57 = .ok (.aload_n 0, 1) := by decide +kernel
theorem dX8_town_58 : decode cX8_town 58 = .ok (.getfield 29, 3) := by decide +kernel
theorem dX8_town_61 : decode cX8_town 61 = .ok (.aload_n 0, 1) := by decide +kernel
theorem dX8_town_62 : decode cX8_town 62 = .ok (.getfield 19, 3) := by decide +kernel
theorem dX8_town_65 : decode cX8_town 65 = .ok (.invokevirtual 102, 3) := by decide +kernel
theorem dX8_town_68 : decode cX8_town 68 = .ok (.aload_n 0, 1) := by decide +kernel
theorem dX8_town_69 : decode cX8_town 69 = .ok (.getfield 39, 3) := by decide +kernel
theorem dX8_town_72 : decode cX8_town 72 = .ok (.invokevirtual 105, 3) := by decide +kernel
theorem dX8_town_75 : decode cX8_town 75 = .ok (.aload_n 0, 1) := by decide +kernel
theorem dX8_town_76 : decode cX8_town 76 = .ok (.getfield 59, 3) := by decide +kernel
theorem dX8_town_79 : decode cX8_town 79 = .ok (.invokevirtual 108, 3) := by decide +kernel
theorem dX8_town_82 : decode cX8_town 82 = .ok (.aload_n 0, 1) := by decide +kernel
theorem dX8_town_83 : decode cX8_town 83 = .ok (.getfield 66, 3) := by decide +kernel
theorem dX8_town_86 : decode cX8_town 86 = .ok (.invokevirtual 111, 3) := by decide +kernel
theorem dX8_town_89 : decode cX8_town 89 = .ok (.iconst 0, 1) := by decide +kernel
theorem dX8_town_90 : decode cX8_town 90 = .ok (.istore_n 2, 1) := by decide +kernel
theorem dX8_town_91 : decode cX8_town 91 = .ok (.iload_n 2, 1) := by decide +kernel
theorem dX8_town_92 : decode cX8_town 92 = .ok (.iconst 2, 1) := by decide +kernel
theorem dX8_town_93 : decode cX8_town 93 = .ok (.if_icmp .ge 19, 3) := by decide +kernel
theorem dX8_town_96 : decode cX8_town 96 = .ok (.aload_n 0, 1) := by decide +kernel
theorem dX8_town_97 : decode cX8_town 97 = .ok (.getfield 45, 3) := by decide +kernel
theorem dX8_town_100 : decode cX8_town 100 = .ok (.iload_n 2, 1) := by decide +kernel
theorem dX8_town_101 : decode cX8_town 101 = .ok (.aaload, 1) := by decide +kernel
theorem dX8_town_102 : decode cX8_town 102 = .ok (.iconst 0, 1) := by decide +kernel
theorem dX8_town_103 : decode cX8_town 103 = .ok (.putfield 112, 3) := by decide +kernel
theorem dX8_town_106 : decode cX8_town 106 = .ok (.iinc 2 1, 3) := by decide +kernel
theorem dX8_town_109 : decode cX8_town 109 = .ok (.goto (-18), 3) := by decide +kernel
theorem dX8_town_112 : decode cX8_town 112 = .ok (.aload_n 0, 1) := by decide +kernel
theorem dX8_town_113 : decode cX8_town 113 = .ok (.getfield 19, 3) := by decide +kernel
theorem dX8_town_116 : decode cX8_town 116 = .ok (.getfield 116, 3) := by decide +kernel
theorem dX8_town_119 : decode cX8_town 119 = .ok (.ireturn, 1) := by decide +kernel
theorem dX8_fault_0 : decode cX8_fault 0 = .ok (.aload_n 0, 1) := by decide +kernel
theorem dX8_fault_1 : decode cX8_fault 1 = .ok (.getfield 10, 3) := by decide +kernel
theorem dX8_fault_4 : decode cX8_fault 4 = .ok (.getfield 119, 3) := by decide +kernel
theorem dX8_fault_7 : decode cX8_fault 7 = .ok (.ireturn, 1) := by decide +kernel
theorem dX8_told_0 : decode cX8_told 0 = .ok (.iload_n 1, 1) := by decide +kernel
theorem dX8_told_1 : decode cX8_told 1 = .ok (.tableswitch 201 0 15 #[79, 87, 95, 103, 111, 119, 127, 135, 140, 148, 156, 164, 172, 177, 185, 193], 79) := by decide +kernel
theorem dX8_told_80 : decode cX8_told 80 = .ok (.aload_n 0, 1) := by decide +kernel
theorem dX8_told_81 : decode cX8_told 81 = .ok (.getfield 19, 3) := by decide +kernel
theorem dX8_told_84 : decode cX8_told 84 = .ok (.getfield 122, 3) := by decide +kernel
theorem dX8_told_87 : decode cX8_told 87 = .ok (.ireturn, 1) := by decide +kernel
theorem dX8_told_88 : decode cX8_told 88 = .ok (.aload_n 0, 1) := by decide +kernel
theorem dX8_told_89 : decode cX8_told 89 = .ok (.getfield 19, 3) := by decide +kernel
theorem dX8_told_92 : decode cX8_told 92 = .ok (.getfield 116, 3) := by decide +kernel
theorem dX8_told_95 : decode cX8_told 95 = .ok (.ireturn, 1) := by decide +kernel
theorem dX8_told_96 : decode cX8_told 96 = .ok (.aload_n 0, 1) := by decide +kernel
theorem dX8_told_97 : decode cX8_told 97 = .ok (.getfield 19, 3) := by decide +kernel
theorem dX8_told_100 : decode cX8_told 100 = .ok (.getfield 125, 3) := by decide +kernel
theorem dX8_told_103 : decode cX8_told 103 = .ok (.ireturn, 1) := by decide +kernel
theorem dX8_told_104 : decode cX8_told 104 = .ok (.aload_n 0, 1) := by decide +kernel
theorem dX8_told_105 : decode cX8_told 105 = .ok (.getfield 19, 3) := by decide +kernel
theorem dX8_told_108 : decode cX8_told 108 = .ok (.getfield 128, 3) := by decide +kernel
theorem dX8_told_111 : decode cX8_told 111 = .ok (.ireturn, 1) := by decide +kernel
theorem dX8_told_112 : decode cX8_told 112 = .ok (.aload_n 0, 1) := by decide +kernel
theorem dX8_told_113 : decode cX8_told 113 = .ok (.getfield 19, 3) := by decide +kernel
theorem dX8_told_116 : decode cX8_told 116 = .ok (.getfield 131, 3) := by decide +kernel
theorem dX8_told_119 : decode cX8_told 119 = .ok (.ireturn, 1) := by decide +kernel
theorem dX8_told_120 : decode cX8_told 120 = .ok (.aload_n 0, 1) := by decide +kernel
theorem dX8_told_121 : decode cX8_told 121 = .ok (.getfield 10, 3) := by decide +kernel
theorem dX8_told_124 : decode cX8_told 124 = .ok (.getfield 88, 3) := by decide +kernel
theorem dX8_told_127 : decode cX8_told 127 = .ok (.ireturn, 1) := by decide +kernel
theorem dX8_told_128 : decode cX8_told 128 = .ok (.aload_n 0, 1) := by decide +kernel
theorem dX8_told_129 : decode cX8_told 129 = .ok (.getfield 29, 3) := by decide +kernel
theorem dX8_told_132 : decode cX8_told 132 = .ok (.getfield 134, 3) := by decide +kernel
theorem dX8_told_135 : decode cX8_told 135 = .ok (.ireturn, 1) := by decide +kernel
theorem dX8_told_136 : decode cX8_told 136 = .ok (.aload_n 0, 1) := by decide +kernel
theorem dX8_told_137 : decode cX8_told 137 = .ok (.invokevirtual 135, 3) := by decide +kernel
theorem dX8_told_140 : decode cX8_told 140 = .ok (.ireturn, 1) := by decide +kernel
theorem dX8_told_141 : decode cX8_told 141 = .ok (.aload_n 0, 1) := by decide +kernel
theorem dX8_told_142 : decode cX8_told 142 = .ok (.getfield 29, 3) := by decide +kernel
theorem dX8_told_145 : decode cX8_told 145 = .ok (.getfield 139, 3) := by decide +kernel
theorem dX8_told_148 : decode cX8_told 148 = .ok (.ireturn, 1) := by decide +kernel
theorem dX8_told_149 : decode cX8_told 149 = .ok (.aload_n 0, 1) := by decide +kernel
theorem dX8_told_150 : decode cX8_told 150 = .ok (.getfield 29, 3) := by decide +kernel
theorem dX8_told_153 : decode cX8_told 153 = .ok (.getfield 142, 3) := by decide +kernel
theorem dX8_told_156 : decode cX8_told 156 = .ok (.ireturn, 1) := by decide +kernel
theorem dX8_told_157 : decode cX8_told 157 = .ok (.aload_n 0, 1) := by decide +kernel
theorem dX8_told_158 : decode cX8_told 158 = .ok (.getfield 29, 3) := by decide +kernel
theorem dX8_told_161 : decode cX8_told 161 = .ok (.getfield 145, 3) := by decide +kernel
theorem dX8_told_164 : decode cX8_told 164 = .ok (.ireturn, 1) := by decide +kernel
theorem dX8_told_165 : decode cX8_told 165 = .ok (.aload_n 0, 1) := by decide +kernel
theorem dX8_told_166 : decode cX8_told 166 = .ok (.getfield 29, 3) := by decide +kernel
theorem dX8_told_169 : decode cX8_told 169 = .ok (.getfield 148, 3) := by decide +kernel
theorem dX8_told_172 : decode cX8_told 172 = .ok (.ireturn, 1) := by decide +kernel
theorem dX8_told_173 : decode cX8_told 173 = .ok (.aload_n 0, 1) := by decide +kernel
theorem dX8_told_174 : decode cX8_told 174 = .ok (.invokevirtual 151, 3) := by decide +kernel
theorem dX8_told_177 : decode cX8_told 177 = .ok (.ireturn, 1) := by decide +kernel
theorem dX8_told_178 : decode cX8_told 178 = .ok (.aload_n 0, 1) := by decide +kernel
theorem dX8_told_179 : decode cX8_told 179 = .ok (.getfield 59, 3) := by decide +kernel
theorem dX8_told_182 : decode cX8_told 182 = .ok (.getfield 154, 3) := by decide +kernel
theorem dX8_told_185 : decode cX8_told 185 = .ok (.ireturn, 1) := by decide +kernel
theorem dX8_told_186 : decode cX8_told 186 = .ok (.aload_n 0, 1) := by decide +kernel
theorem dX8_told_187 : decode cX8_told 187 = .ok (.getfield 66, 3) := by decide +kernel
theorem dX8_told_190 : decode cX8_told 190 = .ok (.getfield 157, 3) := by decide +kernel
theorem dX8_told_193 : decode cX8_told 193 = .ok (.ireturn, 1) := by decide +kernel
theorem dX8_told_194 : decode cX8_told 194 = .ok (.aload_n 0, 1) := by decide +kernel
theorem dX8_told_195 : decode cX8_told 195 = .ok (.getfield 39, 3) := by decide +kernel
theorem dX8_told_198 : decode cX8_told 198 = .ok (.getfield 158, 3) := by decide +kernel
theorem dX8_told_201 : decode cX8_told 201 = .ok (.ireturn, 1) := by decide +kernel
theorem dX8_told_202 : decode cX8_told 202 = .ok (.ldc 78, 2) := by decide +kernel
theorem dX8_told_204 : decode cX8_told 204 = .ok (.ireturn, 1) := by decide +kernel
theorem dX8_word_0 : decode cX8_word 0 = .ok (.aload_n 0, 1) := by decide +kernel
theorem dX8_word_1 : decode cX8_word 1 = .ok (.iload_n 1, 1) := by decide +kernel
theorem dX8_word_2 : decode cX8_word 2 = .ok (.invokevirtual 159, 3) := by decide +kernel
theorem dX8_word_5 : decode cX8_word 5 = .ok (.ifCond .ne 6, 3) := by decide +kernel
theorem dX8_word_8 : decode cX8_word 8 = .ok (.ldc 163, 2) := by decide +kernel
theorem dX8_word_10 : decode cX8_word 10 = .ok (.ireturn, 1) := by decide +kernel
theorem dX8_word_11 : decode cX8_word 11 = .ok (.iload_n 2, 1) := by decide +kernel
theorem dX8_word_12 : decode cX8_word 12 = .ok (.tableswitch 148 0 8 #[52, 62, 72, 82, 92, 101, 111, 121, 131], 52) := by decide +kernel
theorem dX8_word_64 : decode cX8_word 64 = .ok (.aload_n 0, 1) := by decide +kernel
theorem dX8_word_65 : decode cX8_word 65 = .ok (.getfield 29, 3) := by decide +kernel
theorem dX8_word_68 : decode cX8_word 68 = .ok (.getfield 164, 3) := by decide +kernel
theorem dX8_word_71 : decode cX8_word 71 = .ok (.iload_n 1, 1) := by decide +kernel
theorem dX8_word_72 : decode cX8_word 72 = .ok (.iaload, 1) := by decide +kernel
theorem dX8_word_73 : decode cX8_word 73 = .ok (.ireturn, 1) := by decide +kernel
theorem dX8_word_74 : decode cX8_word 74 = .ok (.aload_n 0, 1) := by decide +kernel
theorem dX8_word_75 : decode cX8_word 75 = .ok (.getfield 19, 3) := by decide +kernel
theorem dX8_word_78 : decode cX8_word 78 = .ok (.getfield 167, 3) := by decide +kernel
theorem dX8_word_81 : decode cX8_word 81 = .ok (.iload_n 1, 1) := by decide +kernel
theorem dX8_word_82 : decode cX8_word 82 = .ok (.iaload, 1) := by decide +kernel
theorem dX8_word_83 : decode cX8_word 83 = .ok (.ireturn, 1) := by decide +kernel
theorem dX8_word_84 : decode cX8_word 84 = .ok (.aload_n 0, 1) := by decide +kernel
theorem dX8_word_85 : decode cX8_word 85 = .ok (.getfield 19, 3) := by decide +kernel
theorem dX8_word_88 : decode cX8_word 88 = .ok (.getfield 170, 3) := by decide +kernel
theorem dX8_word_91 : decode cX8_word 91 = .ok (.iload_n 1, 1) := by decide +kernel
theorem dX8_word_92 : decode cX8_word 92 = .ok (.iaload, 1) := by decide +kernel
theorem dX8_word_93 : decode cX8_word 93 = .ok (.ireturn, 1) := by decide +kernel
theorem dX8_word_94 : decode cX8_word 94 = .ok (.aload_n 0, 1) := by decide +kernel
theorem dX8_word_95 : decode cX8_word 95 = .ok (.getfield 29, 3) := by decide +kernel
theorem dX8_word_98 : decode cX8_word 98 = .ok (.getfield 173, 3) := by decide +kernel
theorem dX8_word_101 : decode cX8_word 101 = .ok (.iload_n 1, 1) := by decide +kernel
theorem dX8_word_102 : decode cX8_word 102 = .ok (.iaload, 1) := by decide +kernel
theorem dX8_word_103 : decode cX8_word 103 = .ok (.ireturn, 1) := by decide +kernel
theorem dX8_word_104 : decode cX8_word 104 = .ok (.aload_n 0, 1) := by decide +kernel
theorem dX8_word_105 : decode cX8_word 105 = .ok (.getfield 29, 3) := by decide +kernel
theorem dX8_word_108 : decode cX8_word 108 = .ok (.iload_n 1, 1) := by decide +kernel
theorem dX8_word_109 : decode cX8_word 109 = .ok (.invokevirtual 176, 3) := by decide +kernel
theorem dX8_word_112 : decode cX8_word 112 = .ok (.ireturn, 1) := by decide +kernel
theorem dX8_word_113 : decode cX8_word 113 = .ok (.aload_n 0, 1) := by decide +kernel
theorem dX8_word_114 : decode cX8_word 114 = .ok (.getfield 29, 3) := by decide +kernel
theorem dX8_word_117 : decode cX8_word 117 = .ok (.getfield 180, 3) := by decide +kernel
theorem dX8_word_120 : decode cX8_word 120 = .ok (.iload_n 1, 1) := by decide +kernel
theorem dX8_word_121 : decode cX8_word 121 = .ok (.iaload, 1) := by decide +kernel
theorem dX8_word_122 : decode cX8_word 122 = .ok (.ireturn, 1) := by decide +kernel
theorem dX8_word_123 : decode cX8_word 123 = .ok (.aload_n 0, 1) := by decide +kernel
theorem dX8_word_124 : decode cX8_word 124 = .ok (.getfield 19, 3) := by decide +kernel
theorem dX8_word_127 : decode cX8_word 127 = .ok (.iload_n 1, 1) := by decide +kernel
theorem dX8_word_128 : decode cX8_word 128 = .ok (.iconst 0, 1) := by decide +kernel
theorem dX8_word_129 : decode cX8_word 129 = .ok (.invokevirtual 183, 3) := by decide +kernel
theorem dX8_word_132 : decode cX8_word 132 = .ok (.ireturn, 1) := by decide +kernel
theorem dX8_word_133 : decode cX8_word 133 = .ok (.aload_n 0, 1) := by decide +kernel
theorem dX8_word_134 : decode cX8_word 134 = .ok (.getfield 19, 3) := by decide +kernel
theorem dX8_word_137 : decode cX8_word 137 = .ok (.iload_n 1, 1) := by decide +kernel
theorem dX8_word_138 : decode cX8_word 138 = .ok (.iconst 1, 1) := by decide +kernel
theorem dX8_word_139 : decode cX8_word 139 = .ok (.invokevirtual 183, 3) := by decide +kernel
theorem dX8_word_142 : decode cX8_word 142 = .ok (.ireturn, 1) := by decide +kernel
theorem dX8_word_143 : decode cX8_word 143 = .ok (.aload_n 0, 1) := by decide +kernel
theorem dX8_word_144 : decode cX8_word 144 = .ok (.getfield 19, 3) := by decide +kernel
theorem dX8_word_147 : decode cX8_word 147 = .ok (.iload_n 1, 1) := by decide +kernel
theorem dX8_word_148 : decode cX8_word 148 = .ok (.invokevirtual 187, 3) := by decide +kernel
theorem dX8_word_151 : decode cX8_word 151 = .ok (.ifCond .eq 7, 3) := by decide +kernel
theorem dX8_word_154 : decode cX8_word 154 = .ok (.iconst 1, 1) := by decide +kernel
theorem dX8_word_155 : decode cX8_word 155 = .ok (.goto 4, 3) := by decide +kernel
theorem dX8_word_158 : decode cX8_word 158 = .ok (.iconst 0, 1) := by decide +kernel
theorem dX8_word_159 : decode cX8_word 159 = .ok (.ireturn, 1) := by decide +kernel
theorem dX8_word_160 : decode cX8_word 160 = .ok (.ldc 78, 2) := by decide +kernel
theorem dX8_word_162 : decode cX8_word 162 = .ok (.ireturn, 1) := by decide +kernel
theorem dX8_hoarded_0 : decode cX8_hoarded 0 = .ok (.aload_n 0, 1) := by decide +kernel
