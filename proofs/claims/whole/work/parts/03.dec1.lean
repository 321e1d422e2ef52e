theorem dX0_init_0 : decode cX0_init 0 = .ok (.aload_n 0, 1) := by decide +kernel
theorem dX0_init_1 : decode cX0_init 1 = .ok (.invokespecial 3, 3) := by decide +kernel
theorem dX0_init_4 : decode cX0_init 4 = .ok (.aload_n 0, 1) := by decide +kernel
theorem dX0_init_5 : decode cX0_init 5 = .ok (.bipush 12, 2) := by decide +kernel
theorem dX0_init_7 : decode cX0_init 7 = .ok (.newarray .int, 2) := by decide +kernel
theorem dX0_init_9 : decode cX0_init 9 = .ok (.putfield 9, 3) := by decide +kernel
theorem dX0_init_12 : decode cX0_init 12 = .ok (.aload_n 0, 1) := by decide +kernel
theorem dX0_init_13 : decode cX0_init 13 = .ok (.bipush 36, 2) := by decide +kernel
theorem dX0_init_15 : decode cX0_init 15 = .ok (.newarray .int, 2) := by decide +kernel
theorem dX0_init_17 : decode cX0_init 17 = .ok (.putfield 15, 3) := by decide +kernel
theorem dX0_init_20 : decode cX0_init 20 = .ok (.aload_n 0, 1) := by decide +kernel
theorem dX0_init_21 : decode cX0_init 21 = .ok (.bipush 12, 2) := by decide +kernel
theorem dX0_init_23 : decode cX0_init 23 = .ok (.newarray .int, 2) := by decide +kernel
theorem dX0_init_25 : decode cX0_init 25 = .ok (.putfield 18, 3) := by decide +kernel
theorem dX0_init_28 : decode cX0_init 28 = .ok (.aload_n 0, 1) := by decide +kernel
theorem dX0_init_29 : decode cX0_init 29 = .ok (.bipush 12, 2) := by decide +kernel
theorem dX0_init_31 : decode cX0_init 31 = .ok (.newarray .int, 2) := by decide +kernel
theorem dX0_init_33 : decode cX0_init 33 = .ok (.putfield 21, 3) := by decide +kernel
theorem dX0_init_36 : decode cX0_init 36 = .ok (.aload_n 0, 1) := by decide +kernel
theorem dX0_init_37 : decode cX0_init 37 = .ok (.bipush 12, 2) := by decide +kernel
theorem dX0_init_39 : decode cX0_init 39 = .ok (.newarray .int, 2) := by decide +kernel
theorem dX0_init_41 : decode cX0_init 41 = .ok (.putfield 24, 3) := by decide +kernel
theorem dX0_init_44 : decode cX0_init 44 = .ok (.aload_n 0, 1) := by decide +kernel
theorem dX0_init_45 : decode cX0_init 45 = .ok (.bipush 12, 2) := by decide +kernel
theorem dX0_init_47 : decode cX0_init 47 = .ok (.newarray .int, 2) := by decide +kernel
theorem dX0_init_49 : decode cX0_init 49 = .ok (.putfield 27, 3) := by decide +kernel
theorem dX0_init_52 : decode cX0_init 52 = .ok (.aload_n 0, 1) := by decide +kernel
theorem dX0_init_53 : decode cX0_init 53 = .ok (.bipush 12, 2) := by decide +kernel
theorem dX0_init_55 : decode cX0_init 55 = .ok (.newarray .int, 2) := by decide +kernel
theorem dX0_init_57 : decode cX0_init 57 = .ok (.putfield 30, 3) := by decide +kernel
theorem dX0_init_60 : decode cX0_init 60 = .ok (.aload_n 0, 1) := by decide +kernel
theorem dX0_init_61 : decode cX0_init 61 = .ok (.bipush 12, 2) := by decide +kernel
theorem dX0_init_63 : decode cX0_init 63 = .ok (.newarray .int, 2) := by decide +kernel
theorem dX0_init_65 : decode cX0_init 65 = .ok (.putfield 33, 3) := by decide +kernel
theorem dX0_init_68 : decode cX0_init 68 = .ok (.aload_n 0, 1) := by decide +kernel
theorem dX0_init_69 : decode cX0_init 69 = .ok (.bipush 12, 2) := by decide +kernel
theorem dX0_init_71 : decode cX0_init 71 = .ok (.newarray .int, 2) := by decide +kernel
theorem dX0_init_73 : decode cX0_init 73 = .ok (.putfield 36, 3) := by decide +kernel
theorem dX0_init_76 : decode cX0_init 76 = .ok (.return_, 1) := by decide +kernel
theorem dX0_has_0 : decode cX0_has 0 = .ok (.iload_n 1, 1) := by decide +kernel
theorem dX0_has_1 : decode cX0_has 1 = .ok (.iconst 0, 1) := by decide +kernel
theorem dX0_has_2 : decode cX0_has 2 = .ok (.aload_n 0, 1) := by decide +kernel
theorem dX0_has_3 : decode cX0_has 3 = .ok (.getfield 39, 3) := by decide +kernel
theorem dX0_has_6 : decode cX0_has 6 = .ok (.iconst 1, 1) := by decide +kernel
theorem dX0_has_7 : decode cX0_has 7 = .ok (.isub, 1) := by decide +kernel
theorem dX0_has_8 : decode cX0_has 8 = .ok (.invokestatic 43, 3) := by decide +kernel
theorem dX0_has_11 : decode cX0_has 11 = .ok (.ireturn, 1) := by decide +kernel
theorem dX0_add_0 : decode cX0_add 0 = .ok (.aload_n 0, 1) := by decide +kernel
theorem dX0_add_1 : decode cX0_add 1 = .ok (.getfield 39, 3) := by decide +kernel
theorem dX0_add_4 : decode cX0_add 4 = .ok (.istore 4, 2) := by decide +kernel
theorem dX0_add_6 : decode cX0_add 6 = .ok (.aload_n 0, 1) := by decide +kernel
theorem dX0_add_7 : decode cX0_add 7 = .ok (.getfield 9, 3) := by decide +kernel
theorem dX0_add_10 : decode cX0_add 10 = .ok (.iload 4, 2) := by decide +kernel
theorem dX0_add_12 : decode cX0_add 12 = .ok (.iload_n 1, 1) := by decide +kernel
theorem dX0_add_13 : decode cX0_add 13 = .ok (.iastore, 1) := by decide +kernel
theorem dX0_add_14 : decode cX0_add 14 = .ok (.aload_n 0, 1) := by decide +kernel
theorem dX0_add_15 : decode cX0_add 15 = .ok (.getfield 21, 3) := by decide +kernel
theorem dX0_add_18 : decode cX0_add 18 = .ok (.iload 4, 2) := by decide +kernel
theorem dX0_add_20 : decode cX0_add 20 = .ok (.iload_n 2, 1) := by decide +kernel
theorem dX0_add_21 : decode cX0_add 21 = .ok (.iastore, 1) := by decide +kernel
theorem dX0_add_22 : decode cX0_add 22 = .ok (.aload_n 0, 1) := by decide +kernel
theorem dX0_add_23 : decode cX0_add 23 = .ok (.getfield 24, 3) := by decide +kernel
theorem dX0_add_26 : decode cX0_add 26 = .ok (.iload 4, 2) := by decide +kernel
theorem dX0_add_28 : decode cX0_add 28 = .ok (.iload_n 3, 1) := by decide +kernel
theorem dX0_add_29 : decode cX0_add 29 = .ok (.iastore, 1) := by decide +kernel
theorem dX0_add_30 : decode cX0_add 30 = .ok (.aload_n 0, 1) := by decide +kernel
theorem dX0_add_31 : decode cX0_add 31 = .ok (.getfield 33, 3) := by decide +kernel
theorem dX0_add_34 : decode cX0_add 34 = .ok (.iload 4, 2) := by decide +kernel
theorem dX0_add_36 : decode cX0_add 36 = .ok (.iconst (-1), 1) := by decide +kernel
theorem dX0_add_37 : decode cX0_add 37 = .ok (.iastore, 1) := by decide +kernel
theorem dX0_add_38 : decode cX0_add 38 = .ok (.aload_n 0, 1) := by decide +kernel
theorem dX0_add_39 : decode cX0_add 39 = .ok (.getfield 36, 3) := by decide +kernel
theorem dX0_add_42 : decode cX0_add 42 = .ok (.iload 4, 2) := by decide +kernel
theorem dX0_add_44 : decode cX0_add 44 = .ok (.iconst (-1), 1) := by decide +kernel
theorem dX0_add_45 : decode cX0_add 45 = .ok (.iastore, 1) := by decide +kernel
theorem dX0_add_46 : decode cX0_add 46 = .ok (.aload_n 0, 1) := by decide +kernel
theorem dX0_add_47 : decode cX0_add 47 = .ok (.dup, 1) := by decide +kernel
theorem dX0_add_48 : decode cX0_add 48 = .ok (.getfield 39, 3) := by decide +kernel
theorem dX0_add_51 : decode cX0_add 51 = .ok (.iconst 1, 1) := by decide +kernel
theorem dX0_add_52 : decode cX0_add 52 = .ok (.iadd, 1) := by decide +kernel
theorem dX0_add_53 : decode cX0_add 53 = .ok (.putfield 39, 3) := by decide +kernel
theorem dX0_add_56 : decode cX0_add 56 = .ok (.iload 4, 2) := by decide +kernel
theorem dX0_add_58 : decode cX0_add 58 = .ok (.ireturn, 1) := by decide +kernel
theorem dX0_setMeasured_0 : decode cX0_setMeasured 0 = .ok (.iconst 0, 1) := by decide +kernel
theorem dX0_setMeasured_1 : decode cX0_setMeasured 1 = .ok (.istore 4, 2) := by decide +kernel
theorem dX0_setMeasured_3 : decode cX0_setMeasured 3 = .ok (.iload 4, 2) := by decide +kernel
theorem dX0_setMeasured_5 : decode cX0_setMeasured 5 = .ok (.iconst 3, 1) := by decide +kernel
theorem dX0_setMeasured_6 : decode cX0_setMeasured 6 = .ok (.if_icmp .ge 26, 3) := by decide +kernel
theorem dX0_setMeasured_9 : decode cX0_setMeasured 9 = .ok (.aload_n 0, 1) := by decide +kernel
theorem dX0_setMeasured_10 : decode cX0_setMeasured 10 = .ok (.getfield 15, 3) := by decide +kernel
theorem dX0_setMeasured_13 : decode cX0_setMeasured 13 = .ok (.iload_n 1, 1) := by decide +kernel
theorem dX0_setMeasured_14 : decode cX0_setMeasured 14 = .ok (.iconst 3, 1) := by decide +kernel
theorem dX0_setMeasured_15 : decode cX0_setMeasured 15 = .ok (.imul, 1) := by decide +kernel
theorem dX0_setMeasured_16 : decode cX0_setMeasured 16 = .ok (.iload 4, 2) := by decide +kernel
theorem dX0_setMeasured_18 : decode cX0_setMeasured 18 = .ok (.iadd, 1) := by decide +kernel
theorem dX0_setMeasured_19 : decode cX0_setMeasured 19 = .ok (.iload_n 2, 1) := by decide +kernel
theorem dX0_setMeasured_20 : decode cX0_setMeasured 20 = .ok (.iload 4, 2) := by decide +kernel
theorem dX0_setMeasured_22 : decode cX0_setMeasured 22 = .ok (.invokestatic 47, 3) := by decide +kernel
theorem dX0_setMeasured_25 : decode cX0_setMeasured 25 = .ok (.iastore, 1) := by decide +kernel
theorem dX0_setMeasured_26 : decode cX0_setMeasured 26 = .ok (.iinc 4 1, 3) := by decide +kernel
theorem dX0_setMeasured_29 : decode cX0_setMeasured 29 = .ok (.goto (-26), 3) := by decide +kernel
theorem dX0_setMeasured_32 : decode cX0_setMeasured 32 = .ok (.aload_n 0, 1) := by decide +kernel
theorem dX0_setMeasured_33 : decode cX0_setMeasured 33 = .ok (.getfield 18, 3) := by decide +kernel
theorem dX0_setMeasured_36 : decode cX0_setMeasured 36 = .ok (.iload_n 1, 1) := by decide +kernel
theorem dX0_setMeasured_37 : decode cX0_setMeasured 37 = .ok (.iload_n 3, 1) := by decide +kernel
theorem dX0_setMeasured_38 : decode cX0_setMeasured 38 = .ok (.iastore, 1) := by decide +kernel
theorem dX0_setMeasured_39 : decode cX0_setMeasured 39 = .ok (.return_, 1) := by decide +kernel
theorem dX0_isReused_0 : decode cX0_isReused 0 = .ok (.aload_n 0, 1) := by decide +kernel
theorem dX0_isReused_1 : decode cX0_isReused 1 = .ok (.getfield 30, 3) := by decide +kernel
theorem dX0_isReused_4 : decode cX0_isReused 4 = .ok (.iload_n 1, 1) := by decide +kernel
theorem dX0_isReused_5 : decode cX0_isReused 5 = .ok (.iaload, 1) := by decide +kernel
theorem dX0_isReused_6 : decode cX0_isReused 6 = .ok (.ifCond .le 7, 3) := by decide +kernel
theorem dX0_isReused_9 : decode cX0_isReused 9 = .ok (.iconst 1, 1) := by decide +kernel
theorem dX0_isReused_10 : decode cX0_isReused 10 = .ok (.goto 4, 3) := by decide +kernel
theorem dX0_isReused_13 : decode cX0_isReused 13 = .ok (.iconst 0, 1) := by decide +kernel
theorem dX0_isReused_14 : decode cX0_isReused 14 = .ok (.ireturn, 1) := by decide +kernel
theorem dX0_comesFrom_0 : decode cX0_comesFrom 0 = .ok (.aload_n 0, 1) := by decide +kernel
theorem dX0_comesFrom_1 : decode cX0_comesFrom 1 = .ok (.getfield 33, 3) := by decide +kernel
theorem dX0_comesFrom_4 : decode cX0_comesFrom 4 = .ok (.iload_n 1, 1) := by decide +kernel
theorem dX0_comesFrom_5 : decode cX0_comesFrom 5 = .ok (.iaload, 1) := by decide +kernel
theorem dX0_comesFrom_6 : decode cX0_comesFrom 6 = .ok (.istore_n 3, 1) := by decide +kernel
theorem dX0_comesFrom_7 : decode cX0_comesFrom 7 = .ok (.iconst 0, 1) := by decide +kernel
theorem dX0_comesFrom_8 : decode cX0_comesFrom 8 = .ok (.istore 4, 2) := by decide +kernel
theorem dX0_comesFrom_10 : decode cX0_comesFrom 10 = .ok (.iload_n 3, 1) := by decide +kernel
theorem dX0_comesFrom_11 : decode cX0_comesFrom 11 = .ok (.iconst (-1), 1) := by decide +kernel
theorem dX0_comesFrom_12 : decode cX0_comesFrom 12 = .ok (.if_icmp .eq 28, 3) := by decide +kernel
theorem dX0_comesFrom_15 : decode cX0_comesFrom 15 = .ok (.iload_n 3, 1) := by decide +kernel
theorem dX0_comesFrom_16 : decode cX0_comesFrom 16 = .ok (.iload_n 2, 1) := by decide +kernel
theorem dX0_comesFrom_17 : decode cX0_comesFrom 17 = .ok (.if_icmp .eq 23, 3) := by decide +kernel
theorem dX0_comesFrom_20 : decode cX0_comesFrom 20 = .ok (.iload 4, 2) := by decide +kernel
theorem dX0_comesFrom_22 : decode cX0_comesFrom 22 = .ok (.bipush 12, 2) := by decide +kernel
theorem dX0_comesFrom_24 : decode cX0_comesFrom 24 = .ok (.if_icmp .ge 16, 3) := by decide +kernel
theorem dX0_comesFrom_27 : decode cX0_comesFrom 27 = .ok (.aload_n 0, 1) := by decide +kernel
theorem dX0_comesFrom_28 : decode cX0_comesFrom 28 = .ok (.getfield 33, 3) := by decide +kernel
theorem dX0_comesFrom_31 : decode cX0_comesFrom 31 = .ok (.iload_n 3, 1) := by decide +kernel
theorem dX0_comesFrom_32 : decode cX0_comesFrom 32 = .ok (.iaload, 1) := by decide +kernel
theorem dX0_comesFrom_33 : decode cX0_comesFrom 33 = .ok (.istore_n 3, 1) := by decide +kernel
theorem dX0_comesFrom_34 : decode cX0_comesFrom 34 = .ok (.iinc 4 1, 3) := by decide +kernel
theorem dX0_comesFrom_37 : decode cX0_comesFrom 37 = .ok (.goto (-27), 3) := by decide +kernel
theorem dX0_comesFrom_40 : decode cX0_comesFrom 40 = .ok (.iload_n 3, 1) := by decide +kernel
theorem dX0_comesFrom_41 : decode cX0_comesFrom 41 = .ok (.iload_n 2, 1) := by decide +kernel
theorem dX0_comesFrom_42 : decode cX0_comesFrom 42 = .ok (.if_icmp .ne 7, 3) := by decide +kernel
theorem dX0_comesFrom_45 : decode cX0_comesFrom 45 = .ok (.iconst 1, 1) := by decide +kernel
theorem dX0_comesFrom_46 : decode cX0_comesFrom 46 = .ok (.goto 4, 3) := by decide +kernel
theorem dX0_comesFrom_49 : decode cX0_comesFrom 49 = .ok (.iconst 0, 1) := by decide +kernel
theorem dX0_comesFrom_50 : decode cX0_comesFrom 50 = .ok (.ireturn, 1) := by decide +kernel
theorem dX0_strikes_0 : decode cX0_strikes 0 = .ok (.iconst 0, 1) := by decide +kernel
theorem dX0_strikes_1 : decode cX0_strikes 1 = .ok (.istore_n 1, 1) := by decide +kernel
theorem dX0_strikes_2 : decode cX0_strikes 2 = .ok (.iconst 0, 1) := by decide +kernel
theorem dX0_strikes_3 : decode cX0_strikes 3 = .ok (.istore_n 2, 1) := by decide +kernel
theorem dX0_strikes_4 : decode cX0_strikes 4 = .ok (.iload_n 2, 1) := by decide +kernel
theorem dX0_strikes_5 : decode cX0_strikes 5 = .ok (.aload_n 0, 1) := by decide +kernel
theorem dX0_strikes_6 : decode cX0_strikes 6 = .ok (.getfield 39, 3) := by decide +kernel
theorem dX0_strikes_9 : decode cX0_strikes 9 = .ok (.if_icmp .ge 27, 3) := by decide +kernel
theorem dX0_strikes_12 : decode cX0_strikes 12 = .ok (.iload_n 1, 1) := by decide +kernel
theorem dX0_strikes_13 : decode cX0_strikes 13 = .ok (.aload_n 0, 1) := by decide +kernel
theorem dX0_strikes_14 : decode cX0_strikes 14 = .ok (.getfield 33, 3) := by decide +kernel
theorem dX0_strikes_17 : decode cX0_strikes 17 = .ok (.iload_n 2, 1) := by decide +kernel
theorem dX0_strikes_18 : decode cX0_strikes 18 = .ok (.iaload, 1) := by decide +kernel
theorem dX0_strikes_19 : decode cX0_strikes 19 = .ok (.iconst (-1), 1) := by decide +kernel
theorem dX0_strikes_20 : decode cX0_strikes 20 = .ok (.if_icmp .eq 7, 3) := by decide +kernel
theorem dX0_strikes_23 : decode cX0_strikes 23 = .ok (.iconst 1, 1) := by decide +kernel
theorem dX0_strikes_24 : decode cX0_strikes 24 = .ok (.goto 4, 3) := by decide +kernel
theorem dX0_strikes_27 : decode cX0_strikes 27 = .ok (.iconst 0, 1) := by decide +kernel
theorem dX0_strikes_28 : decode cX0_strikes 28 = .ok (.iadd, 1) := by decide +kernel
theorem dX0_strikes_29 : decode cX0_strikes 29 = .ok (.istore_n 1, 1) := by decide +kernel
theorem dX0_strikes_30 : decode cX0_strikes 30 = .ok (.iinc 2 1, 3) := by decide +kernel
theorem dX0_strikes_33 : decode cX0_strikes 33 = .ok (.goto (-29), 3) := by decide +kernel
theorem dX0_strikes_36 : decode cX0_strikes 36 = .ok (.iload_n 1, 1) := by decide +kernel
theorem dX0_strikes_37 : decode cX0_strikes 37 = .ok (.ireturn, 1) := by decide +kernel
theorem dX1_init_0 : decode cX1_init 0 = .ok (.aload_n 0, 1) := by decide +kernel
theorem dX1_init_1 : decode cX1_init 1 = .ok (.invokespecial 3, 3) := by decide +kernel
theorem dX1_init_4 : decode cX1_init 4 = .ok (.aload_n 0, 1) := by decide +kernel
theorem dX1_init_5 : decode cX1_init 5 = .ok (.aload_n 1, 1) := by decide +kernel
theorem dX1_init_6 : decode cX1_init 6 = .ok (.putfield 9, 3) := by decide +kernel
theorem dX1_init_9 : decode cX1_init 9 = .ok (.return_, 1) := by decide +kernel
theorem dX1_warmthLearnt_0 : decode cX1_warmthLearnt 0 = .ok (.iconst 1, 1) := by decide +kernel
theorem dX1_warmthLearnt_1 : decode cX1_warmthLearnt 1 = .ok (.istore_n 3, 1) := by decide +kernel
theorem dX1_warmthLearnt_2 : decode cX1_warmthLearnt 2 = .ok (.sipush 999, 3) := by decide +kernel
theorem dX1_warmthLearnt_5 : decode cX1_warmthLearnt 5 = .ok (.istore 4, 2) := by decide +kernel
theorem dX1_warmthLearnt_7 : decode cX1_warmthLearnt 7 = .ok (.iconst 0, 1) := by decide +kernel
theorem dX1_warmthLearnt_8 : decode cX1_warmthLearnt 8 = .ok (.istore 5, 2) := by decide +kernel
theorem dX1_warmthLearnt_10 : decode cX1_warmthLearnt 10 = .ok (.iconst 0, 1) := by decide +kernel
theorem dX1_warmthLearnt_11 : decode cX1_warmthLearnt 11 = .ok (.istore 6, 2) := by decide +kernel
theorem dX1_warmthLearnt_13 : decode cX1_warmthLearnt 13 = .ok (.iload 6, 2) := by decide +kernel
theorem dX1_warmthLearnt_15 : decode cX1_warmthLearnt 15 = .ok (.aload_n 0, 1) := by decide +kernel
theorem dX1_warmthLearnt_16 : decode cX1_warmthLearnt 16 = .ok (.getfield 9, 3) := by decide +kernel
theorem dX1_warmthLearnt_19 : decode cX1_warmthLearnt 19 = .ok (.getfield 15, 3) := by decide +kernel
theorem dX1_warmthLearnt_22 : decode cX1_warmthLearnt 22 = .ok (.if_icmp .ge 111, 3) := by decide +kernel
theorem dX1_warmthLearnt_25 : decode cX1_warmthLearnt 25 = .ok (.aload_n 0, 1) := by decide +kernel
theorem dX1_warmthLearnt_26 : decode cX1_warmthLearnt 26 = .ok (.getfield 9, 3) := by decide +kernel
theorem dX1_warmthLearnt_29 : decode cX1_warmthLearnt 29 = .ok (.getfield 21, 3) := by decide +kernel
theorem dX1_warmthLearnt_32 : decode cX1_warmthLearnt 32 = .ok (.iload 6, 2) := by decide +kernel
theorem dX1_warmthLearnt_34 : decode cX1_warmthLearnt 34 = .ok (.iaload, 1) := by decide +kernel
theorem dX1_warmthLearnt_35 : decode cX1_warmthLearnt 35 = .ok (.iload_n 1, 1) := by decide +kernel
theorem dX1_warmthLearnt_36 : decode cX1_warmthLearnt 36 = .ok (.if_icmp .ne 91, 3) := by decide +kernel
theorem dX1_warmthLearnt_39 : decode cX1_warmthLearnt 39 = .ok (.aload_n 0, 1) := by decide +kernel
theorem dX1_warmthLearnt_40 : decode cX1_warmthLearnt 40 = .ok (.getfield 9, 3) := by decide +kernel
theorem dX1_warmthLearnt_43 : decode cX1_warmthLearnt 43 = .ok (.getfield 25, 3) := by decide +kernel
theorem dX1_warmthLearnt_46 : decode cX1_warmthLearnt 46 = .ok (.iload 6, 2) := by decide +kernel
theorem dX1_warmthLearnt_48 : decode cX1_warmthLearnt 48 = .ok (.iaload, 1) := by decide +kernel
theorem dX1_warmthLearnt_49 : decode cX1_warmthLearnt 49 = .ok (.ifCond .le 78, 3) := by decide +kernel
theorem dX1_warmthLearnt_52 : decode cX1_warmthLearnt 52 = .ok (.aload_n 0, 1) := by decide +kernel
theorem dX1_warmthLearnt_53 : decode cX1_warmthLearnt 53 = .ok (.getfield 9, 3) := by decide +kernel
theorem dX1_warmthLearnt_56 : decode cX1_warmthLearnt 56 = .ok (.getfield 28, 3) := by decide +kernel
theorem dX1_warmthLearnt_59 : decode cX1_warmthLearnt 59 = .ok (.iload 6, 2) := by decide +kernel
theorem dX1_warmthLearnt_61 : decode cX1_warmthLearnt 61 = .ok (.iaload, 1) := by decide +kernel
theorem dX1_warmthLearnt_62 : decode cX1_warmthLearnt 62 = .ok (.iconst (-1), 1) := by decide +kernel
theorem dX1_warmthLearnt_63 : decode cX1_warmthLearnt 63 = .ok (.if_icmp .eq 64, 3) := by decide +kernel
theorem dX1_warmthLearnt_66 : decode cX1_warmthLearnt 66 = .ok (.iconst 1, 1) := by decide +kernel
theorem dX1_warmthLearnt_67 : decode cX1_warmthLearnt 67 = .ok (.istore 5, 2) := by decide +kernel
theorem dX1_warmthLearnt_69 : decode cX1_warmthLearnt 69 = .ok (.iload_n 3, 1) := by decide +kernel
theorem dX1_warmthLearnt_70 : decode cX1_warmthLearnt 70 = .ok (.aload_n 0, 1) := by decide +kernel
theorem dX1_warmthLearnt_71 : decode cX1_warmthLearnt 71 = .ok (.getfield 9, 3) := by decide +kernel
theorem dX1_warmthLearnt_74 : decode cX1_warmthLearnt 74 = .ok (.getfield 25, 3) := by decide +kernel
theorem dX1_warmthLearnt_77 : decode cX1_warmthLearnt 77 = .ok (.iload 6, 2) := by decide +kernel
theorem dX1_warmthLearnt_79 : decode cX1_warmthLearnt 79 = .ok (.iaload, 1) := by decide +kernel
theorem dX1_warmthLearnt_80 : decode cX1_warmthLearnt 80 = .ok (.aload_n 0, 1) := by decide +kernel
theorem dX1_warmthLearnt_81 : decode cX1_warmthLearnt 81 = .ok (.getfield 9, 3) := by decide +kernel
theorem dX1_warmthLearnt_84 : decode cX1_warmthLearnt 84 = .ok (.getfield 28, 3) := by decide +kernel
theorem dX1_warmthLearnt_87 : decode cX1_warmthLearnt 87 = .ok (.iload 6, 2) := by decide +kernel
theorem dX1_warmthLearnt_89 : decode cX1_warmthLearnt 89 = .ok (.iaload, 1) := by decide +kernel
theorem dX1_warmthLearnt_90 : decode cX1_warmthLearnt 90 = .ok (.invokestatic 31, 3) := by decide +kernel
theorem dX1_warmthLearnt_93 : decode cX1_warmthLearnt 93 = .ok (.invokestatic 35, 3) := by decide +kernel
theorem dX1_warmthLearnt_96 : decode cX1_warmthLearnt 96 = .ok (.istore_n 3, 1) := by decide +kernel
theorem dX1_warmthLearnt_97 : decode cX1_warmthLearnt 97 = .ok (.iload 4, 2) := by decide +kernel
theorem dX1_warmthLearnt_99 : decode cX1_warmthLearnt 99 = .ok (.aload_n 0, 1) := by decide +kernel
theorem dX1_warmthLearnt_100 : decode cX1_warmthLearnt 100 = .ok (.getfield 9, 3) := by decide +kernel
theorem dX1_warmthLearnt_103 : decode cX1_warmthLearnt 103 = .ok (.getfield 25, 3) := by decide +kernel
theorem dX1_warmthLearnt_106 : decode cX1_warmthLearnt 106 = .ok (.iload 6, 2) := by decide +kernel
theorem dX1_warmthLearnt_108 : decode cX1_warmthLearnt 108 = .ok (.iaload, 1) := by decide +kernel
theorem dX1_warmthLearnt_109 : decode cX1_warmthLearnt 109 = .ok (.aload_n 0, 1) := by decide +kernel
theorem dX1_warmthLearnt_110 : decode cX1_warmthLearnt 110 = .ok (.getfield 9, 3) := by decide +kernel
theorem dX1_warmthLearnt_113 : decode cX1_warmthLearnt 113 = .ok (.getfield 28, 3) := by decide +kernel
theorem dX1_warmthLearnt_116 : decode cX1_warmthLearnt 116 = .ok (.iload 6, 2) := by decide +kernel
theorem dX1_warmthLearnt_118 : decode cX1_warmthLearnt 118 = .ok (.iaload, 1) := by decide +kernel
theorem dX1_warmthLearnt_119 : decode cX1_warmthLearnt 119 = .ok (.invokestatic 40, 3) := by decide +kernel
theorem dX1_warmthLearnt_122 : decode cX1_warmthLearnt 122 = .ok (.invokestatic 43, 3) := by decide +kernel
theorem dX1_warmthLearnt_125 : decode cX1_warmthLearnt 125 = .ok (.istore 4, 2) := by decide +kernel
theorem dX1_warmthLearnt_127 : decode cX1_warmthLearnt 127 = .ok (.iinc 6 1, 3) := by decide +kernel
theorem dX1_warmthLearnt_130 : decode cX1_warmthLearnt 130 = .ok (.goto (-117), 3) := by decide +kernel
theorem dX1_warmthLearnt_133 : decode cX1_warmthLearnt 133 = .ok (.iload 5, 2) := by decide +kernel
theorem dX1_warmthLearnt_135 : decode cX1_warmthLearnt 135 = .ok (.ifCond .eq 9, 3) := by decide +kernel
theorem dX1_warmthLearnt_138 : decode cX1_warmthLearnt 138 = .ok (.iload_n 3, 1) := by decide +kernel
theorem dX1_warmthLearnt_139 : decode cX1_warmthLearnt 139 = .ok (.iload 4, 2) := by decide +kernel
theorem dX1_warmthLearnt_141 : decode cX1_warmthLearnt 141 = .ok (.if_icmp .le 5, 3) := by decide +kernel
theorem dX1_warmthLearnt_144 : decode cX1_warmthLearnt 144 = .ok (.iconst (-1), 1) := by decide +kernel
theorem dX1_warmthLearnt_145 : decode cX1_warmthLearnt 145 = .ok (.ireturn, 1) := by decide +kernel
theorem dX1_warmthLearnt_146 : decode cX1_warmthLearnt 146 = .ok (.iload_n 2, 1) := by decide +kernel
theorem dX1_warmthLearnt_147 : decode cX1_warmthLearnt 147 = .ok (.ifCond .ne 7, 3) := by decide +kernel
theorem dX1_warmthLearnt_150 : decode cX1_warmthLearnt 150 = .ok (.iload_n 3, 1) := by decide +kernel
theorem dX1_warmthLearnt_151 : decode cX1_warmthLearnt 151 = .ok (.goto 5, 3) := by decide +kernel
theorem dX1_warmthLearnt_154 : decode cX1_warmthLearnt 154 = .ok (.iload 4, 2) := by decide +kernel
theorem dX1_warmthLearnt_156 : decode cX1_warmthLearnt 156 = .ok (.ireturn, 1) := by decide +kernel
theorem dX1_leastFor_0 : decode cX1_leastFor 0 = .ok (.iload_n 1, 1) := by decide +kernel
theorem dX1_leastFor_1 : decode cX1_leastFor 1 = .ok (.ifCond .ne 7, 3) := by decide +kernel
theorem dX1_leastFor_4 : decode cX1_leastFor 4 = .ok (.iconst 1, 1) := by decide +kernel
theorem dX1_leastFor_5 : decode cX1_leastFor 5 = .ok (.goto 22, 3) := by decide +kernel
theorem dX1_leastFor_8 : decode cX1_leastFor 8 = .ok (.iload_n 0, 1) := by decide +kernel
theorem dX1_leastFor_9 : decode cX1_leastFor 9 = .ok (.iconst 1, 1) := by decide +kernel
theorem dX1_leastFor_10 : decode cX1_leastFor 10 = .ok (.isub, 1) := by decide +kernel
theorem dX1_leastFor_11 : decode cX1_leastFor 11 = .ok (.iload_n 0, 1) := by decide +kernel
theorem dX1_leastFor_12 : decode cX1_leastFor 12 = .ok (.iconst 1, 1) := by decide +kernel
theorem dX1_leastFor_13 : decode cX1_leastFor 13 = .ok (.isub, 1) := by decide +kernel
theorem dX1_leastFor_14 : decode cX1_leastFor 14 = .ok (.imul, 1) := by decide +kernel
theorem dX1_leastFor_15 : decode cX1_leastFor 15 = .ok (.sipush 9999, 3) := by decide +kernel
theorem dX1_leastFor_18 : decode cX1_leastFor 18 = .ok (.iload_n 1, 1) := by decide +kernel
theorem dX1_leastFor_19 : decode cX1_leastFor 19 = .ok (.isub, 1) := by decide +kernel
theorem dX1_leastFor_20 : decode cX1_leastFor 20 = .ok (.iconst 1, 1) := by decide +kernel
theorem dX1_leastFor_21 : decode cX1_leastFor 21 = .ok (.iadd, 1) := by decide +kernel
theorem dX1_leastFor_22 : decode cX1_leastFor 22 = .ok (.invokestatic 46, 3) := by decide +kernel
theorem dX1_leastFor_25 : decode cX1_leastFor 25 = .ok (.iconst 1, 1) := by decide +kernel
theorem dX1_leastFor_26 : decode cX1_leastFor 26 = .ok (.iadd, 1) := by decide +kernel
theorem dX1_leastFor_27 : decode cX1_leastFor 27 = .ok (.ireturn, 1) := by decide +kernel
theorem dX1_greatestFor_0 : decode cX1_greatestFor 0 = .ok (.iload_n 1, 1) := by decide +kernel
theorem dX1_greatestFor_1 : decode cX1_greatestFor 1 = .ok (.sipush 9999, 3) := by decide +kernel
theorem dX1_greatestFor_4 : decode cX1_greatestFor 4 = .ok (.if_icmp .ne 9, 3) := by decide +kernel
theorem dX1_greatestFor_7 : decode cX1_greatestFor 7 = .ok (.sipush 999, 3) := by decide +kernel
theorem dX1_greatestFor_10 : decode cX1_greatestFor 10 = .ok (.goto 18, 3) := by decide +kernel
theorem dX1_greatestFor_13 : decode cX1_greatestFor 13 = .ok (.iload_n 0, 1) := by decide +kernel
theorem dX1_greatestFor_14 : decode cX1_greatestFor 14 = .ok (.iconst 1, 1) := by decide +kernel
theorem dX1_greatestFor_15 : decode cX1_greatestFor 15 = .ok (.iadd, 1) := by decide +kernel
theorem dX1_greatestFor_16 : decode cX1_greatestFor 16 = .ok (.iload_n 0, 1) := by decide +kernel
theorem dX1_greatestFor_17 : decode cX1_greatestFor 17 = .ok (.iconst 1, 1) := by decide +kernel
theorem dX1_greatestFor_18 : decode cX1_greatestFor 18 = .ok (.iadd, 1) := by decide +kernel
theorem dX1_greatestFor_19 : decode cX1_greatestFor 19 = .ok (.imul, 1) := by decide +kernel
theorem dX1_greatestFor_20 : decode cX1_greatestFor 20 = .ok (.sipush 9999, 3) := by decide +kernel
theorem dX1_greatestFor_23 : decode cX1_greatestFor 23 = .ok (.iload_n 1, 1) := by decide +kernel
theorem dX1_greatestFor_24 : decode cX1_greatestFor 24 = .ok (.isub, 1) := by decide +kernel
theorem dX1_greatestFor_25 : decode cX1_greatestFor 25 = .ok (.invokestatic 46, 3) := by decide +kernel
theorem dX1_greatestFor_28 : decode cX1_greatestFor 28 = .ok (.ireturn, 1) := by decide +kernel
theorem dX2_init_0 : decode cX2_init 0 = .ok (.aload_n 0, 1) := by decide +kernel
theorem dX2_init_1 : decode cX2_init 1 = .ok (.invokespecial 3, 3) := by decide +kernel
theorem dX2_init_4 : decode cX2_init 4 = .ok (.aload_n 0, 1) := by decide +kernel
theorem dX2_init_5 : decode cX2_init 5 = .ok (.aload_n 1, 1) := by decide +kernel
theorem dX2_init_6 : decode cX2_init 6 = .ok (.putfield 9, 3) := by decide +kernel
theorem dX2_init_9 : decode cX2_init 9 = .ok (.aload_n 0, 1) := by decide +kernel
theorem dX2_init_10 : decode cX2_init 10 = .ok (.aload_n 2, 1) := by decide +kernel
theorem dX2_init_11 : decode cX2_init 11 = .ok (.putfield 15, 3) := by decide +kernel
theorem dX2_init_14 : decode cX2_init 14 = .ok (.return_, 1) := by decide +kernel
theorem dX2_offBetween_0 : decode cX2_offBetween 0 = .ok (.iconst 0, 1) := by decide +kernel
theorem dX2_offBetween_1 : decode cX2_offBetween 1 = .ok (.istore_n 3, 1) := by decide +kernel
theorem dX2_offBetween_2 : decode cX2_offBetween 2 = .ok (.iconst 0, 1) := by decide +kernel
theorem dX2_offBetween_3 : decode cX2_offBetween 3 = .ok (.istore 4, 2) := by decide +kernel
theorem dX2_offBetween_5 : decode cX2_offBetween 5 = .ok (.iload 4, 2) := by decide +kernel
theorem dX2_offBetween_7 : decode cX2_offBetween 7 = .ok (.iconst 3, 1) := by decide +kernel
theorem dX2_offBetween_8 : decode cX2_offBetween 8 = .ok (.if_icmp .ge 54, 3) := by decide +kernel
theorem dX2_offBetween_11 : decode cX2_offBetween 11 = .ok (.aload_n 0, 1) := by decide +kernel
theorem dX2_offBetween_12 : decode cX2_offBetween 12 = .ok (.getfield 15, 3) := by decide +kernel
theorem dX2_offBetween_15 : decode cX2_offBetween 15 = .ok (.getfield 19, 3) := by decide +kernel
theorem dX2_offBetween_18 : decode cX2_offBetween 18 = .ok (.iload_n 1, 1) := by decide +kernel
theorem dX2_offBetween_19 : decode cX2_offBetween 19 = .ok (.iconst 3, 1) := by decide +kernel
theorem dX2_offBetween_20 : decode cX2_offBetween 20 = .ok (.imul, 1) := by decide +kernel
theorem dX2_offBetween_21 : decode cX2_offBetween 21 = .ok (.iload 4, 2) := by decide +kernel
theorem dX2_offBetween_23 : decode cX2_offBetween 23 = .ok (.iadd, 1) := by decide +kernel
theorem dX2_offBetween_24 : decode cX2_offBetween 24 = .ok (.iaload, 1) := by decide +kernel
theorem dX2_offBetween_25 : decode cX2_offBetween 25 = .ok (.istore 5, 2) := by decide +kernel
theorem dX2_offBetween_27 : decode cX2_offBetween 27 = .ok (.aload_n 0, 1) := by decide +kernel
theorem dX2_offBetween_28 : decode cX2_offBetween 28 = .ok (.getfield 9, 3) := by decide +kernel
theorem dX2_offBetween_31 : decode cX2_offBetween 31 = .ok (.getfield 25, 3) := by decide +kernel
theorem dX2_offBetween_34 : decode cX2_offBetween 34 = .ok (.iload_n 2, 1) := by decide +kernel
theorem dX2_offBetween_35 : decode cX2_offBetween 35 = .ok (.iconst 3, 1) := by decide +kernel
theorem dX2_offBetween_36 : decode cX2_offBetween 36 = .ok (.imul, 1) := by decide +kernel
theorem dX2_offBetween_37 : decode cX2_offBetween 37 = .ok (.iload 4, 2) := by decide +kernel
theorem dX2_offBetween_39 : decode cX2_offBetween 39 = .ok (.iadd, 1) := by decide +kernel
theorem dX2_offBetween_40 : decode cX2_offBetween 40 = .ok (.iaload, 1) := by decide +kernel
theorem dX2_offBetween_41 : decode cX2_offBetween 41 = .ok (.istore 6, 2) := by decide +kernel
theorem dX2_offBetween_43 : decode cX2_offBetween 43 = .ok (.iload_n 3, 1) := by decide +kernel
theorem dX2_offBetween_44 : decode cX2_offBetween 44 = .ok (.iload 5, 2) := by decide +kernel
theorem dX2_offBetween_46 : decode cX2_offBetween 46 = .ok (.iload 6, 2) := by decide +kernel
theorem dX2_offBetween_48 : decode cX2_offBetween 48 = .ok (.isub, 1) := by decide +kernel
theorem dX2_offBetween_49 : decode cX2_offBetween 49 = .ok (.invokestatic 30, 3) := by decide +kernel
theorem dX2_offBetween_52 : decode cX2_offBetween 52 = .ok (.invokestatic 36, 3) := by decide +kernel
theorem dX2_offBetween_55 : decode cX2_offBetween 55 = .ok (.istore_n 3, 1) := by decide +kernel
theorem dX2_offBetween_56 : decode cX2_offBetween 56 = .ok (.iinc 4 1, 3) := by decide +kernel
theorem dX2_offBetween_59 : decode cX2_offBetween 59 = .ok (.goto (-54), 3) := by decide +kernel
theorem dX2_offBetween_62 : decode cX2_offBetween 62 = .ok (.bipush 10, 2) := by decide +kernel
theorem dX2_offBetween_64 : decode cX2_offBetween 64 = .ok (.iload_n 3, 1) := by decide +kernel
theorem dX2_offBetween_65 : decode cX2_offBetween 65 = .ok (.imul, 1) := by decide +kernel
theorem dX2_offBetween_66 : decode cX2_offBetween 66 = .ok (.aload_n 0, 1) := by decide +kernel
theorem dX2_offBetween_67 : decode cX2_offBetween 67 = .ok (.getfield 15, 3) := by decide +kernel
theorem dX2_offBetween_70 : decode cX2_offBetween 70 = .ok (.getfield 40, 3) := by decide +kernel
theorem dX2_offBetween_73 : decode cX2_offBetween 73 = .ok (.iload_n 1, 1) := by decide +kernel
theorem dX2_offBetween_74 : decode cX2_offBetween 74 = .ok (.iaload, 1) := by decide +kernel
theorem dX2_offBetween_75 : decode cX2_offBetween 75 = .ok (.aload_n 0, 1) := by decide +kernel
theorem dX2_offBetween_76 : decode cX2_offBetween 76 = .ok (.getfield 9, 3) := by decide +kernel
theorem dX2_offBetween_79 : decode cX2_offBetween 79 = .ok (.getfield 43, 3) := by decide +kernel
theorem dX2_offBetween_82 : decode cX2_offBetween 82 = .ok (.iload_n 2, 1) := by decide +kernel
theorem dX2_offBetween_83 : decode cX2_offBetween 83 = .ok (.iaload, 1) := by decide +kernel
theorem dX2_offBetween_84 : decode cX2_offBetween 84 = .ok (.iadd, 1) := by decide +kernel
theorem dX2_offBetween_85 : decode cX2_offBetween 85 = .ok (.invokestatic 46, 3) := by decide +kernel
theorem dX2_offBetween_88 : decode cX2_offBetween 88 = .ok (.ireturn, 1) := by decide +kernel
theorem dX2_canBeOf_0 : decode cX2_canBeOf 0 = .ok (.iconst 0, 1) := by decide +kernel
theorem dX2_canBeOf_1 : decode cX2_canBeOf 1 = .ok (.istore_n 2, 1) := by decide +kernel
theorem dX2_canBeOf_2 : decode cX2_canBeOf 2 = .ok (.iconst 0, 1) := by decide +kernel
theorem dX2_canBeOf_3 : decode cX2_canBeOf 3 = .ok (.istore_n 3, 1) := by decide +kernel
theorem dX2_canBeOf_4 : decode cX2_canBeOf 4 = .ok (.iload_n 3, 1) := by decide +kernel
theorem dX2_canBeOf_5 : decode cX2_canBeOf 5 = .ok (.bipush 9, 2) := by decide +kernel
theorem dX2_canBeOf_7 : decode cX2_canBeOf 7 = .ok (.if_icmp .ge 43, 3) := by decide +kernel
theorem dX2_canBeOf_10 : decode cX2_canBeOf 10 = .ok (.aload_n 0, 1) := by decide +kernel
theorem dX2_canBeOf_11 : decode cX2_canBeOf 11 = .ok (.getfield 9, 3) := by decide +kernel
theorem dX2_canBeOf_14 : decode cX2_canBeOf 14 = .ok (.getfield 49, 3) := by decide +kernel
theorem dX2_canBeOf_17 : decode cX2_canBeOf 17 = .ok (.iload_n 3, 1) := by decide +kernel
theorem dX2_canBeOf_18 : decode cX2_canBeOf 18 = .ok (.baload, 1) := by decide +kernel
theorem dX2_canBeOf_19 : decode cX2_canBeOf 19 = .ok (.ifCond .eq 25, 3) := by decide +kernel
theorem dX2_canBeOf_22 : decode cX2_canBeOf 22 = .ok (.aload_n 0, 1) := by decide +kernel
theorem dX2_canBeOf_23 : decode cX2_canBeOf 23 = .ok (.iload_n 1, 1) := by decide +kernel
theorem dX2_canBeOf_24 : decode cX2_canBeOf 24 = .ok (.iload_n 3, 1) := by decide +kernel
theorem dX2_canBeOf_25 : decode cX2_canBeOf 25 = .ok (.invokevirtual 53, 3) := by decide +kernel
theorem dX2_canBeOf_28 : decode cX2_canBeOf 28 = .ok (.aload_n 0, 1) := by decide +kernel
theorem dX2_canBeOf_29 : decode cX2_canBeOf 29 = .ok (.getfield 9, 3) := by decide +kernel
theorem dX2_canBeOf_32 : decode cX2_canBeOf 32 = .ok (.getfield 56, 3) := by decide +kernel
theorem dX2_canBeOf_35 : decode cX2_canBeOf 35 = .ok (.if_icmp .gt 9, 3) := by decide +kernel
theorem dX2_canBeOf_38 : decode cX2_canBeOf 38 = .ok (.iload_n 2, 1) := by decide +kernel
theorem dX2_canBeOf_39 : decode cX2_canBeOf 39 = .ok (.iconst 1, 1) := by decide +kernel
theorem dX2_canBeOf_40 : decode cX2_canBeOf 40 = .ok (.iload_n 3, 1) := by decide +kernel
theorem dX2_canBeOf_41 : decode cX2_canBeOf 41 = .ok (.ishl, 1) := by decide +kernel
theorem dX2_canBeOf_42 : decode cX2_canBeOf 42 = .ok (.ior, 1) := by decide +kernel
theorem dX2_canBeOf_43 : decode cX2_canBeOf 43 = .ok (.istore_n 2, 1) := by decide +kernel
theorem dX2_canBeOf_44 : decode cX2_canBeOf 44 = .ok (.iinc 3 1, 3) := by decide +kernel
theorem dX2_canBeOf_47 : decode cX2_canBeOf 47 = .ok (.goto (-43), 3) := by decide +kernel
theorem dX2_canBeOf_50 : decode cX2_canBeOf 50 = .ok (.iload_n 2, 1) := by decide +kernel
theorem dX2_canBeOf_51 : decode cX2_canBeOf 51 = .ok (.ireturn, 1) := by decide +kernel
theorem dX2_nameOf_0 : decode cX2_nameOf 0 = .ok (.aload_n 0, 1) := by decide +kernel
theorem dX2_nameOf_1 : decode cX2_nameOf 1 = .ok (.iload_n 1, 1) := by decide +kernel
theorem dX2_nameOf_2 : decode cX2_nameOf 2 = .ok (.invokevirtual 60, 3) := by decide +kernel
theorem dX2_nameOf_5 : decode cX2_nameOf 5 = .ok (.istore_n 2, 1) := by decide +kernel
theorem dX2_nameOf_6 : decode cX2_nameOf 6 = .ok (.iload_n 2, 1) := by decide +kernel
theorem dX2_nameOf_7 : decode cX2_nameOf 7 = .ok (.invokestatic 63, 3) := by decide +kernel
theorem dX2_nameOf_10 : decode cX2_nameOf 10 = .ok (.iconst 1, 1) := by decide +kernel
theorem dX2_nameOf_11 : decode cX2_nameOf 11 = .ok (.if_icmp .eq 5, 3) := by decide +kernel
theorem dX2_nameOf_14 : decode cX2_nameOf 14 = .ok (.iconst (-1), 1) := by decide +kernel
theorem dX2_nameOf_15 : decode cX2_nameOf 15 = .ok (.ireturn, 1) := by decide +kernel
theorem dX2_nameOf_16 : decode cX2_nameOf 16 = .ok (.iconst (-1), 1) := by decide +kernel
theorem dX2_nameOf_17 : decode cX2_nameOf 17 = .ok (.istore_n 3, 1) := by decide +kernel
theorem dX2_nameOf_18 : decode cX2_nameOf 18 = .ok (.iconst 0, 1) := by decide +kernel
theorem dX2_nameOf_19 : decode cX2_nameOf 19 = .ok (.istore 4, 2) := by decide +kernel
theorem dX2_nameOf_21 : decode cX2_nameOf 21 = .ok (.iload 4, 2) := by decide +kernel
theorem dX2_nameOf_23 : decode cX2_nameOf 23 = .ok (.bipush 9, 2) := by decide +kernel
theorem dX2_nameOf_25 : decode cX2_nameOf 25 = .ok (.if_icmp .ge 56, 3) := by decide +kernel
theorem dX2_nameOf_28 : decode cX2_nameOf 28 = .ok (.iload_n 2, 1) := by decide +kernel
theorem dX2_nameOf_29 : decode cX2_nameOf 29 = .ok (.iload 4, 2) := by decide +kernel
theorem dX2_nameOf_31 : decode cX2_nameOf 31 = .ok (.invokestatic 68, 3) := by decide +kernel
theorem dX2_nameOf_34 : decode cX2_nameOf 34 = .ok (.ifCond .eq 9, 3) := by decide +kernel
theorem dX2_nameOf_37 : decode cX2_nameOf 37 = .ok (.iload 4, 2) := by decide +kernel
theorem dX2_nameOf_39 : decode cX2_nameOf 39 = .ok (.istore_n 3, 1) := by decide +kernel
theorem dX2_nameOf_40 : decode cX2_nameOf 40 = .ok (.goto 35, 3) := by decide +kernel
theorem dX2_nameOf_43 : decode cX2_nameOf 43 = .ok (.aload_n 0, 1) := by decide +kernel
theorem dX2_nameOf_44 : decode cX2_nameOf 44 = .ok (.getfield 9, 3) := by decide +kernel
theorem dX2_nameOf_47 : decode cX2_nameOf 47 = .ok (.getfield 49, 3) := by decide +kernel
theorem dX2_nameOf_50 : decode cX2_nameOf 50 = .ok (.iload 4, 2) := by decide +kernel
theorem dX2_nameOf_52 : decode cX2_nameOf 52 = .ok (.baload, 1) := by decide +kernel
theorem dX2_nameOf_53 : decode cX2_nameOf 53 = .ok (.ifCond .eq 22, 3) := by decide +kernel
theorem dX2_nameOf_56 : decode cX2_nameOf 56 = .ok (.aload_n 0, 1) := by decide +kernel
theorem dX2_nameOf_57 : decode cX2_nameOf 57 = .ok (.iload_n 1, 1) := by decide +kernel
theorem dX2_nameOf_58 : decode cX2_nameOf 58 = .ok (.iload 4, 2) := by decide +kernel
theorem dX2_nameOf_60 : decode cX2_nameOf 60 = .ok (.invokevirtual 53, 3) := by decide +kernel
theorem dX2_nameOf_63 : decode cX2_nameOf 63 = .ok (.aload_n 0, 1) := by decide +kernel
theorem dX2_nameOf_64 : decode cX2_nameOf 64 = .ok (.getfield 9, 3) := by decide +kernel
theorem dX2_nameOf_67 : decode cX2_nameOf 67 = .ok (.getfield 72, 3) := by decide +kernel
theorem dX2_nameOf_70 : decode cX2_nameOf 70 = .ok (.if_icmp .ge 5, 3) := by decide +kernel
theorem dX2_nameOf_73 : decode cX2_nameOf 73 = .ok (.iconst (-1), 1) := by decide +kernel
theorem dX2_nameOf_74 : decode cX2_nameOf 74 = .ok (.ireturn, 1) := by decide +kernel
theorem dX2_nameOf_75 : decode cX2_nameOf 75 = .ok (.iinc 4 1, 3) := by decide +kernel
theorem dX2_nameOf_78 : decode cX2_nameOf 78 = .ok (.goto (-57), 3) := by decide +kernel
theorem dX2_nameOf_81 : decode cX2_nameOf 81 = .ok (.iload_n 3, 1) := by decide +kernel
theorem dX2_nameOf_82 : decode cX2_nameOf 82 = .ok (.ireturn, 1) := by decide +kernel
theorem dX2_firstOpen_0 : decode cX2_firstOpen 0 = .ok (.iconst (-1), 1) := by decide +kernel
theorem dX2_firstOpen_1 : decode cX2_firstOpen 1 = .ok (.istore_n 2, 1) := by decide +kernel
theorem dX2_firstOpen_2 : decode cX2_firstOpen 2 = .ok (.iconst 0, 1) := by decide +kernel
theorem dX2_firstOpen_3 : decode cX2_firstOpen 3 = .ok (.istore_n 3, 1) := by decide +kernel
theorem dX2_firstOpen_4 : decode cX2_firstOpen 4 = .ok (.iload_n 3, 1) := by decide +kernel
theorem dX2_firstOpen_5 : decode cX2_firstOpen 5 = .ok (.bipush 9, 2) := by decide +kernel
theorem dX2_firstOpen_7 : decode cX2_firstOpen 7 = .ok (.if_icmp .ge 31, 3) := by decide +kernel
theorem dX2_firstOpen_10 : decode cX2_firstOpen 10 = .ok (.iload_n 1, 1) := by decide +kernel
theorem dX2_firstOpen_11 : decode cX2_firstOpen 11 = .ok (.iload_n 3, 1) := by decide +kernel
theorem dX2_firstOpen_12 : decode cX2_firstOpen 12 = .ok (.invokestatic 68, 3) := by decide +kernel
theorem dX2_firstOpen_15 : decode cX2_firstOpen 15 = .ok (.ifCond .eq 17, 3) := by decide +kernel
theorem dX2_firstOpen_18 : decode cX2_firstOpen 18 = .ok (.iload_n 2, 1) := by decide +kernel
theorem dX2_firstOpen_19 : decode cX2_firstOpen 19 = .ok (.aload_n 0, 1) := by decide +kernel
theorem dX2_firstOpen_20 : decode cX2_firstOpen 20 = .ok (.getfield 9, 3) := by decide +kernel
theorem dX2_firstOpen_23 : decode cX2_firstOpen 23 = .ok (.getfield 75, 3) := by decide +kernel
theorem dX2_firstOpen_26 : decode cX2_firstOpen 26 = .ok (.iload_n 3, 1) := by decide +kernel
theorem dX2_firstOpen_27 : decode cX2_firstOpen 27 = .ok (.iaload, 1) := by decide +kernel
theorem dX2_firstOpen_28 : decode cX2_firstOpen 28 = .ok (.invokestatic 78, 3) := by decide +kernel
theorem dX2_firstOpen_31 : decode cX2_firstOpen 31 = .ok (.istore_n 2, 1) := by decide +kernel
theorem dX2_firstOpen_32 : decode cX2_firstOpen 32 = .ok (.iinc 3 1, 3) := by decide +kernel
theorem dX2_firstOpen_35 : decode cX2_firstOpen 35 = .ok (.goto (-31), 3) := by decide +kernel
theorem dX2_firstOpen_38 : decode cX2_firstOpen 38 = .ok (.iload_n 2, 1) := by decide +kernel
theorem dX2_firstOpen_39 : decode cX2_firstOpen 39 = .ok (.iconst (-1), 1) := by decide +kernel
theorem dX2_firstOpen_40 : decode cX2_firstOpen 40 = .ok (.if_icmp .ne 7, 3) := by decide +kernel
theorem dX2_firstOpen_43 : decode cX2_firstOpen 43 = .ok (.iconst 0, 1) := by decide +kernel
theorem dX2_firstOpen_44 : decode cX2_firstOpen 44 = .ok (.goto 4, 3) := by decide +kernel
theorem dX2_firstOpen_47 : decode cX2_firstOpen 47 = .ok (.iload_n 2, 1) := by decide +kernel
theorem dX2_firstOpen_48 : decode cX2_firstOpen 48 = .ok (.ireturn, 1) := by decide +kernel
theorem dX2_nextToMeasure_0 : decode cX2_nextToMeasure 0 = .ok (.iconst (-1), 1) := by decide +kernel
theorem dX2_nextToMeasure_1 : decode cX2_nextToMeasure 1 = .ok (.istore_n 1, 1) := by decide +kernel
theorem dX2_nextToMeasure_2 : decode cX2_nextToMeasure 2 = .ok (.iconst 2, 1) := by decide +kernel
theorem dX2_nextToMeasure_3 : decode cX2_nextToMeasure 3 = .ok (.istore_n 2, 1) := by decide +kernel
theorem dX2_nextToMeasure_4 : decode cX2_nextToMeasure 4 = .ok (.iconst 0, 1) := by decide +kernel
theorem dX2_nextToMeasure_5 : decode cX2_nextToMeasure 5 = .ok (.istore_n 3, 1) := by decide +kernel
theorem dX2_nextToMeasure_6 : decode cX2_nextToMeasure 6 = .ok (.iconst 0, 1) := by decide +kernel
theorem dX2_nextToMeasure_7 : decode cX2_nextToMeasure 7 = .ok (.istore 4, 2) := by decide +kernel
theorem dX2_nextToMeasure_9 : decode cX2_nextToMeasure 9 = .ok (.iload 4, 2) := by decide +kernel
theorem dX2_nextToMeasure_11 : decode cX2_nextToMeasure 11 = .ok (.aload_n 0, 1) := by decide +kernel
theorem dX2_nextToMeasure_12 : decode cX2_nextToMeasure 12 = .ok (.getfield 15, 3) := by decide +kernel
theorem dX2_nextToMeasure_15 : decode cX2_nextToMeasure 15 = .ok (.getfield 81, 3) := by decide +kernel
theorem dX2_nextToMeasure_18 : decode cX2_nextToMeasure 18 = .ok (.if_icmp .ge 59, 3) := by decide +kernel
theorem dX2_nextToMeasure_21 : decode cX2_nextToMeasure 21 = .ok (.aload_n 0, 1) := by decide +kernel
theorem dX2_nextToMeasure_22 : decode cX2_nextToMeasure 22 = .ok (.iload 4, 2) := by decide +kernel
theorem dX2_nextToMeasure_24 : decode cX2_nextToMeasure 24 = .ok (.invokevirtual 60, 3) := by decide +kernel
theorem dX2_nextToMeasure_27 : decode cX2_nextToMeasure 27 = .ok (.invokestatic 63, 3) := by decide +kernel
theorem dX2_nextToMeasure_30 : decode cX2_nextToMeasure 30 = .ok (.istore 5, 2) := by decide +kernel
theorem dX2_nextToMeasure_32 : decode cX2_nextToMeasure 32 = .ok (.aload_n 0, 1) := by decide +kernel
theorem dX2_nextToMeasure_33 : decode cX2_nextToMeasure 33 = .ok (.getfield 15, 3) := by decide +kernel
theorem dX2_nextToMeasure_36 : decode cX2_nextToMeasure 36 = .ok (.getfield 40, 3) := by decide +kernel
theorem dX2_nextToMeasure_39 : decode cX2_nextToMeasure 39 = .ok (.iload 4, 2) := by decide +kernel
theorem dX2_nextToMeasure_41 : decode cX2_nextToMeasure 41 = .ok (.iaload, 1) := by decide +kernel
theorem dX2_nextToMeasure_42 : decode cX2_nextToMeasure 42 = .ok (.istore 6, 2) := by decide +kernel
theorem dX2_nextToMeasure_44 : decode cX2_nextToMeasure 44 = .ok (.iload 5, 2) := by decide +kernel
theorem dX2_nextToMeasure_46 : decode cX2_nextToMeasure 46 = .ok (.iload_n 2, 1) := by decide +kernel
theorem dX2_nextToMeasure_47 : decode cX2_nextToMeasure 47 = .ok (.if_icmp .gt 15, 3) := by decide +kernel
theorem dX2_nextToMeasure_50 : decode cX2_nextToMeasure 50 = .ok (.iload 5, 2) := by decide +kernel
theorem dX2_nextToMeasure_52 : decode cX2_nextToMeasure 52 = .ok (.iload_n 2, 1) := by decide +kernel
theorem dX2_nextToMeasure_53 : decode cX2_nextToMeasure 53 = .ok (.if_icmp .ne 18, 3) := by decide +kernel
theorem dX2_nextToMeasure_56 : decode cX2_nextToMeasure 56 = .ok (.iload 6, 2) := by decide +kernel
theorem dX2_nextToMeasure_58 : decode cX2_nextToMeasure 58 = .ok (.iload_n 3, 1) := by decide +kernel
theorem dX2_nextToMeasure_59 : decode cX2_nextToMeasure 59 = .ok (.if_icmp .le 12, 3) := by decide +kernel
theorem dX2_nextToMeasure_62 : decode cX2_nextToMeasure 62 = .ok (.iload 4, 2) := by decide +kernel
theorem dX2_nextToMeasure_64 : decode cX2_nextToMeasure 64 = .ok (.istore_n 1, 1) := by decide +kernel
theorem dX2_nextToMeasure_65 : decode cX2_nextToMeasure 65 = .ok (.iload 5, 2) := by decide +kernel
theorem dX2_nextToMeasure_67 : decode cX2_nextToMeasure 67 = .ok (.istore_n 2, 1) := by decide +kernel
theorem dX2_nextToMeasure_68 : decode cX2_nextToMeasure 68 = .ok (.iload 6, 2) := by decide +kernel
theorem dX2_nextToMeasure_70 : decode cX2_nextToMeasure 70 = .ok (.istore_n 3, 1) := by decide +kernel
theorem dX2_nextToMeasure_71 : decode cX2_nextToMeasure 71 = .ok (.iinc 4 1, 3) := by decide +kernel
theorem dX2_nextToMeasure_74 : decode cX2_nextToMeasure 74 = .ok (.goto (-65), 3) := by decide +kernel
theorem dX2_nextToMeasure_77 : decode cX2_nextToMeasure 77 = .ok (.iload_n 1, 1) := by decide +kernel
theorem dX2_nextToMeasure_78 : decode cX2_nextToMeasure 78 = .ok (.ireturn, 1) := by decide +kernel
theorem dX3_init_0 : decode cX3_init 0 = .ok (.aload_n 0, 1) := by decide +kernel
theorem dX3_init_1 : decode cX3_init 1 = .ok (.invokespecial 3, 3) := by decide +kernel
theorem dX3_init_4 : decode cX3_init 4 = .ok (.aload_n 0, 1) := by decide +kernel
theorem dX3_init_5 : decode cX3_init 5 = .ok (.bipush 10, 2) := by decide +kernel
theorem dX3_init_7 : decode cX3_init 7 = .ok (.newarray .int, 2) := by decide +kernel
theorem dX3_init_9 : decode cX3_init 9 = .ok (.putfield 9, 3) := by decide +kernel
theorem dX3_init_12 : decode cX3_init 12 = .ok (.aload_n 0, 1) := by decide +kernel
theorem dX3_init_13 : decode cX3_init 13 = .ok (.bipush 10, 2) := by decide +kernel
theorem dX3_init_15 : decode cX3_init 15 = .ok (.newarray .int, 2) := by decide +kernel
theorem dX3_init_17 : decode cX3_init 17 = .ok (.putfield 15, 3) := by decide +kernel
theorem dX3_init_20 : decode cX3_init 20 = .ok (.aload_n 0, 1) := by decide +kernel
theorem dX3_init_21 : decode cX3_init 21 = .ok (.bipush 10, 2) := by decide +kernel
theorem dX3_init_23 : decode cX3_init 23 = .ok (.newarray .int, 2) := by decide +kernel
theorem dX3_init_25 : decode cX3_init 25 = .ok (.putfield 18, 3) := by decide +kernel
theorem dX3_init_28 : decode cX3_init 28 = .ok (.iconst 0, 1) := by decide +kernel
theorem dX3_init_29 : decode cX3_init 29 = .ok (.istore_n 1, 1) := by decide +kernel
theorem dX3_init_30 : decode cX3_init 30 = .ok (.iload_n 1, 1) := by decide +kernel
theorem dX3_init_31 : decode cX3_init 31 = .ok (.bipush 10, 2) := by decide +kernel
theorem dX3_init_33 : decode cX3_init 33 = .ok (.if_icmp .ge 26, 3) := by decide +kernel
theorem dX3_init_36 : decode cX3_init 36 = .ok (.aload_n 0, 1) := by decide +kernel
theorem dX3_init_37 : decode cX3_init 37 = .ok (.getfield 15, 3) := by decide +kernel
theorem dX3_init_40 : decode cX3_init 40 = .ok (.iload_n 1, 1) := by decide +kernel
theorem dX3_init_41 : decode cX3_init 41 = .ok (.sipush 9999, 3) := by decide +kernel
theorem dX3_init_44 : decode cX3_init 44 = .ok (.iastore, 1) := by decide +kernel
theorem dX3_init_45 : decode cX3_init 45 = .ok (.aload_n 0, 1) := by decide +kernel
theorem dX3_init_46 : decode cX3_init 46 = .ok (.getfield 18, 3) := by decide +kernel
theorem dX3_init_49 : decode cX3_init 49 = .ok (.iload_n 1, 1) := by decide +kernel
theorem dX3_init_50 : decode cX3_init 50 = .ok (.bipush 100, 2) := by decide +kernel
theorem dX3_init_52 : decode cX3_init 52 = .ok (.iastore, 1) := by decide +kernel
theorem dX3_init_53 : decode cX3_init 53 = .ok (.iinc 1 1, 3) := by decide +kernel
theorem dX3_init_56 : decode cX3_init 56 = .ok (.goto (-26), 3) := by decide +kernel
theorem dX3_init_59 : decode cX3_init 59 = .ok (.aload_n 0, 1) := by decide +kernel
theorem dX3_init_60 : decode cX3_init 60 = .ok (.bipush 9, 2) := by decide +kernel
theorem dX3_init_62 : decode cX3_init 62 = .ok (.newarray .boolean, 2) := by decide +kernel
theorem dX3_init_64 : decode cX3_init 64 = .ok (.putfield 21, 3) := by decide +kernel
theorem dX3_init_67 : decode cX3_init 67 = .ok (.aload_n 0, 1) := by decide +kernel
theorem dX3_init_68 : decode cX3_init 68 = .ok (.bipush 9, 2) := by decide +kernel
theorem dX3_init_70 : decode cX3_init 70 = .ok (.newarray .int, 2) := by decide +kernel
theorem dX3_init_72 : decode cX3_init 72 = .ok (.putfield 25, 3) := by decide +kernel
theorem dX3_init_75 : decode cX3_init 75 = .ok (.aload_n 0, 1) := by decide +kernel
theorem dX3_init_76 : decode cX3_init 76 = .ok (.bipush 9, 2) := by decide +kernel
theorem dX3_init_78 : decode cX3_init 78 = .ok (.newarray .int, 2) := by decide +kernel
theorem dX3_init_80 : decode cX3_init 80 = .ok (.putfield 28, 3) := by decide +kernel
theorem dX3_init_83 : decode cX3_init 83 = .ok (.aload_n 0, 1) := by decide +kernel
theorem dX3_init_84 : decode cX3_init 84 = .ok (.bipush 27, 2) := by decide +kernel
theorem dX3_init_86 : decode cX3_init 86 = .ok (.newarray .int, 2) := by decide +kernel
theorem dX3_init_88 : decode cX3_init 88 = .ok (.putfield 31, 3) := by decide +kernel
theorem dX3_init_91 : decode cX3_init 91 = .ok (.aload_n 0, 1) := by decide +kernel
theorem dX3_init_92 : decode cX3_init 92 = .ok (.bipush 9, 2) := by decide +kernel
theorem dX3_init_94 : decode cX3_init 94 = .ok (.newarray .int, 2) := by decide +kernel
theorem dX3_init_96 : decode cX3_init 96 = .ok (.putfield 34, 3) := by decide +kernel
theorem dX3_init_99 : decode cX3_init 99 = .ok (.aload_n 0, 1) := by decide +kernel
theorem dX3_init_100 : decode cX3_init 100 = .ok (.bipush 100, 2) := by decide +kernel
theorem dX3_init_102 : decode cX3_init 102 = .ok (.newarray .int, 2) := by decide +kernel
theorem dX3_init_104 : decode cX3_init 104 = .ok (.putfield 37, 3) := by decide +kernel
theorem dX3_init_107 : decode cX3_init 107 = .ok (.aload_n 0, 1) := by decide +kernel
theorem dX3_init_108 : decode cX3_init 108 = .ok (.bipush 100, 2) := by decide +kernel
theorem dX3_init_110 : decode cX3_init 110 = .ok (.newarray .int, 2) := by decide +kernel
theorem dX3_init_112 : decode cX3_init 112 = .ok (.putfield 40, 3) := by decide +kernel
theorem dX3_init_115 : decode cX3_init 115 = .ok (.aload_n 0, 1) := by decide +kernel
theorem dX3_init_116 : decode cX3_init 116 = .ok (.bipush 10, 2) := by decide +kernel
theorem dX3_init_118 : decode cX3_init 118 = .ok (.newarray .int, 2) := by decide +kernel
theorem dX3_init_120 : decode cX3_init 120 = .ok (.putfield 43, 3) := by decide +kernel
theorem dX3_init_123 : decode cX3_init 123 = .ok (.aload_n 0, 1) := by decide +kernel
theorem dX3_init_124 : decode cX3_init 124 = .ok (.bipush 10, 2) := by decide +kernel
theorem dX3_init_126 : decode cX3_init 126 = .ok (.newarray .int, 2) := by decide +kernel
theorem dX3_init_128 : decode cX3_init 128 = .ok (.putfield 46, 3) := by decide +kernel
theorem dX3_init_131 : decode cX3_init 131 = .ok (.aload_n 0, 1) := by decide +kernel
theorem dX3_init_132 : decode cX3_init 132 = .ok (.bipush 20, 2) := by decide +kernel
theorem dX3_init_134 : decode cX3_init 134 = .ok (.putfield 49, 3) := by decide +kernel
theorem dX3_init_137 : decode cX3_init 137 = .ok (.aload_n 0, 1) := by decide +kernel
theorem dX3_init_138 : decode cX3_init 138 = .ok (.bipush 30, 2) := by decide +kernel
theorem dX3_init_140 : decode cX3_init 140 = .ok (.putfield 53, 3) := by decide +kernel
theorem dX3_init_143 : decode cX3_init 143 = .ok (.return_, 1) := by decide +kernel
theorem dX3_isTold_0 : decode cX3_isTold 0 = .ok (.iload_n 1, 1) := by decide +kernel
theorem dX3_isTold_1 : decode cX3_isTold 1 = .ok (.iconst 0, 1) := by decide +kernel
theorem dX3_isTold_2 : decode cX3_isTold 2 = .ok (.bipush 8, 2) := by decide +kernel
theorem dX3_isTold_4 : decode cX3_isTold 4 = .ok (.invokestatic 56, 3) := by decide +kernel
theorem dX3_isTold_7 : decode cX3_isTold 7 = .ok (.ifCond .eq 16, 3) := by decide +kernel
theorem dX3_isTold_10 : decode cX3_isTold 10 = .ok (.aload_n 0, 1) := by decide +kernel
theorem dX3_isTold_11 : decode cX3_isTold 11 = .ok (.getfield 21, 3) := by decide +kernel
theorem dX3_isTold_14 : decode cX3_isTold 14 = .ok (.iload_n 1, 1) := by decide +kernel
theorem dX3_isTold_15 : decode cX3_isTold 15 = .ok (.baload, 1) := by decide +kernel
theorem dX3_isTold_16 : decode cX3_isTold 16 = .ok (.ifCond .eq 7, 3) := by decide +kernel
theorem dX3_isTold_19 : decode cX3_isTold 19 = .ok (.iconst 1, 1) := by decide +kernel
theorem dX3_isTold_20 : decode cX3_isTold 20 = .ok (.goto 4, 3) := by decide +kernel
theorem dX3_isTold_23 : decode cX3_isTold 23 = .ok (.iconst 0, 1) := by decide +kernel
theorem dX3_isTold_24 : decode cX3_isTold 24 = .ok (.ireturn, 1) := by decide +kernel
theorem dX3_toldFlows_0 : decode cX3_toldFlows 0 = .ok (.iconst 0, 1) := by decide +kernel
theorem dX3_toldFlows_1 : decode cX3_toldFlows 1 = .ok (.istore_n 1, 1) := by decide +kernel
theorem dX3_toldFlows_2 : decode cX3_toldFlows 2 = .ok (.iconst 0, 1) := by decide +kernel
theorem dX3_toldFlows_3 : decode cX3_toldFlows 3 = .ok (.istore_n 2, 1) := by decide +kernel
theorem dX3_toldFlows_4 : decode cX3_toldFlows 4 = .ok (.iload_n 2, 1) := by decide +kernel
theorem dX3_toldFlows_5 : decode cX3_toldFlows 5 = .ok (.bipush 9, 2) := by decide +kernel
theorem dX3_toldFlows_7 : decode cX3_toldFlows 7 = .ok (.if_icmp .ge 26, 3) := by decide +kernel
theorem dX3_toldFlows_10 : decode cX3_toldFlows 10 = .ok (.iload_n 1, 1) := by decide +kernel
theorem dX3_toldFlows_11 : decode cX3_toldFlows 11 = .ok (.aload_n 0, 1) := by decide +kernel
theorem dX3_toldFlows_12 : decode cX3_toldFlows 12 = .ok (.getfield 21, 3) := by decide +kernel
theorem dX3_toldFlows_15 : decode cX3_toldFlows 15 = .ok (.iload_n 2, 1) := by decide +kernel
theorem dX3_toldFlows_16 : decode cX3_toldFlows 16 = .ok (.baload, 1) := by decide +kernel
theorem dX3_toldFlows_17 : decode cX3_toldFlows 17 = .ok (.ifCond .eq 7, 3) := by decide +kernel
theorem dX3_toldFlows_20 : decode cX3_toldFlows 20 = .ok (.iconst 1, 1) := by decide +kernel
theorem dX3_toldFlows_21 : decode cX3_toldFlows 21 = .ok (.goto 4, 3) := by decide +kernel
theorem dX3_toldFlows_24 : decode cX3_toldFlows 24 = .ok (.iconst 0, 1) := by decide +kernel
theorem dX3_toldFlows_25 : decode cX3_toldFlows 25 = .ok (.iadd, 1) := by decide +kernel
theorem dX3_toldFlows_26 : decode cX3_toldFlows 26 = .ok (.istore_n 1, 1) := by decide +kernel
theorem dX3_toldFlows_27 : decode cX3_toldFlows 27 = .ok (.iinc 2 1, 3) := by decide +kernel
theorem dX3_toldFlows_30 : decode cX3_toldFlows 30 = .ok (.goto (-26), 3) := by decide +kernel
theorem dX3_toldFlows_33 : decode cX3_toldFlows 33 = .ok (.iload_n 1, 1) := by decide +kernel
theorem dX3_toldFlows_34 : decode cX3_toldFlows 34 = .ok (.ireturn, 1) := by decide +kernel
theorem dX3_liveIn_0 : decode cX3_liveIn 0 = .ok (.iconst 0, 1) := by decide +kernel
theorem dX3_liveIn_1 : decode cX3_liveIn 1 = .ok (.istore_n 2, 1) := by decide +kernel
theorem dX3_liveIn_2 : decode cX3_liveIn 2 = .ok (.iconst 0, 1) := by decide +kernel
theorem dX3_liveIn_3 : decode cX3_liveIn 3 = .ok (.istore_n 3, 1) := by decide +kernel
theorem dX3_liveIn_4 : decode cX3_liveIn 4 = .ok (.iload_n 3, 1) := by decide +kernel
theorem dX3_liveIn_5 : decode cX3_liveIn 5 = .ok (.bipush 10, 2) := by decide +kernel
theorem dX3_liveIn_7 : decode cX3_liveIn 7 = .ok (.if_icmp .ge 34, 3) := by decide +kernel
theorem dX3_liveIn_10 : decode cX3_liveIn 10 = .ok (.iload_n 1, 1) := by decide +kernel
theorem dX3_liveIn_11 : decode cX3_liveIn 11 = .ok (.aload_n 0, 1) := by decide +kernel
theorem dX3_liveIn_12 : decode cX3_liveIn 12 = .ok (.getfield 9, 3) := by decide +kernel
theorem dX3_liveIn_15 : decode cX3_liveIn 15 = .ok (.iload_n 3, 1) := by decide +kernel
theorem dX3_liveIn_16 : decode cX3_liveIn 16 = .ok (.iaload, 1) := by decide +kernel
theorem dX3_liveIn_17 : decode cX3_liveIn 17 = .ok (.aload_n 0, 1) := by decide +kernel
theorem dX3_liveIn_18 : decode cX3_liveIn 18 = .ok (.getfield 15, 3) := by decide +kernel
theorem dX3_liveIn_21 : decode cX3_liveIn 21 = .ok (.iload_n 3, 1) := by decide +kernel
theorem dX3_liveIn_22 : decode cX3_liveIn 22 = .ok (.iaload, 1) := by decide +kernel
theorem dX3_liveIn_23 : decode cX3_liveIn 23 = .ok (.invokestatic 56, 3) := by decide +kernel
theorem dX3_liveIn_26 : decode cX3_liveIn 26 = .ok (.ifCond .eq 9, 3) := by decide +kernel
theorem dX3_liveIn_29 : decode cX3_liveIn 29 = .ok (.iload_n 2, 1) := by decide +kernel
theorem dX3_liveIn_30 : decode cX3_liveIn 30 = .ok (.iconst 1, 1) := by decide +kernel
theorem dX3_liveIn_31 : decode cX3_liveIn 31 = .ok (.iload_n 3, 1) := by decide +kernel
theorem dX3_liveIn_32 : decode cX3_liveIn 32 = .ok (.ishl, 1) := by decide +kernel
theorem dX3_liveIn_33 : decode cX3_liveIn 33 = .ok (.ior, 1) := by decide +kernel
theorem dX3_liveIn_34 : decode cX3_liveIn 34 = .ok (.istore_n 2, 1) := by decide +kernel
theorem dX3_liveIn_35 : decode cX3_liveIn 35 = .ok (.iinc 3 1, 3) := by decide +kernel
theorem dX3_liveIn_38 : decode cX3_liveIn 38 = .ok (.goto (-34), 3) := by decide +kernel
theorem dX3_liveIn_41 : decode cX3_liveIn 41 = .ok (.iload_n 2, 1) := by decide +kernel
theorem dX3_liveIn_42 : decode cX3_liveIn 42 = .ok (.ireturn, 1) := by decide +kernel
theorem dX3_tell_0 : decode cX3_tell 0 = .ok (.aload_n 1, 1) := by decide +kernel
theorem dX3_tell_1 : decode cX3_tell 1 = .ok (.iload_n 2, 1) := by decide +kernel
theorem dX3_tell_2 : decode cX3_tell 2 = .ok (.iconst 1, 1) := by decide +kernel
theorem dX3_tell_3 : decode cX3_tell 3 = .ok (.iadd, 1) := by decide +kernel
theorem dX3_tell_4 : decode cX3_tell 4 = .ok (.iaload, 1) := by decide +kernel
theorem dX3_tell_5 : decode cX3_tell 5 = .ok (.istore_n 3, 1) := by decide +kernel
theorem dX3_tell_6 : decode cX3_tell 6 = .ok (.aload_n 1, 1) := by decide +kernel
theorem dX3_tell_7 : decode cX3_tell 7 = .ok (.iload_n 2, 1) := by decide +kernel
theorem dX3_tell_8 : decode cX3_tell 8 = .ok (.iaload, 1) := by decide +kernel
theorem dX3_tell_9 : decode cX3_tell 9 = .ok (.tableswitch 141 0 4 #[35, 71, 83, 108, 133], 35) := by decide +kernel
theorem dX3_tell_44 : decode cX3_tell 44 = .ok (.aload_n 0, 1) := by decide +kernel
theorem dX3_tell_45 : decode cX3_tell 45 = .ok (.getfield 9, 3) := by decide +kernel
theorem dX3_tell_48 : decode cX3_tell 48 = .ok (.iload_n 3, 1) := by decide +kernel
theorem dX3_tell_49 : decode cX3_tell 49 = .ok (.aload_n 1, 1) := by decide +kernel
theorem dX3_tell_50 : decode cX3_tell 50 = .ok (.iload_n 2, 1) := by decide +kernel
theorem dX3_tell_51 : decode cX3_tell 51 = .ok (.iconst 2, 1) := by decide +kernel
theorem dX3_tell_52 : decode cX3_tell 52 = .ok (.iadd, 1) := by decide +kernel
theorem dX3_tell_53 : decode cX3_tell 53 = .ok (.iaload, 1) := by decide +kernel
theorem dX3_tell_54 : decode cX3_tell 54 = .ok (.iastore, 1) := by decide +kernel
theorem dX3_tell_55 : decode cX3_tell 55 = .ok (.aload_n 0, 1) := by decide +kernel
theorem dX3_tell_56 : decode cX3_tell 56 = .ok (.getfield 15, 3) := by decide +kernel
theorem dX3_tell_59 : decode cX3_tell 59 = .ok (.iload_n 3, 1) := by decide +kernel
theorem dX3_tell_60 : decode cX3_tell 60 = .ok (.aload_n 1, 1) := by decide +kernel
theorem dX3_tell_61 : decode cX3_tell 61 = .ok (.iload_n 2, 1) := by decide +kernel
theorem dX3_tell_62 : decode cX3_tell 62 = .ok (.iconst 3, 1) := by decide +kernel
theorem dX3_tell_63 : decode cX3_tell 63 = .ok (.iadd, 1) := by decide +kernel
theorem dX3_tell_64 : decode cX3_tell 64 = .ok (.iaload, 1) := by decide +kernel
theorem dX3_tell_65 : decode cX3_tell 65 = .ok (.iastore, 1) := by decide +kernel
theorem dX3_tell_66 : decode cX3_tell 66 = .ok (.aload_n 0, 1) := by decide +kernel
theorem dX3_tell_67 : decode cX3_tell 67 = .ok (.getfield 18, 3) := by decide +kernel
theorem dX3_tell_70 : decode cX3_tell 70 = .ok (.iload_n 3, 1) := by decide +kernel
theorem dX3_tell_71 : decode cX3_tell 71 = .ok (.aload_n 1, 1) := by decide +kernel
theorem dX3_tell_72 : decode cX3_tell 72 = .ok (.iload_n 2, 1) := by decide +kernel
theorem dX3_tell_73 : decode cX3_tell 73 = .ok (.iconst 4, 1) := by decide +kernel
theorem dX3_tell_74 : decode cX3_tell 74 = .ok (.iadd, 1) := by decide +kernel
theorem dX3_tell_75 : decode cX3_tell 75 = .ok (.iaload, 1) := by decide +kernel
theorem dX3_tell_76 : decode cX3_tell 76 = .ok (.iastore, 1) := by decide +kernel
theorem dX3_tell_77 : decode cX3_tell 77 = .ok (.goto 78, 3) := by decide +kernel
theorem dX3_tell_80 : decode cX3_tell 80 = .ok (.aload_n 0, 1) := by decide +kernel
theorem dX3_tell_81 : decode cX3_tell 81 = .ok (.iload_n 3, 1) := by decide +kernel
theorem dX3_tell_82 : decode cX3_tell 82 = .ok (.aload_n 1, 1) := by decide +kernel
theorem dX3_tell_83 : decode cX3_tell 83 = .ok (.iload_n 2, 1) := by decide +kernel
theorem dX3_tell_84 : decode cX3_tell 84 = .ok (.iconst 2, 1) := by decide +kernel
theorem dX3_tell_85 : decode cX3_tell 85 = .ok (.iadd, 1) := by decide +kernel
theorem dX3_tell_86 : decode cX3_tell 86 = .ok (.invokevirtual 60, 3) := by decide +kernel
theorem dX3_tell_89 : decode cX3_tell 89 = .ok (.goto 66, 3) := by decide +kernel
theorem dX3_tell_92 : decode cX3_tell 92 = .ok (.aload_n 0, 1) := by decide +kernel
theorem dX3_tell_93 : decode cX3_tell 93 = .ok (.getfield 37, 3) := by decide +kernel
theorem dX3_tell_96 : decode cX3_tell 96 = .ok (.aload_n 0, 1) := by decide +kernel
theorem dX3_tell_97 : decode cX3_tell 97 = .ok (.getfield 43, 3) := by decide +kernel
theorem dX3_tell_100 : decode cX3_tell 100 = .ok (.iload_n 3, 1) := by decide +kernel
theorem dX3_tell_101 : decode cX3_tell 101 = .ok (.aload_n 1, 1) := by decide +kernel
theorem dX3_tell_102 : decode cX3_tell 102 = .ok (.iload_n 2, 1) := by decide +kernel
theorem dX3_tell_103 : decode cX3_tell 103 = .ok (.iconst 2, 1) := by decide +kernel
theorem dX3_tell_104 : decode cX3_tell 104 = .ok (.iadd, 1) := by decide +kernel
theorem dX3_tell_105 : decode cX3_tell 105 = .ok (.iaload, 1) := by decide +kernel
theorem dX3_tell_106 : decode cX3_tell 106 = .ok (.aload_n 1, 1) := by decide +kernel
theorem dX3_tell_107 : decode cX3_tell 107 = .ok (.iload_n 2, 1) := by decide +kernel
theorem dX3_tell_108 : decode cX3_tell 108 = .ok (.iconst 3, 1) := by decide +kernel
theorem dX3_tell_109 : decode cX3_tell 109 = .ok (.iadd, 1) := by decide +kernel
theorem dX3_tell_110 : decode cX3_tell 110 = .ok (.iaload, 1) := by decide +kernel
theorem dX3_tell_111 : decode cX3_tell 111 = .ok (.invokestatic 64, 3) := by decide +kernel
theorem dX3_tell_114 : decode cX3_tell 114 = .ok (.goto 41, 3) := by decide +kernel
theorem dX3_tell_117 : decode cX3_tell 117 = .ok (.aload_n 0, 1) := by decide +kernel
theorem dX3_tell_118 : decode cX3_tell 118 = .ok (.getfield 40, 3) := by decide +kernel
theorem dX3_tell_121 : decode cX3_tell 121 = .ok (.aload_n 0, 1) := by decide +kernel
theorem dX3_tell_122 : decode cX3_tell 122 = .ok (.getfield 46, 3) := by decide +kernel
theorem dX3_tell_125 : decode cX3_tell 125 = .ok (.iload_n 3, 1) := by decide +kernel
theorem dX3_tell_126 : decode cX3_tell 126 = .ok (.aload_n 1, 1) := by decide +kernel
theorem dX3_tell_127 : decode cX3_tell 127 = .ok (.iload_n 2, 1) := by decide +kernel
theorem dX3_tell_128 : decode cX3_tell 128 = .ok (.iconst 2, 1) := by decide +kernel
theorem dX3_tell_129 : decode cX3_tell 129 = .ok (.iadd, 1) := by decide +kernel
theorem dX3_tell_130 : decode cX3_tell 130 = .ok (.iaload, 1) := by decide +kernel
theorem dX3_tell_131 : decode cX3_tell 131 = .ok (.aload_n 1, 1) := by decide +kernel
theorem dX3_tell_132 : decode cX3_tell 132 = .ok (.iload_n 2, 1) := by decide +kernel
theorem dX3_tell_133 : decode cX3_tell 133 = .ok (.iconst 3, 1) := by decide +kernel
theorem dX3_tell_134 : decode cX3_tell 134 = .ok (.iadd, 1) := by decide +kernel
theorem dX3_tell_135 : decode cX3_tell 135 = .ok (.iaload, 1) := by decide +kernel
theorem dX3_tell_136 : decode cX3_tell 136 = .ok (.invokestatic 64, 3) := by decide +kernel
theorem dX3_tell_139 : decode cX3_tell 139 = .ok (.goto 16, 3) := by decide +kernel
theorem dX3_tell_142 : decode cX3_tell 142 = .ok (.aload_n 0, 1) := by decide +kernel
theorem dX3_tell_143 : decode cX3_tell 143 = .ok (.iload_n 3, 1) := by decide +kernel
theorem dX3_tell_144 : decode cX3_tell 144 = .ok (.putfield 49, 3) := by decide +kernel
theorem dX3_tell_147 : decode cX3_tell 147 = .ok (.goto 8, 3) := by decide +kernel
theorem dX3_tell_150 : decode cX3_tell 150 = .ok (.aload_n 0, 1) := by decide +kernel
theorem dX3_tell_151 : decode cX3_tell 151 = .ok (.iload_n 3, 1) := by decide +kernel
theorem dX3_tell_152 : decode cX3_tell 152 = .ok (.putfield 53, 3) := by decide +kernel
theorem dX3_tell_155 : decode cX3_tell 155 = .ok (.return_, 1) := by decide +kernel
theorem dX3_tellFlow_0 : decode cX3_tellFlow 0 = .ok (.aload_n 0, 1) := by decide +kernel
theorem dX3_tellFlow_1 : decode cX3_tellFlow 1 = .ok (.getfield 21, 3) := by decide +kernel
theorem dX3_tellFlow_4 : decode cX3_tellFlow 4 = .ok (.iload_n 1, 1) := by decide +kernel
theorem dX3_tellFlow_5 : decode cX3_tellFlow 5 = .ok (.iconst 1, 1) := by decide +kernel
theorem dX3_tellFlow_6 : decode cX3_tellFlow 6 = .ok (.bastore, 1) := by decide +kernel
theorem dX3_tellFlow_7 : decode cX3_tellFlow 7 = .ok (.aload_n 0, 1) := by decide +kernel
theorem dX3_tellFlow_8 : decode cX3_tellFlow 8 = .ok (.getfield 25, 3) := by decide +kernel
theorem dX3_tellFlow_11 : decode cX3_tellFlow 11 = .ok (.iload_n 1, 1) := by decide +kernel
theorem dX3_tellFlow_12 : decode cX3_tellFlow 12 = .ok (.aload_n 2, 1) := by decide +kernel
theorem dX3_tellFlow_13 : decode cX3_tellFlow 13 = .ok (.iload_n 3, 1) := by decide +kernel
theorem dX3_tellFlow_14 : decode cX3_tellFlow 14 = .ok (.iaload, 1) := by decide +kernel
theorem dX3_tellFlow_15 : decode cX3_tellFlow 15 = .ok (.iastore, 1) := by decide +kernel
theorem dX3_tellFlow_16 : decode cX3_tellFlow 16 = .ok (.aload_n 0, 1) := by decide +kernel
theorem dX3_tellFlow_17 : decode cX3_tellFlow 17 = .ok (.getfield 28, 3) := by decide +kernel
theorem dX3_tellFlow_20 : decode cX3_tellFlow 20 = .ok (.iload_n 1, 1) := by decide +kernel
theorem dX3_tellFlow_21 : decode cX3_tellFlow 21 = .ok (.aload_n 2, 1) := by decide +kernel
theorem dX3_tellFlow_22 : decode cX3_tellFlow 22 = .ok (.iload_n 3, 1) := by decide +kernel
theorem dX3_tellFlow_23 : decode cX3_tellFlow 23 = .ok (.iconst 1, 1) := by decide +kernel
theorem dX3_tellFlow_24 : decode cX3_tellFlow 24 = .ok (.iadd, 1) := by decide +kernel
theorem dX3_tellFlow_25 : decode cX3_tellFlow 25 = .ok (.iaload, 1) := by decide +kernel
theorem dX3_tellFlow_26 : decode cX3_tellFlow 26 = .ok (.iastore, 1) := by decide +kernel
theorem dX3_tellFlow_27 : decode cX3_tellFlow 27 = .ok (.iconst 0, 1) := by decide +kernel
theorem dX3_tellFlow_28 : decode cX3_tellFlow 28 = .ok (.istore 4, 2) := by decide +kernel
theorem dX3_tellFlow_30 : decode cX3_tellFlow 30 = .ok (.iload 4, 2) := by decide +kernel
theorem dX3_tellFlow_32 : decode cX3_tellFlow 32 = .ok (.iconst 3, 1) := by decide +kernel
theorem dX3_tellFlow_33 : decode cX3_tellFlow 33 = .ok (.if_icmp .ge 28, 3) := by decide +kernel
theorem dX3_tellFlow_36 : decode cX3_tellFlow 36 = .ok (.aload_n 0, 1) := by decide +kernel
theorem dX3_tellFlow_37 : decode cX3_tellFlow 37 = .ok (.getfield 31, 3) := by decide +kernel
theorem dX3_tellFlow_40 : decode cX3_tellFlow 40 = .ok (.iload_n 1, 1) := by decide +kernel
theorem dX3_tellFlow_41 : decode cX3_tellFlow 41 = .ok (.iconst 3, 1) := by decide +kernel
theorem dX3_tellFlow_42 : decode cX3_tellFlow 42 = .ok (.imul, 1) := by decide +kernel
theorem dX3_tellFlow_43 : decode cX3_tellFlow 43 = .ok (.iload 4, 2) := by decide +kernel
theorem dX3_tellFlow_45 : decode cX3_tellFlow 45 = .ok (.iadd, 1) := by decide +kernel
theorem dX3_tellFlow_46 : decode cX3_tellFlow 46 = .ok (.aload_n 2, 1) := by decide +kernel
theorem dX3_tellFlow_47 : decode cX3_tellFlow 47 = .ok (.iload_n 3, 1) := by decide +kernel
theorem dX3_tellFlow_48 : decode cX3_tellFlow 48 = .ok (.iconst 2, 1) := by decide +kernel
theorem dX3_tellFlow_49 : decode cX3_tellFlow 49 = .ok (.iadd, 1) := by decide +kernel
theorem dX3_tellFlow_50 : decode cX3_tellFlow 50 = .ok (.iload 4, 2) := by decide +kernel
theorem dX3_tellFlow_52 : decode cX3_tellFlow 52 = .ok (.iadd, 1) := by decide +kernel
theorem dX3_tellFlow_53 : decode cX3_tellFlow 53 = .ok (.iaload, 1) := by decide +kernel
theorem dX3_tellFlow_54 : decode cX3_tellFlow 54 = .ok (.iastore, 1) := by decide +kernel
theorem dX3_tellFlow_55 : decode cX3_tellFlow 55 = .ok (.iinc 4 1, 3) := by decide +kernel
theorem dX3_tellFlow_58 : decode cX3_tellFlow 58 = .ok (.goto (-28), 3) := by decide +kernel
theorem dX3_tellFlow_61 : decode cX3_tellFlow 61 = .ok (.aload_n 0, 1) := by decide +kernel
theorem dX3_tellFlow_62 : decode cX3_tellFlow 62 = .ok (.getfield 34, 3) := by decide +kernel
theorem dX3_tellFlow_65 : decode cX3_tellFlow 65 = .ok (.iload_n 1, 1) := by decide +kernel
theorem dX3_tellFlow_66 : decode cX3_tellFlow 66 = .ok (.aload_n 2, 1) := by decide +kernel
theorem dX3_tellFlow_67 : decode cX3_tellFlow 67 = .ok (.iload_n 3, 1) := by decide +kernel
theorem dX3_tellFlow_68 : decode cX3_tellFlow 68 = .ok (.iconst 2, 1) := by decide +kernel
theorem dX3_tellFlow_69 : decode cX3_tellFlow 69 = .ok (.iadd, 1) := by decide +kernel
theorem dX3_tellFlow_70 : decode cX3_tellFlow 70 = .ok (.iconst 3, 1) := by decide +kernel
theorem dX3_tellFlow_71 : decode cX3_tellFlow 71 = .ok (.iadd, 1) := by decide +kernel
theorem dX3_tellFlow_72 : decode cX3_tellFlow 72 = .ok (.iaload, 1) := by decide +kernel
theorem dX3_tellFlow_73 : decode cX3_tellFlow 73 = .ok (.iastore, 1) := by decide +kernel
theorem dX3_tellFlow_74 : decode cX3_tellFlow 74 = .ok (.return_, 1) := by decide +kernel
theorem dX3_tellWay_0 : decode cX3_tellWay 0 = .ok (.aload_n 0, 1) := by decide +kernel
theorem dX3_tellWay_1 : decode cX3_tellWay 1 = .ok (.iload_n 2, 1) := by decide +kernel
theorem dX3_tellWay_2 : decode cX3_tellWay 2 = .ok (.bipush 10, 2) := by decide +kernel
theorem dX3_tellWay_4 : decode cX3_tellWay 4 = .ok (.imul, 1) := by decide +kernel
theorem dX3_tellWay_5 : decode cX3_tellWay 5 = .ok (.iload_n 3, 1) := by decide +kernel
theorem dX3_tellWay_6 : decode cX3_tellWay 6 = .ok (.iadd, 1) := by decide +kernel
theorem dX3_tellWay_7 : decode cX3_tellWay 7 = .ok (.iload 4, 2) := by decide +kernel
theorem dX3_tellWay_9 : decode cX3_tellWay 9 = .ok (.iastore, 1) := by decide +kernel
theorem dX3_tellWay_10 : decode cX3_tellWay 10 = .ok (.aload_n 0, 1) := by decide +kernel
theorem dX3_tellWay_11 : decode cX3_tellWay 11 = .ok (.iload_n 3, 1) := by decide +kernel
theorem dX3_tellWay_12 : decode cX3_tellWay 12 = .ok (.bipush 10, 2) := by decide +kernel
theorem dX3_tellWay_14 : decode cX3_tellWay 14 = .ok (.imul, 1) := by decide +kernel
theorem dX3_tellWay_15 : decode cX3_tellWay 15 = .ok (.iload_n 2, 1) := by decide +kernel
theorem dX3_tellWay_16 : decode cX3_tellWay 16 = .ok (.iadd, 1) := by decide +kernel
theorem dX3_tellWay_17 : decode cX3_tellWay 17 = .ok (.iload 4, 2) := by decide +kernel
theorem dX3_tellWay_19 : decode cX3_tellWay 19 = .ok (.iastore, 1) := by decide +kernel
theorem dX3_tellWay_20 : decode cX3_tellWay 20 = .ok (.iload 4, 2) := by decide +kernel
theorem dX3_tellWay_22 : decode cX3_tellWay 22 = .ok (.ifCond .le 7, 3) := by decide +kernel
theorem dX3_tellWay_25 : decode cX3_tellWay 25 = .ok (.iconst 1, 1) := by decide +kernel
theorem dX3_tellWay_26 : decode cX3_tellWay 26 = .ok (.goto 4, 3) := by decide +kernel
theorem dX3_tellWay_29 : decode cX3_tellWay 29 = .ok (.iconst 0, 1) := by decide +kernel
theorem dX3_tellWay_30 : decode cX3_tellWay 30 = .ok (.istore 5, 2) := by decide +kernel
theorem dX3_tellWay_32 : decode cX3_tellWay 32 = .ok (.aload_n 1, 1) := by decide +kernel
theorem dX3_tellWay_33 : decode cX3_tellWay 33 = .ok (.iload_n 2, 1) := by decide +kernel
theorem dX3_tellWay_34 : decode cX3_tellWay 34 = .ok (.aload_n 1, 1) := by decide +kernel
theorem dX3_tellWay_35 : decode cX3_tellWay 35 = .ok (.iload_n 2, 1) := by decide +kernel
theorem dX3_tellWay_36 : decode cX3_tellWay 36 = .ok (.iaload, 1) := by decide +kernel
theorem dX3_tellWay_37 : decode cX3_tellWay 37 = .ok (.iconst 1, 1) := by decide +kernel
theorem dX3_tellWay_38 : decode cX3_tellWay 38 = .ok (.iload_n 3, 1) := by decide +kernel
theorem dX3_tellWay_39 : decode cX3_tellWay 39 = .ok (.ishl, 1) := by decide +kernel
theorem dX3_tellWay_40 : decode cX3_tellWay 40 = .ok (.iconst (-1), 1) := by decide +kernel
theorem dX3_tellWay_41 : decode cX3_tellWay 41 = .ok (.ixor, 1) := by decide +kernel
theorem dX3_tellWay_42 : decode cX3_tellWay 42 = .ok (.iand, 1) := by decide +kernel
theorem dX3_tellWay_43 : decode cX3_tellWay 43 = .ok (.iload 5, 2) := by decide +kernel
theorem dX3_tellWay_45 : decode cX3_tellWay 45 = .ok (.iload_n 3, 1) := by decide +kernel
theorem dX3_tellWay_46 : decode cX3_tellWay 46 = .ok (.ishl, 1) := by decide +kernel
theorem dX3_tellWay_47 : decode cX3_tellWay 47 = .ok (.ior, 1) := by decide +kernel
theorem dX3_tellWay_48 : decode cX3_tellWay 48 = .ok (.iastore, 1) := by decide +kernel
theorem dX3_tellWay_49 : decode cX3_tellWay 49 = .ok (.aload_n 1, 1) := by decide +kernel
theorem dX3_tellWay_50 : decode cX3_tellWay 50 = .ok (.iload_n 3, 1) := by decide +kernel
theorem dX3_tellWay_51 : decode cX3_tellWay 51 = .ok (.aload_n 1, 1) := by decide +kernel
theorem dX3_tellWay_52 : decode cX3_tellWay 52 = .ok (.iload_n 3, 1) := by decide +kernel
theorem dX3_tellWay_53 : decode cX3_tellWay 53 = .ok (.iaload, 1) := by decide +kernel
theorem dX3_tellWay_54 : decode cX3_tellWay 54 = .ok (.iconst 1, 1) := by decide +kernel
theorem dX3_tellWay_55 : decode cX3_tellWay 55 = .ok (.iload_n 2, 1) := by decide +kernel
theorem dX3_tellWay_56 : decode cX3_tellWay 56 = .ok (.ishl, 1) := by decide +kernel
theorem dX3_tellWay_57 : decode cX3_tellWay 57 = .ok (.iconst (-1), 1) := by decide +kernel
theorem dX3_tellWay_58 : decode cX3_tellWay 58 = .ok (.ixor, 1) := by decide +kernel
theorem dX3_tellWay_59 : decode cX3_tellWay 59 = .ok (.iand, 1) := by decide +kernel
theorem dX3_tellWay_60 : decode cX3_tellWay 60 = .ok (.iload 5, 2) := by decide +kernel
theorem dX3_tellWay_62 : decode cX3_tellWay 62 = .ok (.iload_n 2, 1) := by decide +kernel
theorem dX3_tellWay_63 : decode cX3_tellWay 63 = .ok (.ishl, 1) := by decide +kernel
theorem dX3_tellWay_64 : decode cX3_tellWay 64 = .ok (.ior, 1) := by decide +kernel
theorem dX3_tellWay_65 : decode cX3_tellWay 65 = .ok (.iastore, 1) := by decide +kernel
theorem dX3_tellWay_66 : decode cX3_tellWay 66 = .ok (.return_, 1) := by decide +kernel
theorem dX3_milesOf_0 : decode cX3_milesOf 0 = .ok (.aload_n 0, 1) := by decide +kernel
theorem dX3_milesOf_1 : decode cX3_milesOf 1 = .ok (.getfield 37, 3) := by decide +kernel
theorem dX3_milesOf_4 : decode cX3_milesOf 4 = .ok (.iload_n 1, 1) := by decide +kernel
theorem dX3_milesOf_5 : decode cX3_milesOf 5 = .ok (.bipush 10, 2) := by decide +kernel
theorem dX3_milesOf_7 : decode cX3_milesOf 7 = .ok (.imul, 1) := by decide +kernel
theorem dX3_milesOf_8 : decode cX3_milesOf 8 = .ok (.iload_n 2, 1) := by decide +kernel
theorem dX3_milesOf_9 : decode cX3_milesOf 9 = .ok (.iadd, 1) := by decide +kernel
theorem dX3_milesOf_10 : decode cX3_milesOf 10 = .ok (.iaload, 1) := by decide +kernel
theorem dX3_milesOf_11 : decode cX3_milesOf 11 = .ok (.istore 4, 2) := by decide +kernel
theorem dX3_milesOf_13 : decode cX3_milesOf 13 = .ok (.iload_n 3, 1) := by decide +kernel
theorem dX3_milesOf_14 : decode cX3_milesOf 14 = .ok (.ifCond .eq 17, 3) := by decide +kernel
theorem dX3_milesOf_17 : decode cX3_milesOf 17 = .ok (.aload_n 0, 1) := by decide +kernel
theorem dX3_milesOf_18 : decode cX3_milesOf 18 = .ok (.getfield 40, 3) := by decide +kernel
theorem dX3_milesOf_21 : decode cX3_milesOf 21 = .ok (.iload_n 1, 1) := by decide +kernel
theorem dX3_milesOf_22 : decode cX3_milesOf 22 = .ok (.bipush 10, 2) := by decide +kernel
theorem dX3_milesOf_24 : decode cX3_milesOf 24 = .ok (.imul, 1) := by decide +kernel
theorem dX3_milesOf_25 : decode cX3_milesOf 25 = .ok (.iload_n 2, 1) := by decide +kernel
theorem dX3_milesOf_26 : decode cX3_milesOf 26 = .ok (.iadd, 1) := by decide +kernel
theorem dX3_milesOf_27 : decode cX3_milesOf 27 = .ok (.iaload, 1) := by decide +kernel
theorem dX3_milesOf_28 : decode cX3_milesOf 28 = .ok (.goto 4, 3) := by decide +kernel
theorem dX3_milesOf_31 : decode cX3_milesOf 31 = .ok (.iconst 0, 1) := by decide +kernel
theorem dX3_milesOf_32 : decode cX3_milesOf 32 = .ok (.istore 5, 2) := by decide +kernel
theorem dX3_milesOf_34 : decode cX3_milesOf 34 = .ok (.iload 4, 2) := by decide +kernel
theorem dX3_milesOf_36 : decode cX3_milesOf 36 = .ok (.ifCond .eq 8, 3) := by decide +kernel
theorem dX3_milesOf_39 : decode cX3_milesOf 39 = .ok (.iload 5, 2) := by decide +kernel
theorem dX3_milesOf_41 : decode cX3_milesOf 41 = .ok (.ifCond .ne 9, 3) := by decide +kernel
theorem dX3_milesOf_44 : decode cX3_milesOf 44 = .ok (.iload 4, 2) := by decide +kernel
theorem dX3_milesOf_46 : decode cX3_milesOf 46 = .ok (.iload 5, 2) := by decide +kernel
theorem dX3_milesOf_48 : decode cX3_milesOf 48 = .ok (.iadd, 1) := by decide +kernel
theorem dX3_milesOf_49 : decode cX3_milesOf 49 = .ok (.ireturn, 1) := by decide +kernel
theorem dX3_milesOf_50 : decode cX3_milesOf 50 = .ok (.iload 4, 2) := by decide +kernel
theorem dX3_milesOf_52 : decode cX3_milesOf 52 = .ok (.iload 5, 2) := by decide +kernel
theorem dX3_milesOf_54 : decode cX3_milesOf 54 = .ok (.invokestatic 68, 3) := by decide +kernel
theorem dX3_milesOf_57 : decode cX3_milesOf 57 = .ok (.ireturn, 1) := by decide +kernel
theorem dX3_waysFrom_0 : decode cX3_waysFrom 0 = .ok (.iload_n 2, 1) := by decide +kernel
theorem dX3_waysFrom_1 : decode cX3_waysFrom 1 = .ok (.ifCond .eq 19, 3) := by decide +kernel
theorem dX3_waysFrom_4 : decode cX3_waysFrom 4 = .ok (.aload_n 0, 1) := by decide +kernel
theorem dX3_waysFrom_5 : decode cX3_waysFrom 5 = .ok (.getfield 43, 3) := by decide +kernel
theorem dX3_waysFrom_8 : decode cX3_waysFrom 8 = .ok (.iload_n 1, 1) := by decide +kernel
theorem dX3_waysFrom_9 : decode cX3_waysFrom 9 = .ok (.iaload, 1) := by decide +kernel
theorem dX3_waysFrom_10 : decode cX3_waysFrom 10 = .ok (.aload_n 0, 1) := by decide +kernel
theorem dX3_waysFrom_11 : decode cX3_waysFrom 11 = .ok (.getfield 46, 3) := by decide +kernel
theorem dX3_waysFrom_14 : decode cX3_waysFrom 14 = .ok (.iload_n 1, 1) := by decide +kernel
theorem dX3_waysFrom_15 : decode cX3_waysFrom 15 = .ok (.iaload, 1) := by decide +kernel
theorem dX3_waysFrom_16 : decode cX3_waysFrom 16 = .ok (.ior, 1) := by decide +kernel
theorem dX3_waysFrom_17 : decode cX3_waysFrom 17 = .ok (.goto 9, 3) := by decide +kernel
theorem dX3_waysFrom_20 : decode cX3_waysFrom 20 = .ok (.aload_n 0, 1) := by decide +kernel
theorem dX3_waysFrom_21 : decode cX3_waysFrom 21 = .ok (.getfield 43, 3) := by decide +kernel
theorem dX3_waysFrom_24 : decode cX3_waysFrom 24 = .ok (.iload_n 1, 1) := by decide +kernel
theorem dX3_waysFrom_25 : decode cX3_waysFrom 25 = .ok (.iaload, 1) := by decide +kernel
theorem dX3_waysFrom_26 : decode cX3_waysFrom 26 = .ok (.ireturn, 1) := by decide +kernel
theorem dX4_init_0 : decode cX4_init 0 = .ok (.aload_n 0, 1) := by decide +kernel
theorem dX4_init_1 : decode cX4_init 1 = .ok (.invokespecial 3, 3) := by decide +kernel
theorem dX4_init_4 : decode cX4_init 4 = .ok (.aload_n 0, 1) := by decide +kernel
theorem dX4_init_5 : decode cX4_init 5 = .ok (.aload_n 1, 1) := by decide +kernel
theorem dX4_init_6 : decode cX4_init 6 = .ok (.putfield 9, 3) := by decide +kernel
theorem dX4_init_9 : decode cX4_init 9 = .ok (.aload_n 0, 1) := by decide +kernel
theorem dX4_init_10 : decode cX4_init 10 = .ok (.aload_n 2, 1) := by decide +kernel
theorem dX4_init_11 : decode cX4_init 11 = .ok (.putfield 15, 3) := by decide +kernel
theorem dX4_init_14 : decode cX4_init 14 = .ok (.aload_n 0, 1) := by decide +kernel
theorem dX4_init_15 : decode cX4_init 15 = .ok (.aload_n 3, 1) := by decide +kernel
theorem dX4_init_16 : decode cX4_init 16 = .ok (.putfield 19, 3) := by decide +kernel
theorem dX4_init_19 : decode cX4_init 19 = .ok (.aload_n 0, 1) := by decide +kernel
theorem dX4_init_20 : decode cX4_init 20 = .ok (.bipush 10, 2) := by decide +kernel
theorem dX4_init_22 : decode cX4_init 22 = .ok (.newarray .int, 2) := by decide +kernel
theorem dX4_init_24 : decode cX4_init 24 = .ok (.putfield 23, 3) := by decide +kernel
theorem dX4_init_27 : decode cX4_init 27 = .ok (.return_, 1) := by decide +kernel
theorem dX4_fewestLegs_0 : decode cX4_fewestLegs 0 = .ok (.iconst 1, 1) := by decide +kernel
theorem dX4_fewestLegs_1 : decode cX4_fewestLegs 1 = .ok (.iload_n 1, 1) := by decide +kernel
theorem dX4_fewestLegs_2 : decode cX4_fewestLegs 2 = .ok (.ishl, 1) := by decide +kernel
theorem dX4_fewestLegs_3 : decode cX4_fewestLegs 3 = .ok (.istore 5, 2) := by decide +kernel
theorem dX4_fewestLegs_5 : decode cX4_fewestLegs 5 = .ok (.iload 5, 2) := by decide +kernel
theorem dX4_fewestLegs_7 : decode cX4_fewestLegs 7 = .ok (.istore 6, 2) := by decide +kernel
theorem dX4_fewestLegs_9 : decode cX4_fewestLegs 9 = .ok (.iconst 0, 1) := by decide +kernel
theorem dX4_fewestLegs_10 : decode cX4_fewestLegs 10 = .ok (.istore 7, 2) := by decide +kernel
theorem dX4_fewestLegs_12 : decode cX4_fewestLegs 12 = .ok (.iload 7, 2) := by decide +kernel
theorem dX4_fewestLegs_14 : decode cX4_fewestLegs 14 = .ok (.bipush 10, 2) := by decide +kernel
theorem dX4_fewestLegs_16 : decode cX4_fewestLegs 16 = .ok (.if_icmp .ge 91, 3) := by decide +kernel
theorem dX4_fewestLegs_19 : decode cX4_fewestLegs 19 = .ok (.iload 5, 2) := by decide +kernel
theorem dX4_fewestLegs_21 : decode cX4_fewestLegs 21 = .ok (.iload_n 2, 1) := by decide +kernel
theorem dX4_fewestLegs_22 : decode cX4_fewestLegs 22 = .ok (.invokestatic 27, 3) := by decide +kernel
theorem dX4_fewestLegs_25 : decode cX4_fewestLegs 25 = .ok (.ifCond .eq 6, 3) := by decide +kernel
theorem dX4_fewestLegs_28 : decode cX4_fewestLegs 28 = .ok (.iload 7, 2) := by decide +kernel
theorem dX4_fewestLegs_30 : decode cX4_fewestLegs 30 = .ok (.ireturn, 1) := by decide +kernel
theorem dX4_fewestLegs_31 : decode cX4_fewestLegs 31 = .ok (.iconst 0, 1) := by decide +kernel
theorem dX4_fewestLegs_32 : decode cX4_fewestLegs 32 = .ok (.istore 8, 2) := by decide +kernel
theorem dX4_fewestLegs_34 : decode cX4_fewestLegs 34 = .ok (.iconst 0, 1) := by decide +kernel
theorem dX4_fewestLegs_35 : decode cX4_fewestLegs 35 = .ok (.istore 9, 2) := by decide +kernel
theorem dX4_fewestLegs_37 : decode cX4_fewestLegs 37 = .ok (.iload 9, 2) := by decide +kernel
theorem dX4_fewestLegs_39 : decode cX4_fewestLegs 39 = .ok (.bipush 10, 2) := by decide +kernel
theorem dX4_fewestLegs_41 : decode cX4_fewestLegs 41 = .ok (.if_icmp .ge 35, 3) := by decide +kernel
theorem dX4_fewestLegs_44 : decode cX4_fewestLegs 44 = .ok (.iload 6, 2) := by decide +kernel
theorem dX4_fewestLegs_46 : decode cX4_fewestLegs 46 = .ok (.iload 9, 2) := by decide +kernel
theorem dX4_fewestLegs_48 : decode cX4_fewestLegs 48 = .ok (.invokestatic 27, 3) := by decide +kernel
theorem dX4_fewestLegs_51 : decode cX4_fewestLegs 51 = .ok (.ifCond .eq 19, 3) := by decide +kernel
theorem dX4_fewestLegs_54 : decode cX4_fewestLegs 54 = .ok (.iload 8, 2) := by decide +kernel
theorem dX4_fewestLegs_56 : decode cX4_fewestLegs 56 = .ok (.aload_n 0, 1) := by decide +kernel
theorem dX4_fewestLegs_57 : decode cX4_fewestLegs 57 = .ok (.getfield 9, 3) := by decide +kernel
theorem dX4_fewestLegs_60 : decode cX4_fewestLegs 60 = .ok (.iload 9, 2) := by decide +kernel
theorem dX4_fewestLegs_62 : decode cX4_fewestLegs 62 = .ok (.iload 4, 2) := by decide +kernel
theorem dX4_fewestLegs_64 : decode cX4_fewestLegs 64 = .ok (.invokevirtual 31, 3) := by decide +kernel
theorem dX4_fewestLegs_67 : decode cX4_fewestLegs 67 = .ok (.ior, 1) := by decide +kernel
theorem dX4_fewestLegs_68 : decode cX4_fewestLegs 68 = .ok (.istore 8, 2) := by decide +kernel
theorem dX4_fewestLegs_70 : decode cX4_fewestLegs 70 = .ok (.iinc 9 1, 3) := by decide +kernel
theorem dX4_fewestLegs_73 : decode cX4_fewestLegs 73 = .ok (.goto (-36), 3) := by decide +kernel
theorem dX4_fewestLegs_76 : decode cX4_fewestLegs 76 = .ok (.iload 8, 2) := by decide +kernel
theorem dX4_fewestLegs_78 : decode cX4_fewestLegs 78 = .ok (.iload_n 3, 1) := by decide +kernel
theorem dX4_fewestLegs_79 : decode cX4_fewestLegs 79 = .ok (.iand, 1) := by decide +kernel
theorem dX4_fewestLegs_80 : decode cX4_fewestLegs 80 = .ok (.iload 5, 2) := by decide +kernel
theorem dX4_fewestLegs_82 : decode cX4_fewestLegs 82 = .ok (.iconst (-1), 1) := by decide +kernel
theorem dX4_fewestLegs_83 : decode cX4_fewestLegs 83 = .ok (.ixor, 1) := by decide +kernel
theorem dX4_fewestLegs_84 : decode cX4_fewestLegs 84 = .ok (.iand, 1) := by decide +kernel
theorem dX4_fewestLegs_85 : decode cX4_fewestLegs 85 = .ok (.istore 6, 2) := by decide +kernel
theorem dX4_fewestLegs_87 : decode cX4_fewestLegs 87 = .ok (.iload 6, 2) := by decide +kernel
theorem dX4_fewestLegs_89 : decode cX4_fewestLegs 89 = .ok (.ifCond .ne 5, 3) := by decide +kernel
theorem dX4_fewestLegs_92 : decode cX4_fewestLegs 92 = .ok (.iconst (-1), 1) := by decide +kernel
theorem dX4_fewestLegs_93 : decode cX4_fewestLegs 93 = .ok (.ireturn, 1) := by decide +kernel
theorem dX4_fewestLegs_94 : decode cX4_fewestLegs 94 = .ok (.iload 5, 2) := by decide +kernel
theorem dX4_fewestLegs_96 : decode cX4_fewestLegs 96 = .ok (.iload 6, 2) := by decide +kernel
theorem dX4_fewestLegs_98 : decode cX4_fewestLegs 98 = .ok (.ior, 1) := by decide +kernel
theorem dX4_fewestLegs_99 : decode cX4_fewestLegs 99 = .ok (.istore 5, 2) := by decide +kernel
theorem dX4_fewestLegs_101 : decode cX4_fewestLegs 101 = .ok (.iinc 7 1, 3) := by decide +kernel
theorem dX4_fewestLegs_104 : decode cX4_fewestLegs 104 = .ok (.goto (-92), 3) := by decide +kernel
theorem dX4_fewestLegs_107 : decode cX4_fewestLegs 107 = .ok (.iconst (-1), 1) := by decide +kernel
theorem dX4_fewestLegs_108 : decode cX4_fewestLegs 108 = .ok (.ireturn, 1) := by decide +kernel
theorem dX4_measureMiles_0 : decode cX4_measureMiles 0 = .ok (.iconst 0, 1) := by decide +kernel
theorem dX4_measureMiles_1 : decode cX4_measureMiles 1 = .ok (.istore 4, 2) := by decide +kernel
theorem dX4_measureMiles_3 : decode cX4_measureMiles 3 = .ok (.iload 4, 2) := by decide +kernel
theorem dX4_measureMiles_5 : decode cX4_measureMiles 5 = .ok (.bipush 10, 2) := by decide +kernel
theorem dX4_measureMiles_7 : decode cX4_measureMiles 7 = .ok (.if_icmp .ge 17, 3) := by decide +kernel
theorem dX4_measureMiles_10 : decode cX4_measureMiles 10 = .ok (.aload_n 0, 1) := by decide +kernel
theorem dX4_measureMiles_11 : decode cX4_measureMiles 11 = .ok (.getfield 23, 3) := by decide +kernel
theorem dX4_measureMiles_14 : decode cX4_measureMiles 14 = .ok (.iload 4, 2) := by decide +kernel
theorem dX4_measureMiles_16 : decode cX4_measureMiles 16 = .ok (.iconst (-1), 1) := by decide +kernel
theorem dX4_measureMiles_17 : decode cX4_measureMiles 17 = .ok (.iastore, 1) := by decide +kernel
theorem dX4_measureMiles_18 : decode cX4_measureMiles 18 = .ok (.iinc 4 1, 3) := by decide +kernel
theorem dX4_measureMiles_21 : decode cX4_measureMiles 21 = .ok (.goto (-18), 3) := by decide +kernel
theorem dX4_measureMiles_24 : decode cX4_measureMiles 24 = .ok (.aload_n 0, 1) := by decide +kernel
theorem dX4_measureMiles_25 : decode cX4_measureMiles 25 = .ok (.getfield 23, 3) := by decide +kernel
theorem dX4_measureMiles_28 : decode cX4_measureMiles 28 = .ok (.iload_n 1, 1) := by decide +kernel
theorem dX4_measureMiles_29 : decode cX4_measureMiles 29 = .ok (.iconst 0, 1) := by decide +kernel
theorem dX4_measureMiles_30 : decode cX4_measureMiles 30 = .ok (.iastore, 1) := by decide +kernel
theorem dX4_measureMiles_31 : decode cX4_measureMiles 31 = .ok (.sipush 1023, 3) := by decide +kernel
theorem dX4_measureMiles_34 : decode cX4_measureMiles 34 = .ok (.istore 4, 2) := by decide +kernel
theorem dX4_measureMiles_36 : decode cX4_measureMiles 36 = .ok (.iconst 0, 1) := by decide +kernel
theorem dX4_measureMiles_37 : decode cX4_measureMiles 37 = .ok (.istore 5, 2) := by decide +kernel
theorem dX4_measureMiles_39 : decode cX4_measureMiles 39 = .ok (.iload 5, 2) := by decide +kernel
theorem dX4_measureMiles_41 : decode cX4_measureMiles 41 = .ok (.bipush 10, 2) := by decide +kernel
theorem dX4_measureMiles_43 : decode cX4_measureMiles 43 = .ok (.if_icmp .ge 46, 3) := by decide +kernel
theorem dX4_measureMiles_46 : decode cX4_measureMiles 46 = .ok (.aload_n 0, 1) := by decide +kernel
theorem dX4_measureMiles_47 : decode cX4_measureMiles 47 = .ok (.iload 4, 2) := by decide +kernel
theorem dX4_measureMiles_49 : decode cX4_measureMiles 49 = .ok (.invokevirtual 37, 3) := by decide +kernel
theorem dX4_measureMiles_52 : decode cX4_measureMiles 52 = .ok (.istore 6, 2) := by decide +kernel
theorem dX4_measureMiles_54 : decode cX4_measureMiles 54 = .ok (.iload 6, 2) := by decide +kernel
theorem dX4_measureMiles_56 : decode cX4_measureMiles 56 = .ok (.iconst (-1), 1) := by decide +kernel
theorem dX4_measureMiles_57 : decode cX4_measureMiles 57 = .ok (.if_icmp .ne 4, 3) := by decide +kernel
theorem dX4_measureMiles_60 : decode cX4_measureMiles 60 = .ok (.return_, 1) := by decide +kernel
theorem dX4_measureMiles_61 : decode cX4_measureMiles 61 = .ok (.iload 4, 2) := by decide +kernel
theorem dX4_measureMiles_63 : decode cX4_measureMiles 63 = .ok (.iconst 1, 1) := by decide +kernel
theorem dX4_measureMiles_64 : decode cX4_measureMiles 64 = .ok (.iload 6, 2) := by decide +kernel
theorem dX4_measureMiles_66 : decode cX4_measureMiles 66 = .ok (.ishl, 1) := by decide +kernel
theorem dX4_measureMiles_67 : decode cX4_measureMiles 67 = .ok (.iconst (-1), 1) := by decide +kernel
theorem dX4_measureMiles_68 : decode cX4_measureMiles 68 = .ok (.ixor, 1) := by decide +kernel
theorem dX4_measureMiles_69 : decode cX4_measureMiles 69 = .ok (.iand, 1) := by decide +kernel
theorem dX4_measureMiles_70 : decode cX4_measureMiles 70 = .ok (.istore 4, 2) := by decide +kernel
theorem dX4_measureMiles_72 : decode cX4_measureMiles 72 = .ok (.aload_n 0, 1) := by decide +kernel
theorem dX4_measureMiles_73 : decode cX4_measureMiles 73 = .ok (.iload 6, 2) := by decide +kernel
theorem dX4_measureMiles_75 : decode cX4_measureMiles 75 = .ok (.iload 4, 2) := by decide +kernel
theorem dX4_measureMiles_77 : decode cX4_measureMiles 77 = .ok (.iload_n 2, 1) := by decide +kernel
theorem dX4_measureMiles_78 : decode cX4_measureMiles 78 = .ok (.iand, 1) := by decide +kernel
theorem dX4_measureMiles_79 : decode cX4_measureMiles 79 = .ok (.iload_n 3, 1) := by decide +kernel
theorem dX4_measureMiles_80 : decode cX4_measureMiles 80 = .ok (.invokevirtual 41, 3) := by decide +kernel
theorem dX4_measureMiles_83 : decode cX4_measureMiles 83 = .ok (.iinc 5 1, 3) := by decide +kernel
theorem dX4_measureMiles_86 : decode cX4_measureMiles 86 = .ok (.goto (-47), 3) := by decide +kernel
theorem dX4_measureMiles_89 : decode cX4_measureMiles 89 = .ok (.return_, 1) := by decide +kernel
theorem dX4_nearestOf_0 : decode cX4_nearestOf 0 = .ok (.iconst (-1), 1) := by decide +kernel
theorem dX4_nearestOf_1 : decode cX4_nearestOf 1 = .ok (.istore_n 2, 1) := by decide +kernel
theorem dX4_nearestOf_2 : decode cX4_nearestOf 2 = .ok (.iconst 0, 1) := by decide +kernel
theorem dX4_nearestOf_3 : decode cX4_nearestOf 3 = .ok (.istore_n 3, 1) := by decide +kernel
theorem dX4_nearestOf_4 : decode cX4_nearestOf 4 = .ok (.iload_n 3, 1) := by decide +kernel
theorem dX4_nearestOf_5 : decode cX4_nearestOf 5 = .ok (.bipush 10, 2) := by decide +kernel
theorem dX4_nearestOf_7 : decode cX4_nearestOf 7 = .ok (.if_icmp .ge 49, 3) := by decide +kernel
theorem dX4_nearestOf_10 : decode cX4_nearestOf 10 = .ok (.iload_n 1, 1) := by decide +kernel
theorem dX4_nearestOf_11 : decode cX4_nearestOf 11 = .ok (.iload_n 3, 1) := by decide +kernel
theorem dX4_nearestOf_12 : decode cX4_nearestOf 12 = .ok (.invokestatic 27, 3) := by decide +kernel
theorem dX4_nearestOf_15 : decode cX4_nearestOf 15 = .ok (.ifCond .eq 35, 3) := by decide +kernel
theorem dX4_nearestOf_18 : decode cX4_nearestOf 18 = .ok (.aload_n 0, 1) := by decide +kernel
theorem dX4_nearestOf_19 : decode cX4_nearestOf 19 = .ok (.getfield 23, 3) := by decide +kernel
theorem dX4_nearestOf_22 : decode cX4_nearestOf 22 = .ok (.iload_n 3, 1) := by decide +kernel
theorem dX4_nearestOf_23 : decode cX4_nearestOf 23 = .ok (.iaload, 1) := by decide +kernel
theorem dX4_nearestOf_24 : decode cX4_nearestOf 24 = .ok (.iconst (-1), 1) := by decide +kernel
theorem dX4_nearestOf_25 : decode cX4_nearestOf 25 = .ok (.if_icmp .eq 25, 3) := by decide +kernel
theorem dX4_nearestOf_28 : decode cX4_nearestOf 28 = .ok (.iload_n 2, 1) := by decide +kernel
theorem dX4_nearestOf_29 : decode cX4_nearestOf 29 = .ok (.iconst (-1), 1) := by decide +kernel
theorem dX4_nearestOf_30 : decode cX4_nearestOf 30 = .ok (.if_icmp .eq 18, 3) := by decide +kernel
theorem dX4_nearestOf_33 : decode cX4_nearestOf 33 = .ok (.aload_n 0, 1) := by decide +kernel
theorem dX4_nearestOf_34 : decode cX4_nearestOf 34 = .ok (.getfield 23, 3) := by decide +kernel
theorem dX4_nearestOf_37 : decode cX4_nearestOf 37 = .ok (.iload_n 3, 1) := by decide +kernel
theorem dX4_nearestOf_38 : decode cX4_nearestOf 38 = .ok (.iaload, 1) := by decide +kernel
theorem dX4_nearestOf_39 : decode cX4_nearestOf 39 = .ok (.aload_n 0, 1) := by decide +kernel
theorem dX4_nearestOf_40 : decode cX4_nearestOf 40 = .ok (.getfield 23, 3) := by decide +kernel
theorem dX4_nearestOf_43 : decode cX4_nearestOf 43 = .ok (.iload_n 2, 1) := by decide +kernel
theorem dX4_nearestOf_44 : decode cX4_nearestOf 44 = .ok (.iaload, 1) := by decide +kernel
theorem dX4_nearestOf_45 : decode cX4_nearestOf 45 = .ok (.if_icmp .ge 5, 3) := by decide +kernel
theorem dX4_nearestOf_48 : decode cX4_nearestOf 48 = .ok (.iload_n 3, 1) := by decide +kernel
theorem dX4_nearestOf_49 : decode cX4_nearestOf 49 = .ok (.istore_n 2, 1) := by decide +kernel
theorem dX4_nearestOf_50 : decode cX4_nearestOf 50 = .ok (.iinc 3 1, 3) := by decide +kernel
theorem dX4_nearestOf_53 : decode cX4_nearestOf 53 = .ok (.goto (-49), 3) := by decide +kernel
theorem dX4_nearestOf_56 : decode cX4_nearestOf 56 = .ok (.iload_n 2, 1) := by decide +kernel
theorem dX4_nearestOf_57 : decode cX4_nearestOf 57 = .ok (.ireturn, 1) := by decide +kernel
theorem dX4_goOnFrom_0 : decode cX4_goOnFrom 0 = .ok (.iconst 0, 1) := by decide +kernel
theorem dX4_goOnFrom_1 : decode cX4_goOnFrom 1 = .ok (.istore 4, 2) := by decide +kernel
theorem dX4_goOnFrom_3 : decode cX4_goOnFrom 3 = .ok (.iload 4, 2) := by decide +kernel
theorem dX4_goOnFrom_5 : decode cX4_goOnFrom 5 = .ok (.bipush 10, 2) := by decide +kernel
theorem dX4_goOnFrom_7 : decode cX4_goOnFrom 7 = .ok (.if_icmp .ge 66, 3) := by decide +kernel
theorem dX4_goOnFrom_10 : decode cX4_goOnFrom 10 = .ok (.iload_n 2, 1) := by decide +kernel
theorem dX4_goOnFrom_11 : decode cX4_goOnFrom 11 = .ok (.iload 4, 2) := by decide +kernel
theorem dX4_goOnFrom_13 : decode cX4_goOnFrom 13 = .ok (.invokestatic 27, 3) := by decide +kernel
theorem dX4_goOnFrom_16 : decode cX4_goOnFrom 16 = .ok (.ifCond .eq 17, 3) := by decide +kernel
theorem dX4_goOnFrom_19 : decode cX4_goOnFrom 19 = .ok (.aload_n 0, 1) := by decide +kernel
theorem dX4_goOnFrom_20 : decode cX4_goOnFrom 20 = .ok (.getfield 9, 3) := by decide +kernel
theorem dX4_goOnFrom_23 : decode cX4_goOnFrom 23 = .ok (.iload_n 1, 1) := by decide +kernel
theorem dX4_goOnFrom_24 : decode cX4_goOnFrom 24 = .ok (.iload 4, 2) := by decide +kernel
theorem dX4_goOnFrom_26 : decode cX4_goOnFrom 26 = .ok (.iload_n 3, 1) := by decide +kernel
theorem dX4_goOnFrom_27 : decode cX4_goOnFrom 27 = .ok (.invokevirtual 45, 3) := by decide +kernel
theorem dX4_goOnFrom_30 : decode cX4_goOnFrom 30 = .ok (.goto 4, 3) := by decide +kernel
theorem dX4_goOnFrom_33 : decode cX4_goOnFrom 33 = .ok (.iconst 0, 1) := by decide +kernel
theorem dX4_goOnFrom_34 : decode cX4_goOnFrom 34 = .ok (.istore 5, 2) := by decide +kernel
theorem dX4_goOnFrom_36 : decode cX4_goOnFrom 36 = .ok (.iload 5, 2) := by decide +kernel
theorem dX4_goOnFrom_38 : decode cX4_goOnFrom 38 = .ok (.ifCond .le 29, 3) := by decide +kernel
theorem dX4_goOnFrom_41 : decode cX4_goOnFrom 41 = .ok (.aload_n 0, 1) := by decide +kernel
theorem dX4_goOnFrom_42 : decode cX4_goOnFrom 42 = .ok (.getfield 23, 3) := by decide +kernel
theorem dX4_goOnFrom_45 : decode cX4_goOnFrom 45 = .ok (.iload 4, 2) := by decide +kernel
theorem dX4_goOnFrom_47 : decode cX4_goOnFrom 47 = .ok (.aload_n 0, 1) := by decide +kernel
theorem dX4_goOnFrom_48 : decode cX4_goOnFrom 48 = .ok (.getfield 23, 3) := by decide +kernel
theorem dX4_goOnFrom_51 : decode cX4_goOnFrom 51 = .ok (.iload 4, 2) := by decide +kernel
theorem dX4_goOnFrom_53 : decode cX4_goOnFrom 53 = .ok (.iaload, 1) := by decide +kernel
theorem dX4_goOnFrom_54 : decode cX4_goOnFrom 54 = .ok (.aload_n 0, 1) := by decide +kernel
theorem dX4_goOnFrom_55 : decode cX4_goOnFrom 55 = .ok (.getfield 23, 3) := by decide +kernel
theorem dX4_goOnFrom_58 : decode cX4_goOnFrom 58 = .ok (.iload_n 1, 1) := by decide +kernel
theorem dX4_goOnFrom_59 : decode cX4_goOnFrom 59 = .ok (.iaload, 1) := by decide +kernel
theorem dX4_goOnFrom_60 : decode cX4_goOnFrom 60 = .ok (.iload 5, 2) := by decide +kernel
theorem dX4_goOnFrom_62 : decode cX4_goOnFrom 62 = .ok (.iadd, 1) := by decide +kernel
theorem dX4_goOnFrom_63 : decode cX4_goOnFrom 63 = .ok (.invokestatic 49, 3) := by decide +kernel
theorem dX4_goOnFrom_66 : decode cX4_goOnFrom 66 = .ok (.iastore, 1) := by decide +kernel
theorem dX4_goOnFrom_67 : decode cX4_goOnFrom 67 = .ok (.iinc 4 1, 3) := by decide +kernel
theorem dX4_goOnFrom_70 : decode cX4_goOnFrom 70 = .ok (.goto (-67), 3) := by decide +kernel
theorem dX4_goOnFrom_73 : decode cX4_goOnFrom 73 = .ok (.return_, 1) := by decide +kernel
theorem dX4_firstYear_0 : decode cX4_firstYear 0 = .ok (.iconst (-1), 1) := by decide +kernel
theorem dX4_firstYear_1 : decode cX4_firstYear 1 = .ok (.istore 4, 2) := by decide +kernel
theorem dX4_firstYear_3 : decode cX4_firstYear 3 = .ok (.iconst (-1), 1) := by decide +kernel
theorem dX4_firstYear_4 : decode cX4_firstYear 4 = .ok (.istore 5, 2) := by decide +kernel
theorem dX4_firstYear_6 : decode cX4_firstYear 6 = .ok (.iload 5, 2) := by decide +kernel
theorem dX4_firstYear_8 : decode cX4_firstYear 8 = .ok (.bipush 10, 2) := by decide +kernel
theorem dX4_firstYear_10 : decode cX4_firstYear 10 = .ok (.if_icmp .ge 41, 3) := by decide +kernel
theorem dX4_firstYear_13 : decode cX4_firstYear 13 = .ok (.aload_n 0, 1) := by decide +kernel
theorem dX4_firstYear_14 : decode cX4_firstYear 14 = .ok (.iload_n 1, 1) := by decide +kernel
theorem dX4_firstYear_15 : decode cX4_firstYear 15 = .ok (.iload_n 2, 1) := by decide +kernel
theorem dX4_firstYear_16 : decode cX4_firstYear 16 = .ok (.iload 5, 2) := by decide +kernel
theorem dX4_firstYear_18 : decode cX4_firstYear 18 = .ok (.invokevirtual 53, 3) := by decide +kernel
theorem dX4_firstYear_21 : decode cX4_firstYear 21 = .ok (.istore 6, 2) := by decide +kernel
theorem dX4_firstYear_23 : decode cX4_firstYear 23 = .ok (.aload_n 0, 1) := by decide +kernel
theorem dX4_firstYear_24 : decode cX4_firstYear 24 = .ok (.iload 6, 2) := by decide +kernel
theorem dX4_firstYear_26 : decode cX4_firstYear 26 = .ok (.iload_n 1, 1) := by decide +kernel
theorem dX4_firstYear_27 : decode cX4_firstYear 27 = .ok (.iload_n 2, 1) := by decide +kernel
theorem dX4_firstYear_28 : decode cX4_firstYear 28 = .ok (.iload_n 3, 1) := by decide +kernel
theorem dX4_firstYear_29 : decode cX4_firstYear 29 = .ok (.invokevirtual 57, 3) := by decide +kernel
theorem dX4_firstYear_32 : decode cX4_firstYear 32 = .ok (.iconst (-1), 1) := by decide +kernel
theorem dX4_firstYear_33 : decode cX4_firstYear 33 = .ok (.if_icmp .eq 12, 3) := by decide +kernel
theorem dX4_firstYear_36 : decode cX4_firstYear 36 = .ok (.iload 4, 2) := by decide +kernel
theorem dX4_firstYear_38 : decode cX4_firstYear 38 = .ok (.iload 6, 2) := by decide +kernel
theorem dX4_firstYear_40 : decode cX4_firstYear 40 = .ok (.invokestatic 49, 3) := by decide +kernel
theorem dX4_firstYear_43 : decode cX4_firstYear 43 = .ok (.istore 4, 2) := by decide +kernel
theorem dX4_firstYear_45 : decode cX4_firstYear 45 = .ok (.iinc 5 1, 3) := by decide +kernel
theorem dX4_firstYear_48 : decode cX4_firstYear 48 = .ok (.goto (-42), 3) := by decide +kernel
theorem dX4_firstYear_51 : decode cX4_firstYear 51 = .ok (.iload 4, 2) := by decide +kernel
theorem dX4_firstYear_53 : decode cX4_firstYear 53 = .ok (.ireturn, 1) := by decide +kernel
theorem dX4_legsInAnyYear_0 : decode cX4_legsInAnyYear 0 = .ok (.iconst (-1), 1) := by decide +kernel
theorem dX4_legsInAnyYear_1 : decode cX4_legsInAnyYear 1 = .ok (.istore 4, 2) := by decide +kernel
theorem dX4_legsInAnyYear_3 : decode cX4_legsInAnyYear 3 = .ok (.iconst (-1), 1) := by decide +kernel
theorem dX4_legsInAnyYear_4 : decode cX4_legsInAnyYear 4 = .ok (.istore 5, 2) := by decide +kernel
theorem dX4_legsInAnyYear_6 : decode cX4_legsInAnyYear 6 = .ok (.iload 5, 2) := by decide +kernel
theorem dX4_legsInAnyYear_8 : decode cX4_legsInAnyYear 8 = .ok (.bipush 10, 2) := by decide +kernel
theorem dX4_legsInAnyYear_10 : decode cX4_legsInAnyYear 10 = .ok (.if_icmp .ge 41, 3) := by decide +kernel
theorem dX4_legsInAnyYear_13 : decode cX4_legsInAnyYear 13 = .ok (.aload_n 0, 1) := by decide +kernel
theorem dX4_legsInAnyYear_14 : decode cX4_legsInAnyYear 14 = .ok (.aload_n 0, 1) := by decide +kernel
theorem dX4_legsInAnyYear_15 : decode cX4_legsInAnyYear 15 = .ok (.iload_n 1, 1) := by decide +kernel
theorem dX4_legsInAnyYear_16 : decode cX4_legsInAnyYear 16 = .ok (.iload_n 2, 1) := by decide +kernel
theorem dX4_legsInAnyYear_17 : decode cX4_legsInAnyYear 17 = .ok (.iload 5, 2) := by decide +kernel
theorem dX4_legsInAnyYear_19 : decode cX4_legsInAnyYear 19 = .ok (.invokevirtual 53, 3) := by decide +kernel
theorem dX4_legsInAnyYear_22 : decode cX4_legsInAnyYear 22 = .ok (.iload_n 1, 1) := by decide +kernel
theorem dX4_legsInAnyYear_23 : decode cX4_legsInAnyYear 23 = .ok (.iload_n 2, 1) := by decide +kernel
theorem dX4_legsInAnyYear_24 : decode cX4_legsInAnyYear 24 = .ok (.iload_n 3, 1) := by decide +kernel
theorem dX4_legsInAnyYear_25 : decode cX4_legsInAnyYear 25 = .ok (.invokevirtual 57, 3) := by decide +kernel
theorem dX4_legsInAnyYear_28 : decode cX4_legsInAnyYear 28 = .ok (.istore 6, 2) := by decide +kernel
theorem dX4_legsInAnyYear_30 : decode cX4_legsInAnyYear 30 = .ok (.iload 6, 2) := by decide +kernel
theorem dX4_legsInAnyYear_32 : decode cX4_legsInAnyYear 32 = .ok (.iconst (-1), 1) := by decide +kernel
theorem dX4_legsInAnyYear_33 : decode cX4_legsInAnyYear 33 = .ok (.if_icmp .eq 12, 3) := by decide +kernel
theorem dX4_legsInAnyYear_36 : decode cX4_legsInAnyYear 36 = .ok (.iload 4, 2) := by decide +kernel
theorem dX4_legsInAnyYear_38 : decode cX4_legsInAnyYear 38 = .ok (.iload 6, 2) := by decide +kernel
theorem dX4_legsInAnyYear_40 : decode cX4_legsInAnyYear 40 = .ok (.invokestatic 49, 3) := by decide +kernel
theorem dX4_legsInAnyYear_43 : decode cX4_legsInAnyYear 43 = .ok (.istore 4, 2) := by decide +kernel
theorem dX4_legsInAnyYear_45 : decode cX4_legsInAnyYear 45 = .ok (.iinc 5 1, 3) := by decide +kernel
theorem dX4_legsInAnyYear_48 : decode cX4_legsInAnyYear 48 = .ok (.goto (-42), 3) := by decide +kernel
theorem dX4_legsInAnyYear_51 : decode cX4_legsInAnyYear 51 = .ok (.iload 4, 2) := by decide +kernel
theorem dX4_legsInAnyYear_53 : decode cX4_legsInAnyYear 53 = .ok (.ireturn, 1) := by decide +kernel
theorem dX4_yearOfChange_0 : decode cX4_yearOfChange 0 = .ok (.aload_n 0, 1) := by decide +kernel
theorem dX4_yearOfChange_1 : decode cX4_yearOfChange 1 = .ok (.getfield 19, 3) := by decide +kernel
theorem dX4_yearOfChange_4 : decode cX4_yearOfChange 4 = .ok (.iconst 0, 1) := by decide +kernel
theorem dX4_yearOfChange_5 : decode cX4_yearOfChange 5 = .ok (.iload_n 1, 1) := by decide +kernel
theorem dX4_yearOfChange_6 : decode cX4_yearOfChange 6 = .ok (.invokevirtual 61, 3) := by decide +kernel
theorem dX4_yearOfChange_9 : decode cX4_yearOfChange 9 = .ok (.aload_n 0, 1) := by decide +kernel
theorem dX4_yearOfChange_10 : decode cX4_yearOfChange 10 = .ok (.getfield 9, 3) := by decide +kernel
theorem dX4_yearOfChange_13 : decode cX4_yearOfChange 13 = .ok (.getfield 66, 3) := by decide +kernel
theorem dX4_yearOfChange_16 : decode cX4_yearOfChange 16 = .ok (.iload_n 2, 1) := by decide +kernel
theorem dX4_yearOfChange_17 : decode cX4_yearOfChange 17 = .ok (.iaload, 1) := by decide +kernel
theorem dX4_yearOfChange_18 : decode cX4_yearOfChange 18 = .ok (.invokestatic 69, 3) := by decide +kernel
theorem dX4_yearOfChange_21 : decode cX4_yearOfChange 21 = .ok (.istore 4, 2) := by decide +kernel
theorem dX4_yearOfChange_23 : decode cX4_yearOfChange 23 = .ok (.aload_n 0, 1) := by decide +kernel
theorem dX4_yearOfChange_24 : decode cX4_yearOfChange 24 = .ok (.getfield 19, 3) := by decide +kernel
theorem dX4_yearOfChange_27 : decode cX4_yearOfChange 27 = .ok (.iconst 5, 1) := by decide +kernel
theorem dX4_yearOfChange_28 : decode cX4_yearOfChange 28 = .ok (.iload_n 1, 1) := by decide +kernel
theorem dX4_yearOfChange_29 : decode cX4_yearOfChange 29 = .ok (.invokevirtual 61, 3) := by decide +kernel
theorem dX4_yearOfChange_32 : decode cX4_yearOfChange 32 = .ok (.istore 5, 2) := by decide +kernel
theorem dX4_yearOfChange_34 : decode cX4_yearOfChange 34 = .ok (.iload_n 3, 1) := by decide +kernel
theorem dX4_yearOfChange_35 : decode cX4_yearOfChange 35 = .ok (.iconst (-1), 1) := by decide +kernel
theorem dX4_yearOfChange_36 : decode cX4_yearOfChange 36 = .ok (.if_icmp .ne 8, 3) := by decide +kernel
theorem dX4_yearOfChange_39 : decode cX4_yearOfChange 39 = .ok (.iload 4, 2) := by decide +kernel
theorem dX4_yearOfChange_41 : decode cX4_yearOfChange 41 = .ok (.goto 12, 3) := by decide +kernel
theorem dX4_yearOfChange_44 : decode cX4_yearOfChange 44 = .ok (.aload_n 0, 1) := by decide +kernel
theorem dX4_yearOfChange_45 : decode cX4_yearOfChange 45 = .ok (.getfield 9, 3) := by decide +kernel
theorem dX4_yearOfChange_48 : decode cX4_yearOfChange 48 = .ok (.getfield 74, 3) := by decide +kernel
theorem dX4_yearOfChange_51 : decode cX4_yearOfChange 51 = .ok (.iload_n 3, 1) := by decide +kernel
theorem dX4_yearOfChange_52 : decode cX4_yearOfChange 52 = .ok (.iaload, 1) := by decide +kernel
theorem dX4_yearOfChange_53 : decode cX4_yearOfChange 53 = .ok (.istore 6, 2) := by decide +kernel
theorem dX4_yearOfChange_55 : decode cX4_yearOfChange 55 = .ok (.iload 6, 2) := by decide +kernel
theorem dX4_yearOfChange_57 : decode cX4_yearOfChange 57 = .ok (.iload 4, 2) := by decide +kernel
theorem dX4_yearOfChange_59 : decode cX4_yearOfChange 59 = .ok (.iload 5, 2) := by decide +kernel
theorem dX4_yearOfChange_61 : decode cX4_yearOfChange 61 = .ok (.invokestatic 77, 3) := by decide +kernel
theorem dX4_yearOfChange_64 : decode cX4_yearOfChange 64 = .ok (.ifCond .eq 8, 3) := by decide +kernel
theorem dX4_yearOfChange_67 : decode cX4_yearOfChange 67 = .ok (.iload 6, 2) := by decide +kernel
theorem dX4_yearOfChange_69 : decode cX4_yearOfChange 69 = .ok (.goto 4, 3) := by decide +kernel
theorem dX4_yearOfChange_72 : decode cX4_yearOfChange 72 = .ok (.iconst (-1), 1) := by decide +kernel
theorem dX4_yearOfChange_73 : decode cX4_yearOfChange 73 = .ok (.ireturn, 1) := by decide +kernel
theorem dX4_legsIn_0 : decode cX4_legsIn 0 = .ok (.iload_n 1, 1) := by decide +kernel
theorem dX4_legsIn_1 : decode cX4_legsIn 1 = .ok (.iconst (-1), 1) := by decide +kernel
theorem dX4_legsIn_2 : decode cX4_legsIn 2 = .ok (.if_icmp .ne 5, 3) := by decide +kernel
theorem dX4_legsIn_5 : decode cX4_legsIn 5 = .ok (.iconst (-1), 1) := by decide +kernel
theorem dX4_legsIn_6 : decode cX4_legsIn 6 = .ok (.ireturn, 1) := by decide +kernel
theorem dX4_legsIn_7 : decode cX4_legsIn 7 = .ok (.aload_n 0, 1) := by decide +kernel
theorem dX4_legsIn_8 : decode cX4_legsIn 8 = .ok (.aload_n 0, 1) := by decide +kernel
theorem dX4_legsIn_9 : decode cX4_legsIn 9 = .ok (.getfield 9, 3) := by decide +kernel
theorem dX4_legsIn_12 : decode cX4_legsIn 12 = .ok (.getfield 81, 3) := by decide +kernel
theorem dX4_legsIn_15 : decode cX4_legsIn 15 = .ok (.iload_n 3, 1) := by decide +kernel
theorem dX4_legsIn_16 : decode cX4_legsIn 16 = .ok (.iaload, 1) := by decide +kernel
theorem dX4_legsIn_17 : decode cX4_legsIn 17 = .ok (.aload_n 0, 1) := by decide +kernel
theorem dX4_legsIn_18 : decode cX4_legsIn 18 = .ok (.getfield 15, 3) := by decide +kernel
theorem dX4_legsIn_21 : decode cX4_legsIn 21 = .ok (.getfield 84, 3) := by decide +kernel
theorem dX4_legsIn_24 : decode cX4_legsIn 24 = .ok (.iload_n 2, 1) := by decide +kernel
theorem dX4_legsIn_25 : decode cX4_legsIn 25 = .ok (.iaload, 1) := by decide +kernel
theorem dX4_legsIn_26 : decode cX4_legsIn 26 = .ok (.aload_n 0, 1) := by decide +kernel
theorem dX4_legsIn_27 : decode cX4_legsIn 27 = .ok (.getfield 9, 3) := by decide +kernel
theorem dX4_legsIn_30 : decode cX4_legsIn 30 = .ok (.iload_n 1, 1) := by decide +kernel
theorem dX4_legsIn_31 : decode cX4_legsIn 31 = .ok (.invokevirtual 89, 3) := by decide +kernel
theorem dX4_legsIn_34 : decode cX4_legsIn 34 = .ok (.iload 4, 2) := by decide +kernel
theorem dX4_legsIn_36 : decode cX4_legsIn 36 = .ok (.invokevirtual 92, 3) := by decide +kernel
theorem dX4_legsIn_39 : decode cX4_legsIn 39 = .ok (.ireturn, 1) := by decide +kernel
theorem dX4_comeByBoat_0 : decode cX4_comeByBoat 0 = .ok (.aload_n 0, 1) := by decide +kernel
theorem dX4_comeByBoat_1 : decode cX4_comeByBoat 1 = .ok (.getfield 19, 3) := by decide +kernel
theorem dX4_comeByBoat_4 : decode cX4_comeByBoat 4 = .ok (.invokevirtual 95, 3) := by decide +kernel
theorem dX4_comeByBoat_7 : decode cX4_comeByBoat 7 = .ok (.ifCond .ne 5, 3) := by decide +kernel
theorem dX4_comeByBoat_10 : decode cX4_comeByBoat 10 = .ok (.iconst 0, 1) := by decide +kernel
theorem dX4_comeByBoat_11 : decode cX4_comeByBoat 11 = .ok (.ireturn, 1) := by decide +kernel
theorem dX4_comeByBoat_12 : decode cX4_comeByBoat 12 = .ok (.iconst 0, 1) := by decide +kernel
theorem dX4_comeByBoat_13 : decode cX4_comeByBoat 13 = .ok (.istore_n 1, 1) := by decide +kernel
theorem dX4_comeByBoat_14 : decode cX4_comeByBoat 14 = .ok (.iconst 0, 1) := by decide +kernel
theorem dX4_comeByBoat_15 : decode cX4_comeByBoat 15 = .ok (.istore_n 2, 1) := by decide +kernel
theorem dX4_comeByBoat_16 : decode cX4_comeByBoat 16 = .ok (.iload_n 2, 1) := by decide +kernel
theorem dX4_comeByBoat_17 : decode cX4_comeByBoat 17 = .ok (.aload_n 0, 1) := by decide +kernel
theorem dX4_comeByBoat_18 : decode cX4_comeByBoat 18 = .ok (.getfield 15, 3) := by decide +kernel
theorem dX4_comeByBoat_21 : decode cX4_comeByBoat 21 = .ok (.getfield 99, 3) := by decide +kernel
theorem dX4_comeByBoat_24 : decode cX4_comeByBoat 24 = .ok (.if_icmp .ge 23, 3) := by decide +kernel
theorem dX4_comeByBoat_27 : decode cX4_comeByBoat 27 = .ok (.aload_n 0, 1) := by decide +kernel
theorem dX4_comeByBoat_28 : decode cX4_comeByBoat 28 = .ok (.iload_n 2, 1) := by decide +kernel
theorem dX4_comeByBoat_29 : decode cX4_comeByBoat 29 = .ok (.invokevirtual 103, 3) := by decide +kernel
theorem dX4_comeByBoat_32 : decode cX4_comeByBoat 32 = .ok (.ifCond .eq 9, 3) := by decide +kernel
theorem dX4_comeByBoat_35 : decode cX4_comeByBoat 35 = .ok (.iload_n 1, 1) := by decide +kernel
theorem dX4_comeByBoat_36 : decode cX4_comeByBoat 36 = .ok (.iconst 1, 1) := by decide +kernel
theorem dX4_comeByBoat_37 : decode cX4_comeByBoat 37 = .ok (.iload_n 2, 1) := by decide +kernel
theorem dX4_comeByBoat_38 : decode cX4_comeByBoat 38 = .ok (.ishl, 1) := by decide +kernel
theorem dX4_comeByBoat_39 : decode cX4_comeByBoat 39 = .ok (.ior, 1) := by decide +kernel
theorem dX4_comeByBoat_40 : decode cX4_comeByBoat 40 = .ok (.istore_n 1, 1) := by decide +kernel
theorem dX4_comeByBoat_41 : decode cX4_comeByBoat 41 = .ok (.iinc 2 1, 3) := by decide +kernel
theorem dX4_comeByBoat_44 : decode cX4_comeByBoat 44 = .ok (.goto (-28), 3) := by decide +kernel
theorem dX4_comeByBoat_47 : decode cX4_comeByBoat 47 = .ok (.iload_n 1, 1) := by decide +kernel
theorem dX4_comeByBoat_48 : decode cX4_comeByBoat 48 = .ok (.ireturn, 1) := by decide +kernel
theorem dX4_mustHaveSailed_0 : decode cX4_mustHaveSailed 0 = .ok (.aload_n 0, 1) := by decide +kernel
theorem dX4_mustHaveSailed_1 : decode cX4_mustHaveSailed 1 = .ok (.getfield 19, 3) := by decide +kernel
theorem dX4_mustHaveSailed_4 : decode cX4_mustHaveSailed 4 = .ok (.getfield 107, 3) := by decide +kernel
theorem dX4_mustHaveSailed_7 : decode cX4_mustHaveSailed 7 = .ok (.iload_n 1, 1) := by decide +kernel
theorem dX4_mustHaveSailed_8 : decode cX4_mustHaveSailed 8 = .ok (.iaload, 1) := by decide +kernel
theorem dX4_mustHaveSailed_9 : decode cX4_mustHaveSailed 9 = .ok (.istore_n 2, 1) := by decide +kernel
theorem dX4_mustHaveSailed_10 : decode cX4_mustHaveSailed 10 = .ok (.iconst 0, 1) := by decide +kernel
theorem dX4_mustHaveSailed_11 : decode cX4_mustHaveSailed 11 = .ok (.istore_n 3, 1) := by decide +kernel
theorem dX4_mustHaveSailed_12 : decode cX4_mustHaveSailed 12 = .ok (.iconst 0, 1) := by decide +kernel
theorem dX4_mustHaveSailed_13 : decode cX4_mustHaveSailed 13 = .ok (.istore 4, 2) := by decide +kernel
theorem dX4_mustHaveSailed_15 : decode cX4_mustHaveSailed 15 = .ok (.iload 4, 2) := by decide +kernel
theorem dX4_mustHaveSailed_17 : decode cX4_mustHaveSailed 17 = .ok (.bipush 9, 2) := by decide +kernel
theorem dX4_mustHaveSailed_19 : decode cX4_mustHaveSailed 19 = .ok (.if_icmp .ge 54, 3) := by decide +kernel
theorem dX4_mustHaveSailed_22 : decode cX4_mustHaveSailed 22 = .ok (.iload_n 2, 1) := by decide +kernel
theorem dX4_mustHaveSailed_23 : decode cX4_mustHaveSailed 23 = .ok (.iload 4, 2) := by decide +kernel
theorem dX4_mustHaveSailed_25 : decode cX4_mustHaveSailed 25 = .ok (.invokestatic 27, 3) := by decide +kernel
theorem dX4_mustHaveSailed_28 : decode cX4_mustHaveSailed 28 = .ok (.ifCond .eq 39, 3) := by decide +kernel
theorem dX4_mustHaveSailed_31 : decode cX4_mustHaveSailed 31 = .ok (.aload_n 0, 1) := by decide +kernel
theorem dX4_mustHaveSailed_32 : decode cX4_mustHaveSailed 32 = .ok (.iload_n 1, 1) := by decide +kernel
theorem dX4_mustHaveSailed_33 : decode cX4_mustHaveSailed 33 = .ok (.iload 4, 2) := by decide +kernel
theorem dX4_mustHaveSailed_35 : decode cX4_mustHaveSailed 35 = .ok (.iconst 0, 1) := by decide +kernel
theorem dX4_mustHaveSailed_36 : decode cX4_mustHaveSailed 36 = .ok (.invokevirtual 110, 3) := by decide +kernel
theorem dX4_mustHaveSailed_39 : decode cX4_mustHaveSailed 39 = .ok (.iconst (-1), 1) := by decide +kernel
theorem dX4_mustHaveSailed_40 : decode cX4_mustHaveSailed 40 = .ok (.if_icmp .eq 5, 3) := by decide +kernel
theorem dX4_mustHaveSailed_43 : decode cX4_mustHaveSailed 43 = .ok (.iconst 0, 1) := by decide +kernel
theorem dX4_mustHaveSailed_44 : decode cX4_mustHaveSailed 44 = .ok (.ireturn, 1) := by decide +kernel
theorem dX4_mustHaveSailed_45 : decode cX4_mustHaveSailed 45 = .ok (.iload_n 3, 1) := by decide +kernel
theorem dX4_mustHaveSailed_46 : decode cX4_mustHaveSailed 46 = .ok (.ifCond .ne 15, 3) := by decide +kernel
theorem dX4_mustHaveSailed_49 : decode cX4_mustHaveSailed 49 = .ok (.aload_n 0, 1) := by decide +kernel
theorem dX4_mustHaveSailed_50 : decode cX4_mustHaveSailed 50 = .ok (.iload_n 1, 1) := by decide +kernel
theorem dX4_mustHaveSailed_51 : decode cX4_mustHaveSailed 51 = .ok (.iload 4, 2) := by decide +kernel
theorem dX4_mustHaveSailed_53 : decode cX4_mustHaveSailed 53 = .ok (.iconst 1, 1) := by decide +kernel
theorem dX4_mustHaveSailed_54 : decode cX4_mustHaveSailed 54 = .ok (.invokevirtual 110, 3) := by decide +kernel
theorem dX4_mustHaveSailed_57 : decode cX4_mustHaveSailed 57 = .ok (.iconst (-1), 1) := by decide +kernel
theorem dX4_mustHaveSailed_58 : decode cX4_mustHaveSailed 58 = .ok (.if_icmp .eq 7, 3) := by decide +kernel
theorem dX4_mustHaveSailed_61 : decode cX4_mustHaveSailed 61 = .ok (.iconst 1, 1) := by decide +kernel
theorem dX4_mustHaveSailed_62 : decode cX4_mustHaveSailed 62 = .ok (.goto 4, 3) := by decide +kernel
theorem dX4_mustHaveSailed_65 : decode cX4_mustHaveSailed 65 = .ok (.iconst 0, 1) := by decide +kernel
theorem dX4_mustHaveSailed_66 : decode cX4_mustHaveSailed 66 = .ok (.istore_n 3, 1) := by decide +kernel
theorem dX4_mustHaveSailed_67 : decode cX4_mustHaveSailed 67 = .ok (.iinc 4 1, 3) := by decide +kernel
theorem dX4_mustHaveSailed_70 : decode cX4_mustHaveSailed 70 = .ok (.goto (-55), 3) := by decide +kernel
theorem dX4_mustHaveSailed_73 : decode cX4_mustHaveSailed 73 = .ok (.iload_n 3, 1) := by decide +kernel
theorem dX4_mustHaveSailed_74 : decode cX4_mustHaveSailed 74 = .ok (.ireturn, 1) := by decide +kernel
