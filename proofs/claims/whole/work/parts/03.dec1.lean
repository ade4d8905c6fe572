theorem dX0_init_0 : decode cX0_init 0 = .ok (.aload_n 0, 1) := by decide +kernel
theorem dX0_init_1 : decode cX0_init 1 = .ok (.invokespecial 3, 3) := by decide +kernel
theorem dX0_init_4 : decode cX0_init 4 = .ok (.aload_n 0, 1) := by decide +kernel
theorem dX0_init_5 : decode cX0_init 5 = .ok (.bipush 15, 2) := by decide +kernel
theorem dX0_init_7 : decode cX0_init 7 = .ok (.newarray .int, 2) := by decide +kernel
theorem dX0_init_9 : decode cX0_init 9 = .ok (.putfield 9, 3) := by decide +kernel
theorem dX0_init_12 : decode cX0_init 12 = .ok (.aload_n 0, 1) := by decide +kernel
theorem dX0_init_13 : decode cX0_init 13 = .ok (.bipush 15, 2) := by decide +kernel
theorem dX0_init_15 : decode cX0_init 15 = .ok (.newarray .int, 2) := by decide +kernel
theorem dX0_init_17 : decode cX0_init 17 = .ok (.putfield 15, 3) := by decide +kernel
theorem dX0_init_20 : decode cX0_init 20 = .ok (.return_, 1) := by decide +kernel
theorem dX0_add_0 : decode cX0_add 0 = .ok (.aload_n 0, 1) := by decide +kernel
theorem dX0_add_1 : decode cX0_add 1 = .ok (.getfield 9, 3) := by decide +kernel
theorem dX0_add_4 : decode cX0_add 4 = .ok (.aload_n 0, 1) := by decide +kernel
theorem dX0_add_5 : decode cX0_add 5 = .ok (.getfield 18, 3) := by decide +kernel
theorem dX0_add_8 : decode cX0_add 8 = .ok (.iload_n 1, 1) := by decide +kernel
theorem dX0_add_9 : decode cX0_add 9 = .ok (.invokestatic 22, 3) := by decide +kernel
theorem dX0_add_12 : decode cX0_add 12 = .ok (.aload_n 0, 1) := by decide +kernel
theorem dX0_add_13 : decode cX0_add 13 = .ok (.getfield 15, 3) := by decide +kernel
theorem dX0_add_16 : decode cX0_add 16 = .ok (.aload_n 0, 1) := by decide +kernel
theorem dX0_add_17 : decode cX0_add 17 = .ok (.getfield 18, 3) := by decide +kernel
theorem dX0_add_20 : decode cX0_add 20 = .ok (.iload_n 2, 1) := by decide +kernel
theorem dX0_add_21 : decode cX0_add 21 = .ok (.invokestatic 22, 3) := by decide +kernel
theorem dX0_add_24 : decode cX0_add 24 = .ok (.aload_n 0, 1) := by decide +kernel
theorem dX0_add_25 : decode cX0_add 25 = .ok (.dup, 1) := by decide +kernel
theorem dX0_add_26 : decode cX0_add 26 = .ok (.getfield 18, 3) := by decide +kernel
theorem dX0_add_29 : decode cX0_add 29 = .ok (.iconst 1, 1) := by decide +kernel
theorem dX0_add_30 : decode cX0_add 30 = .ok (.iadd, 1) := by decide +kernel
theorem dX0_add_31 : decode cX0_add 31 = .ok (.putfield 18, 3) := by decide +kernel
theorem dX0_add_34 : decode cX0_add 34 = .ok (.return_, 1) := by decide +kernel
theorem dX0_firstWrong_0 : decode cX0_firstWrong 0 = .ok (.iconst 0, 1) := by decide +kernel
theorem dX0_firstWrong_1 : decode cX0_firstWrong 1 = .ok (.istore_n 2, 1) := by decide +kernel
theorem dX0_firstWrong_2 : decode cX0_firstWrong 2 = .ok (.iload_n 2, 1) := by decide +kernel
theorem dX0_firstWrong_3 : decode cX0_firstWrong 3 = .ok (.aload_n 0, 1) := by decide +kernel
theorem dX0_firstWrong_4 : decode cX0_firstWrong 4 = .ok (.getfield 18, 3) := by decide +kernel
theorem dX0_firstWrong_7 : decode cX0_firstWrong 7 = .ok (.if_icmp .ge 34, 3) := by decide +kernel
theorem dX0_firstWrong_10 : decode cX0_firstWrong 10 = .ok (.aload_n 1, 1) := by decide +kernel
theorem dX0_firstWrong_11 : decode cX0_firstWrong 11 = .ok (.aload_n 0, 1) := by decide +kernel
theorem dX0_firstWrong_12 : decode cX0_firstWrong 12 = .ok (.getfield 9, 3) := by decide +kernel
theorem dX0_firstWrong_15 : decode cX0_firstWrong 15 = .ok (.iload_n 2, 1) := by decide +kernel
theorem dX0_firstWrong_16 : decode cX0_firstWrong 16 = .ok (.invokestatic 26, 3) := by decide +kernel
theorem dX0_firstWrong_19 : decode cX0_firstWrong 19 = .ok (.invokestatic 26, 3) := by decide +kernel
theorem dX0_firstWrong_22 : decode cX0_firstWrong 22 = .ok (.aload_n 0, 1) := by decide +kernel
theorem dX0_firstWrong_23 : decode cX0_firstWrong 23 = .ok (.getfield 15, 3) := by decide +kernel
theorem dX0_firstWrong_26 : decode cX0_firstWrong 26 = .ok (.iload_n 2, 1) := by decide +kernel
theorem dX0_firstWrong_27 : decode cX0_firstWrong 27 = .ok (.invokestatic 26, 3) := by decide +kernel
theorem dX0_firstWrong_30 : decode cX0_firstWrong 30 = .ok (.if_icmp .eq 5, 3) := by decide +kernel
theorem dX0_firstWrong_33 : decode cX0_firstWrong 33 = .ok (.iload_n 2, 1) := by decide +kernel
theorem dX0_firstWrong_34 : decode cX0_firstWrong 34 = .ok (.ireturn, 1) := by decide +kernel
theorem dX0_firstWrong_35 : decode cX0_firstWrong 35 = .ok (.iinc 2 1, 3) := by decide +kernel
theorem dX0_firstWrong_38 : decode cX0_firstWrong 38 = .ok (.goto (-36), 3) := by decide +kernel
theorem dX0_firstWrong_41 : decode cX0_firstWrong 41 = .ok (.iconst (-1), 1) := by decide +kernel
theorem dX0_firstWrong_42 : decode cX0_firstWrong 42 = .ok (.ireturn, 1) := by decide +kernel
theorem dX1_init_0 : decode cX1_init 0 = .ok (.aload_n 0, 1) := by decide +kernel
theorem dX1_init_1 : decode cX1_init 1 = .ok (.invokespecial 3, 3) := by decide +kernel
theorem dX1_init_4 : decode cX1_init 4 = .ok (.aload_n 0, 1) := by decide +kernel
theorem dX1_init_5 : decode cX1_init 5 = .ok (.bipush 9, 2) := by decide +kernel
theorem dX1_init_7 : decode cX1_init 7 = .ok (.newarray .int, 2) := by decide +kernel
theorem dX1_init_9 : decode cX1_init 9 = .ok (.putfield 9, 3) := by decide +kernel
theorem dX1_init_12 : decode cX1_init 12 = .ok (.aload_n 0, 1) := by decide +kernel
theorem dX1_init_13 : decode cX1_init 13 = .ok (.bipush 9, 2) := by decide +kernel
theorem dX1_init_15 : decode cX1_init 15 = .ok (.newarray .int, 2) := by decide +kernel
theorem dX1_init_17 : decode cX1_init 17 = .ok (.putfield 15, 3) := by decide +kernel
theorem dX1_init_20 : decode cX1_init 20 = .ok (.aload_n 0, 1) := by decide +kernel
theorem dX1_init_21 : decode cX1_init 21 = .ok (.bipush 9, 2) := by decide +kernel
theorem dX1_init_23 : decode cX1_init 23 = .ok (.newarray .int, 2) := by decide +kernel
theorem dX1_init_25 : decode cX1_init 25 = .ok (.putfield 18, 3) := by decide +kernel
theorem dX1_init_28 : decode cX1_init 28 = .ok (.aload_n 0, 1) := by decide +kernel
theorem dX1_init_29 : decode cX1_init 29 = .ok (.bipush 9, 2) := by decide +kernel
theorem dX1_init_31 : decode cX1_init 31 = .ok (.newarray .int, 2) := by decide +kernel
theorem dX1_init_33 : decode cX1_init 33 = .ok (.putfield 21, 3) := by decide +kernel
theorem dX1_init_36 : decode cX1_init 36 = .ok (.return_, 1) := by decide +kernel
theorem dX1_clear_0 : decode cX1_clear 0 = .ok (.aload_n 0, 1) := by decide +kernel
theorem dX1_clear_1 : decode cX1_clear 1 = .ok (.iconst 0, 1) := by decide +kernel
theorem dX1_clear_2 : decode cX1_clear 2 = .ok (.putfield 24, 3) := by decide +kernel
theorem dX1_clear_5 : decode cX1_clear 5 = .ok (.aload_n 0, 1) := by decide +kernel
theorem dX1_clear_6 : decode cX1_clear 6 = .ok (.iconst 0, 1) := by decide +kernel
theorem dX1_clear_7 : decode cX1_clear 7 = .ok (.putfield 28, 3) := by decide +kernel
theorem dX1_clear_10 : decode cX1_clear 10 = .ok (.aload_n 0, 1) := by decide +kernel
theorem dX1_clear_11 : decode cX1_clear 11 = .ok (.iconst 0, 1) := by decide +kernel
theorem dX1_clear_12 : decode cX1_clear 12 = .ok (.putfield 31, 3) := by decide +kernel
theorem dX1_clear_15 : decode cX1_clear 15 = .ok (.return_, 1) := by decide +kernel
theorem dX1_copyFrom_0 : decode cX1_copyFrom 0 = .ok (.aload_n 0, 1) := by decide +kernel
theorem dX1_copyFrom_1 : decode cX1_copyFrom 1 = .ok (.aload_n 1, 1) := by decide +kernel
theorem dX1_copyFrom_2 : decode cX1_copyFrom 2 = .ok (.getfield 24, 3) := by decide +kernel
theorem dX1_copyFrom_5 : decode cX1_copyFrom 5 = .ok (.putfield 24, 3) := by decide +kernel
theorem dX1_copyFrom_8 : decode cX1_copyFrom 8 = .ok (.aload_n 0, 1) := by decide +kernel
theorem dX1_copyFrom_9 : decode cX1_copyFrom 9 = .ok (.aload_n 1, 1) := by decide +kernel
theorem dX1_copyFrom_10 : decode cX1_copyFrom 10 = .ok (.getfield 28, 3) := by decide +kernel
theorem dX1_copyFrom_13 : decode cX1_copyFrom 13 = .ok (.putfield 28, 3) := by decide +kernel
theorem dX1_copyFrom_16 : decode cX1_copyFrom 16 = .ok (.aload_n 0, 1) := by decide +kernel
theorem dX1_copyFrom_17 : decode cX1_copyFrom 17 = .ok (.aload_n 1, 1) := by decide +kernel
theorem dX1_copyFrom_18 : decode cX1_copyFrom 18 = .ok (.getfield 31, 3) := by decide +kernel
theorem dX1_copyFrom_21 : decode cX1_copyFrom 21 = .ok (.putfield 31, 3) := by decide +kernel
theorem dX1_copyFrom_24 : decode cX1_copyFrom 24 = .ok (.aload_n 1, 1) := by decide +kernel
theorem dX1_copyFrom_25 : decode cX1_copyFrom 25 = .ok (.getfield 9, 3) := by decide +kernel
theorem dX1_copyFrom_28 : decode cX1_copyFrom 28 = .ok (.iconst 0, 1) := by decide +kernel
theorem dX1_copyFrom_29 : decode cX1_copyFrom 29 = .ok (.aload_n 0, 1) := by decide +kernel
theorem dX1_copyFrom_30 : decode cX1_copyFrom 30 = .ok (.getfield 9, 3) := by decide +kernel
theorem dX1_copyFrom_33 : decode cX1_copyFrom 33 = .ok (.iconst 0, 1) := by decide +kernel
theorem dX1_copyFrom_34 : decode cX1_copyFrom 34 = .ok (.bipush 9, 2) := by decide +kernel
theorem dX1_copyFrom_36 : decode cX1_copyFrom 36 = .ok (.invokestatic 34, 3) := by decide +kernel
theorem dX1_copyFrom_39 : decode cX1_copyFrom 39 = .ok (.aload_n 1, 1) := by decide +kernel
theorem dX1_copyFrom_40 : decode cX1_copyFrom 40 = .ok (.getfield 15, 3) := by decide +kernel
theorem dX1_copyFrom_43 : decode cX1_copyFrom 43 = .ok (.iconst 0, 1) := by decide +kernel
theorem dX1_copyFrom_44 : decode cX1_copyFrom 44 = .ok (.aload_n 0, 1) := by decide +kernel
theorem dX1_copyFrom_45 : decode cX1_copyFrom 45 = .ok (.getfield 15, 3) := by decide +kernel
theorem dX1_copyFrom_48 : decode cX1_copyFrom 48 = .ok (.iconst 0, 1) := by decide +kernel
theorem dX1_copyFrom_49 : decode cX1_copyFrom 49 = .ok (.bipush 9, 2) := by decide +kernel
theorem dX1_copyFrom_51 : decode cX1_copyFrom 51 = .ok (.invokestatic 34, 3) := by decide +kernel
theorem dX1_copyFrom_54 : decode cX1_copyFrom 54 = .ok (.aload_n 1, 1) := by decide +kernel
theorem dX1_copyFrom_55 : decode cX1_copyFrom 55 = .ok (.getfield 18, 3) := by decide +kernel
theorem dX1_copyFrom_58 : decode cX1_copyFrom 58 = .ok (.iconst 0, 1) := by decide +kernel
theorem dX1_copyFrom_59 : decode cX1_copyFrom 59 = .ok (.aload_n 0, 1) := by decide +kernel
theorem dX1_copyFrom_60 : decode cX1_copyFrom 60 = .ok (.getfield 18, 3) := by decide +kernel
theorem dX1_copyFrom_63 : decode cX1_copyFrom 63 = .ok (.iconst 0, 1) := by decide +kernel
theorem dX1_copyFrom_64 : decode cX1_copyFrom 64 = .ok (.bipush 9, 2) := by decide +kernel
theorem dX1_copyFrom_66 : decode cX1_copyFrom 66 = .ok (.invokestatic 34, 3) := by decide +kernel
theorem dX1_copyFrom_69 : decode cX1_copyFrom 69 = .ok (.aload_n 1, 1) := by decide +kernel
theorem dX1_copyFrom_70 : decode cX1_copyFrom 70 = .ok (.getfield 21, 3) := by decide +kernel
theorem dX1_copyFrom_73 : decode cX1_copyFrom 73 = .ok (.iconst 0, 1) := by decide +kernel
theorem dX1_copyFrom_74 : decode cX1_copyFrom 74 = .ok (.aload_n 0, 1) := by decide +kernel
theorem dX1_copyFrom_75 : decode cX1_copyFrom 75 = .ok (.getfield 21, 3) := by decide +kernel
theorem dX1_copyFrom_78 : decode cX1_copyFrom 78 = .ok (.iconst 0, 1) := by decide +kernel
theorem dX1_copyFrom_79 : decode cX1_copyFrom 79 = .ok (.bipush 9, 2) := by decide +kernel
theorem dX1_copyFrom_81 : decode cX1_copyFrom 81 = .ok (.invokestatic 34, 3) := by decide +kernel
theorem dX1_copyFrom_84 : decode cX1_copyFrom 84 = .ok (.return_, 1) := by decide +kernel
theorem dX1_addFarm_0 : decode cX1_addFarm 0 = .ok (.aload_n 0, 1) := by decide +kernel
theorem dX1_addFarm_1 : decode cX1_addFarm 1 = .ok (.getfield 9, 3) := by decide +kernel
theorem dX1_addFarm_4 : decode cX1_addFarm 4 = .ok (.aload_n 0, 1) := by decide +kernel
theorem dX1_addFarm_5 : decode cX1_addFarm 5 = .ok (.getfield 31, 3) := by decide +kernel
theorem dX1_addFarm_8 : decode cX1_addFarm 8 = .ok (.iload_n 1, 1) := by decide +kernel
theorem dX1_addFarm_9 : decode cX1_addFarm 9 = .ok (.invokestatic 40, 3) := by decide +kernel
theorem dX1_addFarm_12 : decode cX1_addFarm 12 = .ok (.aload_n 0, 1) := by decide +kernel
theorem dX1_addFarm_13 : decode cX1_addFarm 13 = .ok (.getfield 15, 3) := by decide +kernel
theorem dX1_addFarm_16 : decode cX1_addFarm 16 = .ok (.aload_n 0, 1) := by decide +kernel
theorem dX1_addFarm_17 : decode cX1_addFarm 17 = .ok (.getfield 31, 3) := by decide +kernel
theorem dX1_addFarm_20 : decode cX1_addFarm 20 = .ok (.iload_n 2, 1) := by decide +kernel
theorem dX1_addFarm_21 : decode cX1_addFarm 21 = .ok (.invokestatic 40, 3) := by decide +kernel
theorem dX1_addFarm_24 : decode cX1_addFarm 24 = .ok (.aload_n 0, 1) := by decide +kernel
theorem dX1_addFarm_25 : decode cX1_addFarm 25 = .ok (.getfield 18, 3) := by decide +kernel
theorem dX1_addFarm_28 : decode cX1_addFarm 28 = .ok (.aload_n 0, 1) := by decide +kernel
theorem dX1_addFarm_29 : decode cX1_addFarm 29 = .ok (.getfield 31, 3) := by decide +kernel
theorem dX1_addFarm_32 : decode cX1_addFarm 32 = .ok (.iload_n 3, 1) := by decide +kernel
theorem dX1_addFarm_33 : decode cX1_addFarm 33 = .ok (.invokestatic 40, 3) := by decide +kernel
theorem dX1_addFarm_36 : decode cX1_addFarm 36 = .ok (.aload_n 0, 1) := by decide +kernel
theorem dX1_addFarm_37 : decode cX1_addFarm 37 = .ok (.getfield 21, 3) := by decide +kernel
theorem dX1_addFarm_40 : decode cX1_addFarm 40 = .ok (.aload_n 0, 1) := by decide +kernel
theorem dX1_addFarm_41 : decode cX1_addFarm 41 = .ok (.getfield 31, 3) := by decide +kernel
theorem dX1_addFarm_44 : decode cX1_addFarm 44 = .ok (.iload 4, 2) := by decide +kernel
theorem dX1_addFarm_46 : decode cX1_addFarm 46 = .ok (.invokestatic 40, 3) := by decide +kernel
theorem dX1_addFarm_49 : decode cX1_addFarm 49 = .ok (.aload_n 0, 1) := by decide +kernel
theorem dX1_addFarm_50 : decode cX1_addFarm 50 = .ok (.dup, 1) := by decide +kernel
theorem dX1_addFarm_51 : decode cX1_addFarm 51 = .ok (.getfield 31, 3) := by decide +kernel
theorem dX1_addFarm_54 : decode cX1_addFarm 54 = .ok (.iconst 1, 1) := by decide +kernel
theorem dX1_addFarm_55 : decode cX1_addFarm 55 = .ok (.iadd, 1) := by decide +kernel
theorem dX1_addFarm_56 : decode cX1_addFarm 56 = .ok (.putfield 31, 3) := by decide +kernel
theorem dX1_addFarm_59 : decode cX1_addFarm 59 = .ok (.return_, 1) := by decide +kernel
theorem dX1_toGoFrom_0 : decode cX1_toGoFrom 0 = .ok (.iconst 4, 1) := by decide +kernel
theorem dX1_toGoFrom_1 : decode cX1_toGoFrom 1 = .ok (.aload_n 0, 1) := by decide +kernel
theorem dX1_toGoFrom_2 : decode cX1_toGoFrom 2 = .ok (.getfield 15, 3) := by decide +kernel
theorem dX1_toGoFrom_5 : decode cX1_toGoFrom 5 = .ok (.iload_n 1, 1) := by decide +kernel
theorem dX1_toGoFrom_6 : decode cX1_toGoFrom 6 = .ok (.invokestatic 44, 3) := by decide +kernel
theorem dX1_toGoFrom_9 : decode cX1_toGoFrom 9 = .ok (.imul, 1) := by decide +kernel
theorem dX1_toGoFrom_10 : decode cX1_toGoFrom 10 = .ok (.ireturn, 1) := by decide +kernel
theorem dX2_init_0 : decode cX2_init 0 = .ok (.aload_n 0, 1) := by decide +kernel
theorem dX2_init_1 : decode cX2_init 1 = .ok (.invokespecial 3, 3) := by decide +kernel
theorem dX2_init_4 : decode cX2_init 4 = .ok (.aload_n 0, 1) := by decide +kernel
theorem dX2_init_5 : decode cX2_init 5 = .ok (.bipush 6, 2) := by decide +kernel
theorem dX2_init_7 : decode cX2_init 7 = .ok (.newarray .int, 2) := by decide +kernel
theorem dX2_init_9 : decode cX2_init 9 = .ok (.putfield 9, 3) := by decide +kernel
theorem dX2_init_12 : decode cX2_init 12 = .ok (.aload_n 0, 1) := by decide +kernel
theorem dX2_init_13 : decode cX2_init 13 = .ok (.bipush 6, 2) := by decide +kernel
theorem dX2_init_15 : decode cX2_init 15 = .ok (.newarray .int, 2) := by decide +kernel
theorem dX2_init_17 : decode cX2_init 17 = .ok (.putfield 15, 3) := by decide +kernel
theorem dX2_init_20 : decode cX2_init 20 = .ok (.aload_n 0, 1) := by decide +kernel
theorem dX2_init_21 : decode cX2_init 21 = .ok (.bipush 9, 2) := by decide +kernel
theorem dX2_init_23 : decode cX2_init 23 = .ok (.newarray .int, 2) := by decide +kernel
theorem dX2_init_25 : decode cX2_init 25 = .ok (.putfield 18, 3) := by decide +kernel
theorem dX2_init_28 : decode cX2_init 28 = .ok (.return_, 1) := by decide +kernel
theorem dX2_add_0 : decode cX2_add 0 = .ok (.aload_n 0, 1) := by decide +kernel
theorem dX2_add_1 : decode cX2_add 1 = .ok (.getfield 9, 3) := by decide +kernel
theorem dX2_add_4 : decode cX2_add 4 = .ok (.aload_n 0, 1) := by decide +kernel
theorem dX2_add_5 : decode cX2_add 5 = .ok (.getfield 21, 3) := by decide +kernel
theorem dX2_add_8 : decode cX2_add 8 = .ok (.iload_n 1, 1) := by decide +kernel
theorem dX2_add_9 : decode cX2_add 9 = .ok (.invokestatic 25, 3) := by decide +kernel
theorem dX2_add_12 : decode cX2_add 12 = .ok (.aload_n 0, 1) := by decide +kernel
theorem dX2_add_13 : decode cX2_add 13 = .ok (.getfield 15, 3) := by decide +kernel
theorem dX2_add_16 : decode cX2_add 16 = .ok (.aload_n 0, 1) := by decide +kernel
theorem dX2_add_17 : decode cX2_add 17 = .ok (.getfield 21, 3) := by decide +kernel
theorem dX2_add_20 : decode cX2_add 20 = .ok (.iload_n 2, 1) := by decide +kernel
theorem dX2_add_21 : decode cX2_add 21 = .ok (.invokestatic 25, 3) := by decide +kernel
theorem dX2_add_24 : decode cX2_add 24 = .ok (.aload_n 0, 1) := by decide +kernel
theorem dX2_add_25 : decode cX2_add 25 = .ok (.dup, 1) := by decide +kernel
theorem dX2_add_26 : decode cX2_add 26 = .ok (.getfield 21, 3) := by decide +kernel
theorem dX2_add_29 : decode cX2_add 29 = .ok (.iconst 1, 1) := by decide +kernel
theorem dX2_add_30 : decode cX2_add 30 = .ok (.iadd, 1) := by decide +kernel
theorem dX2_add_31 : decode cX2_add 31 = .ok (.putfield 21, 3) := by decide +kernel
theorem dX2_add_34 : decode cX2_add 34 = .ok (.return_, 1) := by decide +kernel
theorem dX2_howMany_0 : decode cX2_howMany 0 = .ok (.iconst 0, 1) := by decide +kernel
theorem dX2_howMany_1 : decode cX2_howMany 1 = .ok (.istore_n 2, 1) := by decide +kernel
theorem dX2_howMany_2 : decode cX2_howMany 2 = .ok (.iconst 0, 1) := by decide +kernel
theorem dX2_howMany_3 : decode cX2_howMany 3 = .ok (.istore_n 3, 1) := by decide +kernel
theorem dX2_howMany_4 : decode cX2_howMany 4 = .ok (.iload_n 3, 1) := by decide +kernel
theorem dX2_howMany_5 : decode cX2_howMany 5 = .ok (.bipush 50, 2) := by decide +kernel
theorem dX2_howMany_7 : decode cX2_howMany 7 = .ok (.if_icmp .ge 21, 3) := by decide +kernel
theorem dX2_howMany_10 : decode cX2_howMany 10 = .ok (.aload_n 0, 1) := by decide +kernel
theorem dX2_howMany_11 : decode cX2_howMany 11 = .ok (.iload_n 3, 1) := by decide +kernel
theorem dX2_howMany_12 : decode cX2_howMany 12 = .ok (.iload_n 1, 1) := by decide +kernel
theorem dX2_howMany_13 : decode cX2_howMany 13 = .ok (.invokevirtual 29, 3) := by decide +kernel
theorem dX2_howMany_16 : decode cX2_howMany 16 = .ok (.ifCond .eq 6, 3) := by decide +kernel
theorem dX2_howMany_19 : decode cX2_howMany 19 = .ok (.iinc 2 1, 3) := by decide +kernel
theorem dX2_howMany_22 : decode cX2_howMany 22 = .ok (.iinc 3 1, 3) := by decide +kernel
theorem dX2_howMany_25 : decode cX2_howMany 25 = .ok (.goto (-21), 3) := by decide +kernel
theorem dX2_howMany_28 : decode cX2_howMany 28 = .ok (.iload_n 2, 1) := by decide +kernel
theorem dX2_howMany_29 : decode cX2_howMany 29 = .ok (.ireturn, 1) := by decide +kernel
theorem dX2_first_0 : decode cX2_first 0 = .ok (.iconst 0, 1) := by decide +kernel
theorem dX2_first_1 : decode cX2_first 1 = .ok (.istore_n 2, 1) := by decide +kernel
theorem dX2_first_2 : decode cX2_first 2 = .ok (.iload_n 2, 1) := by decide +kernel
theorem dX2_first_3 : decode cX2_first 3 = .ok (.bipush 50, 2) := by decide +kernel
theorem dX2_first_5 : decode cX2_first 5 = .ok (.if_icmp .ge 20, 3) := by decide +kernel
theorem dX2_first_8 : decode cX2_first 8 = .ok (.aload_n 0, 1) := by decide +kernel
theorem dX2_first_9 : decode cX2_first 9 = .ok (.iload_n 2, 1) := by decide +kernel
theorem dX2_first_10 : decode cX2_first 10 = .ok (.iload_n 1, 1) := by decide +kernel
theorem dX2_first_11 : decode cX2_first 11 = .ok (.invokevirtual 29, 3) := by decide +kernel
theorem dX2_first_14 : decode cX2_first 14 = .ok (.ifCond .eq 5, 3) := by decide +kernel
theorem dX2_first_17 : decode cX2_first 17 = .ok (.iload_n 2, 1) := by decide +kernel
theorem dX2_first_18 : decode cX2_first 18 = .ok (.ireturn, 1) := by decide +kernel
theorem dX2_first_19 : decode cX2_first 19 = .ok (.iinc 2 1, 3) := by decide +kernel
theorem dX2_first_22 : decode cX2_first 22 = .ok (.goto (-20), 3) := by decide +kernel
theorem dX2_first_25 : decode cX2_first 25 = .ok (.iconst (-1), 1) := by decide +kernel
theorem dX2_first_26 : decode cX2_first 26 = .ok (.ireturn, 1) := by decide +kernel
theorem dX2_bestWord_0 : decode cX2_bestWord 0 = .ok (.aload_n 0, 1) := by decide +kernel
theorem dX2_bestWord_1 : decode cX2_bestWord 1 = .ok (.iload_n 1, 1) := by decide +kernel
theorem dX2_bestWord_2 : decode cX2_bestWord 2 = .ok (.invokevirtual 33, 3) := by decide +kernel
theorem dX2_bestWord_5 : decode cX2_bestWord 5 = .ok (.istore_n 2, 1) := by decide +kernel
theorem dX2_bestWord_6 : decode cX2_bestWord 6 = .ok (.iconst (-1), 1) := by decide +kernel
theorem dX2_bestWord_7 : decode cX2_bestWord 7 = .ok (.istore_n 3, 1) := by decide +kernel
theorem dX2_bestWord_8 : decode cX2_bestWord 8 = .ok (.iconst 0, 1) := by decide +kernel
theorem dX2_bestWord_9 : decode cX2_bestWord 9 = .ok (.istore 4, 2) := by decide +kernel
theorem dX2_bestWord_11 : decode cX2_bestWord 11 = .ok (.iload 4, 2) := by decide +kernel
theorem dX2_bestWord_13 : decode cX2_bestWord 13 = .ok (.iload_n 1, 1) := by decide +kernel
theorem dX2_bestWord_14 : decode cX2_bestWord 14 = .ok (.if_icmp .ge 30, 3) := by decide +kernel
theorem dX2_bestWord_17 : decode cX2_bestWord 17 = .ok (.aload_n 0, 1) := by decide +kernel
theorem dX2_bestWord_18 : decode cX2_bestWord 18 = .ok (.iload 4, 2) := by decide +kernel
theorem dX2_bestWord_20 : decode cX2_bestWord 20 = .ok (.iload_n 1, 1) := by decide +kernel
theorem dX2_bestWord_21 : decode cX2_bestWord 21 = .ok (.invokevirtual 37, 3) := by decide +kernel
theorem dX2_bestWord_24 : decode cX2_bestWord 24 = .ok (.istore 5, 2) := by decide +kernel
theorem dX2_bestWord_26 : decode cX2_bestWord 26 = .ok (.iload 5, 2) := by decide +kernel
theorem dX2_bestWord_28 : decode cX2_bestWord 28 = .ok (.iload_n 2, 1) := by decide +kernel
theorem dX2_bestWord_29 : decode cX2_bestWord 29 = .ok (.if_icmp .ge 9, 3) := by decide +kernel
theorem dX2_bestWord_32 : decode cX2_bestWord 32 = .ok (.iload 5, 2) := by decide +kernel
theorem dX2_bestWord_34 : decode cX2_bestWord 34 = .ok (.istore_n 2, 1) := by decide +kernel
theorem dX2_bestWord_35 : decode cX2_bestWord 35 = .ok (.iload 4, 2) := by decide +kernel
theorem dX2_bestWord_37 : decode cX2_bestWord 37 = .ok (.istore_n 3, 1) := by decide +kernel
theorem dX2_bestWord_38 : decode cX2_bestWord 38 = .ok (.iinc 4 1, 3) := by decide +kernel
theorem dX2_bestWord_41 : decode cX2_bestWord 41 = .ok (.goto (-30), 3) := by decide +kernel
theorem dX2_bestWord_44 : decode cX2_bestWord 44 = .ok (.iload_n 3, 1) := by decide +kernel
theorem dX2_bestWord_45 : decode cX2_bestWord 45 = .ok (.ireturn, 1) := by decide +kernel
theorem dX2_greatestPart_0 : decode cX2_greatestPart 0 = .ok (.aload_n 0, 1) := by decide +kernel
theorem dX2_greatestPart_1 : decode cX2_greatestPart 1 = .ok (.getfield 18, 3) := by decide +kernel
theorem dX2_greatestPart_4 : decode cX2_greatestPart 4 = .ok (.iconst 0, 1) := by decide +kernel
theorem dX2_greatestPart_5 : decode cX2_greatestPart 5 = .ok (.invokestatic 41, 3) := by decide +kernel
theorem dX2_greatestPart_8 : decode cX2_greatestPart 8 = .ok (.iconst 0, 1) := by decide +kernel
theorem dX2_greatestPart_9 : decode cX2_greatestPart 9 = .ok (.istore_n 3, 1) := by decide +kernel
theorem dX2_greatestPart_10 : decode cX2_greatestPart 10 = .ok (.iconst 0, 1) := by decide +kernel
theorem dX2_greatestPart_11 : decode cX2_greatestPart 11 = .ok (.istore 4, 2) := by decide +kernel
theorem dX2_greatestPart_13 : decode cX2_greatestPart 13 = .ok (.iload 4, 2) := by decide +kernel
theorem dX2_greatestPart_15 : decode cX2_greatestPart 15 = .ok (.bipush 50, 2) := by decide +kernel
theorem dX2_greatestPart_17 : decode cX2_greatestPart 17 = .ok (.if_icmp .ge 70, 3) := by decide +kernel
theorem dX2_greatestPart_20 : decode cX2_greatestPart 20 = .ok (.aload_n 0, 1) := by decide +kernel
theorem dX2_greatestPart_21 : decode cX2_greatestPart 21 = .ok (.iload 4, 2) := by decide +kernel
theorem dX2_greatestPart_23 : decode cX2_greatestPart 23 = .ok (.iload_n 2, 1) := by decide +kernel
theorem dX2_greatestPart_24 : decode cX2_greatestPart 24 = .ok (.invokevirtual 29, 3) := by decide +kernel
theorem dX2_greatestPart_27 : decode cX2_greatestPart 27 = .ok (.ifCond .eq 54, 3) := by decide +kernel
theorem dX2_greatestPart_30 : decode cX2_greatestPart 30 = .ok (.iload 4, 2) := by decide +kernel
theorem dX2_greatestPart_32 : decode cX2_greatestPart 32 = .ok (.bipush 10, 2) := by decide +kernel
theorem dX2_greatestPart_34 : decode cX2_greatestPart 34 = .ok (.idiv, 1) := by decide +kernel
theorem dX2_greatestPart_35 : decode cX2_greatestPart 35 = .ok (.iload 4, 2) := by decide +kernel
theorem dX2_greatestPart_37 : decode cX2_greatestPart 37 = .ok (.bipush 10, 2) := by decide +kernel
theorem dX2_greatestPart_39 : decode cX2_greatestPart 39 = .ok (.irem, 1) := by decide +kernel
theorem dX2_greatestPart_40 : decode cX2_greatestPart 40 = .ok (.iload_n 2, 1) := by decide +kernel
theorem dX2_greatestPart_41 : decode cX2_greatestPart 41 = .ok (.iload_n 1, 1) := by decide +kernel
theorem dX2_greatestPart_42 : decode cX2_greatestPart 42 = .ok (.invokestatic 47, 3) := by decide +kernel
theorem dX2_greatestPart_45 : decode cX2_greatestPart 45 = .ok (.istore 5, 2) := by decide +kernel
theorem dX2_greatestPart_47 : decode cX2_greatestPart 47 = .ok (.aload_n 0, 1) := by decide +kernel
theorem dX2_greatestPart_48 : decode cX2_greatestPart 48 = .ok (.getfield 18, 3) := by decide +kernel
theorem dX2_greatestPart_51 : decode cX2_greatestPart 51 = .ok (.iload 5, 2) := by decide +kernel
theorem dX2_greatestPart_53 : decode cX2_greatestPart 53 = .ok (.aload_n 0, 1) := by decide +kernel
theorem dX2_greatestPart_54 : decode cX2_greatestPart 54 = .ok (.getfield 18, 3) := by decide +kernel
theorem dX2_greatestPart_57 : decode cX2_greatestPart 57 = .ok (.iload 5, 2) := by decide +kernel
theorem dX2_greatestPart_59 : decode cX2_greatestPart 59 = .ok (.invokestatic 51, 3) := by decide +kernel
theorem dX2_greatestPart_62 : decode cX2_greatestPart 62 = .ok (.iconst 1, 1) := by decide +kernel
theorem dX2_greatestPart_63 : decode cX2_greatestPart 63 = .ok (.iadd, 1) := by decide +kernel
theorem dX2_greatestPart_64 : decode cX2_greatestPart 64 = .ok (.invokestatic 25, 3) := by decide +kernel
theorem dX2_greatestPart_67 : decode cX2_greatestPart 67 = .ok (.iload_n 3, 1) := by decide +kernel
theorem dX2_greatestPart_68 : decode cX2_greatestPart 68 = .ok (.aload_n 0, 1) := by decide +kernel
theorem dX2_greatestPart_69 : decode cX2_greatestPart 69 = .ok (.getfield 18, 3) := by decide +kernel
theorem dX2_greatestPart_72 : decode cX2_greatestPart 72 = .ok (.iload 5, 2) := by decide +kernel
theorem dX2_greatestPart_74 : decode cX2_greatestPart 74 = .ok (.invokestatic 51, 3) := by decide +kernel
theorem dX2_greatestPart_77 : decode cX2_greatestPart 77 = .ok (.invokestatic 55, 3) := by decide +kernel
theorem dX2_greatestPart_80 : decode cX2_greatestPart 80 = .ok (.istore_n 3, 1) := by decide +kernel
theorem dX2_greatestPart_81 : decode cX2_greatestPart 81 = .ok (.iinc 4 1, 3) := by decide +kernel
theorem dX2_greatestPart_84 : decode cX2_greatestPart 84 = .ok (.goto (-71), 3) := by decide +kernel
theorem dX2_greatestPart_87 : decode cX2_greatestPart 87 = .ok (.iload_n 3, 1) := by decide +kernel
theorem dX2_greatestPart_88 : decode cX2_greatestPart 88 = .ok (.ireturn, 1) := by decide +kernel
theorem dX2_fits_0 : decode cX2_fits 0 = .ok (.iload_n 1, 1) := by decide +kernel
theorem dX2_fits_1 : decode cX2_fits 1 = .ok (.bipush 10, 2) := by decide +kernel
theorem dX2_fits_3 : decode cX2_fits 3 = .ok (.idiv, 1) := by decide +kernel
theorem dX2_fits_4 : decode cX2_fits 4 = .ok (.istore_n 3, 1) := by decide +kernel
theorem dX2_fits_5 : decode cX2_fits 5 = .ok (.iload_n 1, 1) := by decide +kernel
theorem dX2_fits_6 : decode cX2_fits 6 = .ok (.bipush 10, 2) := by decide +kernel
theorem dX2_fits_8 : decode cX2_fits 8 = .ok (.irem, 1) := by decide +kernel
theorem dX2_fits_9 : decode cX2_fits 9 = .ok (.istore 4, 2) := by decide +kernel
theorem dX2_fits_11 : decode cX2_fits 11 = .ok (.iload_n 3, 1) := by decide +kernel
theorem dX2_fits_12 : decode cX2_fits 12 = .ok (.iload 4, 2) := by decide +kernel
theorem dX2_fits_14 : decode cX2_fits 14 = .ok (.iload_n 2, 1) := by decide +kernel
theorem dX2_fits_15 : decode cX2_fits 15 = .ok (.invokestatic 60, 3) := by decide +kernel
theorem dX2_fits_18 : decode cX2_fits 18 = .ok (.ifCond .ne 5, 3) := by decide +kernel
theorem dX2_fits_21 : decode cX2_fits 21 = .ok (.iconst 0, 1) := by decide +kernel
theorem dX2_fits_22 : decode cX2_fits 22 = .ok (.ireturn, 1) := by decide +kernel
theorem dX2_fits_23 : decode cX2_fits 23 = .ok (.iconst 0, 1) := by decide +kernel
theorem dX2_fits_24 : decode cX2_fits 24 = .ok (.istore 5, 2) := by decide +kernel
theorem dX2_fits_26 : decode cX2_fits 26 = .ok (.iload 5, 2) := by decide +kernel
theorem dX2_fits_28 : decode cX2_fits 28 = .ok (.aload_n 0, 1) := by decide +kernel
theorem dX2_fits_29 : decode cX2_fits 29 = .ok (.getfield 21, 3) := by decide +kernel
theorem dX2_fits_32 : decode cX2_fits 32 = .ok (.if_icmp .ge 39, 3) := by decide +kernel
theorem dX2_fits_35 : decode cX2_fits 35 = .ok (.iload_n 3, 1) := by decide +kernel
theorem dX2_fits_36 : decode cX2_fits 36 = .ok (.iload 4, 2) := by decide +kernel
theorem dX2_fits_38 : decode cX2_fits 38 = .ok (.iload_n 2, 1) := by decide +kernel
theorem dX2_fits_39 : decode cX2_fits 39 = .ok (.aload_n 0, 1) := by decide +kernel
theorem dX2_fits_40 : decode cX2_fits 40 = .ok (.getfield 9, 3) := by decide +kernel
theorem dX2_fits_43 : decode cX2_fits 43 = .ok (.iload 5, 2) := by decide +kernel
theorem dX2_fits_45 : decode cX2_fits 45 = .ok (.invokestatic 51, 3) := by decide +kernel
theorem dX2_fits_48 : decode cX2_fits 48 = .ok (.invokestatic 47, 3) := by decide +kernel
theorem dX2_fits_51 : decode cX2_fits 51 = .ok (.aload_n 0, 1) := by decide +kernel
theorem dX2_fits_52 : decode cX2_fits 52 = .ok (.getfield 15, 3) := by decide +kernel
theorem dX2_fits_55 : decode cX2_fits 55 = .ok (.iload 5, 2) := by decide +kernel
theorem dX2_fits_57 : decode cX2_fits 57 = .ok (.invokestatic 51, 3) := by decide +kernel
theorem dX2_fits_60 : decode cX2_fits 60 = .ok (.if_icmp .eq 5, 3) := by decide +kernel
theorem dX2_fits_63 : decode cX2_fits 63 = .ok (.iconst 0, 1) := by decide +kernel
theorem dX2_fits_64 : decode cX2_fits 64 = .ok (.ireturn, 1) := by decide +kernel
theorem dX2_fits_65 : decode cX2_fits 65 = .ok (.iinc 5 1, 3) := by decide +kernel
theorem dX2_fits_68 : decode cX2_fits 68 = .ok (.goto (-42), 3) := by decide +kernel
theorem dX2_fits_71 : decode cX2_fits 71 = .ok (.iconst 1, 1) := by decide +kernel
theorem dX2_fits_72 : decode cX2_fits 72 = .ok (.ireturn, 1) := by decide +kernel
theorem dX2_isListed_0 : decode cX2_isListed 0 = .ok (.iload_n 0, 1) := by decide +kernel
theorem dX2_isListed_1 : decode cX2_isListed 1 = .ok (.tableswitch 60 1 4 #[31, 47, 60, 31], 31) := by decide +kernel
theorem dX2_isListed_32 : decode cX2_isListed 32 = .ok (.iload_n 1, 1) := by decide +kernel
theorem dX2_isListed_33 : decode cX2_isListed 33 = .ok (.iconst 1, 1) := by decide +kernel
theorem dX2_isListed_34 : decode cX2_isListed 34 = .ok (.if_icmp .lt 12, 3) := by decide +kernel
theorem dX2_isListed_37 : decode cX2_isListed 37 = .ok (.iload_n 1, 1) := by decide +kernel
theorem dX2_isListed_38 : decode cX2_isListed 38 = .ok (.iload_n 2, 1) := by decide +kernel
theorem dX2_isListed_39 : decode cX2_isListed 39 = .ok (.if_icmp .ge 7, 3) := by decide +kernel
theorem dX2_isListed_42 : decode cX2_isListed 42 = .ok (.iconst 1, 1) := by decide +kernel
theorem dX2_isListed_43 : decode cX2_isListed 43 = .ok (.goto 4, 3) := by decide +kernel
theorem dX2_isListed_46 : decode cX2_isListed 46 = .ok (.iconst 0, 1) := by decide +kernel
theorem dX2_isListed_47 : decode cX2_isListed 47 = .ok (.ireturn, 1) := by decide +kernel
theorem dX2_isListed_48 : decode cX2_isListed 48 = .ok (.iload_n 1, 1) := by decide +kernel
theorem dX2_isListed_49 : decode cX2_isListed 49 = .ok (.iload_n 2, 1) := by decide +kernel
theorem dX2_isListed_50 : decode cX2_isListed 50 = .ok (.iconst 1, 1) := by decide +kernel
theorem dX2_isListed_51 : decode cX2_isListed 51 = .ok (.isub, 1) := by decide +kernel
theorem dX2_isListed_52 : decode cX2_isListed 52 = .ok (.if_icmp .ge 7, 3) := by decide +kernel
theorem dX2_isListed_55 : decode cX2_isListed 55 = .ok (.iconst 1, 1) := by decide +kernel
theorem dX2_isListed_56 : decode cX2_isListed 56 = .ok (.goto 4, 3) := by decide +kernel
theorem dX2_isListed_59 : decode cX2_isListed 59 = .ok (.iconst 0, 1) := by decide +kernel
theorem dX2_isListed_60 : decode cX2_isListed 60 = .ok (.ireturn, 1) := by decide +kernel
theorem dX2_isListed_61 : decode cX2_isListed 61 = .ok (.iload_n 1, 1) := by decide +kernel
theorem dX2_isListed_62 : decode cX2_isListed 62 = .ok (.ifCond .ne 11, 3) := by decide +kernel
theorem dX2_isListed_65 : decode cX2_isListed 65 = .ok (.iload_n 2, 1) := by decide +kernel
theorem dX2_isListed_66 : decode cX2_isListed 66 = .ok (.ifCond .le 7, 3) := by decide +kernel
theorem dX2_isListed_69 : decode cX2_isListed 69 = .ok (.iconst 1, 1) := by decide +kernel
theorem dX2_isListed_70 : decode cX2_isListed 70 = .ok (.goto 4, 3) := by decide +kernel
theorem dX2_isListed_73 : decode cX2_isListed 73 = .ok (.iconst 0, 1) := by decide +kernel
theorem dX2_isListed_74 : decode cX2_isListed 74 = .ok (.ireturn, 1) := by decide +kernel
theorem dX3_init_0 : decode cX3_init 0 = .ok (.aload_n 0, 1) := by decide +kernel
theorem dX3_init_1 : decode cX3_init 1 = .ok (.invokespecial 3, 3) := by decide +kernel
theorem dX3_init_4 : decode cX3_init 4 = .ok (.aload_n 0, 1) := by decide +kernel
theorem dX3_init_5 : decode cX3_init 5 = .ok (.bipush 16, 2) := by decide +kernel
theorem dX3_init_7 : decode cX3_init 7 = .ok (.anewarray 9, 3) := by decide +kernel
theorem dX3_init_10 : decode cX3_init 10 = .ok (.putfield 11, 3) := by decide +kernel
theorem dX3_init_13 : decode cX3_init 13 = .ok (.iconst 0, 1) := by decide +kernel
theorem dX3_init_14 : decode cX3_init 14 = .ok (.istore_n 1, 1) := by decide +kernel
theorem dX3_init_15 : decode cX3_init 15 = .ok (.iload_n 1, 1) := by decide +kernel
theorem dX3_init_16 : decode cX3_init 16 = .ok (.aload_n 0, 1) := by decide +kernel
theorem dX3_init_17 : decode cX3_init 17 = .ok (.getfield 11, 3) := by decide +kernel
theorem dX3_init_20 : decode cX3_init 20 = .ok (.arraylength, 1) := by decide +kernel
theorem dX3_init_21 : decode cX3_init 21 = .ok (.if_icmp .ge 22, 3) := by decide +kernel
theorem dX3_init_24 : decode cX3_init 24 = .ok (.aload_n 0, 1) := by decide +kernel
theorem dX3_init_25 : decode cX3_init 25 = .ok (.getfield 11, 3) := by decide +kernel
theorem dX3_init_28 : decode cX3_init 28 = .ok (.iload_n 1, 1) := by decide +kernel
theorem dX3_init_29 : decode cX3_init 29 = .ok (.new 9, 3) := by decide +kernel
theorem dX3_init_32 : decode cX3_init 32 = .ok (.dup, 1) := by decide +kernel
theorem dX3_init_33 : decode cX3_init 33 = .ok (.invokespecial 17, 3) := by decide +kernel
theorem dX3_init_36 : decode cX3_init 36 = .ok (.aastore, 1) := by decide +kernel
theorem dX3_init_37 : decode cX3_init 37 = .ok (.iinc 1 1, 3) := by decide +kernel
theorem dX3_init_40 : decode cX3_init 40 = .ok (.goto (-25), 3) := by decide +kernel
theorem dX3_init_43 : decode cX3_init 43 = .ok (.return_, 1) := by decide +kernel
theorem dX3_remember_0 : decode cX3_remember 0 = .ok (.aload_n 0, 1) := by decide +kernel
theorem dX3_remember_1 : decode cX3_remember 1 = .ok (.aload_n 0, 1) := by decide +kernel
theorem dX3_remember_2 : decode cX3_remember 2 = .ok (.getfield 18, 3) := by decide +kernel
theorem dX3_remember_5 : decode cX3_remember 5 = .ok (.invokevirtual 22, 3) := by decide +kernel
theorem dX3_remember_8 : decode cX3_remember 8 = .ok (.astore_n 2, 1) := by decide +kernel
theorem dX3_remember_9 : decode cX3_remember 9 = .ok (.aload_n 2, 1) := by decide +kernel
theorem dX3_remember_10 : decode cX3_remember 10 = .ok (.ifnull 36, 3) := by decide +kernel
theorem dX3_remember_13 : decode cX3_remember 13 = .ok (.aload_n 2, 1) := by decide +kernel
theorem dX3_remember_14 : decode cX3_remember 14 = .ok (.aload_n 1, 1) := by decide +kernel
theorem dX3_remember_15 : decode cX3_remember 15 = .ok (.invokevirtual 26, 3) := by decide +kernel
theorem dX3_remember_18 : decode cX3_remember 18 = .ok (.aload_n 0, 1) := by decide +kernel
theorem dX3_remember_19 : decode cX3_remember 19 = .ok (.aload_n 0, 1) := by decide +kernel
theorem dX3_remember_20 : decode cX3_remember 20 = .ok (.getfield 18, 3) := by decide +kernel
theorem dX3_remember_23 : decode cX3_remember 23 = .ok (.iconst 1, 1) := by decide +kernel
theorem dX3_remember_24 : decode cX3_remember 24 = .ok (.iadd, 1) := by decide +kernel
theorem dX3_remember_25 : decode cX3_remember 25 = .ok (.bipush 16, 2) := by decide +kernel
theorem dX3_remember_27 : decode cX3_remember 27 = .ok (.irem, 1) := by decide +kernel
theorem dX3_remember_28 : decode cX3_remember 28 = .ok (.putfield 18, 3) := by decide +kernel
theorem dX3_remember_31 : decode cX3_remember 31 = .ok (.aload_n 0, 1) := by decide +kernel
theorem dX3_remember_32 : decode cX3_remember 32 = .ok (.bipush 16, 2) := by decide +kernel
theorem dX3_remember_34 : decode cX3_remember 34 = .ok (.aload_n 0, 1) := by decide +kernel
theorem dX3_remember_35 : decode cX3_remember 35 = .ok (.getfield 30, 3) := by decide +kernel
theorem dX3_remember_38 : decode cX3_remember 38 = .ok (.iconst 1, 1) := by decide +kernel
theorem dX3_remember_39 : decode cX3_remember 39 = .ok (.iadd, 1) := by decide +kernel
theorem dX3_remember_40 : decode cX3_remember 40 = .ok (.invokestatic 33, 3) := by decide +kernel
theorem dX3_remember_43 : decode cX3_remember 43 = .ok (.putfield 30, 3) := by decide +kernel
theorem dX3_remember_46 : decode cX3_remember 46 = .ok (.return_, 1) := by decide +kernel
theorem dX3_bringBack_0 : decode cX3_bringBack 0 = .ok (.aload_n 0, 1) := by decide +kernel
theorem dX3_bringBack_1 : decode cX3_bringBack 1 = .ok (.getfield 18, 3) := by decide +kernel
theorem dX3_bringBack_4 : decode cX3_bringBack 4 = .ok (.bipush 16, 2) := by decide +kernel
theorem dX3_bringBack_6 : decode cX3_bringBack 6 = .ok (.iadd, 1) := by decide +kernel
theorem dX3_bringBack_7 : decode cX3_bringBack 7 = .ok (.iconst 1, 1) := by decide +kernel
theorem dX3_bringBack_8 : decode cX3_bringBack 8 = .ok (.isub, 1) := by decide +kernel
theorem dX3_bringBack_9 : decode cX3_bringBack 9 = .ok (.bipush 16, 2) := by decide +kernel
theorem dX3_bringBack_11 : decode cX3_bringBack 11 = .ok (.irem, 1) := by decide +kernel
theorem dX3_bringBack_12 : decode cX3_bringBack 12 = .ok (.istore_n 2, 1) := by decide +kernel
theorem dX3_bringBack_13 : decode cX3_bringBack 13 = .ok (.aload_n 0, 1) := by decide +kernel
theorem dX3_bringBack_14 : decode cX3_bringBack 14 = .ok (.iload_n 2, 1) := by decide +kernel
theorem dX3_bringBack_15 : decode cX3_bringBack 15 = .ok (.invokevirtual 22, 3) := by decide +kernel
theorem dX3_bringBack_18 : decode cX3_bringBack 18 = .ok (.astore_n 3, 1) := by decide +kernel
theorem dX3_bringBack_19 : decode cX3_bringBack 19 = .ok (.aload_n 3, 1) := by decide +kernel
theorem dX3_bringBack_20 : decode cX3_bringBack 20 = .ok (.ifnull 30, 3) := by decide +kernel
theorem dX3_bringBack_23 : decode cX3_bringBack 23 = .ok (.aload_n 0, 1) := by decide +kernel
theorem dX3_bringBack_24 : decode cX3_bringBack 24 = .ok (.getfield 30, 3) := by decide +kernel
theorem dX3_bringBack_27 : decode cX3_bringBack 27 = .ok (.ifCond .le 23, 3) := by decide +kernel
theorem dX3_bringBack_30 : decode cX3_bringBack 30 = .ok (.aload_n 1, 1) := by decide +kernel
theorem dX3_bringBack_31 : decode cX3_bringBack 31 = .ok (.aload_n 3, 1) := by decide +kernel
theorem dX3_bringBack_32 : decode cX3_bringBack 32 = .ok (.invokevirtual 26, 3) := by decide +kernel
theorem dX3_bringBack_35 : decode cX3_bringBack 35 = .ok (.aload_n 0, 1) := by decide +kernel
theorem dX3_bringBack_36 : decode cX3_bringBack 36 = .ok (.iload_n 2, 1) := by decide +kernel
theorem dX3_bringBack_37 : decode cX3_bringBack 37 = .ok (.putfield 18, 3) := by decide +kernel
theorem dX3_bringBack_40 : decode cX3_bringBack 40 = .ok (.aload_n 0, 1) := by decide +kernel
theorem dX3_bringBack_41 : decode cX3_bringBack 41 = .ok (.dup, 1) := by decide +kernel
theorem dX3_bringBack_42 : decode cX3_bringBack 42 = .ok (.getfield 30, 3) := by decide +kernel
theorem dX3_bringBack_45 : decode cX3_bringBack 45 = .ok (.iconst 1, 1) := by decide +kernel
theorem dX3_bringBack_46 : decode cX3_bringBack 46 = .ok (.isub, 1) := by decide +kernel
theorem dX3_bringBack_47 : decode cX3_bringBack 47 = .ok (.putfield 30, 3) := by decide +kernel
theorem dX3_bringBack_50 : decode cX3_bringBack 50 = .ok (.return_, 1) := by decide +kernel
theorem dX3_world_0 : decode cX3_world 0 = .ok (.iload_n 1, 1) := by decide +kernel
theorem dX3_world_1 : decode cX3_world 1 = .ok (.ifCond .lt 21, 3) := by decide +kernel
theorem dX3_world_4 : decode cX3_world 4 = .ok (.iload_n 1, 1) := by decide +kernel
theorem dX3_world_5 : decode cX3_world 5 = .ok (.aload_n 0, 1) := by decide +kernel
theorem dX3_world_6 : decode cX3_world 6 = .ok (.getfield 11, 3) := by decide +kernel
theorem dX3_world_9 : decode cX3_world 9 = .ok (.arraylength, 1) := by decide +kernel
theorem dX3_world_10 : decode cX3_world 10 = .ok (.if_icmp .ge 12, 3) := by decide +kernel
theorem dX3_world_13 : decode cX3_world 13 = .ok (.aload_n 0, 1) := by decide +kernel
theorem dX3_world_14 : decode cX3_world 14 = .ok (.getfield 11, 3) := by decide +kernel
theorem dX3_world_17 : decode cX3_world 17 = .ok (.iload_n 1, 1) := by decide +kernel
theorem dX3_world_18 : decode cX3_world 18 = .ok (.aaload, 1) := by decide +kernel
theorem dX3_world_19 : decode cX3_world 19 = .ok (.goto 4, 3) := by decide +kernel
theorem dX3_world_22 : decode cX3_world 22 = .ok (.aconst_null, 1) := by decide +kernel
theorem dX3_world_23 : decode cX3_world 23 = .ok (.areturn, 1) := by decide +kernel
theorem dX4_init_0 : decode cX4_init 0 = .ok (.aload_n 0, 1) := by decide +kernel
theorem dX4_init_1 : decode cX4_init 1 = .ok (.invokespecial 3, 3) := by decide +kernel
theorem dX4_init_4 : decode cX4_init 4 = .ok (.aload_n 0, 1) := by decide +kernel
theorem dX4_init_5 : decode cX4_init 5 = .ok (.sipush 240, 3) := by decide +kernel
theorem dX4_init_8 : decode cX4_init 8 = .ok (.newarray .int, 2) := by decide +kernel
theorem dX4_init_10 : decode cX4_init 10 = .ok (.putfield 9, 3) := by decide +kernel
theorem dX4_init_13 : decode cX4_init 13 = .ok (.aload_n 0, 1) := by decide +kernel
theorem dX4_init_14 : decode cX4_init 14 = .ok (.iconst (-1), 1) := by decide +kernel
theorem dX4_init_15 : decode cX4_init 15 = .ok (.putfield 15, 3) := by decide +kernel
theorem dX4_init_18 : decode cX4_init 18 = .ok (.return_, 1) := by decide +kernel
theorem dX4_readInto_0 : decode cX4_readInto 0 = .ok (.aload_n 1, 1) := by decide +kernel
theorem dX4_readInto_1 : decode cX4_readInto 1 = .ok (.invokevirtual 19, 3) := by decide +kernel
theorem dX4_readInto_4 : decode cX4_readInto 4 = .ok (.aload_n 0, 1) := by decide +kernel
theorem dX4_readInto_5 : decode cX4_readInto 5 = .ok (.iconst 0, 1) := by decide +kernel
theorem dX4_readInto_6 : decode cX4_readInto 6 = .ok (.putfield 24, 3) := by decide +kernel
theorem dX4_readInto_9 : decode cX4_readInto 9 = .ok (.aload_n 0, 1) := by decide +kernel
theorem dX4_readInto_10 : decode cX4_readInto 10 = .ok (.iconst 0, 1) := by decide +kernel
theorem dX4_readInto_11 : decode cX4_readInto 11 = .ok (.putfield 27, 3) := by decide +kernel
theorem dX4_readInto_14 : decode cX4_readInto 14 = .ok (.aload_n 0, 1) := by decide +kernel
theorem dX4_readInto_15 : decode cX4_readInto 15 = .ok (.iconst (-1), 1) := by decide +kernel
theorem dX4_readInto_16 : decode cX4_readInto 16 = .ok (.putfield 15, 3) := by decide +kernel
theorem dX4_readInto_19 : decode cX4_readInto 19 = .ok (.aload_n 0, 1) := by decide +kernel
theorem dX4_readInto_20 : decode cX4_readInto 20 = .ok (.invokevirtual 30, 3) := by decide +kernel
theorem dX4_readInto_23 : decode cX4_readInto 23 = .ok (.iconst 0, 1) := by decide +kernel
theorem dX4_readInto_24 : decode cX4_readInto 24 = .ok (.istore_n 2, 1) := by decide +kernel
theorem dX4_readInto_25 : decode cX4_readInto 25 = .ok (.iload_n 2, 1) := by decide +kernel
theorem dX4_readInto_26 : decode cX4_readInto 26 = .ok (.sipush 240, 3) := by decide +kernel
theorem dX4_readInto_29 : decode cX4_readInto 29 = .ok (.if_icmp .ge 36, 3) := by decide +kernel
theorem dX4_readInto_32 : decode cX4_readInto 32 = .ok (.aload_n 0, 1) := by decide +kernel
theorem dX4_readInto_33 : decode cX4_readInto 33 = .ok (.getfield 24, 3) := by decide +kernel
theorem dX4_readInto_36 : decode cX4_readInto 36 = .ok (.aload_n 0, 1) := by decide +kernel
theorem dX4_readInto_37 : decode cX4_readInto 37 = .ok (.getfield 33, 3) := by decide +kernel
theorem dX4_readInto_40 : decode cX4_readInto 40 = .ok (.if_icmp .ge 25, 3) := by decide +kernel
theorem dX4_readInto_43 : decode cX4_readInto 43 = .ok (.aload_n 0, 1) := by decide +kernel
theorem dX4_readInto_44 : decode cX4_readInto 44 = .ok (.getfield 27, 3) := by decide +kernel
theorem dX4_readInto_47 : decode cX4_readInto 47 = .ok (.ifCond .ne 18, 3) := by decide +kernel
theorem dX4_readInto_50 : decode cX4_readInto 50 = .ok (.aload_n 0, 1) := by decide +kernel
theorem dX4_readInto_51 : decode cX4_readInto 51 = .ok (.aload_n 1, 1) := by decide +kernel
theorem dX4_readInto_52 : decode cX4_readInto 52 = .ok (.invokevirtual 36, 3) := by decide +kernel
theorem dX4_readInto_55 : decode cX4_readInto 55 = .ok (.aload_n 0, 1) := by decide +kernel
theorem dX4_readInto_56 : decode cX4_readInto 56 = .ok (.invokevirtual 30, 3) := by decide +kernel
theorem dX4_readInto_59 : decode cX4_readInto 59 = .ok (.iinc 2 1, 3) := by decide +kernel
theorem dX4_readInto_62 : decode cX4_readInto 62 = .ok (.goto (-37), 3) := by decide +kernel
theorem dX4_readInto_65 : decode cX4_readInto 65 = .ok (.return_, 1) := by decide +kernel
theorem dX4_readClause_0 : decode cX4_readClause 0 = .ok (.aload_n 0, 1) := by decide +kernel
theorem dX4_readClause_1 : decode cX4_readClause 1 = .ok (.getfield 9, 3) := by decide +kernel
theorem dX4_readClause_4 : decode cX4_readClause 4 = .ok (.aload_n 0, 1) := by decide +kernel
theorem dX4_readClause_5 : decode cX4_readClause 5 = .ok (.getfield 24, 3) := by decide +kernel
theorem dX4_readClause_8 : decode cX4_readClause 8 = .ok (.invokestatic 40, 3) := by decide +kernel
theorem dX4_readClause_11 : decode cX4_readClause 11 = .ok (.istore_n 2, 1) := by decide +kernel
theorem dX4_readClause_12 : decode cX4_readClause 12 = .ok (.aload_n 1, 1) := by decide +kernel
theorem dX4_readClause_13 : decode cX4_readClause 13 = .ok (.getfield 44, 3) := by decide +kernel
theorem dX4_readClause_16 : decode cX4_readClause 16 = .ok (.ifCond .ne 7, 3) := by decide +kernel
theorem dX4_readClause_19 : decode cX4_readClause 19 = .ok (.iconst 1, 1) := by decide +kernel
theorem dX4_readClause_20 : decode cX4_readClause 20 = .ok (.goto 4, 3) := by decide +kernel
theorem dX4_readClause_23 : decode cX4_readClause 23 = .ok (.iconst 0, 1) := by decide +kernel
theorem dX4_readClause_24 : decode cX4_readClause 24 = .ok (.istore_n 3, 1) := by decide +kernel
theorem dX4_readClause_25 : decode cX4_readClause 25 = .ok (.iload_n 2, 1) := by decide +kernel
theorem dX4_readClause_26 : decode cX4_readClause 26 = .ok (.bipush 98, 2) := by decide +kernel
theorem dX4_readClause_28 : decode cX4_readClause 28 = .ok (.if_icmp .ne 25, 3) := by decide +kernel
theorem dX4_readClause_31 : decode cX4_readClause 31 = .ok (.iload_n 3, 1) := by decide +kernel
theorem dX4_readClause_32 : decode cX4_readClause 32 = .ok (.ifCond .eq 21, 3) := by decide +kernel
theorem dX4_readClause_35 : decode cX4_readClause 35 = .ok (.aload_n 0, 1) := by decide +kernel
theorem dX4_readClause_36 : decode cX4_readClause 36 = .ok (.dup, 1) := by decide +kernel
theorem dX4_readClause_37 : decode cX4_readClause 37 = .ok (.getfield 24, 3) := by decide +kernel
theorem dX4_readClause_40 : decode cX4_readClause 40 = .ok (.iconst 1, 1) := by decide +kernel
theorem dX4_readClause_41 : decode cX4_readClause 41 = .ok (.iadd, 1) := by decide +kernel
theorem dX4_readClause_42 : decode cX4_readClause 42 = .ok (.putfield 24, 3) := by decide +kernel
theorem dX4_readClause_45 : decode cX4_readClause 45 = .ok (.aload_n 0, 1) := by decide +kernel
theorem dX4_readClause_46 : decode cX4_readClause 46 = .ok (.aload_n 1, 1) := by decide +kernel
theorem dX4_readClause_47 : decode cX4_readClause 47 = .ok (.invokevirtual 47, 3) := by decide +kernel
theorem dX4_readClause_50 : decode cX4_readClause 50 = .ok (.goto 73, 3) := by decide +kernel
theorem dX4_readClause_53 : decode cX4_readClause 53 = .ok (.iload_n 2, 1) := by decide +kernel
theorem dX4_readClause_54 : decode cX4_readClause 54 = .ok (.bipush 98, 2) := by decide +kernel
theorem dX4_readClause_56 : decode cX4_readClause 56 = .ok (.if_icmp .eq 18, 3) := by decide +kernel
theorem dX4_readClause_59 : decode cX4_readClause 59 = .ok (.iload_n 2, 1) := by decide +kernel
theorem dX4_readClause_60 : decode cX4_readClause 60 = .ok (.bipush 102, 2) := by decide +kernel
theorem dX4_readClause_62 : decode cX4_readClause 62 = .ok (.if_icmp .ne 24, 3) := by decide +kernel
theorem dX4_readClause_65 : decode cX4_readClause 65 = .ok (.aload_n 1, 1) := by decide +kernel
theorem dX4_readClause_66 : decode cX4_readClause 66 = .ok (.getfield 44, 3) := by decide +kernel
theorem dX4_readClause_69 : decode cX4_readClause 69 = .ok (.bipush 9, 2) := by decide +kernel
theorem dX4_readClause_71 : decode cX4_readClause 71 = .ok (.if_icmp .lt 15, 3) := by decide +kernel
theorem dX4_readClause_74 : decode cX4_readClause 74 = .ok (.aload_n 0, 1) := by decide +kernel
theorem dX4_readClause_75 : decode cX4_readClause 75 = .ok (.iconst 3, 1) := by decide +kernel
theorem dX4_readClause_76 : decode cX4_readClause 76 = .ok (.aload_n 0, 1) := by decide +kernel
theorem dX4_readClause_77 : decode cX4_readClause 77 = .ok (.getfield 24, 3) := by decide +kernel
theorem dX4_readClause_80 : decode cX4_readClause 80 = .ok (.invokevirtual 50, 3) := by decide +kernel
theorem dX4_readClause_83 : decode cX4_readClause 83 = .ok (.goto 40, 3) := by decide +kernel
theorem dX4_readClause_86 : decode cX4_readClause 86 = .ok (.iload_n 2, 1) := by decide +kernel
theorem dX4_readClause_87 : decode cX4_readClause 87 = .ok (.bipush 102, 2) := by decide +kernel
theorem dX4_readClause_89 : decode cX4_readClause 89 = .ok (.if_icmp .ne 25, 3) := by decide +kernel
theorem dX4_readClause_92 : decode cX4_readClause 92 = .ok (.iload_n 3, 1) := by decide +kernel
theorem dX4_readClause_93 : decode cX4_readClause 93 = .ok (.ifCond .ne 21, 3) := by decide +kernel
theorem dX4_readClause_96 : decode cX4_readClause 96 = .ok (.aload_n 0, 1) := by decide +kernel
theorem dX4_readClause_97 : decode cX4_readClause 97 = .ok (.dup, 1) := by decide +kernel
theorem dX4_readClause_98 : decode cX4_readClause 98 = .ok (.getfield 24, 3) := by decide +kernel
theorem dX4_readClause_101 : decode cX4_readClause 101 = .ok (.iconst 1, 1) := by decide +kernel
theorem dX4_readClause_102 : decode cX4_readClause 102 = .ok (.iadd, 1) := by decide +kernel
theorem dX4_readClause_103 : decode cX4_readClause 103 = .ok (.putfield 24, 3) := by decide +kernel
theorem dX4_readClause_106 : decode cX4_readClause 106 = .ok (.aload_n 0, 1) := by decide +kernel
theorem dX4_readClause_107 : decode cX4_readClause 107 = .ok (.aload_n 1, 1) := by decide +kernel
theorem dX4_readClause_108 : decode cX4_readClause 108 = .ok (.invokevirtual 54, 3) := by decide +kernel
theorem dX4_readClause_111 : decode cX4_readClause 111 = .ok (.goto 12, 3) := by decide +kernel
theorem dX4_readClause_114 : decode cX4_readClause 114 = .ok (.aload_n 0, 1) := by decide +kernel
theorem dX4_readClause_115 : decode cX4_readClause 115 = .ok (.iconst 1, 1) := by decide +kernel
theorem dX4_readClause_116 : decode cX4_readClause 116 = .ok (.aload_n 0, 1) := by decide +kernel
theorem dX4_readClause_117 : decode cX4_readClause 117 = .ok (.getfield 24, 3) := by decide +kernel
theorem dX4_readClause_120 : decode cX4_readClause 120 = .ok (.invokevirtual 50, 3) := by decide +kernel
theorem dX4_readClause_123 : decode cX4_readClause 123 = .ok (.return_, 1) := by decide +kernel
theorem dX4_readBecks_0 : decode cX4_readBecks 0 = .ok (.aload_n 0, 1) := by decide +kernel
theorem dX4_readBecks_1 : decode cX4_readBecks 1 = .ok (.iconst 2, 1) := by decide +kernel
theorem dX4_readBecks_2 : decode cX4_readBecks 2 = .ok (.bipush 9, 2) := by decide +kernel
theorem dX4_readBecks_4 : decode cX4_readBecks 4 = .ok (.invokevirtual 57, 3) := by decide +kernel
theorem dX4_readBecks_7 : decode cX4_readBecks 7 = .ok (.istore_n 2, 1) := by decide +kernel
theorem dX4_readBecks_8 : decode cX4_readBecks 8 = .ok (.aload_n 0, 1) := by decide +kernel
theorem dX4_readBecks_9 : decode cX4_readBecks 9 = .ok (.iconst 0, 1) := by decide +kernel
theorem dX4_readBecks_10 : decode cX4_readBecks 10 = .ok (.bipush 9, 2) := by decide +kernel
theorem dX4_readBecks_12 : decode cX4_readBecks 12 = .ok (.invokevirtual 57, 3) := by decide +kernel
theorem dX4_readBecks_15 : decode cX4_readBecks 15 = .ok (.istore_n 3, 1) := by decide +kernel
theorem dX4_readBecks_16 : decode cX4_readBecks 16 = .ok (.aload_n 0, 1) := by decide +kernel
theorem dX4_readBecks_17 : decode cX4_readBecks 17 = .ok (.invokevirtual 61, 3) := by decide +kernel
theorem dX4_readBecks_20 : decode cX4_readBecks 20 = .ok (.aload_n 0, 1) := by decide +kernel
theorem dX4_readBecks_21 : decode cX4_readBecks 21 = .ok (.getfield 27, 3) := by decide +kernel
theorem dX4_readBecks_24 : decode cX4_readBecks 24 = .ok (.ifCond .ne 21, 3) := by decide +kernel
theorem dX4_readBecks_27 : decode cX4_readBecks 27 = .ok (.aload_n 1, 1) := by decide +kernel
theorem dX4_readBecks_28 : decode cX4_readBecks 28 = .ok (.iload_n 2, 1) := by decide +kernel
theorem dX4_readBecks_29 : decode cX4_readBecks 29 = .ok (.putfield 64, 3) := by decide +kernel
theorem dX4_readBecks_32 : decode cX4_readBecks 32 = .ok (.aload_n 1, 1) := by decide +kernel
theorem dX4_readBecks_33 : decode cX4_readBecks 33 = .ok (.iload_n 3, 1) := by decide +kernel
theorem dX4_readBecks_34 : decode cX4_readBecks 34 = .ok (.putfield 67, 3) := by decide +kernel
theorem dX4_readBecks_37 : decode cX4_readBecks 37 = .ok (.aload_n 1, 1) := by decide +kernel
theorem dX4_readBecks_38 : decode cX4_readBecks 38 = .ok (.iconst 0, 1) := by decide +kernel
theorem dX4_readBecks_39 : decode cX4_readBecks 39 = .ok (.iconst 0, 1) := by decide +kernel
theorem dX4_readBecks_40 : decode cX4_readBecks 40 = .ok (.iconst 0, 1) := by decide +kernel
theorem dX4_readBecks_41 : decode cX4_readBecks 41 = .ok (.iconst 0, 1) := by decide +kernel
theorem dX4_readBecks_42 : decode cX4_readBecks 42 = .ok (.invokevirtual 70, 3) := by decide +kernel
theorem dX4_readBecks_45 : decode cX4_readBecks 45 = .ok (.return_, 1) := by decide +kernel
theorem dX4_readFarm_0 : decode cX4_readFarm 0 = .ok (.aload_n 0, 1) := by decide +kernel
theorem dX4_readFarm_1 : decode cX4_readFarm 1 = .ok (.iconst 0, 1) := by decide +kernel
theorem dX4_readFarm_2 : decode cX4_readFarm 2 = .ok (.aload_n 1, 1) := by decide +kernel
theorem dX4_readFarm_3 : decode cX4_readFarm 3 = .ok (.getfield 44, 3) := by decide +kernel
theorem dX4_readFarm_6 : decode cX4_readFarm 6 = .ok (.iconst 1, 1) := by decide +kernel
theorem dX4_readFarm_7 : decode cX4_readFarm 7 = .ok (.isub, 1) := by decide +kernel
theorem dX4_readFarm_8 : decode cX4_readFarm 8 = .ok (.invokevirtual 57, 3) := by decide +kernel
theorem dX4_readFarm_11 : decode cX4_readFarm 11 = .ok (.istore_n 2, 1) := by decide +kernel
theorem dX4_readFarm_12 : decode cX4_readFarm 12 = .ok (.aload_n 0, 1) := by decide +kernel
theorem dX4_readFarm_13 : decode cX4_readFarm 13 = .ok (.iconst 1, 1) := by decide +kernel
theorem dX4_readFarm_14 : decode cX4_readFarm 14 = .ok (.bipush 9, 2) := by decide +kernel
theorem dX4_readFarm_16 : decode cX4_readFarm 16 = .ok (.invokevirtual 57, 3) := by decide +kernel
theorem dX4_readFarm_19 : decode cX4_readFarm 19 = .ok (.istore_n 3, 1) := by decide +kernel
theorem dX4_readFarm_20 : decode cX4_readFarm 20 = .ok (.aload_n 0, 1) := by decide +kernel
theorem dX4_readFarm_21 : decode cX4_readFarm 21 = .ok (.iconst 0, 1) := by decide +kernel
theorem dX4_readFarm_22 : decode cX4_readFarm 22 = .ok (.iconst 4, 1) := by decide +kernel
theorem dX4_readFarm_23 : decode cX4_readFarm 23 = .ok (.invokevirtual 57, 3) := by decide +kernel
theorem dX4_readFarm_26 : decode cX4_readFarm 26 = .ok (.istore 4, 2) := by decide +kernel
theorem dX4_readFarm_28 : decode cX4_readFarm 28 = .ok (.aload_n 0, 1) := by decide +kernel
theorem dX4_readFarm_29 : decode cX4_readFarm 29 = .ok (.iconst 0, 1) := by decide +kernel
theorem dX4_readFarm_30 : decode cX4_readFarm 30 = .ok (.aload_n 1, 1) := by decide +kernel
theorem dX4_readFarm_31 : decode cX4_readFarm 31 = .ok (.getfield 64, 3) := by decide +kernel
theorem dX4_readFarm_34 : decode cX4_readFarm 34 = .ok (.iconst 1, 1) := by decide +kernel
theorem dX4_readFarm_35 : decode cX4_readFarm 35 = .ok (.isub, 1) := by decide +kernel
theorem dX4_readFarm_36 : decode cX4_readFarm 36 = .ok (.invokevirtual 57, 3) := by decide +kernel
theorem dX4_readFarm_39 : decode cX4_readFarm 39 = .ok (.istore 5, 2) := by decide +kernel
theorem dX4_readFarm_41 : decode cX4_readFarm 41 = .ok (.aload_n 0, 1) := by decide +kernel
theorem dX4_readFarm_42 : decode cX4_readFarm 42 = .ok (.invokevirtual 61, 3) := by decide +kernel
theorem dX4_readFarm_45 : decode cX4_readFarm 45 = .ok (.aload_n 0, 1) := by decide +kernel
theorem dX4_readFarm_46 : decode cX4_readFarm 46 = .ok (.getfield 27, 3) := by decide +kernel
theorem dX4_readFarm_49 : decode cX4_readFarm 49 = .ok (.ifCond .ne 13, 3) := by decide +kernel
theorem dX4_readFarm_52 : decode cX4_readFarm 52 = .ok (.aload_n 1, 1) := by decide +kernel
theorem dX4_readFarm_53 : decode cX4_readFarm 53 = .ok (.iload_n 2, 1) := by decide +kernel
theorem dX4_readFarm_54 : decode cX4_readFarm 54 = .ok (.iload_n 3, 1) := by decide +kernel
theorem dX4_readFarm_55 : decode cX4_readFarm 55 = .ok (.iload 4, 2) := by decide +kernel
theorem dX4_readFarm_57 : decode cX4_readFarm 57 = .ok (.iload 5, 2) := by decide +kernel
theorem dX4_readFarm_59 : decode cX4_readFarm 59 = .ok (.invokevirtual 70, 3) := by decide +kernel
theorem dX4_readFarm_62 : decode cX4_readFarm 62 = .ok (.return_, 1) := by decide +kernel
theorem dX4_readNumber_0 : decode cX4_readNumber 0 = .ok (.aload_n 0, 1) := by decide +kernel
theorem dX4_readNumber_1 : decode cX4_readNumber 1 = .ok (.invokevirtual 30, 3) := by decide +kernel
theorem dX4_readNumber_4 : decode cX4_readNumber 4 = .ok (.aload_n 0, 1) := by decide +kernel
theorem dX4_readNumber_5 : decode cX4_readNumber 5 = .ok (.getfield 24, 3) := by decide +kernel
theorem dX4_readNumber_8 : decode cX4_readNumber 8 = .ok (.istore_n 3, 1) := by decide +kernel
theorem dX4_readNumber_9 : decode cX4_readNumber 9 = .ok (.iconst 0, 1) := by decide +kernel
theorem dX4_readNumber_10 : decode cX4_readNumber 10 = .ok (.istore 4, 2) := by decide +kernel
theorem dX4_readNumber_12 : decode cX4_readNumber 12 = .ok (.iload_n 3, 1) := by decide +kernel
theorem dX4_readNumber_13 : decode cX4_readNumber 13 = .ok (.istore 5, 2) := by decide +kernel
theorem dX4_readNumber_15 : decode cX4_readNumber 15 = .ok (.iload 5, 2) := by decide +kernel
theorem dX4_readNumber_17 : decode cX4_readNumber 17 = .ok (.aload_n 0, 1) := by decide +kernel
theorem dX4_readNumber_18 : decode cX4_readNumber 18 = .ok (.getfield 33, 3) := by decide +kernel
theorem dX4_readNumber_21 : decode cX4_readNumber 21 = .ok (.if_icmp .ge 69, 3) := by decide +kernel
theorem dX4_readNumber_24 : decode cX4_readNumber 24 = .ok (.aload_n 0, 1) := by decide +kernel
theorem dX4_readNumber_25 : decode cX4_readNumber 25 = .ok (.getfield 9, 3) := by decide +kernel
theorem dX4_readNumber_28 : decode cX4_readNumber 28 = .ok (.iload 5, 2) := by decide +kernel
theorem dX4_readNumber_30 : decode cX4_readNumber 30 = .ok (.invokestatic 40, 3) := by decide +kernel
theorem dX4_readNumber_33 : decode cX4_readNumber 33 = .ok (.invokestatic 74, 3) := by decide +kernel
theorem dX4_readNumber_36 : decode cX4_readNumber 36 = .ok (.ifCond .eq 54, 3) := by decide +kernel
theorem dX4_readNumber_39 : decode cX4_readNumber 39 = .ok (.aload_n 0, 1) := by decide +kernel
theorem dX4_readNumber_40 : decode cX4_readNumber 40 = .ok (.getfield 24, 3) := by decide +kernel
theorem dX4_readNumber_43 : decode cX4_readNumber 43 = .ok (.iload_n 3, 1) := by decide +kernel
theorem dX4_readNumber_44 : decode cX4_readNumber 44 = .ok (.isub, 1) := by decide +kernel
theorem dX4_readNumber_45 : decode cX4_readNumber 45 = .ok (.iconst 3, 1) := by decide +kernel
theorem dX4_readNumber_46 : decode cX4_readNumber 46 = .ok (.if_icmp .ge 24, 3) := by decide +kernel
theorem dX4_readNumber_49 : decode cX4_readNumber 49 = .ok (.bipush 10, 2) := by decide +kernel
theorem dX4_readNumber_51 : decode cX4_readNumber 51 = .ok (.iload 4, 2) := by decide +kernel
theorem dX4_readNumber_53 : decode cX4_readNumber 53 = .ok (.imul, 1) := by decide +kernel
theorem dX4_readNumber_54 : decode cX4_readNumber 54 = .ok (.aload_n 0, 1) := by decide +kernel
theorem dX4_readNumber_55 : decode cX4_readNumber 55 = .ok (.getfield 9, 3) := by decide +kernel
theorem dX4_readNumber_58 : decode cX4_readNumber 58 = .ok (.iload 5, 2) := by decide +kernel
theorem dX4_readNumber_60 : decode cX4_readNumber 60 = .ok (.invokestatic 40, 3) := by decide +kernel
theorem dX4_readNumber_63 : decode cX4_readNumber 63 = .ok (.iadd, 1) := by decide +kernel
theorem dX4_readNumber_64 : decode cX4_readNumber 64 = .ok (.bipush 48, 2) := by decide +kernel
theorem dX4_readNumber_66 : decode cX4_readNumber 66 = .ok (.isub, 1) := by decide +kernel
theorem dX4_readNumber_67 : decode cX4_readNumber 67 = .ok (.goto 5, 3) := by decide +kernel
theorem dX4_readNumber_70 : decode cX4_readNumber 70 = .ok (.iload 4, 2) := by decide +kernel
theorem dX4_readNumber_72 : decode cX4_readNumber 72 = .ok (.istore 4, 2) := by decide +kernel
theorem dX4_readNumber_74 : decode cX4_readNumber 74 = .ok (.aload_n 0, 1) := by decide +kernel
theorem dX4_readNumber_75 : decode cX4_readNumber 75 = .ok (.dup, 1) := by decide +kernel
theorem dX4_readNumber_76 : decode cX4_readNumber 76 = .ok (.getfield 24, 3) := by decide +kernel
theorem dX4_readNumber_79 : decode cX4_readNumber 79 = .ok (.iconst 1, 1) := by decide +kernel
theorem dX4_readNumber_80 : decode cX4_readNumber 80 = .ok (.iadd, 1) := by decide +kernel
theorem dX4_readNumber_81 : decode cX4_readNumber 81 = .ok (.putfield 24, 3) := by decide +kernel
theorem dX4_readNumber_84 : decode cX4_readNumber 84 = .ok (.iinc 5 1, 3) := by decide +kernel
theorem dX4_readNumber_87 : decode cX4_readNumber 87 = .ok (.goto (-72), 3) := by decide +kernel
theorem dX4_readNumber_90 : decode cX4_readNumber 90 = .ok (.aload_n 0, 1) := by decide +kernel
theorem dX4_readNumber_91 : decode cX4_readNumber 91 = .ok (.getfield 24, 3) := by decide +kernel
theorem dX4_readNumber_94 : decode cX4_readNumber 94 = .ok (.iload_n 3, 1) := by decide +kernel
theorem dX4_readNumber_95 : decode cX4_readNumber 95 = .ok (.if_icmp .ne 12, 3) := by decide +kernel
theorem dX4_readNumber_98 : decode cX4_readNumber 98 = .ok (.aload_n 0, 1) := by decide +kernel
theorem dX4_readNumber_99 : decode cX4_readNumber 99 = .ok (.iconst 1, 1) := by decide +kernel
theorem dX4_readNumber_100 : decode cX4_readNumber 100 = .ok (.iload_n 3, 1) := by decide +kernel
theorem dX4_readNumber_101 : decode cX4_readNumber 101 = .ok (.invokevirtual 50, 3) := by decide +kernel
theorem dX4_readNumber_104 : decode cX4_readNumber 104 = .ok (.goto 31, 3) := by decide +kernel
theorem dX4_readNumber_107 : decode cX4_readNumber 107 = .ok (.aload_n 0, 1) := by decide +kernel
theorem dX4_readNumber_108 : decode cX4_readNumber 108 = .ok (.getfield 24, 3) := by decide +kernel
theorem dX4_readNumber_111 : decode cX4_readNumber 111 = .ok (.iload_n 3, 1) := by decide +kernel
theorem dX4_readNumber_112 : decode cX4_readNumber 112 = .ok (.isub, 1) := by decide +kernel
theorem dX4_readNumber_113 : decode cX4_readNumber 113 = .ok (.iconst 3, 1) := by decide +kernel
theorem dX4_readNumber_114 : decode cX4_readNumber 114 = .ok (.if_icmp .gt 15, 3) := by decide +kernel
theorem dX4_readNumber_117 : decode cX4_readNumber 117 = .ok (.iload 4, 2) := by decide +kernel
theorem dX4_readNumber_119 : decode cX4_readNumber 119 = .ok (.iload_n 1, 1) := by decide +kernel
theorem dX4_readNumber_120 : decode cX4_readNumber 120 = .ok (.if_icmp .lt 9, 3) := by decide +kernel
theorem dX4_readNumber_123 : decode cX4_readNumber 123 = .ok (.iload 4, 2) := by decide +kernel
theorem dX4_readNumber_125 : decode cX4_readNumber 125 = .ok (.iload_n 2, 1) := by decide +kernel
theorem dX4_readNumber_126 : decode cX4_readNumber 126 = .ok (.if_icmp .le 9, 3) := by decide +kernel
theorem dX4_readNumber_129 : decode cX4_readNumber 129 = .ok (.aload_n 0, 1) := by decide +kernel
theorem dX4_readNumber_130 : decode cX4_readNumber 130 = .ok (.iconst 2, 1) := by decide +kernel
theorem dX4_readNumber_131 : decode cX4_readNumber 131 = .ok (.iload_n 3, 1) := by decide +kernel
theorem dX4_readNumber_132 : decode cX4_readNumber 132 = .ok (.invokevirtual 50, 3) := by decide +kernel
theorem dX4_readNumber_135 : decode cX4_readNumber 135 = .ok (.iload 4, 2) := by decide +kernel
theorem dX4_readNumber_137 : decode cX4_readNumber 137 = .ok (.ireturn, 1) := by decide +kernel
theorem dX4_readEnd_0 : decode cX4_readEnd 0 = .ok (.aload_n 0, 1) := by decide +kernel
theorem dX4_readEnd_1 : decode cX4_readEnd 1 = .ok (.invokevirtual 30, 3) := by decide +kernel
theorem dX4_readEnd_4 : decode cX4_readEnd 4 = .ok (.aload_n 0, 1) := by decide +kernel
theorem dX4_readEnd_5 : decode cX4_readEnd 5 = .ok (.getfield 24, 3) := by decide +kernel
theorem dX4_readEnd_8 : decode cX4_readEnd 8 = .ok (.aload_n 0, 1) := by decide +kernel
theorem dX4_readEnd_9 : decode cX4_readEnd 9 = .ok (.getfield 33, 3) := by decide +kernel
theorem dX4_readEnd_12 : decode cX4_readEnd 12 = .ok (.if_icmp .ge 32, 3) := by decide +kernel
theorem dX4_readEnd_15 : decode cX4_readEnd 15 = .ok (.aload_n 0, 1) := by decide +kernel
theorem dX4_readEnd_16 : decode cX4_readEnd 16 = .ok (.getfield 9, 3) := by decide +kernel
theorem dX4_readEnd_19 : decode cX4_readEnd 19 = .ok (.aload_n 0, 1) := by decide +kernel
theorem dX4_readEnd_20 : decode cX4_readEnd 20 = .ok (.getfield 24, 3) := by decide +kernel
theorem dX4_readEnd_23 : decode cX4_readEnd 23 = .ok (.invokestatic 40, 3) := by decide +kernel
theorem dX4_readEnd_26 : decode cX4_readEnd 26 = .ok (.bipush 59, 2) := by decide +kernel
theorem dX4_readEnd_28 : decode cX4_readEnd 28 = .ok (.if_icmp .ne 16, 3) := by decide +kernel
theorem dX4_readEnd_31 : decode cX4_readEnd 31 = .ok (.aload_n 0, 1) := by decide +kernel
theorem dX4_readEnd_32 : decode cX4_readEnd 32 = .ok (.dup, 1) := by decide +kernel
theorem dX4_readEnd_33 : decode cX4_readEnd 33 = .ok (.getfield 24, 3) := by decide +kernel
theorem dX4_readEnd_36 : decode cX4_readEnd 36 = .ok (.iconst 1, 1) := by decide +kernel
theorem dX4_readEnd_37 : decode cX4_readEnd 37 = .ok (.iadd, 1) := by decide +kernel
theorem dX4_readEnd_38 : decode cX4_readEnd 38 = .ok (.putfield 24, 3) := by decide +kernel
theorem dX4_readEnd_41 : decode cX4_readEnd 41 = .ok (.goto 12, 3) := by decide +kernel
theorem dX4_readEnd_44 : decode cX4_readEnd 44 = .ok (.aload_n 0, 1) := by decide +kernel
theorem dX4_readEnd_45 : decode cX4_readEnd 45 = .ok (.iconst 1, 1) := by decide +kernel
theorem dX4_readEnd_46 : decode cX4_readEnd 46 = .ok (.aload_n 0, 1) := by decide +kernel
theorem dX4_readEnd_47 : decode cX4_readEnd 47 = .ok (.getfield 24, 3) := by decide +kernel
theorem dX4_readEnd_50 : decode cX4_readEnd 50 = .ok (.invokevirtual 50, 3) := by decide +kernel
theorem dX4_readEnd_53 : decode cX4_readEnd 53 = .ok (.return_, 1) := by decide +kernel
theorem dX4_skipBlanks_0 : decode cX4_skipBlanks 0 = .ok (.aload_n 0, 1) := by decide +kernel
theorem dX4_skipBlanks_1 : decode cX4_skipBlanks 1 = .ok (.getfield 24, 3) := by decide +kernel
theorem dX4_skipBlanks_4 : decode cX4_skipBlanks 4 = .ok (.istore_n 1, 1) := by decide +kernel
theorem dX4_skipBlanks_5 : decode cX4_skipBlanks 5 = .ok (.iload_n 1, 1) := by decide +kernel
theorem dX4_skipBlanks_6 : decode cX4_skipBlanks 6 = .ok (.aload_n 0, 1) := by decide +kernel
theorem dX4_skipBlanks_7 : decode cX4_skipBlanks 7 = .ok (.getfield 33, 3) := by decide +kernel
theorem dX4_skipBlanks_10 : decode cX4_skipBlanks 10 = .ok (.if_icmp .ge 32, 3) := by decide +kernel
theorem dX4_skipBlanks_13 : decode cX4_skipBlanks 13 = .ok (.aload_n 0, 1) := by decide +kernel
theorem dX4_skipBlanks_14 : decode cX4_skipBlanks 14 = .ok (.getfield 9, 3) := by decide +kernel
theorem dX4_skipBlanks_17 : decode cX4_skipBlanks 17 = .ok (.iload_n 1, 1) := by decide +kernel
theorem dX4_skipBlanks_18 : decode cX4_skipBlanks 18 = .ok (.invokestatic 40, 3) := by decide +kernel
theorem dX4_skipBlanks_21 : decode cX4_skipBlanks 21 = .ok (.bipush 32, 2) := by decide +kernel
theorem dX4_skipBlanks_23 : decode cX4_skipBlanks 23 = .ok (.if_icmp .ne 19, 3) := by decide +kernel
theorem dX4_skipBlanks_26 : decode cX4_skipBlanks 26 = .ok (.aload_n 0, 1) := by decide +kernel
theorem dX4_skipBlanks_27 : decode cX4_skipBlanks 27 = .ok (.dup, 1) := by decide +kernel
theorem dX4_skipBlanks_28 : decode cX4_skipBlanks 28 = .ok (.getfield 24, 3) := by decide +kernel
theorem dX4_skipBlanks_31 : decode cX4_skipBlanks 31 = .ok (.iconst 1, 1) := by decide +kernel
theorem dX4_skipBlanks_32 : decode cX4_skipBlanks 32 = .ok (.iadd, 1) := by decide +kernel
theorem dX4_skipBlanks_33 : decode cX4_skipBlanks 33 = .ok (.putfield 24, 3) := by decide +kernel
theorem dX4_skipBlanks_36 : decode cX4_skipBlanks 36 = .ok (.iinc 1 1, 3) := by decide +kernel
theorem dX4_skipBlanks_39 : decode cX4_skipBlanks 39 = .ok (.goto (-34), 3) := by decide +kernel
theorem dX4_skipBlanks_42 : decode cX4_skipBlanks 42 = .ok (.return_, 1) := by decide +kernel
theorem dX4_isFigure_0 : decode cX4_isFigure 0 = .ok (.iload_n 0, 1) := by decide +kernel
theorem dX4_isFigure_1 : decode cX4_isFigure 1 = .ok (.bipush 48, 2) := by decide +kernel
theorem dX4_isFigure_3 : decode cX4_isFigure 3 = .ok (.if_icmp .lt 13, 3) := by decide +kernel
theorem dX4_isFigure_6 : decode cX4_isFigure 6 = .ok (.iload_n 0, 1) := by decide +kernel
theorem dX4_isFigure_7 : decode cX4_isFigure 7 = .ok (.bipush 57, 2) := by decide +kernel
theorem dX4_isFigure_9 : decode cX4_isFigure 9 = .ok (.if_icmp .gt 7, 3) := by decide +kernel
theorem dX4_isFigure_12 : decode cX4_isFigure 12 = .ok (.iconst 1, 1) := by decide +kernel
theorem dX4_isFigure_13 : decode cX4_isFigure 13 = .ok (.goto 4, 3) := by decide +kernel
theorem dX4_isFigure_16 : decode cX4_isFigure 16 = .ok (.iconst 0, 1) := by decide +kernel
theorem dX4_isFigure_17 : decode cX4_isFigure 17 = .ok (.ireturn, 1) := by decide +kernel
theorem dX4_mark_0 : decode cX4_mark 0 = .ok (.aload_n 0, 1) := by decide +kernel
theorem dX4_mark_1 : decode cX4_mark 1 = .ok (.getfield 27, 3) := by decide +kernel
theorem dX4_mark_4 : decode cX4_mark 4 = .ok (.ifCond .ne 13, 3) := by decide +kernel
theorem dX4_mark_7 : decode cX4_mark 7 = .ok (.aload_n 0, 1) := by decide +kernel
theorem dX4_mark_8 : decode cX4_mark 8 = .ok (.iload_n 1, 1) := by decide +kernel
theorem dX4_mark_9 : decode cX4_mark 9 = .ok (.putfield 27, 3) := by decide +kernel
theorem dX4_mark_12 : decode cX4_mark 12 = .ok (.aload_n 0, 1) := by decide +kernel
theorem dX4_mark_13 : decode cX4_mark 13 = .ok (.iload_n 2, 1) := by decide +kernel
theorem dX4_mark_14 : decode cX4_mark 14 = .ok (.putfield 15, 3) := by decide +kernel
theorem dX4_mark_17 : decode cX4_mark 17 = .ok (.return_, 1) := by decide +kernel
theorem dX5_init_0 : decode cX5_init 0 = .ok (.aload_n 0, 1) := by decide +kernel
theorem dX5_init_1 : decode cX5_init 1 = .ok (.invokespecial 3, 3) := by decide +kernel
theorem dX5_init_4 : decode cX5_init 4 = .ok (.aload_n 0, 1) := by decide +kernel
theorem dX5_init_5 : decode cX5_init 5 = .ok (.bipush 48, 2) := by decide +kernel
theorem dX5_init_7 : decode cX5_init 7 = .ok (.newarray .int, 2) := by decide +kernel
theorem dX5_init_9 : decode cX5_init 9 = .ok (.putfield 9, 3) := by decide +kernel
theorem dX5_init_12 : decode cX5_init 12 = .ok (.aload_n 0, 1) := by decide +kernel
theorem dX5_init_13 : decode cX5_init 13 = .ok (.bipush 80, 2) := by decide +kernel
theorem dX5_init_15 : decode cX5_init 15 = .ok (.newarray .int, 2) := by decide +kernel
theorem dX5_init_17 : decode cX5_init 17 = .ok (.putfield 15, 3) := by decide +kernel
theorem dX5_init_20 : decode cX5_init 20 = .ok (.aload_n 0, 1) := by decide +kernel
theorem dX5_init_21 : decode cX5_init 21 = .ok (.bipush 9, 2) := by decide +kernel
theorem dX5_init_23 : decode cX5_init 23 = .ok (.newarray .int, 2) := by decide +kernel
theorem dX5_init_25 : decode cX5_init 25 = .ok (.putfield 18, 3) := by decide +kernel
theorem dX5_init_28 : decode cX5_init 28 = .ok (.aload_n 0, 1) := by decide +kernel
theorem dX5_init_29 : decode cX5_init 29 = .ok (.bipush 9, 2) := by decide +kernel
theorem dX5_init_31 : decode cX5_init 31 = .ok (.newarray .int, 2) := by decide +kernel
theorem dX5_init_33 : decode cX5_init 33 = .ok (.putfield 21, 3) := by decide +kernel
theorem dX5_init_36 : decode cX5_init 36 = .ok (.aload_n 0, 1) := by decide +kernel
theorem dX5_init_37 : decode cX5_init 37 = .ok (.bipush 9, 2) := by decide +kernel
theorem dX5_init_39 : decode cX5_init 39 = .ok (.newarray .int, 2) := by decide +kernel
theorem dX5_init_41 : decode cX5_init 41 = .ok (.putfield 24, 3) := by decide +kernel
theorem dX5_init_44 : decode cX5_init 44 = .ok (.return_, 1) := by decide +kernel
theorem dX5_begin_0 : decode cX5_begin 0 = .ok (.aload_n 0, 1) := by decide +kernel
theorem dX5_begin_1 : decode cX5_begin 1 = .ok (.iconst 0, 1) := by decide +kernel
theorem dX5_begin_2 : decode cX5_begin 2 = .ok (.putfield 27, 3) := by decide +kernel
theorem dX5_begin_5 : decode cX5_begin 5 = .ok (.aload_n 0, 1) := by decide +kernel
theorem dX5_begin_6 : decode cX5_begin 6 = .ok (.aload_n 1, 1) := by decide +kernel
theorem dX5_begin_7 : decode cX5_begin 7 = .ok (.getfield 31, 3) := by decide +kernel
theorem dX5_begin_10 : decode cX5_begin 10 = .ok (.putfield 36, 3) := by decide +kernel
theorem dX5_begin_13 : decode cX5_begin 13 = .ok (.aload_n 0, 1) := by decide +kernel
theorem dX5_begin_14 : decode cX5_begin 14 = .ok (.iconst 0, 1) := by decide +kernel
theorem dX5_begin_15 : decode cX5_begin 15 = .ok (.putfield 37, 3) := by decide +kernel
theorem dX5_begin_18 : decode cX5_begin 18 = .ok (.aload_n 0, 1) := by decide +kernel
theorem dX5_begin_19 : decode cX5_begin 19 = .ok (.iconst 0, 1) := by decide +kernel
theorem dX5_begin_20 : decode cX5_begin 20 = .ok (.putfield 41, 3) := by decide +kernel
theorem dX5_begin_23 : decode cX5_begin 23 = .ok (.aload_n 0, 1) := by decide +kernel
theorem dX5_begin_24 : decode cX5_begin 24 = .ok (.iconst 0, 1) := by decide +kernel
theorem dX5_begin_25 : decode cX5_begin 25 = .ok (.putfield 44, 3) := by decide +kernel
theorem dX5_begin_28 : decode cX5_begin 28 = .ok (.aload_n 0, 1) := by decide +kernel
theorem dX5_begin_29 : decode cX5_begin 29 = .ok (.iconst 0, 1) := by decide +kernel
theorem dX5_begin_30 : decode cX5_begin 30 = .ok (.putfield 47, 3) := by decide +kernel
theorem dX5_begin_33 : decode cX5_begin 33 = .ok (.aload_n 0, 1) := by decide +kernel
theorem dX5_begin_34 : decode cX5_begin 34 = .ok (.iconst 0, 1) := by decide +kernel
theorem dX5_begin_35 : decode cX5_begin 35 = .ok (.putfield 50, 3) := by decide +kernel
theorem dX5_begin_38 : decode cX5_begin 38 = .ok (.aload_n 0, 1) := by decide +kernel
theorem dX5_begin_39 : decode cX5_begin 39 = .ok (.iconst 0, 1) := by decide +kernel
theorem dX5_begin_40 : decode cX5_begin 40 = .ok (.putfield 53, 3) := by decide +kernel
theorem dX5_begin_43 : decode cX5_begin 43 = .ok (.aload_n 1, 1) := by decide +kernel
theorem dX5_begin_44 : decode cX5_begin 44 = .ok (.getfield 56, 3) := by decide +kernel
theorem dX5_begin_47 : decode cX5_begin 47 = .ok (.iconst 0, 1) := by decide +kernel
theorem dX5_begin_48 : decode cX5_begin 48 = .ok (.aload_n 0, 1) := by decide +kernel
theorem dX5_begin_49 : decode cX5_begin 49 = .ok (.getfield 18, 3) := by decide +kernel
theorem dX5_begin_52 : decode cX5_begin 52 = .ok (.iconst 0, 1) := by decide +kernel
theorem dX5_begin_53 : decode cX5_begin 53 = .ok (.bipush 9, 2) := by decide +kernel
theorem dX5_begin_55 : decode cX5_begin 55 = .ok (.invokestatic 57, 3) := by decide +kernel
theorem dX5_begin_58 : decode cX5_begin 58 = .ok (.aload_n 0, 1) := by decide +kernel
theorem dX5_begin_59 : decode cX5_begin 59 = .ok (.getfield 21, 3) := by decide +kernel
theorem dX5_begin_62 : decode cX5_begin 62 = .ok (.iconst (-1), 1) := by decide +kernel
theorem dX5_begin_63 : decode cX5_begin 63 = .ok (.invokestatic 63, 3) := by decide +kernel
theorem dX5_begin_66 : decode cX5_begin 66 = .ok (.aload_n 0, 1) := by decide +kernel
theorem dX5_begin_67 : decode cX5_begin 67 = .ok (.getfield 24, 3) := by decide +kernel
theorem dX5_begin_70 : decode cX5_begin 70 = .ok (.iconst 0, 1) := by decide +kernel
theorem dX5_begin_71 : decode cX5_begin 71 = .ok (.invokestatic 63, 3) := by decide +kernel
theorem dX5_begin_74 : decode cX5_begin 74 = .ok (.return_, 1) := by decide +kernel
theorem dX5_copyFrom_0 : decode cX5_copyFrom 0 = .ok (.aload_n 0, 1) := by decide +kernel
theorem dX5_copyFrom_1 : decode cX5_copyFrom 1 = .ok (.aload_n 1, 1) := by decide +kernel
theorem dX5_copyFrom_2 : decode cX5_copyFrom 2 = .ok (.getfield 27, 3) := by decide +kernel
theorem dX5_copyFrom_5 : decode cX5_copyFrom 5 = .ok (.putfield 27, 3) := by decide +kernel
theorem dX5_copyFrom_8 : decode cX5_copyFrom 8 = .ok (.aload_n 0, 1) := by decide +kernel
theorem dX5_copyFrom_9 : decode cX5_copyFrom 9 = .ok (.aload_n 1, 1) := by decide +kernel
theorem dX5_copyFrom_10 : decode cX5_copyFrom 10 = .ok (.getfield 36, 3) := by decide +kernel
theorem dX5_copyFrom_13 : decode cX5_copyFrom 13 = .ok (.putfield 36, 3) := by decide +kernel
theorem dX5_copyFrom_16 : decode cX5_copyFrom 16 = .ok (.aload_n 0, 1) := by decide +kernel
theorem dX5_copyFrom_17 : decode cX5_copyFrom 17 = .ok (.aload_n 1, 1) := by decide +kernel
theorem dX5_copyFrom_18 : decode cX5_copyFrom 18 = .ok (.getfield 37, 3) := by decide +kernel
theorem dX5_copyFrom_21 : decode cX5_copyFrom 21 = .ok (.putfield 37, 3) := by decide +kernel
theorem dX5_copyFrom_24 : decode cX5_copyFrom 24 = .ok (.aload_n 0, 1) := by decide +kernel
theorem dX5_copyFrom_25 : decode cX5_copyFrom 25 = .ok (.aload_n 1, 1) := by decide +kernel
theorem dX5_copyFrom_26 : decode cX5_copyFrom 26 = .ok (.getfield 41, 3) := by decide +kernel
theorem dX5_copyFrom_29 : decode cX5_copyFrom 29 = .ok (.putfield 41, 3) := by decide +kernel
theorem dX5_copyFrom_32 : decode cX5_copyFrom 32 = .ok (.aload_n 0, 1) := by decide +kernel
theorem dX5_copyFrom_33 : decode cX5_copyFrom 33 = .ok (.aload_n 1, 1) := by decide +kernel
theorem dX5_copyFrom_34 : decode cX5_copyFrom 34 = .ok (.getfield 44, 3) := by decide +kernel
theorem dX5_copyFrom_37 : decode cX5_copyFrom 37 = .ok (.putfield 44, 3) := by decide +kernel
theorem dX5_copyFrom_40 : decode cX5_copyFrom 40 = .ok (.aload_n 0, 1) := by decide +kernel
theorem dX5_copyFrom_41 : decode cX5_copyFrom 41 = .ok (.aload_n 1, 1) := by decide +kernel
theorem dX5_copyFrom_42 : decode cX5_copyFrom 42 = .ok (.getfield 47, 3) := by decide +kernel
theorem dX5_copyFrom_45 : decode cX5_copyFrom 45 = .ok (.putfield 47, 3) := by decide +kernel
theorem dX5_copyFrom_48 : decode cX5_copyFrom 48 = .ok (.aload_n 0, 1) := by decide +kernel
theorem dX5_copyFrom_49 : decode cX5_copyFrom 49 = .ok (.aload_n 1, 1) := by decide +kernel
theorem dX5_copyFrom_50 : decode cX5_copyFrom 50 = .ok (.getfield 50, 3) := by decide +kernel
theorem dX5_copyFrom_53 : decode cX5_copyFrom 53 = .ok (.putfield 50, 3) := by decide +kernel
theorem dX5_copyFrom_56 : decode cX5_copyFrom 56 = .ok (.aload_n 0, 1) := by decide +kernel
theorem dX5_copyFrom_57 : decode cX5_copyFrom 57 = .ok (.aload_n 1, 1) := by decide +kernel
theorem dX5_copyFrom_58 : decode cX5_copyFrom 58 = .ok (.getfield 53, 3) := by decide +kernel
theorem dX5_copyFrom_61 : decode cX5_copyFrom 61 = .ok (.putfield 53, 3) := by decide +kernel
theorem dX5_copyFrom_64 : decode cX5_copyFrom 64 = .ok (.aload_n 1, 1) := by decide +kernel
theorem dX5_copyFrom_65 : decode cX5_copyFrom 65 = .ok (.getfield 9, 3) := by decide +kernel
theorem dX5_copyFrom_68 : decode cX5_copyFrom 68 = .ok (.iconst 0, 1) := by decide +kernel
theorem dX5_copyFrom_69 : decode cX5_copyFrom 69 = .ok (.aload_n 0, 1) := by decide +kernel
theorem dX5_copyFrom_70 : decode cX5_copyFrom 70 = .ok (.getfield 9, 3) := by decide +kernel
theorem dX5_copyFrom_73 : decode cX5_copyFrom 73 = .ok (.iconst 0, 1) := by decide +kernel
theorem dX5_copyFrom_74 : decode cX5_copyFrom 74 = .ok (.bipush 48, 2) := by decide +kernel
theorem dX5_copyFrom_76 : decode cX5_copyFrom 76 = .ok (.invokestatic 57, 3) := by decide +kernel
theorem dX5_copyFrom_79 : decode cX5_copyFrom 79 = .ok (.aload_n 1, 1) := by decide +kernel
theorem dX5_copyFrom_80 : decode cX5_copyFrom 80 = .ok (.getfield 15, 3) := by decide +kernel
theorem dX5_copyFrom_83 : decode cX5_copyFrom 83 = .ok (.iconst 0, 1) := by decide +kernel
theorem dX5_copyFrom_84 : decode cX5_copyFrom 84 = .ok (.aload_n 0, 1) := by decide +kernel
theorem dX5_copyFrom_85 : decode cX5_copyFrom 85 = .ok (.getfield 15, 3) := by decide +kernel
theorem dX5_copyFrom_88 : decode cX5_copyFrom 88 = .ok (.iconst 0, 1) := by decide +kernel
theorem dX5_copyFrom_89 : decode cX5_copyFrom 89 = .ok (.bipush 80, 2) := by decide +kernel
theorem dX5_copyFrom_91 : decode cX5_copyFrom 91 = .ok (.invokestatic 57, 3) := by decide +kernel
theorem dX5_copyFrom_94 : decode cX5_copyFrom 94 = .ok (.aload_n 1, 1) := by decide +kernel
theorem dX5_copyFrom_95 : decode cX5_copyFrom 95 = .ok (.getfield 18, 3) := by decide +kernel
theorem dX5_copyFrom_98 : decode cX5_copyFrom 98 = .ok (.iconst 0, 1) := by decide +kernel
theorem dX5_copyFrom_99 : decode cX5_copyFrom 99 = .ok (.aload_n 0, 1) := by decide +kernel
theorem dX5_copyFrom_100 : decode cX5_copyFrom 100 = .ok (.getfield 18, 3) := by decide +kernel
theorem dX5_copyFrom_103 : decode cX5_copyFrom 103 = .ok (.iconst 0, 1) := by decide +kernel
theorem dX5_copyFrom_104 : decode cX5_copyFrom 104 = .ok (.bipush 9, 2) := by decide +kernel
theorem dX5_copyFrom_106 : decode cX5_copyFrom 106 = .ok (.invokestatic 57, 3) := by decide +kernel
theorem dX5_copyFrom_109 : decode cX5_copyFrom 109 = .ok (.aload_n 1, 1) := by decide +kernel
theorem dX5_copyFrom_110 : decode cX5_copyFrom 110 = .ok (.getfield 21, 3) := by decide +kernel
theorem dX5_copyFrom_113 : decode cX5_copyFrom 113 = .ok (.iconst 0, 1) := by decide +kernel
theorem dX5_copyFrom_114 : decode cX5_copyFrom 114 = .ok (.aload_n 0, 1) := by decide +kernel
theorem dX5_copyFrom_115 : decode cX5_copyFrom 115 = .ok (.getfield 21, 3) := by decide +kernel
theorem dX5_copyFrom_118 : decode cX5_copyFrom 118 = .ok (.iconst 0, 1) := by decide +kernel
theorem dX5_copyFrom_119 : decode cX5_copyFrom 119 = .ok (.bipush 9, 2) := by decide +kernel
theorem dX5_copyFrom_121 : decode cX5_copyFrom 121 = .ok (.invokestatic 57, 3) := by decide +kernel
theorem dX5_copyFrom_124 : decode cX5_copyFrom 124 = .ok (.aload_n 1, 1) := by decide +kernel
theorem dX5_copyFrom_125 : decode cX5_copyFrom 125 = .ok (.getfield 24, 3) := by decide +kernel
theorem dX5_copyFrom_128 : decode cX5_copyFrom 128 = .ok (.iconst 0, 1) := by decide +kernel
theorem dX5_copyFrom_129 : decode cX5_copyFrom 129 = .ok (.aload_n 0, 1) := by decide +kernel
theorem dX5_copyFrom_130 : decode cX5_copyFrom 130 = .ok (.getfield 24, 3) := by decide +kernel
theorem dX5_copyFrom_133 : decode cX5_copyFrom 133 = .ok (.iconst 0, 1) := by decide +kernel
theorem dX5_copyFrom_134 : decode cX5_copyFrom 134 = .ok (.bipush 9, 2) := by decide +kernel
theorem dX5_copyFrom_136 : decode cX5_copyFrom 136 = .ok (.invokestatic 57, 3) := by decide +kernel
theorem dX5_copyFrom_139 : decode cX5_copyFrom 139 = .ok (.return_, 1) := by decide +kernel
theorem dX5_ofTalk_0 : decode cX5_ofTalk 0 = .ok (.aload_n 0, 1) := by decide +kernel
theorem dX5_ofTalk_1 : decode cX5_ofTalk 1 = .ok (.getfield 9, 3) := by decide +kernel
theorem dX5_ofTalk_4 : decode cX5_ofTalk 4 = .ok (.iconst 4, 1) := by decide +kernel
theorem dX5_ofTalk_5 : decode cX5_ofTalk 5 = .ok (.iload_n 1, 1) := by decide +kernel
theorem dX5_ofTalk_6 : decode cX5_ofTalk 6 = .ok (.imul, 1) := by decide +kernel
theorem dX5_ofTalk_7 : decode cX5_ofTalk 7 = .ok (.iload_n 2, 1) := by decide +kernel
theorem dX5_ofTalk_8 : decode cX5_ofTalk 8 = .ok (.iadd, 1) := by decide +kernel
theorem dX5_ofTalk_9 : decode cX5_ofTalk 9 = .ok (.invokestatic 69, 3) := by decide +kernel
theorem dX5_ofTalk_12 : decode cX5_ofTalk 12 = .ok (.ireturn, 1) := by decide +kernel
theorem dX5_ofLog_0 : decode cX5_ofLog 0 = .ok (.aload_n 0, 1) := by decide +kernel
theorem dX5_ofLog_1 : decode cX5_ofLog 1 = .ok (.getfield 53, 3) := by decide +kernel
theorem dX5_ofLog_4 : decode cX5_ofLog 4 = .ok (.iconst 1, 1) := by decide +kernel
theorem dX5_ofLog_5 : decode cX5_ofLog 5 = .ok (.isub, 1) := by decide +kernel
theorem dX5_ofLog_6 : decode cX5_ofLog 6 = .ok (.iload_n 1, 1) := by decide +kernel
theorem dX5_ofLog_7 : decode cX5_ofLog 7 = .ok (.isub, 1) := by decide +kernel
theorem dX5_ofLog_8 : decode cX5_ofLog 8 = .ok (.bipush 40, 2) := by decide +kernel
theorem dX5_ofLog_10 : decode cX5_ofLog 10 = .ok (.iadd, 1) := by decide +kernel
theorem dX5_ofLog_11 : decode cX5_ofLog 11 = .ok (.bipush 20, 2) := by decide +kernel
theorem dX5_ofLog_13 : decode cX5_ofLog 13 = .ok (.irem, 1) := by decide +kernel
theorem dX5_ofLog_14 : decode cX5_ofLog 14 = .ok (.istore_n 3, 1) := by decide +kernel
theorem dX5_ofLog_15 : decode cX5_ofLog 15 = .ok (.aload_n 0, 1) := by decide +kernel
theorem dX5_ofLog_16 : decode cX5_ofLog 16 = .ok (.getfield 15, 3) := by decide +kernel
theorem dX5_ofLog_19 : decode cX5_ofLog 19 = .ok (.iconst 4, 1) := by decide +kernel
theorem dX5_ofLog_20 : decode cX5_ofLog 20 = .ok (.iload_n 3, 1) := by decide +kernel
theorem dX5_ofLog_21 : decode cX5_ofLog 21 = .ok (.imul, 1) := by decide +kernel
theorem dX5_ofLog_22 : decode cX5_ofLog 22 = .ok (.iload_n 2, 1) := by decide +kernel
theorem dX5_ofLog_23 : decode cX5_ofLog 23 = .ok (.iadd, 1) := by decide +kernel
theorem dX5_ofLog_24 : decode cX5_ofLog 24 = .ok (.invokestatic 69, 3) := by decide +kernel
theorem dX5_ofLog_27 : decode cX5_ofLog 27 = .ok (.ireturn, 1) := by decide +kernel
theorem dX5_enterTalk_0 : decode cX5_enterTalk 0 = .ok (.aload_n 0, 1) := by decide +kernel
theorem dX5_enterTalk_1 : decode cX5_enterTalk 1 = .ok (.aload_n 0, 1) := by decide +kernel
theorem dX5_enterTalk_2 : decode cX5_enterTalk 2 = .ok (.getfield 47, 3) := by decide +kernel
theorem dX5_enterTalk_5 : decode cX5_enterTalk 5 = .ok (.iload_n 3, 1) := by decide +kernel
theorem dX5_enterTalk_6 : decode cX5_enterTalk 6 = .ok (.iload_n 2, 1) := by decide +kernel
theorem dX5_enterTalk_7 : decode cX5_enterTalk 7 = .ok (.aload_n 1, 1) := by decide +kernel
theorem dX5_enterTalk_8 : decode cX5_enterTalk 8 = .ok (.iload_n 2, 1) := by decide +kernel
theorem dX5_enterTalk_9 : decode cX5_enterTalk 9 = .ok (.invokevirtual 73, 3) := by decide +kernel
theorem dX5_enterTalk_12 : decode cX5_enterTalk 12 = .ok (.iload_n 2, 1) := by decide +kernel
theorem dX5_enterTalk_13 : decode cX5_enterTalk 13 = .ok (.invokevirtual 77, 3) := by decide +kernel
theorem dX5_enterTalk_16 : decode cX5_enterTalk 16 = .ok (.aload_n 0, 1) := by decide +kernel
theorem dX5_enterTalk_17 : decode cX5_enterTalk 17 = .ok (.dup, 1) := by decide +kernel
theorem dX5_enterTalk_18 : decode cX5_enterTalk 18 = .ok (.getfield 47, 3) := by decide +kernel
theorem dX5_enterTalk_21 : decode cX5_enterTalk 21 = .ok (.iconst 1, 1) := by decide +kernel
theorem dX5_enterTalk_22 : decode cX5_enterTalk 22 = .ok (.iadd, 1) := by decide +kernel
theorem dX5_enterTalk_23 : decode cX5_enterTalk 23 = .ok (.putfield 47, 3) := by decide +kernel
theorem dX5_enterTalk_26 : decode cX5_enterTalk 26 = .ok (.return_, 1) := by decide +kernel
theorem dX5_endTalk_0 : decode cX5_endTalk 0 = .ok (.iload_n 1, 1) := by decide +kernel
theorem dX5_endTalk_1 : decode cX5_endTalk 1 = .ok (.iconst 1, 1) := by decide +kernel
theorem dX5_endTalk_2 : decode cX5_endTalk 2 = .ok (.iadd, 1) := by decide +kernel
theorem dX5_endTalk_3 : decode cX5_endTalk 3 = .ok (.istore_n 2, 1) := by decide +kernel
theorem dX5_endTalk_4 : decode cX5_endTalk 4 = .ok (.iload_n 2, 1) := by decide +kernel
theorem dX5_endTalk_5 : decode cX5_endTalk 5 = .ok (.aload_n 0, 1) := by decide +kernel
theorem dX5_endTalk_6 : decode cX5_endTalk 6 = .ok (.getfield 47, 3) := by decide +kernel
theorem dX5_endTalk_9 : decode cX5_endTalk 9 = .ok (.if_icmp .ge 17, 3) := by decide +kernel
theorem dX5_endTalk_12 : decode cX5_endTalk 12 = .ok (.aload_n 0, 1) := by decide +kernel
theorem dX5_endTalk_13 : decode cX5_endTalk 13 = .ok (.iload_n 2, 1) := by decide +kernel
theorem dX5_endTalk_14 : decode cX5_endTalk 14 = .ok (.iload_n 2, 1) := by decide +kernel
theorem dX5_endTalk_15 : decode cX5_endTalk 15 = .ok (.iconst 1, 1) := by decide +kernel
theorem dX5_endTalk_16 : decode cX5_endTalk 16 = .ok (.isub, 1) := by decide +kernel
theorem dX5_endTalk_17 : decode cX5_endTalk 17 = .ok (.invokevirtual 81, 3) := by decide +kernel
theorem dX5_endTalk_20 : decode cX5_endTalk 20 = .ok (.iinc 2 1, 3) := by decide +kernel
theorem dX5_endTalk_23 : decode cX5_endTalk 23 = .ok (.goto (-19), 3) := by decide +kernel
theorem dX5_endTalk_26 : decode cX5_endTalk 26 = .ok (.aload_n 0, 1) := by decide +kernel
theorem dX5_endTalk_27 : decode cX5_endTalk 27 = .ok (.dup, 1) := by decide +kernel
theorem dX5_endTalk_28 : decode cX5_endTalk 28 = .ok (.getfield 47, 3) := by decide +kernel
theorem dX5_endTalk_31 : decode cX5_endTalk 31 = .ok (.iconst 1, 1) := by decide +kernel
theorem dX5_endTalk_32 : decode cX5_endTalk 32 = .ok (.isub, 1) := by decide +kernel
theorem dX5_endTalk_33 : decode cX5_endTalk 33 = .ok (.putfield 47, 3) := by decide +kernel
theorem dX5_endTalk_36 : decode cX5_endTalk 36 = .ok (.return_, 1) := by decide +kernel
theorem dX5_leaveOnly_0 : decode cX5_leaveOnly 0 = .ok (.aload_n 0, 1) := by decide +kernel
theorem dX5_leaveOnly_1 : decode cX5_leaveOnly 1 = .ok (.iload_n 1, 1) := by decide +kernel
theorem dX5_leaveOnly_2 : decode cX5_leaveOnly 2 = .ok (.iconst 0, 1) := by decide +kernel
theorem dX5_leaveOnly_3 : decode cX5_leaveOnly 3 = .ok (.invokevirtual 81, 3) := by decide +kernel
theorem dX5_leaveOnly_6 : decode cX5_leaveOnly 6 = .ok (.aload_n 0, 1) := by decide +kernel
theorem dX5_leaveOnly_7 : decode cX5_leaveOnly 7 = .ok (.iconst 1, 1) := by decide +kernel
theorem dX5_leaveOnly_8 : decode cX5_leaveOnly 8 = .ok (.putfield 47, 3) := by decide +kernel
theorem dX5_leaveOnly_11 : decode cX5_leaveOnly 11 = .ok (.return_, 1) := by decide +kernel
theorem dX5_passHours_0 : decode cX5_passHours 0 = .ok (.iconst 0, 1) := by decide +kernel
theorem dX5_passHours_1 : decode cX5_passHours 1 = .ok (.istore_n 3, 1) := by decide +kernel
theorem dX5_passHours_2 : decode cX5_passHours 2 = .ok (.iload_n 3, 1) := by decide +kernel
theorem dX5_passHours_3 : decode cX5_passHours 3 = .ok (.iload_n 2, 1) := by decide +kernel
theorem dX5_passHours_4 : decode cX5_passHours 4 = .ok (.if_icmp .ge 14, 3) := by decide +kernel
theorem dX5_passHours_7 : decode cX5_passHours 7 = .ok (.aload_n 0, 1) := by decide +kernel
theorem dX5_passHours_8 : decode cX5_passHours 8 = .ok (.aload_n 1, 1) := by decide +kernel
theorem dX5_passHours_9 : decode cX5_passHours 9 = .ok (.invokevirtual 85, 3) := by decide +kernel
theorem dX5_passHours_12 : decode cX5_passHours 12 = .ok (.iinc 3 1, 3) := by decide +kernel
theorem dX5_passHours_15 : decode cX5_passHours 15 = .ok (.goto (-13), 3) := by decide +kernel
theorem dX5_passHours_18 : decode cX5_passHours 18 = .ok (.return_, 1) := by decide +kernel
theorem dX5_pass_0 : decode cX5_pass 0 = .ok (.aload_n 0, 1) := by decide +kernel
theorem dX5_pass_1 : decode cX5_pass 1 = .ok (.getfield 37, 3) := by decide +kernel
theorem dX5_pass_4 : decode cX5_pass 4 = .ok (.ifCond .ne 16, 3) := by decide +kernel
theorem dX5_pass_7 : decode cX5_pass 7 = .ok (.aload_n 0, 1) := by decide +kernel
theorem dX5_pass_8 : decode cX5_pass 8 = .ok (.getfield 36, 3) := by decide +kernel
theorem dX5_pass_11 : decode cX5_pass 11 = .ok (.iconst 1, 1) := by decide +kernel
theorem dX5_pass_12 : decode cX5_pass 12 = .ok (.if_icmp .lt 8, 3) := by decide +kernel
theorem dX5_pass_15 : decode cX5_pass 15 = .ok (.aload_n 0, 1) := by decide +kernel
theorem dX5_pass_16 : decode cX5_pass 16 = .ok (.aload_n 1, 1) := by decide +kernel
theorem dX5_pass_17 : decode cX5_pass 17 = .ok (.invokevirtual 89, 3) := by decide +kernel
theorem dX5_pass_20 : decode cX5_pass 20 = .ok (.aload_n 0, 1) := by decide +kernel
theorem dX5_pass_21 : decode cX5_pass 21 = .ok (.getfield 27, 3) := by decide +kernel
theorem dX5_pass_24 : decode cX5_pass 24 = .ok (.bipush 6, 2) := by decide +kernel
theorem dX5_pass_26 : decode cX5_pass 26 = .ok (.irem, 1) := by decide +kernel
theorem dX5_pass_27 : decode cX5_pass 27 = .ok (.iconst 5, 1) := by decide +kernel
theorem dX5_pass_28 : decode cX5_pass 28 = .ok (.if_icmp .ne 20, 3) := by decide +kernel
theorem dX5_pass_31 : decode cX5_pass 31 = .ok (.aload_n 0, 1) := by decide +kernel
theorem dX5_pass_32 : decode cX5_pass 32 = .ok (.getfield 36, 3) := by decide +kernel
theorem dX5_pass_35 : decode cX5_pass 35 = .ok (.ifCond .le 13, 3) := by decide +kernel
theorem dX5_pass_38 : decode cX5_pass 38 = .ok (.aload_n 0, 1) := by decide +kernel
theorem dX5_pass_39 : decode cX5_pass 39 = .ok (.dup, 1) := by decide +kernel
theorem dX5_pass_40 : decode cX5_pass 40 = .ok (.getfield 36, 3) := by decide +kernel
theorem dX5_pass_43 : decode cX5_pass 43 = .ok (.iconst 1, 1) := by decide +kernel
theorem dX5_pass_44 : decode cX5_pass 44 = .ok (.isub, 1) := by decide +kernel
theorem dX5_pass_45 : decode cX5_pass 45 = .ok (.putfield 36, 3) := by decide +kernel
theorem dX5_pass_48 : decode cX5_pass 48 = .ok (.aload_n 0, 1) := by decide +kernel
theorem dX5_pass_49 : decode cX5_pass 49 = .ok (.dup, 1) := by decide +kernel
theorem dX5_pass_50 : decode cX5_pass 50 = .ok (.getfield 27, 3) := by decide +kernel
theorem dX5_pass_53 : decode cX5_pass 53 = .ok (.iconst 1, 1) := by decide +kernel
theorem dX5_pass_54 : decode cX5_pass 54 = .ok (.iadd, 1) := by decide +kernel
theorem dX5_pass_55 : decode cX5_pass 55 = .ok (.putfield 27, 3) := by decide +kernel
theorem dX5_pass_58 : decode cX5_pass 58 = .ok (.return_, 1) := by decide +kernel
theorem dX5_carryAll_0 : decode cX5_carryAll 0 = .ok (.iconst 0, 1) := by decide +kernel
theorem dX5_carryAll_1 : decode cX5_carryAll 1 = .ok (.istore_n 2, 1) := by decide +kernel
theorem dX5_carryAll_2 : decode cX5_carryAll 2 = .ok (.iconst 0, 1) := by decide +kernel
theorem dX5_carryAll_3 : decode cX5_carryAll 3 = .ok (.istore_n 3, 1) := by decide +kernel
theorem dX5_carryAll_4 : decode cX5_carryAll 4 = .ok (.iconst 0, 1) := by decide +kernel
theorem dX5_carryAll_5 : decode cX5_carryAll 5 = .ok (.istore 4, 2) := by decide +kernel
theorem dX5_carryAll_7 : decode cX5_carryAll 7 = .ok (.iconst 0, 1) := by decide +kernel
theorem dX5_carryAll_8 : decode cX5_carryAll 8 = .ok (.istore 5, 2) := by decide +kernel
theorem dX5_carryAll_10 : decode cX5_carryAll 10 = .ok (.iload 5, 2) := by decide +kernel
theorem dX5_carryAll_12 : decode cX5_carryAll 12 = .ok (.aload_n 0, 1) := by decide +kernel
theorem dX5_carryAll_13 : decode cX5_carryAll 13 = .ok (.getfield 47, 3) := by decide +kernel
theorem dX5_carryAll_16 : decode cX5_carryAll 16 = .ok (.if_icmp .ge 162, 3) := by decide +kernel
theorem dX5_carryAll_19 : decode cX5_carryAll 19 = .ok (.aload_n 0, 1) := by decide +kernel
theorem dX5_carryAll_20 : decode cX5_carryAll 20 = .ok (.iload 5, 2) := by decide +kernel
theorem dX5_carryAll_22 : decode cX5_carryAll 22 = .ok (.iconst 1, 1) := by decide +kernel
theorem dX5_carryAll_23 : decode cX5_carryAll 23 = .ok (.invokevirtual 92, 3) := by decide +kernel
theorem dX5_carryAll_26 : decode cX5_carryAll 26 = .ok (.istore 6, 2) := by decide +kernel
theorem dX5_carryAll_28 : decode cX5_carryAll 28 = .ok (.aload_n 0, 1) := by decide +kernel
theorem dX5_carryAll_29 : decode cX5_carryAll 29 = .ok (.iload 5, 2) := by decide +kernel
theorem dX5_carryAll_31 : decode cX5_carryAll 31 = .ok (.iconst 3, 1) := by decide +kernel
theorem dX5_carryAll_32 : decode cX5_carryAll 32 = .ok (.invokevirtual 92, 3) := by decide +kernel
theorem dX5_carryAll_35 : decode cX5_carryAll 35 = .ok (.istore 7, 2) := by decide +kernel
theorem dX5_carryAll_37 : decode cX5_carryAll 37 = .ok (.aload_n 0, 1) := by decide +kernel
theorem dX5_carryAll_38 : decode cX5_carryAll 38 = .ok (.iload 5, 2) := by decide +kernel
theorem dX5_carryAll_40 : decode cX5_carryAll 40 = .ok (.iconst 0, 1) := by decide +kernel
theorem dX5_carryAll_41 : decode cX5_carryAll 41 = .ok (.invokevirtual 92, 3) := by decide +kernel
theorem dX5_carryAll_44 : decode cX5_carryAll 44 = .ok (.istore 8, 2) := by decide +kernel
theorem dX5_carryAll_46 : decode cX5_carryAll 46 = .ok (.aload_n 0, 1) := by decide +kernel
theorem dX5_carryAll_47 : decode cX5_carryAll 47 = .ok (.iload 5, 2) := by decide +kernel
theorem dX5_carryAll_49 : decode cX5_carryAll 49 = .ok (.iconst 2, 1) := by decide +kernel
theorem dX5_carryAll_50 : decode cX5_carryAll 50 = .ok (.invokevirtual 92, 3) := by decide +kernel
theorem dX5_carryAll_53 : decode cX5_carryAll 53 = .ok (.aload_n 0, 1) := by decide +kernel
theorem dX5_carryAll_54 : decode cX5_carryAll 54 = .ok (.getfield 36, 3) := by decide +kernel
theorem dX5_carryAll_57 : decode cX5_carryAll 57 = .ok (.isub, 1) := by decide +kernel
theorem dX5_carryAll_58 : decode cX5_carryAll 58 = .ok (.istore 9, 2) := by decide +kernel
theorem dX5_carryAll_60 : decode cX5_carryAll 60 = .ok (.iload 9, 2) := by decide +kernel
theorem dX5_carryAll_62 : decode cX5_carryAll 62 = .ok (.ifCond .gt 88, 3) := by decide +kernel
theorem dX5_carryAll_65 : decode cX5_carryAll 65 = .ok (.aload_n 1, 1) := by decide +kernel
theorem dX5_carryAll_66 : decode cX5_carryAll 66 = .ok (.getfield 96, 3) := by decide +kernel
theorem dX5_carryAll_69 : decode cX5_carryAll 69 = .ok (.iload 6, 2) := by decide +kernel
theorem dX5_carryAll_71 : decode cX5_carryAll 71 = .ok (.invokestatic 69, 3) := by decide +kernel
theorem dX5_carryAll_74 : decode cX5_carryAll 74 = .ok (.istore 10, 2) := by decide +kernel
theorem dX5_carryAll_76 : decode cX5_carryAll 76 = .ok (.aload_n 0, 1) := by decide +kernel
theorem dX5_carryAll_77 : decode cX5_carryAll 77 = .ok (.aload_n 1, 1) := by decide +kernel
theorem dX5_carryAll_78 : decode cX5_carryAll 78 = .ok (.iload 6, 2) := by decide +kernel
theorem dX5_carryAll_80 : decode cX5_carryAll 80 = .ok (.iload 8, 2) := by decide +kernel
theorem dX5_carryAll_82 : decode cX5_carryAll 82 = .ok (.invokevirtual 99, 3) := by decide +kernel
theorem dX5_carryAll_85 : decode cX5_carryAll 85 = .ok (.istore 8, 2) := by decide +kernel
theorem dX5_carryAll_87 : decode cX5_carryAll 87 = .ok (.iload_n 2, 1) := by decide +kernel
theorem dX5_carryAll_88 : decode cX5_carryAll 88 = .ok (.iload 10, 2) := by decide +kernel
theorem dX5_carryAll_90 : decode cX5_carryAll 90 = .ok (.invokestatic 103, 3) := by decide +kernel
theorem dX5_carryAll_93 : decode cX5_carryAll 93 = .ok (.ifCond .eq 24, 3) := by decide +kernel
theorem dX5_carryAll_96 : decode cX5_carryAll 96 = .ok (.aload_n 0, 1) := by decide +kernel
theorem dX5_carryAll_97 : decode cX5_carryAll 97 = .ok (.getfield 21, 3) := by decide +kernel
theorem dX5_carryAll_100 : decode cX5_carryAll 100 = .ok (.iload 10, 2) := by decide +kernel
theorem dX5_carryAll_102 : decode cX5_carryAll 102 = .ok (.invokestatic 69, 3) := by decide +kernel
theorem dX5_carryAll_105 : decode cX5_carryAll 105 = .ok (.iload 8, 2) := by decide +kernel
theorem dX5_carryAll_107 : decode cX5_carryAll 107 = .ok (.if_icmp .eq 10, 3) := by decide +kernel
theorem dX5_carryAll_110 : decode cX5_carryAll 110 = .ok (.iload_n 3, 1) := by decide +kernel
theorem dX5_carryAll_111 : decode cX5_carryAll 111 = .ok (.iconst 1, 1) := by decide +kernel
theorem dX5_carryAll_112 : decode cX5_carryAll 112 = .ok (.iload 10, 2) := by decide +kernel
theorem dX5_carryAll_114 : decode cX5_carryAll 114 = .ok (.ishl, 1) := by decide +kernel
theorem dX5_carryAll_115 : decode cX5_carryAll 115 = .ok (.ior, 1) := by decide +kernel
theorem dX5_carryAll_116 : decode cX5_carryAll 116 = .ok (.istore_n 3, 1) := by decide +kernel
theorem dX5_carryAll_117 : decode cX5_carryAll 117 = .ok (.iload_n 2, 1) := by decide +kernel
theorem dX5_carryAll_118 : decode cX5_carryAll 118 = .ok (.iconst 1, 1) := by decide +kernel
theorem dX5_carryAll_119 : decode cX5_carryAll 119 = .ok (.iload 10, 2) := by decide +kernel
theorem dX5_carryAll_121 : decode cX5_carryAll 121 = .ok (.ishl, 1) := by decide +kernel
theorem dX5_carryAll_122 : decode cX5_carryAll 122 = .ok (.ior, 1) := by decide +kernel
theorem dX5_carryAll_123 : decode cX5_carryAll 123 = .ok (.istore_n 2, 1) := by decide +kernel
theorem dX5_carryAll_124 : decode cX5_carryAll 124 = .ok (.aload_n 0, 1) := by decide +kernel
theorem dX5_carryAll_125 : decode cX5_carryAll 125 = .ok (.iload 10, 2) := by decide +kernel
theorem dX5_carryAll_127 : decode cX5_carryAll 127 = .ok (.iload 8, 2) := by decide +kernel
theorem dX5_carryAll_129 : decode cX5_carryAll 129 = .ok (.iload 7, 2) := by decide +kernel
theorem dX5_carryAll_131 : decode cX5_carryAll 131 = .ok (.invokevirtual 107, 3) := by decide +kernel
theorem dX5_carryAll_134 : decode cX5_carryAll 134 = .ok (.aload_n 0, 1) := by decide +kernel
theorem dX5_carryAll_135 : decode cX5_carryAll 135 = .ok (.iload 10, 2) := by decide +kernel
theorem dX5_carryAll_137 : decode cX5_carryAll 137 = .ok (.invokevirtual 111, 3) := by decide +kernel
theorem dX5_carryAll_140 : decode cX5_carryAll 140 = .ok (.istore 6, 2) := by decide +kernel
theorem dX5_carryAll_142 : decode cX5_carryAll 142 = .ok (.aload_n 1, 1) := by decide +kernel
theorem dX5_carryAll_143 : decode cX5_carryAll 143 = .ok (.iload 6, 2) := by decide +kernel
theorem dX5_carryAll_145 : decode cX5_carryAll 145 = .ok (.invokevirtual 73, 3) := by decide +kernel
theorem dX5_carryAll_148 : decode cX5_carryAll 148 = .ok (.istore 9, 2) := by decide +kernel
theorem dX5_carryAll_150 : decode cX5_carryAll 150 = .ok (.iload 6, 2) := by decide +kernel
theorem dX5_carryAll_152 : decode cX5_carryAll 152 = .ok (.ifCond .eq 20, 3) := by decide +kernel
theorem dX5_carryAll_155 : decode cX5_carryAll 155 = .ok (.aload_n 0, 1) := by decide +kernel
theorem dX5_carryAll_156 : decode cX5_carryAll 156 = .ok (.iload 4, 2) := by decide +kernel
theorem dX5_carryAll_158 : decode cX5_carryAll 158 = .ok (.iload 8, 2) := by decide +kernel
theorem dX5_carryAll_160 : decode cX5_carryAll 160 = .ok (.iload 6, 2) := by decide +kernel
theorem dX5_carryAll_162 : decode cX5_carryAll 162 = .ok (.iload 9, 2) := by decide +kernel
theorem dX5_carryAll_164 : decode cX5_carryAll 164 = .ok (.iload 7, 2) := by decide +kernel
theorem dX5_carryAll_166 : decode cX5_carryAll 166 = .ok (.invokevirtual 77, 3) := by decide +kernel
theorem dX5_carryAll_169 : decode cX5_carryAll 169 = .ok (.iinc 4 1, 3) := by decide +kernel
theorem dX5_carryAll_172 : decode cX5_carryAll 172 = .ok (.iinc 5 1, 3) := by decide +kernel
theorem dX5_carryAll_175 : decode cX5_carryAll 175 = .ok (.goto (-165), 3) := by decide +kernel
theorem dX5_carryAll_178 : decode cX5_carryAll 178 = .ok (.aload_n 0, 1) := by decide +kernel
theorem dX5_carryAll_179 : decode cX5_carryAll 179 = .ok (.iload 4, 2) := by decide +kernel
theorem dX5_carryAll_181 : decode cX5_carryAll 181 = .ok (.putfield 47, 3) := by decide +kernel
theorem dX5_carryAll_184 : decode cX5_carryAll 184 = .ok (.aload_n 0, 1) := by decide +kernel
theorem dX5_carryAll_185 : decode cX5_carryAll 185 = .ok (.ldc 114, 2) := by decide +kernel
theorem dX5_carryAll_187 : decode cX5_carryAll 187 = .ok (.aload_n 0, 1) := by decide +kernel
theorem dX5_carryAll_188 : decode cX5_carryAll 188 = .ok (.getfield 44, 3) := by decide +kernel
theorem dX5_carryAll_191 : decode cX5_carryAll 191 = .ok (.iload_n 3, 1) := by decide +kernel
theorem dX5_carryAll_192 : decode cX5_carryAll 192 = .ok (.invokestatic 115, 3) := by decide +kernel
theorem dX5_carryAll_195 : decode cX5_carryAll 195 = .ok (.iadd, 1) := by decide +kernel
theorem dX5_carryAll_196 : decode cX5_carryAll 196 = .ok (.invokestatic 120, 3) := by decide +kernel
theorem dX5_carryAll_199 : decode cX5_carryAll 199 = .ok (.putfield 44, 3) := by decide +kernel
theorem dX5_carryAll_202 : decode cX5_carryAll 202 = .ok (.return_, 1) := by decide +kernel
theorem dX5_goesOnFrom_0 : decode cX5_goesOnFrom 0 = .ok (.aload_n 0, 1) := by decide +kernel
theorem dX5_goesOnFrom_1 : decode cX5_goesOnFrom 1 = .ok (.getfield 41, 3) := by decide +kernel
theorem dX5_goesOnFrom_4 : decode cX5_goesOnFrom 4 = .ok (.iload_n 1, 1) := by decide +kernel
theorem dX5_goesOnFrom_5 : decode cX5_goesOnFrom 5 = .ok (.invokestatic 103, 3) := by decide +kernel
theorem dX5_goesOnFrom_8 : decode cX5_goesOnFrom 8 = .ok (.ifCond .eq 7, 3) := by decide +kernel
theorem dX5_goesOnFrom_11 : decode cX5_goesOnFrom 11 = .ok (.iconst 0, 1) := by decide +kernel
theorem dX5_goesOnFrom_12 : decode cX5_goesOnFrom 12 = .ok (.goto 4, 3) := by decide +kernel
theorem dX5_goesOnFrom_15 : decode cX5_goesOnFrom 15 = .ok (.iload_n 1, 1) := by decide +kernel
theorem dX5_goesOnFrom_16 : decode cX5_goesOnFrom 16 = .ok (.ireturn, 1) := by decide +kernel
theorem dX5_garbled_0 : decode cX5_garbled 0 = .ok (.aload_n 0, 1) := by decide +kernel
theorem dX5_garbled_1 : decode cX5_garbled 1 = .ok (.getfield 18, 3) := by decide +kernel
theorem dX5_garbled_4 : decode cX5_garbled 4 = .ok (.iload_n 2, 1) := by decide +kernel
theorem dX5_garbled_5 : decode cX5_garbled 5 = .ok (.invokestatic 69, 3) := by decide +kernel
theorem dX5_garbled_8 : decode cX5_garbled 8 = .ok (.istore 4, 2) := by decide +kernel
theorem dX5_garbled_10 : decode cX5_garbled 10 = .ok (.aload_n 1, 1) := by decide +kernel
theorem dX5_garbled_11 : decode cX5_garbled 11 = .ok (.getfield 125, 3) := by decide +kernel
theorem dX5_garbled_14 : decode cX5_garbled 14 = .ok (.iload_n 2, 1) := by decide +kernel
theorem dX5_garbled_15 : decode cX5_garbled 15 = .ok (.invokestatic 69, 3) := by decide +kernel
theorem dX5_garbled_18 : decode cX5_garbled 18 = .ok (.istore 5, 2) := by decide +kernel
theorem dX5_garbled_20 : decode cX5_garbled 20 = .ok (.iload 4, 2) := by decide +kernel
theorem dX5_garbled_22 : decode cX5_garbled 22 = .ok (.iload 5, 2) := by decide +kernel
theorem dX5_garbled_24 : decode cX5_garbled 24 = .ok (.aload_n 1, 1) := by decide +kernel
theorem dX5_garbled_25 : decode cX5_garbled 25 = .ok (.getfield 128, 3) := by decide +kernel
theorem dX5_garbled_28 : decode cX5_garbled 28 = .ok (.iload_n 3, 1) := by decide +kernel
theorem dX5_garbled_29 : decode cX5_garbled 29 = .ok (.invokestatic 131, 3) := by decide +kernel
theorem dX5_garbled_32 : decode cX5_garbled 32 = .ok (.istore 6, 2) := by decide +kernel
theorem dX5_garbled_34 : decode cX5_garbled 34 = .ok (.aload_n 0, 1) := by decide +kernel
theorem dX5_garbled_35 : decode cX5_garbled 35 = .ok (.getfield 36, 3) := by decide +kernel
theorem dX5_garbled_38 : decode cX5_garbled 38 = .ok (.bipush 7, 2) := by decide +kernel
theorem dX5_garbled_40 : decode cX5_garbled 40 = .ok (.if_icmp .lt 19, 3) := by decide +kernel
theorem dX5_garbled_43 : decode cX5_garbled 43 = .ok (.iload 4, 2) := by decide +kernel
theorem dX5_garbled_45 : decode cX5_garbled 45 = .ok (.iload 5, 2) := by decide +kernel
theorem dX5_garbled_47 : decode cX5_garbled 47 = .ok (.aload_n 1, 1) := by decide +kernel
theorem dX5_garbled_48 : decode cX5_garbled 48 = .ok (.getfield 128, 3) := by decide +kernel
theorem dX5_garbled_51 : decode cX5_garbled 51 = .ok (.iload 6, 2) := by decide +kernel
theorem dX5_garbled_53 : decode cX5_garbled 53 = .ok (.invokestatic 131, 3) := by decide +kernel
theorem dX5_garbled_56 : decode cX5_garbled 56 = .ok (.goto 5, 3) := by decide +kernel
theorem dX5_garbled_59 : decode cX5_garbled 59 = .ok (.iload 6, 2) := by decide +kernel
theorem dX5_garbled_61 : decode cX5_garbled 61 = .ok (.ireturn, 1) := by decide +kernel
theorem dX5_hears_0 : decode cX5_hears 0 = .ok (.aload_n 0, 1) := by decide +kernel
theorem dX5_hears_1 : decode cX5_hears 1 = .ok (.getfield 21, 3) := by decide +kernel
theorem dX5_hears_4 : decode cX5_hears 4 = .ok (.iload_n 1, 1) := by decide +kernel
theorem dX5_hears_5 : decode cX5_hears 5 = .ok (.iload_n 2, 1) := by decide +kernel
theorem dX5_hears_6 : decode cX5_hears 6 = .ok (.invokestatic 135, 3) := by decide +kernel
theorem dX5_hears_9 : decode cX5_hears 9 = .ok (.aload_n 0, 1) := by decide +kernel
theorem dX5_hears_10 : decode cX5_hears 10 = .ok (.getfield 24, 3) := by decide +kernel
theorem dX5_hears_13 : decode cX5_hears 13 = .ok (.iload_n 1, 1) := by decide +kernel
theorem dX5_hears_14 : decode cX5_hears 14 = .ok (.ldc 114, 2) := by decide +kernel
theorem dX5_hears_16 : decode cX5_hears 16 = .ok (.aload_n 0, 1) := by decide +kernel
theorem dX5_hears_17 : decode cX5_hears 17 = .ok (.getfield 24, 3) := by decide +kernel
theorem dX5_hears_20 : decode cX5_hears 20 = .ok (.iload_n 1, 1) := by decide +kernel
theorem dX5_hears_21 : decode cX5_hears 21 = .ok (.invokestatic 69, 3) := by decide +kernel
theorem dX5_hears_24 : decode cX5_hears 24 = .ok (.iconst 1, 1) := by decide +kernel
theorem dX5_hears_25 : decode cX5_hears 25 = .ok (.iadd, 1) := by decide +kernel
theorem dX5_hears_26 : decode cX5_hears 26 = .ok (.invokestatic 120, 3) := by decide +kernel
theorem dX5_hears_29 : decode cX5_hears 29 = .ok (.invokestatic 135, 3) := by decide +kernel
theorem dX5_hears_32 : decode cX5_hears 32 = .ok (.iconst 4, 1) := by decide +kernel
theorem dX5_hears_33 : decode cX5_hears 33 = .ok (.aload_n 0, 1) := by decide +kernel
theorem dX5_hears_34 : decode cX5_hears 34 = .ok (.getfield 53, 3) := by decide +kernel
theorem dX5_hears_37 : decode cX5_hears 37 = .ok (.imul, 1) := by decide +kernel
theorem dX5_hears_38 : decode cX5_hears 38 = .ok (.istore 4, 2) := by decide +kernel
theorem dX5_hears_40 : decode cX5_hears 40 = .ok (.aload_n 0, 1) := by decide +kernel
theorem dX5_hears_41 : decode cX5_hears 41 = .ok (.getfield 15, 3) := by decide +kernel
theorem dX5_hears_44 : decode cX5_hears 44 = .ok (.iload 4, 2) := by decide +kernel
theorem dX5_hears_46 : decode cX5_hears 46 = .ok (.iconst 0, 1) := by decide +kernel
theorem dX5_hears_47 : decode cX5_hears 47 = .ok (.iadd, 1) := by decide +kernel
theorem dX5_hears_48 : decode cX5_hears 48 = .ok (.iload_n 1, 1) := by decide +kernel
theorem dX5_hears_49 : decode cX5_hears 49 = .ok (.invokestatic 135, 3) := by decide +kernel
theorem dX5_hears_52 : decode cX5_hears 52 = .ok (.aload_n 0, 1) := by decide +kernel
theorem dX5_hears_53 : decode cX5_hears 53 = .ok (.getfield 15, 3) := by decide +kernel
theorem dX5_hears_56 : decode cX5_hears 56 = .ok (.iload 4, 2) := by decide +kernel
theorem dX5_hears_58 : decode cX5_hears 58 = .ok (.iconst 1, 1) := by decide +kernel
theorem dX5_hears_59 : decode cX5_hears 59 = .ok (.iadd, 1) := by decide +kernel
theorem dX5_hears_60 : decode cX5_hears 60 = .ok (.iload_n 2, 1) := by decide +kernel
theorem dX5_hears_61 : decode cX5_hears 61 = .ok (.invokestatic 135, 3) := by decide +kernel
theorem dX5_hears_64 : decode cX5_hears 64 = .ok (.aload_n 0, 1) := by decide +kernel
theorem dX5_hears_65 : decode cX5_hears 65 = .ok (.getfield 15, 3) := by decide +kernel
theorem dX5_hears_68 : decode cX5_hears 68 = .ok (.iload 4, 2) := by decide +kernel
theorem dX5_hears_70 : decode cX5_hears 70 = .ok (.iconst 2, 1) := by decide +kernel
theorem dX5_hears_71 : decode cX5_hears 71 = .ok (.iadd, 1) := by decide +kernel
theorem dX5_hears_72 : decode cX5_hears 72 = .ok (.aload_n 0, 1) := by decide +kernel
theorem dX5_hears_73 : decode cX5_hears 73 = .ok (.getfield 27, 3) := by decide +kernel
theorem dX5_hears_76 : decode cX5_hears 76 = .ok (.invokestatic 135, 3) := by decide +kernel
theorem dX5_hears_79 : decode cX5_hears 79 = .ok (.aload_n 0, 1) := by decide +kernel
theorem dX5_hears_80 : decode cX5_hears 80 = .ok (.getfield 15, 3) := by decide +kernel
theorem dX5_hears_83 : decode cX5_hears 83 = .ok (.iload 4, 2) := by decide +kernel
theorem dX5_hears_85 : decode cX5_hears 85 = .ok (.iconst 3, 1) := by decide +kernel
theorem dX5_hears_86 : decode cX5_hears 86 = .ok (.iadd, 1) := by decide +kernel
theorem dX5_hears_87 : decode cX5_hears 87 = .ok (.iload_n 3, 1) := by decide +kernel
theorem dX5_hears_88 : decode cX5_hears 88 = .ok (.invokestatic 135, 3) := by decide +kernel
theorem dX5_hears_91 : decode cX5_hears 91 = .ok (.aload_n 0, 1) := by decide +kernel
theorem dX5_hears_92 : decode cX5_hears 92 = .ok (.aload_n 0, 1) := by decide +kernel
theorem dX5_hears_93 : decode cX5_hears 93 = .ok (.getfield 53, 3) := by decide +kernel
theorem dX5_hears_96 : decode cX5_hears 96 = .ok (.iconst 1, 1) := by decide +kernel
theorem dX5_hears_97 : decode cX5_hears 97 = .ok (.iadd, 1) := by decide +kernel
theorem dX5_hears_98 : decode cX5_hears 98 = .ok (.bipush 20, 2) := by decide +kernel
theorem dX5_hears_100 : decode cX5_hears 100 = .ok (.irem, 1) := by decide +kernel
theorem dX5_hears_101 : decode cX5_hears 101 = .ok (.putfield 53, 3) := by decide +kernel
theorem dX5_hears_104 : decode cX5_hears 104 = .ok (.aload_n 0, 1) := by decide +kernel
theorem dX5_hears_105 : decode cX5_hears 105 = .ok (.bipush 20, 2) := by decide +kernel
theorem dX5_hears_107 : decode cX5_hears 107 = .ok (.aload_n 0, 1) := by decide +kernel
theorem dX5_hears_108 : decode cX5_hears 108 = .ok (.getfield 50, 3) := by decide +kernel
theorem dX5_hears_111 : decode cX5_hears 111 = .ok (.iconst 1, 1) := by decide +kernel
theorem dX5_hears_112 : decode cX5_hears 112 = .ok (.iadd, 1) := by decide +kernel
theorem dX5_hears_113 : decode cX5_hears 113 = .ok (.invokestatic 120, 3) := by decide +kernel
theorem dX5_hears_116 : decode cX5_hears 116 = .ok (.putfield 50, 3) := by decide +kernel
theorem dX5_hears_119 : decode cX5_hears 119 = .ok (.return_, 1) := by decide +kernel
theorem dX5_placeTalk_0 : decode cX5_placeTalk 0 = .ok (.iconst 4, 1) := by decide +kernel
theorem dX5_placeTalk_1 : decode cX5_placeTalk 1 = .ok (.iload_n 1, 1) := by decide +kernel
theorem dX5_placeTalk_2 : decode cX5_placeTalk 2 = .ok (.imul, 1) := by decide +kernel
theorem dX5_placeTalk_3 : decode cX5_placeTalk 3 = .ok (.istore 6, 2) := by decide +kernel
theorem dX5_placeTalk_5 : decode cX5_placeTalk 5 = .ok (.aload_n 0, 1) := by decide +kernel
theorem dX5_placeTalk_6 : decode cX5_placeTalk 6 = .ok (.getfield 9, 3) := by decide +kernel
theorem dX5_placeTalk_9 : decode cX5_placeTalk 9 = .ok (.iload 6, 2) := by decide +kernel
theorem dX5_placeTalk_11 : decode cX5_placeTalk 11 = .ok (.iconst 0, 1) := by decide +kernel
theorem dX5_placeTalk_12 : decode cX5_placeTalk 12 = .ok (.iadd, 1) := by decide +kernel
theorem dX5_placeTalk_13 : decode cX5_placeTalk 13 = .ok (.iload_n 2, 1) := by decide +kernel
theorem dX5_placeTalk_14 : decode cX5_placeTalk 14 = .ok (.invokestatic 135, 3) := by decide +kernel
theorem dX5_placeTalk_17 : decode cX5_placeTalk 17 = .ok (.aload_n 0, 1) := by decide +kernel
theorem dX5_placeTalk_18 : decode cX5_placeTalk 18 = .ok (.getfield 9, 3) := by decide +kernel
theorem dX5_placeTalk_21 : decode cX5_placeTalk 21 = .ok (.iload 6, 2) := by decide +kernel
theorem dX5_placeTalk_23 : decode cX5_placeTalk 23 = .ok (.iconst 1, 1) := by decide +kernel
theorem dX5_placeTalk_24 : decode cX5_placeTalk 24 = .ok (.iadd, 1) := by decide +kernel
theorem dX5_placeTalk_25 : decode cX5_placeTalk 25 = .ok (.iload_n 3, 1) := by decide +kernel
theorem dX5_placeTalk_26 : decode cX5_placeTalk 26 = .ok (.invokestatic 135, 3) := by decide +kernel
theorem dX5_placeTalk_29 : decode cX5_placeTalk 29 = .ok (.aload_n 0, 1) := by decide +kernel
theorem dX5_placeTalk_30 : decode cX5_placeTalk 30 = .ok (.getfield 9, 3) := by decide +kernel
theorem dX5_placeTalk_33 : decode cX5_placeTalk 33 = .ok (.iload 6, 2) := by decide +kernel
theorem dX5_placeTalk_35 : decode cX5_placeTalk 35 = .ok (.iconst 2, 1) := by decide +kernel
theorem dX5_placeTalk_36 : decode cX5_placeTalk 36 = .ok (.iadd, 1) := by decide +kernel
theorem dX5_placeTalk_37 : decode cX5_placeTalk 37 = .ok (.iload 4, 2) := by decide +kernel
theorem dX5_placeTalk_39 : decode cX5_placeTalk 39 = .ok (.invokestatic 135, 3) := by decide +kernel
theorem dX5_placeTalk_42 : decode cX5_placeTalk 42 = .ok (.aload_n 0, 1) := by decide +kernel
theorem dX5_placeTalk_43 : decode cX5_placeTalk 43 = .ok (.getfield 9, 3) := by decide +kernel
theorem dX5_placeTalk_46 : decode cX5_placeTalk 46 = .ok (.iload 6, 2) := by decide +kernel
theorem dX5_placeTalk_48 : decode cX5_placeTalk 48 = .ok (.iconst 3, 1) := by decide +kernel
theorem dX5_placeTalk_49 : decode cX5_placeTalk 49 = .ok (.iadd, 1) := by decide +kernel
theorem dX5_placeTalk_50 : decode cX5_placeTalk 50 = .ok (.iload 5, 2) := by decide +kernel
theorem dX5_placeTalk_52 : decode cX5_placeTalk 52 = .ok (.invokestatic 135, 3) := by decide +kernel
theorem dX5_placeTalk_55 : decode cX5_placeTalk 55 = .ok (.return_, 1) := by decide +kernel
theorem dX5_moveTalk_0 : decode cX5_moveTalk 0 = .ok (.aload_n 0, 1) := by decide +kernel
theorem dX5_moveTalk_1 : decode cX5_moveTalk 1 = .ok (.iload_n 2, 1) := by decide +kernel
theorem dX5_moveTalk_2 : decode cX5_moveTalk 2 = .ok (.aload_n 0, 1) := by decide +kernel
theorem dX5_moveTalk_3 : decode cX5_moveTalk 3 = .ok (.iload_n 1, 1) := by decide +kernel
theorem dX5_moveTalk_4 : decode cX5_moveTalk 4 = .ok (.iconst 0, 1) := by decide +kernel
theorem dX5_moveTalk_5 : decode cX5_moveTalk 5 = .ok (.invokevirtual 92, 3) := by decide +kernel
theorem dX5_moveTalk_8 : decode cX5_moveTalk 8 = .ok (.aload_n 0, 1) := by decide +kernel
theorem dX5_moveTalk_9 : decode cX5_moveTalk 9 = .ok (.iload_n 1, 1) := by decide +kernel
theorem dX5_moveTalk_10 : decode cX5_moveTalk 10 = .ok (.iconst 1, 1) := by decide +kernel
theorem dX5_moveTalk_11 : decode cX5_moveTalk 11 = .ok (.invokevirtual 92, 3) := by decide +kernel
theorem dX5_moveTalk_14 : decode cX5_moveTalk 14 = .ok (.aload_n 0, 1) := by decide +kernel
theorem dX5_moveTalk_15 : decode cX5_moveTalk 15 = .ok (.iload_n 1, 1) := by decide +kernel
theorem dX5_moveTalk_16 : decode cX5_moveTalk 16 = .ok (.iconst 2, 1) := by decide +kernel
theorem dX5_moveTalk_17 : decode cX5_moveTalk 17 = .ok (.invokevirtual 92, 3) := by decide +kernel
theorem dX5_moveTalk_20 : decode cX5_moveTalk 20 = .ok (.aload_n 0, 1) := by decide +kernel
theorem dX5_moveTalk_21 : decode cX5_moveTalk 21 = .ok (.iload_n 1, 1) := by decide +kernel
theorem dX5_moveTalk_22 : decode cX5_moveTalk 22 = .ok (.iconst 3, 1) := by decide +kernel
theorem dX5_moveTalk_23 : decode cX5_moveTalk 23 = .ok (.invokevirtual 92, 3) := by decide +kernel
theorem dX5_moveTalk_26 : decode cX5_moveTalk 26 = .ok (.invokevirtual 77, 3) := by decide +kernel
theorem dX5_moveTalk_29 : decode cX5_moveTalk 29 = .ok (.return_, 1) := by decide +kernel
theorem dX6_init_0 : decode cX6_init 0 = .ok (.aload_n 0, 1) := by decide +kernel
theorem dX6_init_1 : decode cX6_init 1 = .ok (.invokespecial 1, 3) := by decide +kernel
theorem dX6_init_4 : decode cX6_init 4 = .ok (.aload_n 0, 1) := by decide +kernel
theorem dX6_init_5 : decode cX6_init 5 = .ok (.new 7, 3) := by decide +kernel
theorem dX6_init_8 : decode cX6_init 8 = .ok (.dup, 1) := by decide +kernel
theorem dX6_init_9 : decode cX6_init 9 = .ok (.invokespecial 9, 3) := by decide +kernel
theorem dX6_init_12 : decode cX6_init 12 = .ok (.putfield 10, 3) := by decide +kernel
theorem dX6_init_15 : decode cX6_init 15 = .ok (.aload_n 0, 1) := by decide +kernel
theorem dX6_init_16 : decode cX6_init 16 = .ok (.new 16, 3) := by decide +kernel
theorem dX6_init_19 : decode cX6_init 19 = .ok (.dup, 1) := by decide +kernel
theorem dX6_init_20 : decode cX6_init 20 = .ok (.invokespecial 18, 3) := by decide +kernel
theorem dX6_init_23 : decode cX6_init 23 = .ok (.putfield 19, 3) := by decide +kernel
theorem dX6_init_26 : decode cX6_init 26 = .ok (.aload_n 0, 1) := by decide +kernel
theorem dX6_init_27 : decode cX6_init 27 = .ok (.new 16, 3) := by decide +kernel
theorem dX6_init_30 : decode cX6_init 30 = .ok (.dup, 1) := by decide +kernel
theorem dX6_init_31 : decode cX6_init 31 = .ok (.invokespecial 18, 3) := by decide +kernel
theorem dX6_init_34 : decode cX6_init 34 = .ok (.putfield 23, 3) := by decide +kernel
theorem dX6_init_37 : decode cX6_init 37 = .ok (.aload_n 0, 1) := by decide +kernel
theorem dX6_init_38 : decode cX6_init 38 = .ok (.new 26, 3) := by decide +kernel
theorem dX6_init_41 : decode cX6_init 41 = .ok (.dup, 1) := by decide +kernel
theorem dX6_init_42 : decode cX6_init 42 = .ok (.invokespecial 28, 3) := by decide +kernel
theorem dX6_init_45 : decode cX6_init 45 = .ok (.putfield 29, 3) := by decide +kernel
theorem dX6_init_48 : decode cX6_init 48 = .ok (.aload_n 0, 1) := by decide +kernel
theorem dX6_init_49 : decode cX6_init 49 = .ok (.new 26, 3) := by decide +kernel
theorem dX6_init_52 : decode cX6_init 52 = .ok (.dup, 1) := by decide +kernel
theorem dX6_init_53 : decode cX6_init 53 = .ok (.invokespecial 28, 3) := by decide +kernel
theorem dX6_init_56 : decode cX6_init 56 = .ok (.putfield 33, 3) := by decide +kernel
theorem dX6_init_59 : decode cX6_init 59 = .ok (.aload_n 0, 1) := by decide +kernel
theorem dX6_init_60 : decode cX6_init 60 = .ok (.new 36, 3) := by decide +kernel
theorem dX6_init_63 : decode cX6_init 63 = .ok (.dup, 1) := by decide +kernel
theorem dX6_init_64 : decode cX6_init 64 = .ok (.invokespecial 38, 3) := by decide +kernel
theorem dX6_init_67 : decode cX6_init 67 = .ok (.putfield 39, 3) := by decide +kernel
theorem dX6_init_70 : decode cX6_init 70 = .ok (.aload_n 0, 1) := by decide +kernel
theorem dX6_init_71 : decode cX6_init 71 = .ok (.iconst 2, 1) := by decide +kernel
theorem dX6_init_72 : decode cX6_init 72 = .ok (.anewarray 26, 3) := by decide +kernel
theorem dX6_init_75 : decode cX6_init 75 = .ok (.putfield 43, 3) := by decide +kernel
theorem dX6_init_78 : decode cX6_init 78 = .ok (.iconst 0, 1) := by decide +kernel
theorem dX6_init_79 : decode cX6_init 79 = .ok (.istore_n 1, 1) := by decide +kernel
theorem dX6_init_80 : decode cX6_init 80 = .ok (.iload_n 1, 1) := by decide +kernel
theorem dX6_init_81 : decode cX6_init 81 = .ok (.aload_n 0, 1) := by decide +kernel
theorem dX6_init_82 : decode cX6_init 82 = .ok (.getfield 43, 3) := by decide +kernel
theorem dX6_init_85 : decode cX6_init 85 = .ok (.arraylength, 1) := by decide +kernel
theorem dX6_init_86 : decode cX6_init 86 = .ok (.if_icmp .ge 22, 3) := by decide +kernel
theorem dX6_init_89 : decode cX6_init 89 = .ok (.aload_n 0, 1) := by decide +kernel
theorem dX6_init_90 : decode cX6_init 90 = .ok (.getfield 43, 3) := by decide +kernel
theorem dX6_init_93 : decode cX6_init 93 = .ok (.iload_n 1, 1) := by decide +kernel
theorem dX6_init_94 : decode cX6_init 94 = .ok (.new 26, 3) := by decide +kernel
theorem dX6_init_97 : decode cX6_init 97 = .ok (.dup, 1) := by decide +kernel
theorem dX6_init_98 : decode cX6_init 98 = .ok (.invokespecial 28, 3) := by decide +kernel
theorem dX6_init_101 : decode cX6_init 101 = .ok (.aastore, 1) := by decide +kernel
theorem dX6_init_102 : decode cX6_init 102 = .ok (.iinc 1 1, 3) := by decide +kernel
theorem dX6_init_105 : decode cX6_init 105 = .ok (.goto (-25), 3) := by decide +kernel
theorem dX6_init_108 : decode cX6_init 108 = .ok (.aload_n 0, 1) := by decide +kernel
theorem dX6_init_109 : decode cX6_init 109 = .ok (.iconst 2, 1) := by decide +kernel
theorem dX6_init_110 : decode cX6_init 110 = .ok (.newarray .int, 2) := by decide +kernel
theorem dX6_init_112 : decode cX6_init 112 = .ok (.putfield 47, 3) := by decide +kernel
theorem dX6_init_115 : decode cX6_init 115 = .ok (.aload_n 0, 1) := by decide +kernel
theorem dX6_init_116 : decode cX6_init 116 = .ok (.new 51, 3) := by decide +kernel
theorem dX6_init_119 : decode cX6_init 119 = .ok (.dup, 1) := by decide +kernel
theorem dX6_init_120 : decode cX6_init 120 = .ok (.invokespecial 53, 3) := by decide +kernel
theorem dX6_init_123 : decode cX6_init 123 = .ok (.putfield 54, 3) := by decide +kernel
theorem dX6_init_126 : decode cX6_init 126 = .ok (.aload_n 0, 1) := by decide +kernel
theorem dX6_init_127 : decode cX6_init 127 = .ok (.new 58, 3) := by decide +kernel
theorem dX6_init_130 : decode cX6_init 130 = .ok (.dup, 1) := by decide +kernel
theorem dX6_init_131 : decode cX6_init 131 = .ok (.invokespecial 60, 3) := by decide +kernel
theorem dX6_init_134 : decode cX6_init 134 = .ok (.putfield 61, 3) := by decide +kernel
theorem dX6_init_137 : decode cX6_init 137 = .ok (.return_, 1) := by decide +kernel
theorem dX6_feed_0 : decode cX6_feed 0 = .ok (.iload_n 1, 1) := by decide +kernel
theorem dX6_feed_1 : decode cX6_feed 1 = .ok (.ifCond .lt 10, 3) := by decide +kernel
theorem dX6_feed_4 : decode cX6_feed 4 = .ok (.iload_n 1, 1) := by decide +kernel
theorem dX6_feed_5 : decode cX6_feed 5 = .ok (.sipush 255, 3) := by decide +kernel
theorem dX6_feed_8 : decode cX6_feed 8 = .ok (.if_icmp .le 6, 3) := by decide +kernel
theorem dX6_feed_11 : decode cX6_feed 11 = .ok (.ldc 65, 2) := by decide +kernel
theorem dX6_feed_13 : decode cX6_feed 13 = .ok (.ireturn, 1) := by decide +kernel
theorem dX6_feed_14 : decode cX6_feed 14 = .ok (.aload_n 0, 1) := by decide +kernel
theorem dX6_feed_15 : decode cX6_feed 15 = .ok (.getfield 10, 3) := by decide +kernel
theorem dX6_feed_18 : decode cX6_feed 18 = .ok (.getfield 66, 3) := by decide +kernel
theorem dX6_feed_21 : decode cX6_feed 21 = .ok (.sipush 240, 3) := by decide +kernel
theorem dX6_feed_24 : decode cX6_feed 24 = .ok (.if_icmp .lt 6, 3) := by decide +kernel
theorem dX6_feed_27 : decode cX6_feed 27 = .ok (.ldc 70, 2) := by decide +kernel
theorem dX6_feed_29 : decode cX6_feed 29 = .ok (.ireturn, 1) := by decide +kernel
theorem dX6_feed_30 : decode cX6_feed 30 = .ok (.aload_n 0, 1) := by decide +kernel
theorem dX6_feed_31 : decode cX6_feed 31 = .ok (.getfield 10, 3) := by decide +kernel
theorem dX6_feed_34 : decode cX6_feed 34 = .ok (.getfield 71, 3) := by decide +kernel
theorem dX6_feed_37 : decode cX6_feed 37 = .ok (.aload_n 0, 1) := by decide +kernel
theorem dX6_feed_38 : decode cX6_feed 38 = .ok (.getfield 10, 3) := by decide +kernel
theorem dX6_feed_41 : decode cX6_feed 41 = .ok (.getfield 66, 3) := by decide +kernel
theorem dX6_feed_44 : decode cX6_feed 44 = .ok (.iload_n 1, 1) := by decide +kernel
theorem dX6_feed_45 : decode cX6_feed 45 = .ok (.invokestatic 74, 3) := by decide +kernel
theorem dX6_feed_48 : decode cX6_feed 48 = .ok (.aload_n 0, 1) := by decide +kernel
theorem dX6_feed_49 : decode cX6_feed 49 = .ok (.getfield 10, 3) := by decide +kernel
theorem dX6_feed_52 : decode cX6_feed 52 = .ok (.dup, 1) := by decide +kernel
theorem dX6_feed_53 : decode cX6_feed 53 = .ok (.getfield 66, 3) := by decide +kernel
theorem dX6_feed_56 : decode cX6_feed 56 = .ok (.iconst 1, 1) := by decide +kernel
theorem dX6_feed_57 : decode cX6_feed 57 = .ok (.iadd, 1) := by decide +kernel
theorem dX6_feed_58 : decode cX6_feed 58 = .ok (.putfield 66, 3) := by decide +kernel
theorem dX6_feed_61 : decode cX6_feed 61 = .ok (.aload_n 0, 1) := by decide +kernel
theorem dX6_feed_62 : decode cX6_feed 62 = .ok (.getfield 10, 3) := by decide +kernel
theorem dX6_feed_65 : decode cX6_feed 65 = .ok (.getfield 66, 3) := by decide +kernel
theorem dX6_feed_68 : decode cX6_feed 68 = .ok (.ireturn, 1) := by decide +kernel
theorem dX6_dale_0 : decode cX6_dale 0 = .ok (.aload_n 0, 1) := by decide +kernel
theorem dX6_dale_1 : decode cX6_dale 1 = .ok (.getfield 10, 3) := by decide +kernel
theorem dX6_dale_4 : decode cX6_dale 4 = .ok (.aload_n 0, 1) := by decide +kernel
theorem dX6_dale_5 : decode cX6_dale 5 = .ok (.getfield 23, 3) := by decide +kernel
theorem dX6_dale_8 : decode cX6_dale 8 = .ok (.invokevirtual 78, 3) := by decide +kernel
theorem dX6_dale_11 : decode cX6_dale 11 = .ok (.aload_n 0, 1) := by decide +kernel
theorem dX6_dale_12 : decode cX6_dale 12 = .ok (.getfield 10, 3) := by decide +kernel
theorem dX6_dale_15 : decode cX6_dale 15 = .ok (.iconst 0, 1) := by decide +kernel
theorem dX6_dale_16 : decode cX6_dale 16 = .ok (.putfield 66, 3) := by decide +kernel
theorem dX6_dale_19 : decode cX6_dale 19 = .ok (.aload_n 0, 1) := by decide +kernel
theorem dX6_dale_20 : decode cX6_dale 20 = .ok (.getfield 10, 3) := by decide +kernel
theorem dX6_dale_23 : decode cX6_dale 23 = .ok (.getfield 82, 3) := by decide +kernel
theorem dX6_dale_26 : decode cX6_dale 26 = .ok (.ifCond .eq 14, 3) := by decide +kernel
theorem dX6_dale_29 : decode cX6_dale 29 = .ok (.bipush (-10), 2) := by decide +kernel
theorem dX6_dale_31 : decode cX6_dale 31 = .ok (.aload_n 0, 1) := by decide +kernel
theorem dX6_dale_32 : decode cX6_dale 32 = .ok (.getfield 10, 3) := by decide +kernel
theorem dX6_dale_35 : decode cX6_dale 35 = .ok (.getfield 82, 3) := by decide +kernel
theorem dX6_dale_38 : decode cX6_dale 38 = .ok (.isub, 1) := by decide +kernel
theorem dX6_dale_39 : decode cX6_dale 39 = .ok (.ireturn, 1) := by decide +kernel
theorem dX6_dale_40 : decode cX6_dale 40 = .ok (.aload_n 0, 1) := by decide +kernel
theorem dX6_dale_41 : decode cX6_dale 41 = .ok (.getfield 19, 3) := by decide +kernel
theorem dX6_dale_44 : decode cX6_dale 44 = .ok (.aload_n 0, 1) := by decide +kernel
theorem dX6_dale_45 : decode cX6_dale 45 = .ok (.getfield 23, 3) := by decide +kernel
theorem dX6_dale_48 : decode cX6_dale 48 = .ok (.invokevirtual 85, 3) := by decide +kernel
theorem dX6_dale_51 : decode cX6_dale 51 = .ok (.aload_n 0, 1) := by decide +kernel
theorem dX6_dale_52 : decode cX6_dale 52 = .ok (.getfield 29, 3) := by decide +kernel
theorem dX6_dale_55 : decode cX6_dale 55 = .ok (.aload_n 0, 1) := by decide +kernel
theorem dX6_dale_56 : decode cX6_dale 56 = .ok (.getfield 19, 3) := by decide +kernel
theorem dX6_dale_59 : decode cX6_dale 59 = .ok (.invokevirtual 88, 3) := by decide +kernel
theorem dX6_dale_62 : decode cX6_dale 62 = .ok (.aload_n 0, 1) := by decide +kernel
theorem dX6_dale_63 : decode cX6_dale 63 = .ok (.getfield 54, 3) := by decide +kernel
theorem dX6_dale_66 : decode cX6_dale 66 = .ok (.iconst 0, 1) := by decide +kernel
theorem dX6_dale_67 : decode cX6_dale 67 = .ok (.putfield 91, 3) := by decide +kernel
theorem dX6_dale_70 : decode cX6_dale 70 = .ok (.aload_n 0, 1) := by decide +kernel
theorem dX6_dale_71 : decode cX6_dale 71 = .ok (.getfield 61, 3) := by decide +kernel
theorem dX6_dale_74 : decode cX6_dale 74 = .ok (.iconst 0, 1) := by decide +kernel
theorem dX6_dale_75 : decode cX6_dale 75 = .ok (.putfield 94, 3) := by decide +kernel
theorem dX6_dale_78 : decode cX6_dale 78 = .ok (.aload_n 0, 1) := by decide +kernel
theorem dX6_dale_79 : decode cX6_dale 79 = .ok (.iconst 0, 1) := by decide +kernel
theorem dX6_dale_80 : decode cX6_dale 80 = .ok (.putfield 95, 3) := by decide +kernel
theorem dX6_dale_83 : decode cX6_dale 83 = .ok (.aload_n 0, 1) := by decide +kernel
theorem dX6_dale_84 : decode cX6_dale 84 = .ok (.getfield 39, 3) := by decide +kernel
theorem dX6_dale_87 : decode cX6_dale 87 = .ok (.iconst 0, 1) := by decide +kernel
theorem dX6_dale_88 : decode cX6_dale 88 = .ok (.putfield 98, 3) := by decide +kernel
theorem dX6_dale_91 : decode cX6_dale 91 = .ok (.aload_n 0, 1) := by decide +kernel
theorem dX6_dale_92 : decode cX6_dale 92 = .ok (.getfield 19, 3) := by decide +kernel
theorem dX6_dale_95 : decode cX6_dale 95 = .ok (.getfield 99, 3) := by decide +kernel
theorem dX6_dale_98 : decode cX6_dale 98 = .ok (.ireturn, 1) := by decide +kernel
theorem dX6_fault_0 : decode cX6_fault 0 = .ok (.aload_n 0, 1) := by decide +kernel
theorem dX6_fault_1 : decode cX6_fault 1 = .ok (.getfield 10, 3) := by decide +kernel
theorem dX6_fault_4 : decode cX6_fault 4 = .ok (.getfield 102, 3) := by decide +kernel
theorem dX6_fault_7 : decode cX6_fault 7 = .ok (.ireturn, 1) := by decide +kernel
theorem dX6_told_0 : decode cX6_told 0 = .ok (.iload_n 1, 1) := by decide +kernel
theorem dX6_told_1 : decode cX6_told 1 = .ok (.tableswitch 215 0 16 #[83, 91, 99, 107, 115, 123, 139, 147, 155, 163, 168, 173, 178, 183, 191, 199, 207], 83) := by decide +kernel
theorem dX6_told_84 : decode cX6_told 84 = .ok (.aload_n 0, 1) := by decide +kernel
theorem dX6_told_85 : decode cX6_told 85 = .ok (.getfield 19, 3) := by decide +kernel
theorem dX6_told_88 : decode cX6_told 88 = .ok (.getfield 105, 3) := by decide +kernel
theorem dX6_told_91 : decode cX6_told 91 = .ok (.ireturn, 1) := by decide +kernel
theorem dX6_told_92 : decode cX6_told 92 = .ok (.aload_n 0, 1) := by decide +kernel
theorem dX6_told_93 : decode cX6_told 93 = .ok (.getfield 19, 3) := by decide +kernel
theorem dX6_told_96 : decode cX6_told 96 = .ok (.getfield 99, 3) := by decide +kernel
theorem dX6_told_99 : decode cX6_told 99 = .ok (.ireturn, 1) := by decide +kernel
theorem dX6_told_100 : decode cX6_told 100 = .ok (.aload_n 0, 1) := by decide +kernel
theorem dX6_told_101 : decode cX6_told 101 = .ok (.getfield 10, 3) := by decide +kernel
theorem dX6_told_104 : decode cX6_told 104 = .ok (.getfield 66, 3) := by decide +kernel
theorem dX6_told_107 : decode cX6_told 107 = .ok (.ireturn, 1) := by decide +kernel
theorem dX6_told_108 : decode cX6_told 108 = .ok (.aload_n 0, 1) := by decide +kernel
theorem dX6_told_109 : decode cX6_told 109 = .ok (.getfield 29, 3) := by decide +kernel
theorem dX6_told_112 : decode cX6_told 112 = .ok (.getfield 108, 3) := by decide +kernel
theorem dX6_told_115 : decode cX6_told 115 = .ok (.ireturn, 1) := by decide +kernel
theorem dX6_told_116 : decode cX6_told 116 = .ok (.aload_n 0, 1) := by decide +kernel
theorem dX6_told_117 : decode cX6_told 117 = .ok (.getfield 29, 3) := by decide +kernel
theorem dX6_told_120 : decode cX6_told 120 = .ok (.getfield 111, 3) := by decide +kernel
theorem dX6_told_123 : decode cX6_told 123 = .ok (.ireturn, 1) := by decide +kernel
theorem dX6_told_124 : decode cX6_told 124 = .ok (.aload_n 0, 1) := by decide +kernel
theorem dX6_told_125 : decode cX6_told 125 = .ok (.getfield 29, 3) := by decide +kernel
theorem dX6_told_128 : decode cX6_told 128 = .ok (.getfield 114, 3) := by decide +kernel
theorem dX6_told_131 : decode cX6_told 131 = .ok (.ifCond .eq 7, 3) := by decide +kernel
theorem dX6_told_134 : decode cX6_told 134 = .ok (.iconst 1, 1) := by decide +kernel
theorem dX6_told_135 : decode cX6_told 135 = .ok (.goto 4, 3) := by decide +kernel
theorem dX6_told_138 : decode cX6_told 138 = .ok (.iconst 0, 1) := by decide +kernel
theorem dX6_told_139 : decode cX6_told 139 = .ok (.ireturn, 1) := by decide +kernel
theorem dX6_told_140 : decode cX6_told 140 = .ok (.aload_n 0, 1) := by decide +kernel
theorem dX6_told_141 : decode cX6_told 141 = .ok (.getfield 29, 3) := by decide +kernel
theorem dX6_told_144 : decode cX6_told 144 = .ok (.getfield 118, 3) := by decide +kernel
theorem dX6_told_147 : decode cX6_told 147 = .ok (.ireturn, 1) := by decide +kernel
theorem dX6_told_148 : decode cX6_told 148 = .ok (.aload_n 0, 1) := by decide +kernel
theorem dX6_told_149 : decode cX6_told 149 = .ok (.getfield 29, 3) := by decide +kernel
theorem dX6_told_152 : decode cX6_told 152 = .ok (.getfield 121, 3) := by decide +kernel
theorem dX6_told_155 : decode cX6_told 155 = .ok (.ireturn, 1) := by decide +kernel
theorem dX6_told_156 : decode cX6_told 156 = .ok (.aload_n 0, 1) := by decide +kernel
theorem dX6_told_157 : decode cX6_told 157 = .ok (.getfield 29, 3) := by decide +kernel
theorem dX6_told_160 : decode cX6_told 160 = .ok (.getfield 124, 3) := by decide +kernel
theorem dX6_told_163 : decode cX6_told 163 = .ok (.ireturn, 1) := by decide +kernel
theorem dX6_told_164 : decode cX6_told 164 = .ok (.aload_n 0, 1) := by decide +kernel
theorem dX6_told_165 : decode cX6_told 165 = .ok (.invokevirtual 127, 3) := by decide +kernel
theorem dX6_told_168 : decode cX6_told 168 = .ok (.ireturn, 1) := by decide +kernel
theorem dX6_told_169 : decode cX6_told 169 = .ok (.aload_n 0, 1) := by decide +kernel
theorem dX6_told_170 : decode cX6_told 170 = .ok (.invokevirtual 131, 3) := by decide +kernel
theorem dX6_told_173 : decode cX6_told 173 = .ok (.ireturn, 1) := by decide +kernel
theorem dX6_told_174 : decode cX6_told 174 = .ok (.aload_n 0, 1) := by decide +kernel
theorem dX6_told_175 : decode cX6_told 175 = .ok (.invokevirtual 134, 3) := by decide +kernel
theorem dX6_told_178 : decode cX6_told 178 = .ok (.ireturn, 1) := by decide +kernel
theorem dX6_told_179 : decode cX6_told 179 = .ok (.aload_n 0, 1) := by decide +kernel
theorem dX6_told_180 : decode cX6_told 180 = .ok (.invokevirtual 137, 3) := by decide +kernel
theorem dX6_told_183 : decode cX6_told 183 = .ok (.ireturn, 1) := by decide +kernel
theorem dX6_told_184 : decode cX6_told 184 = .ok (.aload_n 0, 1) := by decide +kernel
theorem dX6_told_185 : decode cX6_told 185 = .ok (.getfield 29, 3) := by decide +kernel
theorem dX6_told_188 : decode cX6_told 188 = .ok (.getfield 140, 3) := by decide +kernel
theorem dX6_told_191 : decode cX6_told 191 = .ok (.ireturn, 1) := by decide +kernel
theorem dX6_told_192 : decode cX6_told 192 = .ok (.aload_n 0, 1) := by decide +kernel
theorem dX6_told_193 : decode cX6_told 193 = .ok (.getfield 54, 3) := by decide +kernel
theorem dX6_told_196 : decode cX6_told 196 = .ok (.getfield 91, 3) := by decide +kernel
theorem dX6_told_199 : decode cX6_told 199 = .ok (.ireturn, 1) := by decide +kernel
theorem dX6_told_200 : decode cX6_told 200 = .ok (.aload_n 0, 1) := by decide +kernel
theorem dX6_told_201 : decode cX6_told 201 = .ok (.getfield 61, 3) := by decide +kernel
theorem dX6_told_204 : decode cX6_told 204 = .ok (.getfield 94, 3) := by decide +kernel
theorem dX6_told_207 : decode cX6_told 207 = .ok (.ireturn, 1) := by decide +kernel
theorem dX6_told_208 : decode cX6_told 208 = .ok (.aload_n 0, 1) := by decide +kernel
theorem dX6_told_209 : decode cX6_told 209 = .ok (.getfield 39, 3) := by decide +kernel
theorem dX6_told_212 : decode cX6_told 212 = .ok (.getfield 98, 3) := by decide +kernel
theorem dX6_told_215 : decode cX6_told 215 = .ok (.ireturn, 1) := by decide +kernel
theorem dX6_told_216 : decode cX6_told 216 = .ok (.ldc 65, 2) := by decide +kernel
theorem dX6_told_218 : decode cX6_told 218 = .ok (.ireturn, 1) := by decide +kernel
theorem dX6_farm_0 : decode cX6_farm 0 = .ok (.aload_n 0, 1) := by decide +kernel
theorem dX6_farm_1 : decode cX6_farm 1 = .ok (.iload_n 1, 1) := by decide +kernel
theorem dX6_farm_2 : decode cX6_farm 2 = .ok (.invokevirtual 143, 3) := by decide +kernel
theorem dX6_farm_5 : decode cX6_farm 5 = .ok (.ifCond .ne 6, 3) := by decide +kernel
theorem dX6_farm_8 : decode cX6_farm 8 = .ok (.ldc 147, 2) := by decide +kernel
theorem dX6_farm_10 : decode cX6_farm 10 = .ok (.ireturn, 1) := by decide +kernel
theorem dX6_farm_11 : decode cX6_farm 11 = .ok (.iload_n 2, 1) := by decide +kernel
theorem dX6_farm_12 : decode cX6_farm 12 = .ok (.tableswitch 120 0 5 #[40, 60, 72, 84, 96, 108], 40) := by decide +kernel
theorem dX6_farm_52 : decode cX6_farm 52 = .ok (.iload_n 1, 1) := by decide +kernel
theorem dX6_farm_53 : decode cX6_farm 53 = .ok (.ifCond .ne 7, 3) := by decide +kernel
theorem dX6_farm_56 : decode cX6_farm 56 = .ok (.iconst (-1), 1) := by decide +kernel
theorem dX6_farm_57 : decode cX6_farm 57 = .ok (.goto 14, 3) := by decide +kernel
theorem dX6_farm_60 : decode cX6_farm 60 = .ok (.aload_n 0, 1) := by decide +kernel
theorem dX6_farm_61 : decode cX6_farm 61 = .ok (.getfield 19, 3) := by decide +kernel
theorem dX6_farm_64 : decode cX6_farm 64 = .ok (.getfield 148, 3) := by decide +kernel
theorem dX6_farm_67 : decode cX6_farm 67 = .ok (.iload_n 1, 1) := by decide +kernel
theorem dX6_farm_68 : decode cX6_farm 68 = .ok (.invokestatic 151, 3) := by decide +kernel
theorem dX6_farm_71 : decode cX6_farm 71 = .ok (.ireturn, 1) := by decide +kernel
theorem dX6_farm_72 : decode cX6_farm 72 = .ok (.aload_n 0, 1) := by decide +kernel
theorem dX6_farm_73 : decode cX6_farm 73 = .ok (.getfield 19, 3) := by decide +kernel
theorem dX6_farm_76 : decode cX6_farm 76 = .ok (.getfield 155, 3) := by decide +kernel
theorem dX6_farm_79 : decode cX6_farm 79 = .ok (.iload_n 1, 1) := by decide +kernel
theorem dX6_farm_80 : decode cX6_farm 80 = .ok (.invokestatic 151, 3) := by decide +kernel
theorem dX6_farm_83 : decode cX6_farm 83 = .ok (.ireturn, 1) := by decide +kernel
theorem dX6_farm_84 : decode cX6_farm 84 = .ok (.aload_n 0, 1) := by decide +kernel
theorem dX6_farm_85 : decode cX6_farm 85 = .ok (.getfield 29, 3) := by decide +kernel
theorem dX6_farm_88 : decode cX6_farm 88 = .ok (.getfield 158, 3) := by decide +kernel
theorem dX6_farm_91 : decode cX6_farm 91 = .ok (.iload_n 1, 1) := by decide +kernel
theorem dX6_farm_92 : decode cX6_farm 92 = .ok (.invokestatic 151, 3) := by decide +kernel
theorem dX6_farm_95 : decode cX6_farm 95 = .ok (.ireturn, 1) := by decide +kernel
theorem dX6_farm_96 : decode cX6_farm 96 = .ok (.aload_n 0, 1) := by decide +kernel
theorem dX6_farm_97 : decode cX6_farm 97 = .ok (.getfield 19, 3) := by decide +kernel
theorem dX6_farm_100 : decode cX6_farm 100 = .ok (.getfield 161, 3) := by decide +kernel
theorem dX6_farm_103 : decode cX6_farm 103 = .ok (.iload_n 1, 1) := by decide +kernel
theorem dX6_farm_104 : decode cX6_farm 104 = .ok (.invokestatic 151, 3) := by decide +kernel
theorem dX6_farm_107 : decode cX6_farm 107 = .ok (.ireturn, 1) := by decide +kernel
theorem dX6_farm_108 : decode cX6_farm 108 = .ok (.aload_n 0, 1) := by decide +kernel
theorem dX6_farm_109 : decode cX6_farm 109 = .ok (.getfield 29, 3) := by decide +kernel
theorem dX6_farm_112 : decode cX6_farm 112 = .ok (.getfield 164, 3) := by decide +kernel
theorem dX6_farm_115 : decode cX6_farm 115 = .ok (.iload_n 1, 1) := by decide +kernel
theorem dX6_farm_116 : decode cX6_farm 116 = .ok (.invokestatic 151, 3) := by decide +kernel
theorem dX6_farm_119 : decode cX6_farm 119 = .ok (.ireturn, 1) := by decide +kernel
theorem dX6_farm_120 : decode cX6_farm 120 = .ok (.aload_n 0, 1) := by decide +kernel
theorem dX6_farm_121 : decode cX6_farm 121 = .ok (.getfield 29, 3) := by decide +kernel
theorem dX6_farm_124 : decode cX6_farm 124 = .ok (.getfield 167, 3) := by decide +kernel
theorem dX6_farm_127 : decode cX6_farm 127 = .ok (.iload_n 1, 1) := by decide +kernel
theorem dX6_farm_128 : decode cX6_farm 128 = .ok (.invokestatic 151, 3) := by decide +kernel
theorem dX6_farm_131 : decode cX6_farm 131 = .ok (.ireturn, 1) := by decide +kernel
theorem dX6_farm_132 : decode cX6_farm 132 = .ok (.ldc 65, 2) := by decide +kernel
theorem dX6_farm_134 : decode cX6_farm 134 = .ok (.ireturn, 1) := by decide +kernel
theorem dX6_talk_0 : decode cX6_talk 0 = .ok (.aload_n 0, 1) := by decide +kernel
theorem dX6_talk_1 : decode cX6_talk 1 = .ok (.iload_n 1, 1) := by decide +kernel
theorem dX6_talk_2 : decode cX6_talk 2 = .ok (.invokevirtual 170, 3) := by decide +kernel
theorem dX6_talk_5 : decode cX6_talk 5 = .ok (.ifCond .ne 6, 3) := by decide +kernel
theorem dX6_talk_8 : decode cX6_talk 8 = .ok (.ldc 147, 2) := by decide +kernel
theorem dX6_talk_10 : decode cX6_talk 10 = .ok (.ireturn, 1) := by decide +kernel
theorem dX6_talk_11 : decode cX6_talk 11 = .ok (.iload_n 2, 1) := by decide +kernel
theorem dX6_talk_12 : decode cX6_talk 12 = .ok (.ifCond .lt 8, 3) := by decide +kernel
theorem dX6_talk_15 : decode cX6_talk 15 = .ok (.iload_n 2, 1) := by decide +kernel
theorem dX6_talk_16 : decode cX6_talk 16 = .ok (.iconst 4, 1) := by decide +kernel
theorem dX6_talk_17 : decode cX6_talk 17 = .ok (.if_icmp .lt 6, 3) := by decide +kernel
theorem dX6_talk_20 : decode cX6_talk 20 = .ok (.ldc 65, 2) := by decide +kernel
theorem dX6_talk_22 : decode cX6_talk 22 = .ok (.ireturn, 1) := by decide +kernel
theorem dX6_talk_23 : decode cX6_talk 23 = .ok (.aload_n 0, 1) := by decide +kernel
theorem dX6_talk_24 : decode cX6_talk 24 = .ok (.getfield 29, 3) := by decide +kernel
theorem dX6_talk_27 : decode cX6_talk 27 = .ok (.iload_n 1, 1) := by decide +kernel
theorem dX6_talk_28 : decode cX6_talk 28 = .ok (.iload_n 2, 1) := by decide +kernel
theorem dX6_talk_29 : decode cX6_talk 29 = .ok (.invokevirtual 173, 3) := by decide +kernel
theorem dX6_talk_32 : decode cX6_talk 32 = .ok (.ireturn, 1) := by decide +kernel
theorem dX6_logged_0 : decode cX6_logged 0 = .ok (.iload_n 2, 1) := by decide +kernel
theorem dX6_logged_1 : decode cX6_logged 1 = .ok (.ifCond .lt 8, 3) := by decide +kernel
theorem dX6_logged_4 : decode cX6_logged 4 = .ok (.iload_n 2, 1) := by decide +kernel
theorem dX6_logged_5 : decode cX6_logged 5 = .ok (.iconst 4, 1) := by decide +kernel
theorem dX6_logged_6 : decode cX6_logged 6 = .ok (.if_icmp .lt 6, 3) := by decide +kernel
theorem dX6_logged_9 : decode cX6_logged 9 = .ok (.ldc 65, 2) := by decide +kernel
theorem dX6_logged_11 : decode cX6_logged 11 = .ok (.ireturn, 1) := by decide +kernel
theorem dX6_logged_12 : decode cX6_logged 12 = .ok (.iload_n 1, 1) := by decide +kernel
theorem dX6_logged_13 : decode cX6_logged 13 = .ok (.ifCond .lt 14, 3) := by decide +kernel
theorem dX6_logged_16 : decode cX6_logged 16 = .ok (.iload_n 1, 1) := by decide +kernel
theorem dX6_logged_17 : decode cX6_logged 17 = .ok (.aload_n 0, 1) := by decide +kernel
theorem dX6_logged_18 : decode cX6_logged 18 = .ok (.getfield 29, 3) := by decide +kernel
theorem dX6_logged_21 : decode cX6_logged 21 = .ok (.getfield 140, 3) := by decide +kernel
theorem dX6_logged_24 : decode cX6_logged 24 = .ok (.if_icmp .lt 5, 3) := by decide +kernel
theorem dX6_logged_27 : decode cX6_logged 27 = .ok (.iconst (-1), 1) := by decide +kernel
theorem dX6_logged_28 : decode cX6_logged 28 = .ok (.ireturn, 1) := by decide +kernel
theorem dX6_logged_29 : decode cX6_logged 29 = .ok (.aload_n 0, 1) := by decide +kernel
theorem dX6_logged_30 : decode cX6_logged 30 = .ok (.getfield 29, 3) := by decide +kernel
theorem dX6_logged_33 : decode cX6_logged 33 = .ok (.iload_n 1, 1) := by decide +kernel
theorem dX6_logged_34 : decode cX6_logged 34 = .ok (.iload_n 2, 1) := by decide +kernel
theorem dX6_logged_35 : decode cX6_logged 35 = .ok (.invokevirtual 177, 3) := by decide +kernel
theorem dX6_logged_38 : decode cX6_logged 38 = .ok (.ireturn, 1) := by decide +kernel
theorem dX6_hour_0 : decode cX6_hour 0 = .ok (.aload_n 0, 1) := by decide +kernel
theorem dX6_hour_1 : decode cX6_hour 1 = .ok (.iload_n 1, 1) := by decide +kernel
theorem dX6_hour_2 : decode cX6_hour 2 = .ok (.invokevirtual 180, 3) := by decide +kernel
theorem dX6_hour_5 : decode cX6_hour 5 = .ok (.istore_n 2, 1) := by decide +kernel
theorem dX6_hour_6 : decode cX6_hour 6 = .ok (.iload_n 2, 1) := by decide +kernel
theorem dX6_hour_7 : decode cX6_hour 7 = .ok (.ifCond .eq 5, 3) := by decide +kernel
theorem dX6_hour_10 : decode cX6_hour 10 = .ok (.iload_n 2, 1) := by decide +kernel
theorem dX6_hour_11 : decode cX6_hour 11 = .ok (.ireturn, 1) := by decide +kernel
theorem dX6_hour_12 : decode cX6_hour 12 = .ok (.aload_n 0, 1) := by decide +kernel
theorem dX6_hour_13 : decode cX6_hour 13 = .ok (.getfield 39, 3) := by decide +kernel
theorem dX6_hour_16 : decode cX6_hour 16 = .ok (.aload_n 0, 1) := by decide +kernel
theorem dX6_hour_17 : decode cX6_hour 17 = .ok (.getfield 29, 3) := by decide +kernel
theorem dX6_hour_20 : decode cX6_hour 20 = .ok (.invokevirtual 184, 3) := by decide +kernel
theorem dX6_hour_23 : decode cX6_hour 23 = .ok (.aload_n 0, 1) := by decide +kernel
theorem dX6_hour_24 : decode cX6_hour 24 = .ok (.getfield 29, 3) := by decide +kernel
theorem dX6_hour_27 : decode cX6_hour 27 = .ok (.aload_n 0, 1) := by decide +kernel
theorem dX6_hour_28 : decode cX6_hour 28 = .ok (.getfield 19, 3) := by decide +kernel
theorem dX6_hour_31 : decode cX6_hour 31 = .ok (.iload_n 1, 1) := by decide +kernel
theorem dX6_hour_32 : decode cX6_hour 32 = .ok (.invokevirtual 188, 3) := by decide +kernel
theorem dX6_hour_35 : decode cX6_hour 35 = .ok (.aload_n 0, 1) := by decide +kernel
theorem dX6_hour_36 : decode cX6_hour 36 = .ok (.getfield 29, 3) := by decide +kernel
theorem dX6_hour_39 : decode cX6_hour 39 = .ok (.getfield 121, 3) := by decide +kernel
theorem dX6_hour_42 : decode cX6_hour 42 = .ok (.ireturn, 1) := by decide +kernel
theorem dX6_say_0 : decode cX6_say 0 = .ok (.aload_n 0, 1) := by decide +kernel
theorem dX6_say_1 : decode cX6_say 1 = .ok (.iload_n 1, 1) := by decide +kernel
theorem dX6_say_2 : decode cX6_say 2 = .ok (.invokevirtual 143, 3) := by decide +kernel
theorem dX6_say_5 : decode cX6_say 5 = .ok (.ifCond .eq 11, 3) := by decide +kernel
theorem dX6_say_8 : decode cX6_say 8 = .ok (.aload_n 0, 1) := by decide +kernel
theorem dX6_say_9 : decode cX6_say 9 = .ok (.iload_n 2, 1) := by decide +kernel
theorem dX6_say_10 : decode cX6_say 10 = .ok (.invokevirtual 192, 3) := by decide +kernel
theorem dX6_say_13 : decode cX6_say 13 = .ok (.ifCond .ne 6, 3) := by decide +kernel
theorem dX6_say_16 : decode cX6_say 16 = .ok (.ldc 147, 2) := by decide +kernel
theorem dX6_say_18 : decode cX6_say 18 = .ok (.ireturn, 1) := by decide +kernel
theorem dX6_say_19 : decode cX6_say 19 = .ok (.iload_n 1, 1) := by decide +kernel
theorem dX6_say_20 : decode cX6_say 20 = .ok (.ifCond .ne 6, 3) := by decide +kernel
theorem dX6_say_23 : decode cX6_say 23 = .ok (.ldc 195, 2) := by decide +kernel
theorem dX6_say_25 : decode cX6_say 25 = .ok (.ireturn, 1) := by decide +kernel
theorem dX6_say_26 : decode cX6_say 26 = .ok (.aload_n 0, 1) := by decide +kernel
theorem dX6_say_27 : decode cX6_say 27 = .ok (.getfield 29, 3) := by decide +kernel
theorem dX6_say_30 : decode cX6_say 30 = .ok (.getfield 121, 3) := by decide +kernel
theorem dX6_say_33 : decode cX6_say 33 = .ok (.bipush 12, 2) := by decide +kernel
theorem dX6_say_35 : decode cX6_say 35 = .ok (.if_icmp .lt 6, 3) := by decide +kernel
theorem dX6_say_38 : decode cX6_say 38 = .ok (.ldc 70, 2) := by decide +kernel
theorem dX6_say_40 : decode cX6_say 40 = .ok (.ireturn, 1) := by decide +kernel
theorem dX6_say_41 : decode cX6_say 41 = .ok (.aload_n 0, 1) := by decide +kernel
theorem dX6_say_42 : decode cX6_say 42 = .ok (.getfield 39, 3) := by decide +kernel
theorem dX6_say_45 : decode cX6_say 45 = .ok (.aload_n 0, 1) := by decide +kernel
theorem dX6_say_46 : decode cX6_say 46 = .ok (.getfield 29, 3) := by decide +kernel
theorem dX6_say_49 : decode cX6_say 49 = .ok (.invokevirtual 184, 3) := by decide +kernel
theorem dX6_say_52 : decode cX6_say 52 = .ok (.aload_n 0, 1) := by decide +kernel
theorem dX6_say_53 : decode cX6_say 53 = .ok (.getfield 29, 3) := by decide +kernel
theorem dX6_say_56 : decode cX6_say 56 = .ok (.aload_n 0, 1) := by decide +kernel
theorem dX6_say_57 : decode cX6_say 57 = .ok (.getfield 19, 3) := by decide +kernel
theorem dX6_say_60 : decode cX6_say 60 = .ok (.iload_n 1, 1) := by decide +kernel
theorem dX6_say_61 : decode cX6_say 61 = .ok (.iload_n 2, 1) := by decide +kernel
theorem dX6_say_62 : decode cX6_say 62 = .ok (.invokevirtual 196, 3) := by decide +kernel
theorem dX6_say_65 : decode cX6_say 65 = .ok (.aload_n 0, 1) := by decide +kernel
theorem dX6_say_66 : decode cX6_say 66 = .ok (.getfield 29, 3) := by decide +kernel
theorem dX6_say_69 : decode cX6_say 69 = .ok (.getfield 121, 3) := by decide +kernel
theorem dX6_say_72 : decode cX6_say 72 = .ok (.ireturn, 1) := by decide +kernel
theorem dX6_rain_0 : decode cX6_rain 0 = .ok (.iload_n 1, 1) := by decide +kernel
theorem dX6_rain_1 : decode cX6_rain 1 = .ok (.ifCond .lt 9, 3) := by decide +kernel
theorem dX6_rain_4 : decode cX6_rain 4 = .ok (.iload_n 1, 1) := by decide +kernel
theorem dX6_rain_5 : decode cX6_rain 5 = .ok (.bipush 9, 2) := by decide +kernel
theorem dX6_rain_7 : decode cX6_rain 7 = .ok (.if_icmp .le 6, 3) := by decide +kernel
theorem dX6_rain_10 : decode cX6_rain 10 = .ok (.ldc 65, 2) := by decide +kernel
theorem dX6_rain_12 : decode cX6_rain 12 = .ok (.ireturn, 1) := by decide +kernel
theorem dX6_rain_13 : decode cX6_rain 13 = .ok (.aload_n 0, 1) := by decide +kernel
theorem dX6_rain_14 : decode cX6_rain 14 = .ok (.getfield 19, 3) := by decide +kernel
theorem dX6_rain_17 : decode cX6_rain 17 = .ok (.getfield 99, 3) := by decide +kernel
theorem dX6_rain_20 : decode cX6_rain 20 = .ok (.ifCond .ne 6, 3) := by decide +kernel
theorem dX6_rain_23 : decode cX6_rain 23 = .ok (.ldc 195, 2) := by decide +kernel
theorem dX6_rain_25 : decode cX6_rain 25 = .ok (.ireturn, 1) := by decide +kernel
theorem dX6_rain_26 : decode cX6_rain 26 = .ok (.aload_n 0, 1) := by decide +kernel
theorem dX6_rain_27 : decode cX6_rain 27 = .ok (.getfield 39, 3) := by decide +kernel
theorem dX6_rain_30 : decode cX6_rain 30 = .ok (.aload_n 0, 1) := by decide +kernel
theorem dX6_rain_31 : decode cX6_rain 31 = .ok (.getfield 29, 3) := by decide +kernel
theorem dX6_rain_34 : decode cX6_rain 34 = .ok (.invokevirtual 184, 3) := by decide +kernel
theorem dX6_rain_37 : decode cX6_rain 37 = .ok (.aload_n 0, 1) := by decide +kernel
theorem dX6_rain_38 : decode cX6_rain 38 = .ok (.getfield 29, 3) := by decide +kernel
theorem dX6_rain_41 : decode cX6_rain 41 = .ok (.getfield 111, 3) := by decide +kernel
theorem dX6_rain_44 : decode cX6_rain 44 = .ok (.istore_n 2, 1) := by decide +kernel
theorem dX6_rain_45 : decode cX6_rain 45 = .ok (.aload_n 0, 1) := by decide +kernel
theorem dX6_rain_46 : decode cX6_rain 46 = .ok (.getfield 29, 3) := by decide +kernel
theorem dX6_rain_49 : decode cX6_rain 49 = .ok (.iload_n 1, 1) := by decide +kernel
theorem dX6_rain_50 : decode cX6_rain 50 = .ok (.putfield 111, 3) := by decide +kernel
theorem dX6_rain_53 : decode cX6_rain 53 = .ok (.iload_n 2, 1) := by decide +kernel
theorem dX6_rain_54 : decode cX6_rain 54 = .ok (.ireturn, 1) := by decide +kernel
theorem dX6_frost_0 : decode cX6_frost 0 = .ok (.aload_n 0, 1) := by decide +kernel
theorem dX6_frost_1 : decode cX6_frost 1 = .ok (.getfield 19, 3) := by decide +kernel
theorem dX6_frost_4 : decode cX6_frost 4 = .ok (.getfield 99, 3) := by decide +kernel
theorem dX6_frost_7 : decode cX6_frost 7 = .ok (.ifCond .ne 6, 3) := by decide +kernel
theorem dX6_frost_10 : decode cX6_frost 10 = .ok (.ldc 195, 2) := by decide +kernel
theorem dX6_frost_12 : decode cX6_frost 12 = .ok (.ireturn, 1) := by decide +kernel
theorem dX6_frost_13 : decode cX6_frost 13 = .ok (.aload_n 0, 1) := by decide +kernel
theorem dX6_frost_14 : decode cX6_frost 14 = .ok (.getfield 39, 3) := by decide +kernel
theorem dX6_frost_17 : decode cX6_frost 17 = .ok (.aload_n 0, 1) := by decide +kernel
theorem dX6_frost_18 : decode cX6_frost 18 = .ok (.getfield 29, 3) := by decide +kernel
theorem dX6_frost_21 : decode cX6_frost 21 = .ok (.invokevirtual 184, 3) := by decide +kernel
theorem dX6_frost_24 : decode cX6_frost 24 = .ok (.aload_n 0, 1) := by decide +kernel
theorem dX6_frost_25 : decode cX6_frost 25 = .ok (.getfield 29, 3) := by decide +kernel
theorem dX6_frost_28 : decode cX6_frost 28 = .ok (.getfield 114, 3) := by decide +kernel
theorem dX6_frost_31 : decode cX6_frost 31 = .ok (.ifCond .eq 7, 3) := by decide +kernel
theorem dX6_frost_34 : decode cX6_frost 34 = .ok (.iconst 1, 1) := by decide +kernel
theorem dX6_frost_35 : decode cX6_frost 35 = .ok (.goto 4, 3) := by decide +kernel
theorem dX6_frost_38 : decode cX6_frost 38 = .ok (.iconst 0, 1) := by decide +kernel
theorem dX6_frost_39 : decode cX6_frost 39 = .ok (.istore_n 2, 1) := by decide +kernel
theorem dX6_frost_40 : decode cX6_frost 40 = .ok (.aload_n 0, 1) := by decide +kernel
theorem dX6_frost_41 : decode cX6_frost 41 = .ok (.getfield 29, 3) := by decide +kernel
theorem dX6_frost_44 : decode cX6_frost 44 = .ok (.iload_n 1, 1) := by decide +kernel
theorem dX6_frost_45 : decode cX6_frost 45 = .ok (.putfield 114, 3) := by decide +kernel
theorem dX6_frost_48 : decode cX6_frost 48 = .ok (.iload_n 2, 1) := by decide +kernel
theorem dX6_frost_49 : decode cX6_frost 49 = .ok (.ireturn, 1) := by decide +kernel
theorem dX6_dam_0 : decode cX6_dam 0 = .ok (.aload_n 0, 1) := by decide +kernel
theorem dX6_dam_1 : decode cX6_dam 1 = .ok (.iload_n 1, 1) := by decide +kernel
theorem dX6_dam_2 : decode cX6_dam 2 = .ok (.invokevirtual 143, 3) := by decide +kernel
theorem dX6_dam_5 : decode cX6_dam 5 = .ok (.ifCond .ne 6, 3) := by decide +kernel
theorem dX6_dam_8 : decode cX6_dam 8 = .ok (.ldc 147, 2) := by decide +kernel
theorem dX6_dam_10 : decode cX6_dam 10 = .ok (.ireturn, 1) := by decide +kernel
theorem dX6_dam_11 : decode cX6_dam 11 = .ok (.iload_n 1, 1) := by decide +kernel
theorem dX6_dam_12 : decode cX6_dam 12 = .ok (.ifCond .ne 6, 3) := by decide +kernel
theorem dX6_dam_15 : decode cX6_dam 15 = .ok (.ldc 195, 2) := by decide +kernel
theorem dX6_dam_17 : decode cX6_dam 17 = .ok (.ireturn, 1) := by decide +kernel
theorem dX6_dam_18 : decode cX6_dam 18 = .ok (.aload_n 0, 1) := by decide +kernel
theorem dX6_dam_19 : decode cX6_dam 19 = .ok (.getfield 39, 3) := by decide +kernel
theorem dX6_dam_22 : decode cX6_dam 22 = .ok (.aload_n 0, 1) := by decide +kernel
theorem dX6_dam_23 : decode cX6_dam 23 = .ok (.getfield 29, 3) := by decide +kernel
theorem dX6_dam_26 : decode cX6_dam 26 = .ok (.invokevirtual 184, 3) := by decide +kernel
theorem dX6_dam_29 : decode cX6_dam 29 = .ok (.aload_n 0, 1) := by decide +kernel
theorem dX6_dam_30 : decode cX6_dam 30 = .ok (.getfield 29, 3) := by decide +kernel
theorem dX6_dam_33 : decode cX6_dam 33 = .ok (.getfield 118, 3) := by decide +kernel
theorem dX6_dam_36 : decode cX6_dam 36 = .ok (.iload_n 1, 1) := by decide +kernel
theorem dX6_dam_37 : decode cX6_dam 37 = .ok (.invokestatic 200, 3) := by decide +kernel
theorem dX6_dam_40 : decode cX6_dam 40 = .ok (.ifCond .eq 7, 3) := by decide +kernel
theorem dX6_dam_43 : decode cX6_dam 43 = .ok (.iconst 1, 1) := by decide +kernel
theorem dX6_dam_44 : decode cX6_dam 44 = .ok (.goto 4, 3) := by decide +kernel
theorem dX6_dam_47 : decode cX6_dam 47 = .ok (.iconst 0, 1) := by decide +kernel
theorem dX6_dam_48 : decode cX6_dam 48 = .ok (.istore_n 3, 1) := by decide +kernel
theorem dX6_dam_49 : decode cX6_dam 49 = .ok (.aload_n 0, 1) := by decide +kernel
theorem dX6_dam_50 : decode cX6_dam 50 = .ok (.getfield 29, 3) := by decide +kernel
theorem dX6_dam_53 : decode cX6_dam 53 = .ok (.iload_n 2, 1) := by decide +kernel
theorem dX6_dam_54 : decode cX6_dam 54 = .ok (.ifCond .eq 17, 3) := by decide +kernel
theorem dX6_dam_57 : decode cX6_dam 57 = .ok (.aload_n 0, 1) := by decide +kernel
theorem dX6_dam_58 : decode cX6_dam 58 = .ok (.getfield 29, 3) := by decide +kernel
theorem dX6_dam_61 : decode cX6_dam 61 = .ok (.getfield 118, 3) := by decide +kernel
theorem dX6_dam_64 : decode cX6_dam 64 = .ok (.iconst 1, 1) := by decide +kernel
theorem dX6_dam_65 : decode cX6_dam 65 = .ok (.iload_n 1, 1) := by decide +kernel
theorem dX6_dam_66 : decode cX6_dam 66 = .ok (.ishl, 1) := by decide +kernel
theorem dX6_dam_67 : decode cX6_dam 67 = .ok (.ior, 1) := by decide +kernel
theorem dX6_dam_68 : decode cX6_dam 68 = .ok (.goto 16, 3) := by decide +kernel
theorem dX6_dam_71 : decode cX6_dam 71 = .ok (.aload_n 0, 1) := by decide +kernel
theorem dX6_dam_72 : decode cX6_dam 72 = .ok (.getfield 29, 3) := by decide +kernel
theorem dX6_dam_75 : decode cX6_dam 75 = .ok (.getfield 118, 3) := by decide +kernel
theorem dX6_dam_78 : decode cX6_dam 78 = .ok (.iconst 1, 1) := by decide +kernel
theorem dX6_dam_79 : decode cX6_dam 79 = .ok (.iload_n 1, 1) := by decide +kernel
theorem dX6_dam_80 : decode cX6_dam 80 = .ok (.ishl, 1) := by decide +kernel
theorem dX6_dam_81 : decode cX6_dam 81 = .ok (.iconst (-1), 1) := by decide +kernel
theorem dX6_dam_82 : decode cX6_dam 82 = .ok (.ixor, 1) := by decide +kernel
theorem dX6_dam_83 : decode cX6_dam 83 = .ok (.iand, 1) := by decide +kernel
theorem dX6_dam_84 : decode cX6_dam 84 = .ok (.putfield 118, 3) := by decide +kernel
theorem dX6_dam_87 : decode cX6_dam 87 = .ok (.iload_n 3, 1) := by decide +kernel
theorem dX6_dam_88 : decode cX6_dam 88 = .ok (.ireturn, 1) := by decide +kernel
theorem dX6_smooth_0 : decode cX6_smooth 0 = .ok (.aload_n 0, 1) := by decide +kernel
theorem dX6_smooth_1 : decode cX6_smooth 1 = .ok (.iload_n 1, 1) := by decide +kernel
theorem dX6_smooth_2 : decode cX6_smooth 2 = .ok (.invokevirtual 143, 3) := by decide +kernel
theorem dX6_smooth_5 : decode cX6_smooth 5 = .ok (.ifCond .ne 6, 3) := by decide +kernel
theorem dX6_smooth_8 : decode cX6_smooth 8 = .ok (.ldc 147, 2) := by decide +kernel
theorem dX6_smooth_10 : decode cX6_smooth 10 = .ok (.ireturn, 1) := by decide +kernel
theorem dX6_smooth_11 : decode cX6_smooth 11 = .ok (.iload_n 1, 1) := by decide +kernel
theorem dX6_smooth_12 : decode cX6_smooth 12 = .ok (.ifCond .ne 6, 3) := by decide +kernel
theorem dX6_smooth_15 : decode cX6_smooth 15 = .ok (.ldc 195, 2) := by decide +kernel
theorem dX6_smooth_17 : decode cX6_smooth 17 = .ok (.ireturn, 1) := by decide +kernel
theorem dX6_smooth_18 : decode cX6_smooth 18 = .ok (.aload_n 0, 1) := by decide +kernel
theorem dX6_smooth_19 : decode cX6_smooth 19 = .ok (.getfield 39, 3) := by decide +kernel
theorem dX6_smooth_22 : decode cX6_smooth 22 = .ok (.aload_n 0, 1) := by decide +kernel
theorem dX6_smooth_23 : decode cX6_smooth 23 = .ok (.getfield 29, 3) := by decide +kernel
theorem dX6_smooth_26 : decode cX6_smooth 26 = .ok (.invokevirtual 184, 3) := by decide +kernel
theorem dX6_smooth_29 : decode cX6_smooth 29 = .ok (.aload_n 0, 1) := by decide +kernel
theorem dX6_smooth_30 : decode cX6_smooth 30 = .ok (.getfield 29, 3) := by decide +kernel
theorem dX6_smooth_33 : decode cX6_smooth 33 = .ok (.getfield 158, 3) := by decide +kernel
theorem dX6_smooth_36 : decode cX6_smooth 36 = .ok (.iload_n 1, 1) := by decide +kernel
theorem dX6_smooth_37 : decode cX6_smooth 37 = .ok (.invokestatic 151, 3) := by decide +kernel
theorem dX6_smooth_40 : decode cX6_smooth 40 = .ok (.istore_n 2, 1) := by decide +kernel
theorem dX6_smooth_41 : decode cX6_smooth 41 = .ok (.aload_n 0, 1) := by decide +kernel
theorem dX6_smooth_42 : decode cX6_smooth 42 = .ok (.getfield 29, 3) := by decide +kernel
theorem dX6_smooth_45 : decode cX6_smooth 45 = .ok (.getfield 158, 3) := by decide +kernel
theorem dX6_smooth_48 : decode cX6_smooth 48 = .ok (.iload_n 1, 1) := by decide +kernel
theorem dX6_smooth_49 : decode cX6_smooth 49 = .ok (.iconst 0, 1) := by decide +kernel
theorem dX6_smooth_50 : decode cX6_smooth 50 = .ok (.invokestatic 74, 3) := by decide +kernel
theorem dX6_smooth_53 : decode cX6_smooth 53 = .ok (.iload_n 2, 1) := by decide +kernel
theorem dX6_smooth_54 : decode cX6_smooth 54 = .ok (.ireturn, 1) := by decide +kernel
theorem dX6_hush_0 : decode cX6_hush 0 = .ok (.aload_n 0, 1) := by decide +kernel
theorem dX6_hush_1 : decode cX6_hush 1 = .ok (.iload_n 1, 1) := by decide +kernel
theorem dX6_hush_2 : decode cX6_hush 2 = .ok (.invokevirtual 170, 3) := by decide +kernel
theorem dX6_hush_5 : decode cX6_hush 5 = .ok (.ifCond .ne 6, 3) := by decide +kernel
theorem dX6_hush_8 : decode cX6_hush 8 = .ok (.ldc 147, 2) := by decide +kernel
theorem dX6_hush_10 : decode cX6_hush 10 = .ok (.ireturn, 1) := by decide +kernel
theorem dX6_hush_11 : decode cX6_hush 11 = .ok (.aload_n 0, 1) := by decide +kernel
theorem dX6_hush_12 : decode cX6_hush 12 = .ok (.getfield 39, 3) := by decide +kernel
theorem dX6_hush_15 : decode cX6_hush 15 = .ok (.aload_n 0, 1) := by decide +kernel
theorem dX6_hush_16 : decode cX6_hush 16 = .ok (.getfield 29, 3) := by decide +kernel
theorem dX6_hush_19 : decode cX6_hush 19 = .ok (.invokevirtual 184, 3) := by decide +kernel
theorem dX6_hush_22 : decode cX6_hush 22 = .ok (.aload_n 0, 1) := by decide +kernel
theorem dX6_hush_23 : decode cX6_hush 23 = .ok (.getfield 29, 3) := by decide +kernel
theorem dX6_hush_26 : decode cX6_hush 26 = .ok (.iload_n 1, 1) := by decide +kernel
theorem dX6_hush_27 : decode cX6_hush 27 = .ok (.invokevirtual 204, 3) := by decide +kernel
theorem dX6_hush_30 : decode cX6_hush 30 = .ok (.aload_n 0, 1) := by decide +kernel
theorem dX6_hush_31 : decode cX6_hush 31 = .ok (.getfield 29, 3) := by decide +kernel
theorem dX6_hush_34 : decode cX6_hush 34 = .ok (.getfield 121, 3) := by decide +kernel
theorem dX6_hush_37 : decode cX6_hush 37 = .ok (.ireturn, 1) := by decide +kernel
theorem dX6_drift_0 : decode cX6_drift 0 = .ok (.aload_n 0, 1) := by decide +kernel
theorem dX6_drift_1 : decode cX6_drift 1 = .ok (.iload_n 1, 1) := by decide +kernel
theorem dX6_drift_2 : decode cX6_drift 2 = .ok (.invokevirtual 180, 3) := by decide +kernel
theorem dX6_drift_5 : decode cX6_drift 5 = .ok (.istore_n 2, 1) := by decide +kernel
theorem dX6_drift_6 : decode cX6_drift 6 = .ok (.iload_n 2, 1) := by decide +kernel
theorem dX6_drift_7 : decode cX6_drift 7 = .ok (.ifCond .eq 5, 3) := by decide +kernel
theorem dX6_drift_10 : decode cX6_drift 10 = .ok (.iload_n 2, 1) := by decide +kernel
theorem dX6_drift_11 : decode cX6_drift 11 = .ok (.ireturn, 1) := by decide +kernel
theorem dX6_drift_12 : decode cX6_drift 12 = .ok (.aload_n 0, 1) := by decide +kernel
theorem dX6_drift_13 : decode cX6_drift 13 = .ok (.getfield 39, 3) := by decide +kernel
theorem dX6_drift_16 : decode cX6_drift 16 = .ok (.aload_n 0, 1) := by decide +kernel
theorem dX6_drift_17 : decode cX6_drift 17 = .ok (.getfield 29, 3) := by decide +kernel
theorem dX6_drift_20 : decode cX6_drift 20 = .ok (.invokevirtual 184, 3) := by decide +kernel
theorem dX6_drift_23 : decode cX6_drift 23 = .ok (.iconst 0, 1) := by decide +kernel
theorem dX6_drift_24 : decode cX6_drift 24 = .ok (.istore_n 3, 1) := by decide +kernel
theorem dX6_drift_25 : decode cX6_drift 25 = .ok (.iload_n 3, 1) := by decide +kernel
theorem dX6_drift_26 : decode cX6_drift 26 = .ok (.iload_n 1, 1) := by decide +kernel
theorem dX6_drift_27 : decode cX6_drift 27 = .ok (.if_icmp .ge 24, 3) := by decide +kernel
theorem dX6_drift_30 : decode cX6_drift 30 = .ok (.aload_n 0, 1) := by decide +kernel
theorem dX6_drift_31 : decode cX6_drift 31 = .ok (.invokevirtual 208, 3) := by decide +kernel
theorem dX6_drift_34 : decode cX6_drift 34 = .ok (.aload_n 0, 1) := by decide +kernel
theorem dX6_drift_35 : decode cX6_drift 35 = .ok (.getfield 29, 3) := by decide +kernel
theorem dX6_drift_38 : decode cX6_drift 38 = .ok (.aload_n 0, 1) := by decide +kernel
theorem dX6_drift_39 : decode cX6_drift 39 = .ok (.getfield 19, 3) := by decide +kernel
theorem dX6_drift_42 : decode cX6_drift 42 = .ok (.invokevirtual 211, 3) := by decide +kernel
theorem dX6_drift_45 : decode cX6_drift 45 = .ok (.iinc 3 1, 3) := by decide +kernel
theorem dX6_drift_48 : decode cX6_drift 48 = .ok (.goto (-23), 3) := by decide +kernel
theorem dX6_drift_51 : decode cX6_drift 51 = .ok (.aload_n 0, 1) := by decide +kernel
theorem dX6_drift_52 : decode cX6_drift 52 = .ok (.getfield 29, 3) := by decide +kernel
theorem dX6_drift_55 : decode cX6_drift 55 = .ok (.getfield 121, 3) := by decide +kernel
theorem dX6_drift_58 : decode cX6_drift 58 = .ok (.ireturn, 1) := by decide +kernel
theorem dX6_undo_0 : decode cX6_undo 0 = .ok (.aload_n 0, 1) := by decide +kernel
theorem dX6_undo_1 : decode cX6_undo 1 = .ok (.getfield 39, 3) := by decide +kernel
theorem dX6_undo_4 : decode cX6_undo 4 = .ok (.getfield 98, 3) := by decide +kernel
theorem dX6_undo_7 : decode cX6_undo 7 = .ok (.ifCond .ne 6, 3) := by decide +kernel
theorem dX6_undo_10 : decode cX6_undo 10 = .ok (.ldc 195, 2) := by decide +kernel
theorem dX6_undo_12 : decode cX6_undo 12 = .ok (.ireturn, 1) := by decide +kernel
theorem dX6_undo_13 : decode cX6_undo 13 = .ok (.aload_n 0, 1) := by decide +kernel
theorem dX6_undo_14 : decode cX6_undo 14 = .ok (.getfield 39, 3) := by decide +kernel
theorem dX6_undo_17 : decode cX6_undo 17 = .ok (.aload_n 0, 1) := by decide +kernel
theorem dX6_undo_18 : decode cX6_undo 18 = .ok (.getfield 29, 3) := by decide +kernel
theorem dX6_undo_21 : decode cX6_undo 21 = .ok (.invokevirtual 214, 3) := by decide +kernel
theorem dX6_undo_24 : decode cX6_undo 24 = .ok (.aload_n 0, 1) := by decide +kernel
theorem dX6_undo_25 : decode cX6_undo 25 = .ok (.getfield 39, 3) := by decide +kernel
theorem dX6_undo_28 : decode cX6_undo 28 = .ok (.getfield 98, 3) := by decide +kernel
theorem dX6_undo_31 : decode cX6_undo 31 = .ok (.ireturn, 1) := by decide +kernel
theorem dX6_down_0 : decode cX6_down 0 = .ok (.aload_n 0, 1) := by decide +kernel
theorem dX6_down_1 : decode cX6_down 1 = .ok (.iload_n 1, 1) := by decide +kernel
theorem dX6_down_2 : decode cX6_down 2 = .ok (.invokevirtual 143, 3) := by decide +kernel
theorem dX6_down_5 : decode cX6_down 5 = .ok (.ifCond .eq 11, 3) := by decide +kernel
theorem dX6_down_8 : decode cX6_down 8 = .ok (.aload_n 0, 1) := by decide +kernel
theorem dX6_down_9 : decode cX6_down 9 = .ok (.iload_n 1, 1) := by decide +kernel
theorem dX6_down_10 : decode cX6_down 10 = .ok (.invokevirtual 217, 3) := by decide +kernel
theorem dX6_down_13 : decode cX6_down 13 = .ok (.goto 5, 3) := by decide +kernel
theorem dX6_down_16 : decode cX6_down 16 = .ok (.ldc 147, 2) := by decide +kernel
theorem dX6_down_18 : decode cX6_down 18 = .ok (.ireturn, 1) := by decide +kernel
theorem dX6_up_0 : decode cX6_up 0 = .ok (.aload_n 0, 1) := by decide +kernel
theorem dX6_up_1 : decode cX6_up 1 = .ok (.iload_n 1, 1) := by decide +kernel
theorem dX6_up_2 : decode cX6_up 2 = .ok (.invokevirtual 143, 3) := by decide +kernel
theorem dX6_up_5 : decode cX6_up 5 = .ok (.ifCond .eq 11, 3) := by decide +kernel
theorem dX6_up_8 : decode cX6_up 8 = .ok (.aload_n 0, 1) := by decide +kernel
theorem dX6_up_9 : decode cX6_up 9 = .ok (.iload_n 1, 1) := by decide +kernel
theorem dX6_up_10 : decode cX6_up 10 = .ok (.invokevirtual 220, 3) := by decide +kernel
theorem dX6_up_13 : decode cX6_up 13 = .ok (.goto 5, 3) := by decide +kernel
theorem dX6_up_16 : decode cX6_up 16 = .ok (.ldc 147, 2) := by decide +kernel
theorem dX6_up_18 : decode cX6_up 18 = .ok (.ireturn, 1) := by decide +kernel
theorem dX6_becomes_0 : decode cX6_becomes 0 = .ok (.aload_n 0, 1) := by decide +kernel
theorem dX6_becomes_1 : decode cX6_becomes 1 = .ok (.iload_n 1, 1) := by decide +kernel
theorem dX6_becomes_2 : decode cX6_becomes 2 = .ok (.invokevirtual 143, 3) := by decide +kernel
theorem dX6_becomes_5 : decode cX6_becomes 5 = .ok (.ifCond .eq 19, 3) := by decide +kernel
theorem dX6_becomes_8 : decode cX6_becomes 8 = .ok (.aload_n 0, 1) := by decide +kernel
theorem dX6_becomes_9 : decode cX6_becomes 9 = .ok (.iload_n 2, 1) := by decide +kernel
theorem dX6_becomes_10 : decode cX6_becomes 10 = .ok (.invokevirtual 143, 3) := by decide +kernel
theorem dX6_becomes_13 : decode cX6_becomes 13 = .ok (.ifCond .eq 11, 3) := by decide +kernel
theorem dX6_becomes_16 : decode cX6_becomes 16 = .ok (.aload_n 0, 1) := by decide +kernel
theorem dX6_becomes_17 : decode cX6_becomes 17 = .ok (.iload_n 3, 1) := by decide +kernel
theorem dX6_becomes_18 : decode cX6_becomes 18 = .ok (.invokevirtual 192, 3) := by decide +kernel
theorem dX6_becomes_21 : decode cX6_becomes 21 = .ok (.ifCond .ne 6, 3) := by decide +kernel
theorem dX6_becomes_24 : decode cX6_becomes 24 = .ok (.ldc 147, 2) := by decide +kernel
theorem dX6_becomes_26 : decode cX6_becomes 26 = .ok (.ireturn, 1) := by decide +kernel
theorem dX6_becomes_27 : decode cX6_becomes 27 = .ok (.aload_n 0, 1) := by decide +kernel
theorem dX6_becomes_28 : decode cX6_becomes 28 = .ok (.iload_n 1, 1) := by decide +kernel
theorem dX6_becomes_29 : decode cX6_becomes 29 = .ok (.iload_n 2, 1) := by decide +kernel
theorem dX6_becomes_30 : decode cX6_becomes 30 = .ok (.iload_n 3, 1) := by decide +kernel
theorem dX6_becomes_31 : decode cX6_becomes 31 = .ok (.invokevirtual 223, 3) := by decide +kernel
theorem dX6_becomes_34 : decode cX6_becomes 34 = .ok (.ireturn, 1) := by decide +kernel
theorem dX6_takes_0 : decode cX6_takes 0 = .ok (.aload_n 0, 1) := by decide +kernel
theorem dX6_takes_1 : decode cX6_takes 1 = .ok (.iload_n 1, 1) := by decide +kernel
theorem dX6_takes_2 : decode cX6_takes 2 = .ok (.invokevirtual 143, 3) := by decide +kernel
theorem dX6_takes_5 : decode cX6_takes 5 = .ok (.ifCond .eq 11, 3) := by decide +kernel
theorem dX6_takes_8 : decode cX6_takes 8 = .ok (.aload_n 0, 1) := by decide +kernel
theorem dX6_takes_9 : decode cX6_takes 9 = .ok (.iload_n 2, 1) := by decide +kernel
theorem dX6_takes_10 : decode cX6_takes 10 = .ok (.invokevirtual 143, 3) := by decide +kernel
theorem dX6_takes_13 : decode cX6_takes 13 = .ok (.ifCond .ne 6, 3) := by decide +kernel
theorem dX6_takes_16 : decode cX6_takes 16 = .ok (.ldc 147, 2) := by decide +kernel
theorem dX6_takes_18 : decode cX6_takes 18 = .ok (.ireturn, 1) := by decide +kernel
theorem dX6_takes_19 : decode cX6_takes 19 = .ok (.aload_n 0, 1) := by decide +kernel
theorem dX6_takes_20 : decode cX6_takes 20 = .ok (.iload_n 1, 1) := by decide +kernel
theorem dX6_takes_21 : decode cX6_takes 21 = .ok (.iload_n 2, 1) := by decide +kernel
theorem dX6_takes_22 : decode cX6_takes 22 = .ok (.invokevirtual 227, 3) := by decide +kernel
theorem dX6_takes_25 : decode cX6_takes 25 = .ok (.ireturn, 1) := by decide +kernel
theorem dX6_toSay_0 : decode cX6_toSay 0 = .ok (.aload_n 0, 1) := by decide +kernel
theorem dX6_toSay_1 : decode cX6_toSay 1 = .ok (.iload_n 1, 1) := by decide +kernel
theorem dX6_toSay_2 : decode cX6_toSay 2 = .ok (.invokevirtual 143, 3) := by decide +kernel
theorem dX6_toSay_5 : decode cX6_toSay 5 = .ok (.ifCond .eq 19, 3) := by decide +kernel
theorem dX6_toSay_8 : decode cX6_toSay 8 = .ok (.aload_n 0, 1) := by decide +kernel
theorem dX6_toSay_9 : decode cX6_toSay 9 = .ok (.iload_n 2, 1) := by decide +kernel
theorem dX6_toSay_10 : decode cX6_toSay 10 = .ok (.invokevirtual 143, 3) := by decide +kernel
theorem dX6_toSay_13 : decode cX6_toSay 13 = .ok (.ifCond .eq 11, 3) := by decide +kernel
theorem dX6_toSay_16 : decode cX6_toSay 16 = .ok (.aload_n 0, 1) := by decide +kernel
theorem dX6_toSay_17 : decode cX6_toSay 17 = .ok (.iload_n 3, 1) := by decide +kernel
theorem dX6_toSay_18 : decode cX6_toSay 18 = .ok (.invokevirtual 192, 3) := by decide +kernel
theorem dX6_toSay_21 : decode cX6_toSay 21 = .ok (.ifCond .ne 6, 3) := by decide +kernel
theorem dX6_toSay_24 : decode cX6_toSay 24 = .ok (.ldc 147, 2) := by decide +kernel
theorem dX6_toSay_26 : decode cX6_toSay 26 = .ok (.ireturn, 1) := by decide +kernel
theorem dX6_toSay_27 : decode cX6_toSay 27 = .ok (.aload_n 0, 1) := by decide +kernel
theorem dX6_toSay_28 : decode cX6_toSay 28 = .ok (.iload_n 1, 1) := by decide +kernel
theorem dX6_toSay_29 : decode cX6_toSay 29 = .ok (.iload_n 2, 1) := by decide +kernel
theorem dX6_toSay_30 : decode cX6_toSay 30 = .ok (.iload_n 3, 1) := by decide +kernel
theorem dX6_toSay_31 : decode cX6_toSay 31 = .ok (.invokevirtual 230, 3) := by decide +kernel
theorem dX6_toSay_34 : decode cX6_toSay 34 = .ok (.ireturn, 1) := by decide +kernel
theorem dX6_origin_0 : decode cX6_origin 0 = .ok (.aload_n 0, 1) := by decide +kernel
theorem dX6_origin_1 : decode cX6_origin 1 = .ok (.iload_n 1, 1) := by decide +kernel
theorem dX6_origin_2 : decode cX6_origin 2 = .ok (.invokevirtual 143, 3) := by decide +kernel
theorem dX6_origin_5 : decode cX6_origin 5 = .ok (.ifCond .eq 24, 3) := by decide +kernel
theorem dX6_origin_8 : decode cX6_origin 8 = .ok (.aload_n 0, 1) := by decide +kernel
theorem dX6_origin_9 : decode cX6_origin 9 = .ok (.iload_n 2, 1) := by decide +kernel
theorem dX6_origin_10 : decode cX6_origin 10 = .ok (.invokevirtual 192, 3) := by decide +kernel
theorem dX6_origin_13 : decode cX6_origin 13 = .ok (.ifCond .eq 16, 3) := by decide +kernel
theorem dX6_origin_16 : decode cX6_origin 16 = .ok (.iload_n 3, 1) := by decide +kernel
theorem dX6_origin_17 : decode cX6_origin 17 = .ok (.iconst (-1), 1) := by decide +kernel
theorem dX6_origin_18 : decode cX6_origin 18 = .ok (.if_icmp .eq 14, 3) := by decide +kernel
theorem dX6_origin_21 : decode cX6_origin 21 = .ok (.aload_n 0, 1) := by decide +kernel
theorem dX6_origin_22 : decode cX6_origin 22 = .ok (.iload_n 3, 1) := by decide +kernel
theorem dX6_origin_23 : decode cX6_origin 23 = .ok (.invokevirtual 143, 3) := by decide +kernel
theorem dX6_origin_26 : decode cX6_origin 26 = .ok (.ifCond .ne 6, 3) := by decide +kernel
theorem dX6_origin_29 : decode cX6_origin 29 = .ok (.ldc 147, 2) := by decide +kernel
theorem dX6_origin_31 : decode cX6_origin 31 = .ok (.ireturn, 1) := by decide +kernel
theorem dX6_origin_32 : decode cX6_origin 32 = .ok (.iload_n 3, 1) := by decide +kernel
theorem dX6_origin_33 : decode cX6_origin 33 = .ok (.iconst (-1), 1) := by decide +kernel
theorem dX6_origin_34 : decode cX6_origin 34 = .ok (.if_icmp .eq 11, 3) := by decide +kernel
theorem dX6_origin_37 : decode cX6_origin 37 = .ok (.aload_n 0, 1) := by decide +kernel
theorem dX6_origin_38 : decode cX6_origin 38 = .ok (.iload_n 3, 1) := by decide +kernel
theorem dX6_origin_39 : decode cX6_origin 39 = .ok (.iload_n 1, 1) := by decide +kernel
theorem dX6_origin_40 : decode cX6_origin 40 = .ok (.iload_n 2, 1) := by decide +kernel
theorem dX6_origin_41 : decode cX6_origin 41 = .ok (.invokevirtual 230, 3) := by decide +kernel
theorem dX6_origin_44 : decode cX6_origin 44 = .ok (.ireturn, 1) := by decide +kernel
theorem dX6_origin_45 : decode cX6_origin 45 = .ok (.iconst 0, 1) := by decide +kernel
theorem dX6_origin_46 : decode cX6_origin 46 = .ok (.istore 4, 2) := by decide +kernel
theorem dX6_origin_48 : decode cX6_origin 48 = .ok (.iconst 0, 1) := by decide +kernel
theorem dX6_origin_49 : decode cX6_origin 49 = .ok (.istore 5, 2) := by decide +kernel
theorem dX6_origin_51 : decode cX6_origin 51 = .ok (.iload 5, 2) := by decide +kernel
theorem dX6_origin_53 : decode cX6_origin 53 = .ok (.aload_n 0, 1) := by decide +kernel
theorem dX6_origin_54 : decode cX6_origin 54 = .ok (.getfield 19, 3) := by decide +kernel
theorem dX6_origin_57 : decode cX6_origin 57 = .ok (.getfield 99, 3) := by decide +kernel
theorem dX6_origin_60 : decode cX6_origin 60 = .ok (.if_icmp .ge 25, 3) := by decide +kernel
theorem dX6_origin_63 : decode cX6_origin 63 = .ok (.iload 4, 2) := by decide +kernel
theorem dX6_origin_65 : decode cX6_origin 65 = .ok (.aload_n 0, 1) := by decide +kernel
theorem dX6_origin_66 : decode cX6_origin 66 = .ok (.iload 5, 2) := by decide +kernel
theorem dX6_origin_68 : decode cX6_origin 68 = .ok (.iload_n 1, 1) := by decide +kernel
theorem dX6_origin_69 : decode cX6_origin 69 = .ok (.iload_n 2, 1) := by decide +kernel
theorem dX6_origin_70 : decode cX6_origin 70 = .ok (.invokevirtual 230, 3) := by decide +kernel
theorem dX6_origin_73 : decode cX6_origin 73 = .ok (.invokestatic 233, 3) := by decide +kernel
theorem dX6_origin_76 : decode cX6_origin 76 = .ok (.iadd, 1) := by decide +kernel
theorem dX6_origin_77 : decode cX6_origin 77 = .ok (.istore 4, 2) := by decide +kernel
theorem dX6_origin_79 : decode cX6_origin 79 = .ok (.iinc 5 1, 3) := by decide +kernel
theorem dX6_origin_82 : decode cX6_origin 82 = .ok (.goto (-31), 3) := by decide +kernel
theorem dX6_origin_85 : decode cX6_origin 85 = .ok (.iload 4, 2) := by decide +kernel
theorem dX6_origin_87 : decode cX6_origin 87 = .ok (.ireturn, 1) := by decide +kernel
theorem dX6_privately_0 : decode cX6_privately 0 = .ok (.aload_n 0, 1) := by decide +kernel
theorem dX6_privately_1 : decode cX6_privately 1 = .ok (.iload_n 1, 1) := by decide +kernel
theorem dX6_privately_2 : decode cX6_privately 2 = .ok (.invokevirtual 238, 3) := by decide +kernel
theorem dX6_privately_5 : decode cX6_privately 5 = .ok (.ifCond .ne 6, 3) := by decide +kernel
theorem dX6_privately_8 : decode cX6_privately 8 = .ok (.ldc 147, 2) := by decide +kernel
theorem dX6_privately_10 : decode cX6_privately 10 = .ok (.ireturn, 1) := by decide +kernel
theorem dX6_privately_11 : decode cX6_privately 11 = .ok (.iconst 0, 1) := by decide +kernel
theorem dX6_privately_12 : decode cX6_privately 12 = .ok (.istore_n 2, 1) := by decide +kernel
theorem dX6_privately_13 : decode cX6_privately 13 = .ok (.iconst 1, 1) := by decide +kernel
theorem dX6_privately_14 : decode cX6_privately 14 = .ok (.istore_n 3, 1) := by decide +kernel
theorem dX6_privately_15 : decode cX6_privately 15 = .ok (.iload_n 3, 1) := by decide +kernel
theorem dX6_privately_16 : decode cX6_privately 16 = .ok (.aload_n 0, 1) := by decide +kernel
theorem dX6_privately_17 : decode cX6_privately 17 = .ok (.getfield 19, 3) := by decide +kernel
theorem dX6_privately_20 : decode cX6_privately 20 = .ok (.getfield 99, 3) := by decide +kernel
theorem dX6_privately_23 : decode cX6_privately 23 = .ok (.if_icmp .ge 25, 3) := by decide +kernel
theorem dX6_privately_26 : decode cX6_privately 26 = .ok (.aload_n 0, 1) := by decide +kernel
theorem dX6_privately_27 : decode cX6_privately 27 = .ok (.iload_n 3, 1) := by decide +kernel
theorem dX6_privately_28 : decode cX6_privately 28 = .ok (.invokevirtual 217, 3) := by decide +kernel
theorem dX6_privately_31 : decode cX6_privately 31 = .ok (.iload_n 1, 1) := by decide +kernel
theorem dX6_privately_32 : decode cX6_privately 32 = .ok (.iand, 1) := by decide +kernel
theorem dX6_privately_33 : decode cX6_privately 33 = .ok (.ifCond .ne 9, 3) := by decide +kernel
theorem dX6_privately_36 : decode cX6_privately 36 = .ok (.iload_n 2, 1) := by decide +kernel
theorem dX6_privately_37 : decode cX6_privately 37 = .ok (.iconst 1, 1) := by decide +kernel
theorem dX6_privately_38 : decode cX6_privately 38 = .ok (.iload_n 3, 1) := by decide +kernel
theorem dX6_privately_39 : decode cX6_privately 39 = .ok (.ishl, 1) := by decide +kernel
theorem dX6_privately_40 : decode cX6_privately 40 = .ok (.ior, 1) := by decide +kernel
theorem dX6_privately_41 : decode cX6_privately 41 = .ok (.istore_n 2, 1) := by decide +kernel
theorem dX6_privately_42 : decode cX6_privately 42 = .ok (.iinc 3 1, 3) := by decide +kernel
theorem dX6_privately_45 : decode cX6_privately 45 = .ok (.goto (-30), 3) := by decide +kernel
theorem dX6_privately_48 : decode cX6_privately 48 = .ok (.iload_n 2, 1) := by decide +kernel
theorem dX6_privately_49 : decode cX6_privately 49 = .ok (.ireturn, 1) := by decide +kernel
theorem dX6_dams_0 : decode cX6_dams 0 = .ok (.aload_n 0, 1) := by decide +kernel
theorem dX6_dams_1 : decode cX6_dams 1 = .ok (.iload_n 1, 1) := by decide +kernel
theorem dX6_dams_2 : decode cX6_dams 2 = .ok (.invokevirtual 143, 3) := by decide +kernel
theorem dX6_dams_5 : decode cX6_dams 5 = .ok (.ifCond .eq 11, 3) := by decide +kernel
theorem dX6_dams_8 : decode cX6_dams 8 = .ok (.aload_n 0, 1) := by decide +kernel
theorem dX6_dams_9 : decode cX6_dams 9 = .ok (.iload_n 2, 1) := by decide +kernel
theorem dX6_dams_10 : decode cX6_dams 10 = .ok (.invokevirtual 238, 3) := by decide +kernel
theorem dX6_dams_13 : decode cX6_dams 13 = .ok (.ifCond .ne 6, 3) := by decide +kernel
theorem dX6_dams_16 : decode cX6_dams 16 = .ok (.ldc 147, 2) := by decide +kernel
theorem dX6_dams_18 : decode cX6_dams 18 = .ok (.ireturn, 1) := by decide +kernel
theorem dX6_dams_19 : decode cX6_dams 19 = .ok (.aload_n 0, 1) := by decide +kernel
theorem dX6_dams_20 : decode cX6_dams 20 = .ok (.iload_n 1, 1) := by decide +kernel
theorem dX6_dams_21 : decode cX6_dams 21 = .ok (.iload_n 2, 1) := by decide +kernel
theorem dX6_dams_22 : decode cX6_dams 22 = .ok (.invokevirtual 241, 3) := by decide +kernel
theorem dX6_dams_25 : decode cX6_dams 25 = .ok (.ireturn, 1) := by decide +kernel
theorem dX6_willHear_0 : decode cX6_willHear 0 = .ok (.aload_n 0, 1) := by decide +kernel
theorem dX6_willHear_1 : decode cX6_willHear 1 = .ok (.iload_n 1, 1) := by decide +kernel
theorem dX6_willHear_2 : decode cX6_willHear 2 = .ok (.invokevirtual 143, 3) := by decide +kernel
theorem dX6_willHear_5 : decode cX6_willHear 5 = .ok (.ifCond .ne 6, 3) := by decide +kernel
theorem dX6_willHear_8 : decode cX6_willHear 8 = .ok (.ldc 147, 2) := by decide +kernel
theorem dX6_willHear_10 : decode cX6_willHear 10 = .ok (.ireturn, 1) := by decide +kernel
theorem dX6_willHear_11 : decode cX6_willHear 11 = .ok (.iload_n 2, 1) := by decide +kernel
theorem dX6_willHear_12 : decode cX6_willHear 12 = .ok (.ifCond .lt 18, 3) := by decide +kernel
theorem dX6_willHear_15 : decode cX6_willHear 15 = .ok (.iload_n 2, 1) := by decide +kernel
theorem dX6_willHear_16 : decode cX6_willHear 16 = .ok (.bipush 100, 2) := by decide +kernel
theorem dX6_willHear_18 : decode cX6_willHear 18 = .ok (.if_icmp .gt 12, 3) := by decide +kernel
theorem dX6_willHear_21 : decode cX6_willHear 21 = .ok (.iload_n 3, 1) := by decide +kernel
theorem dX6_willHear_22 : decode cX6_willHear 22 = .ok (.ifCond .lt 8, 3) := by decide +kernel
theorem dX6_willHear_25 : decode cX6_willHear 25 = .ok (.iload_n 3, 1) := by decide +kernel
theorem dX6_willHear_26 : decode cX6_willHear 26 = .ok (.iconst 1, 1) := by decide +kernel
theorem dX6_willHear_27 : decode cX6_willHear 27 = .ok (.if_icmp .le 6, 3) := by decide +kernel
theorem dX6_willHear_30 : decode cX6_willHear 30 = .ok (.ldc 65, 2) := by decide +kernel
theorem dX6_willHear_32 : decode cX6_willHear 32 = .ok (.ireturn, 1) := by decide +kernel
theorem dX6_willHear_33 : decode cX6_willHear 33 = .ok (.aload_n 0, 1) := by decide +kernel
theorem dX6_willHear_34 : decode cX6_willHear 34 = .ok (.getfield 33, 3) := by decide +kernel
theorem dX6_willHear_37 : decode cX6_willHear 37 = .ok (.aload_n 0, 1) := by decide +kernel
theorem dX6_willHear_38 : decode cX6_willHear 38 = .ok (.getfield 29, 3) := by decide +kernel
theorem dX6_willHear_41 : decode cX6_willHear 41 = .ok (.invokevirtual 244, 3) := by decide +kernel
theorem dX6_willHear_44 : decode cX6_willHear 44 = .ok (.aload_n 0, 1) := by decide +kernel
theorem dX6_willHear_45 : decode cX6_willHear 45 = .ok (.getfield 33, 3) := by decide +kernel
theorem dX6_willHear_48 : decode cX6_willHear 48 = .ok (.getfield 167, 3) := by decide +kernel
theorem dX6_willHear_51 : decode cX6_willHear 51 = .ok (.iload_n 1, 1) := by decide +kernel
theorem dX6_willHear_52 : decode cX6_willHear 52 = .ok (.iconst 0, 1) := by decide +kernel
theorem dX6_willHear_53 : decode cX6_willHear 53 = .ok (.invokestatic 74, 3) := by decide +kernel
theorem dX6_willHear_56 : decode cX6_willHear 56 = .ok (.aload_n 0, 1) := by decide +kernel
theorem dX6_willHear_57 : decode cX6_willHear 57 = .ok (.getfield 33, 3) := by decide +kernel
theorem dX6_willHear_60 : decode cX6_willHear 60 = .ok (.aload_n 0, 1) := by decide +kernel
theorem dX6_willHear_61 : decode cX6_willHear 61 = .ok (.getfield 19, 3) := by decide +kernel
theorem dX6_willHear_64 : decode cX6_willHear 64 = .ok (.iload_n 2, 1) := by decide +kernel
theorem dX6_willHear_65 : decode cX6_willHear 65 = .ok (.invokevirtual 188, 3) := by decide +kernel
theorem dX6_willHear_68 : decode cX6_willHear 68 = .ok (.iload_n 3, 1) := by decide +kernel
theorem dX6_willHear_69 : decode cX6_willHear 69 = .ok (.ifCond .ne 13, 3) := by decide +kernel
theorem dX6_willHear_72 : decode cX6_willHear 72 = .ok (.aload_n 0, 1) := by decide +kernel
theorem dX6_willHear_73 : decode cX6_willHear 73 = .ok (.getfield 33, 3) := by decide +kernel
theorem dX6_willHear_76 : decode cX6_willHear 76 = .ok (.getfield 167, 3) := by decide +kernel
theorem dX6_willHear_79 : decode cX6_willHear 79 = .ok (.goto 10, 3) := by decide +kernel
theorem dX6_willHear_82 : decode cX6_willHear 82 = .ok (.aload_n 0, 1) := by decide +kernel
theorem dX6_willHear_83 : decode cX6_willHear 83 = .ok (.getfield 33, 3) := by decide +kernel
theorem dX6_willHear_86 : decode cX6_willHear 86 = .ok (.getfield 164, 3) := by decide +kernel
theorem dX6_willHear_89 : decode cX6_willHear 89 = .ok (.iload_n 1, 1) := by decide +kernel
theorem dX6_willHear_90 : decode cX6_willHear 90 = .ok (.invokestatic 151, 3) := by decide +kernel
theorem dX6_willHear_93 : decode cX6_willHear 93 = .ok (.ireturn, 1) := by decide +kernel
theorem dX6_where_0 : decode cX6_where 0 = .ok (.aload_n 0, 1) := by decide +kernel
theorem dX6_where_1 : decode cX6_where 1 = .ok (.iload_n 1, 1) := by decide +kernel
theorem dX6_where_2 : decode cX6_where 2 = .ok (.invokevirtual 170, 3) := by decide +kernel
theorem dX6_where_5 : decode cX6_where 5 = .ok (.ifCond .ne 6, 3) := by decide +kernel
theorem dX6_where_8 : decode cX6_where 8 = .ok (.ldc 147, 2) := by decide +kernel
theorem dX6_where_10 : decode cX6_where 10 = .ok (.ireturn, 1) := by decide +kernel
theorem dX6_where_11 : decode cX6_where 11 = .ok (.iload_n 2, 1) := by decide +kernel
theorem dX6_where_12 : decode cX6_where 12 = .ok (.ifCond .lt 18, 3) := by decide +kernel
theorem dX6_where_15 : decode cX6_where 15 = .ok (.iload_n 2, 1) := by decide +kernel
theorem dX6_where_16 : decode cX6_where 16 = .ok (.bipush 100, 2) := by decide +kernel
theorem dX6_where_18 : decode cX6_where 18 = .ok (.if_icmp .gt 12, 3) := by decide +kernel
theorem dX6_where_21 : decode cX6_where 21 = .ok (.iload_n 3, 1) := by decide +kernel
theorem dX6_where_22 : decode cX6_where 22 = .ok (.ifCond .lt 8, 3) := by decide +kernel
theorem dX6_where_25 : decode cX6_where 25 = .ok (.iload_n 3, 1) := by decide +kernel
theorem dX6_where_26 : decode cX6_where 26 = .ok (.iconst 1, 1) := by decide +kernel
theorem dX6_where_27 : decode cX6_where 27 = .ok (.if_icmp .le 6, 3) := by decide +kernel
theorem dX6_where_30 : decode cX6_where 30 = .ok (.ldc 65, 2) := by decide +kernel
theorem dX6_where_32 : decode cX6_where 32 = .ok (.ireturn, 1) := by decide +kernel
theorem dX6_where_33 : decode cX6_where 33 = .ok (.aload_n 0, 1) := by decide +kernel
theorem dX6_where_34 : decode cX6_where 34 = .ok (.getfield 33, 3) := by decide +kernel
theorem dX6_where_37 : decode cX6_where 37 = .ok (.aload_n 0, 1) := by decide +kernel
theorem dX6_where_38 : decode cX6_where 38 = .ok (.getfield 29, 3) := by decide +kernel
theorem dX6_where_41 : decode cX6_where 41 = .ok (.invokevirtual 244, 3) := by decide +kernel
theorem dX6_where_44 : decode cX6_where 44 = .ok (.aload_n 0, 1) := by decide +kernel
theorem dX6_where_45 : decode cX6_where 45 = .ok (.getfield 33, 3) := by decide +kernel
theorem dX6_where_48 : decode cX6_where 48 = .ok (.iload_n 1, 1) := by decide +kernel
theorem dX6_where_49 : decode cX6_where 49 = .ok (.invokevirtual 246, 3) := by decide +kernel
theorem dX6_where_52 : decode cX6_where 52 = .ok (.aload_n 0, 1) := by decide +kernel
theorem dX6_where_53 : decode cX6_where 53 = .ok (.getfield 33, 3) := by decide +kernel
theorem dX6_where_56 : decode cX6_where 56 = .ok (.aload_n 0, 1) := by decide +kernel
theorem dX6_where_57 : decode cX6_where 57 = .ok (.getfield 19, 3) := by decide +kernel
theorem dX6_where_60 : decode cX6_where 60 = .ok (.iload_n 2, 1) := by decide +kernel
theorem dX6_where_61 : decode cX6_where 61 = .ok (.invokevirtual 188, 3) := by decide +kernel
theorem dX6_where_64 : decode cX6_where 64 = .ok (.aload_n 0, 1) := by decide +kernel
theorem dX6_where_65 : decode cX6_where 65 = .ok (.getfield 33, 3) := by decide +kernel
theorem dX6_where_68 : decode cX6_where 68 = .ok (.getfield 121, 3) := by decide +kernel
theorem dX6_where_71 : decode cX6_where 71 = .ok (.ifCond .ne 5, 3) := by decide +kernel
theorem dX6_where_74 : decode cX6_where 74 = .ok (.iconst (-1), 1) := by decide +kernel
theorem dX6_where_75 : decode cX6_where 75 = .ok (.ireturn, 1) := by decide +kernel
theorem dX6_where_76 : decode cX6_where 76 = .ok (.aload_n 0, 1) := by decide +kernel
theorem dX6_where_77 : decode cX6_where 77 = .ok (.getfield 33, 3) := by decide +kernel
theorem dX6_where_80 : decode cX6_where 80 = .ok (.iconst 0, 1) := by decide +kernel
theorem dX6_where_81 : decode cX6_where 81 = .ok (.iload_n 3, 1) := by decide +kernel
theorem dX6_where_82 : decode cX6_where 82 = .ok (.ifCond .ne 7, 3) := by decide +kernel
theorem dX6_where_85 : decode cX6_where 85 = .ok (.iconst 1, 1) := by decide +kernel
theorem dX6_where_86 : decode cX6_where 86 = .ok (.goto 4, 3) := by decide +kernel
theorem dX6_where_89 : decode cX6_where 89 = .ok (.iconst 0, 1) := by decide +kernel
theorem dX6_where_90 : decode cX6_where 90 = .ok (.invokevirtual 173, 3) := by decide +kernel
theorem dX6_where_93 : decode cX6_where 93 = .ok (.ireturn, 1) := by decide +kernel
theorem dX6_dry_0 : decode cX6_dry 0 = .ok (.iload_n 1, 1) := by decide +kernel
theorem dX6_dry_1 : decode cX6_dry 1 = .ok (.ifCond .lt 19, 3) := by decide +kernel
theorem dX6_dry_4 : decode cX6_dry 4 = .ok (.iload_n 1, 1) := by decide +kernel
theorem dX6_dry_5 : decode cX6_dry 5 = .ok (.bipush 60, 2) := by decide +kernel
theorem dX6_dry_7 : decode cX6_dry 7 = .ok (.if_icmp .gt 13, 3) := by decide +kernel
theorem dX6_dry_10 : decode cX6_dry 10 = .ok (.iload_n 2, 1) := by decide +kernel
theorem dX6_dry_11 : decode cX6_dry 11 = .ok (.ifCond .lt 9, 3) := by decide +kernel
theorem dX6_dry_14 : decode cX6_dry 14 = .ok (.iload_n 2, 1) := by decide +kernel
theorem dX6_dry_15 : decode cX6_dry 15 = .ok (.bipush 100, 2) := by decide +kernel
theorem dX6_dry_17 : decode cX6_dry 17 = .ok (.if_icmp .le 6, 3) := by decide +kernel
theorem dX6_dry_20 : decode cX6_dry 20 = .ok (.ldc 65, 2) := by decide +kernel
theorem dX6_dry_22 : decode cX6_dry 22 = .ok (.ireturn, 1) := by decide +kernel
theorem dX6_dry_23 : decode cX6_dry 23 = .ok (.ldc2_w 249, 3) := by decide +kernel
theorem dX6_dry_26 : decode cX6_dry 26 = .ok (.lstore_n 3, 1) := by decide +kernel
theorem dX6_dry_27 : decode cX6_dry 27 = .ok (.iconst 0, 1) := by decide +kernel
theorem dX6_dry_28 : decode cX6_dry 28 = .ok (.istore 5, 2) := by decide +kernel
theorem dX6_dry_30 : decode cX6_dry 30 = .ok (.iload 5, 2) := by decide +kernel
theorem dX6_dry_32 : decode cX6_dry 32 = .ok (.iload_n 1, 1) := by decide +kernel
theorem dX6_dry_33 : decode cX6_dry 33 = .ok (.if_icmp .ge 18, 3) := by decide +kernel
theorem dX6_dry_36 : decode cX6_dry 36 = .ok (.lload_n 3, 1) := by decide +kernel
theorem dX6_dry_37 : decode cX6_dry 37 = .ok (.iload_n 2, 1) := by decide +kernel
theorem dX6_dry_38 : decode cX6_dry 38 = .ok (.i2l, 1) := by decide +kernel
theorem dX6_dry_39 : decode cX6_dry 39 = .ok (.lmul, 1) := by decide +kernel
theorem dX6_dry_40 : decode cX6_dry 40 = .ok (.ldc2_w 251, 3) := by decide +kernel
theorem dX6_dry_43 : decode cX6_dry 43 = .ok (.ldiv, 1) := by decide +kernel
theorem dX6_dry_44 : decode cX6_dry 44 = .ok (.lstore_n 3, 1) := by decide +kernel
theorem dX6_dry_45 : decode cX6_dry 45 = .ok (.iinc 5 1, 3) := by decide +kernel
theorem dX6_dry_48 : decode cX6_dry 48 = .ok (.goto (-18), 3) := by decide +kernel
theorem dX6_dry_51 : decode cX6_dry 51 = .ok (.lload_n 3, 1) := by decide +kernel
theorem dX6_dry_52 : decode cX6_dry 52 = .ok (.l2i, 1) := by decide +kernel
theorem dX6_dry_53 : decode cX6_dry 53 = .ok (.ireturn, 1) := by decide +kernel
theorem dX6_see_0 : decode cX6_see 0 = .ok (.aload_n 0, 1) := by decide +kernel
theorem dX6_see_1 : decode cX6_see 1 = .ok (.iload_n 1, 1) := by decide +kernel
theorem dX6_see_2 : decode cX6_see 2 = .ok (.invokevirtual 192, 3) := by decide +kernel
theorem dX6_see_5 : decode cX6_see 5 = .ok (.ifCond .eq 11, 3) := by decide +kernel
theorem dX6_see_8 : decode cX6_see 8 = .ok (.aload_n 0, 1) := by decide +kernel
theorem dX6_see_9 : decode cX6_see 9 = .ok (.iload_n 2, 1) := by decide +kernel
theorem dX6_see_10 : decode cX6_see 10 = .ok (.invokevirtual 192, 3) := by decide +kernel
theorem dX6_see_13 : decode cX6_see 13 = .ok (.ifCond .ne 6, 3) := by decide +kernel
theorem dX6_see_16 : decode cX6_see 16 = .ok (.ldc 147, 2) := by decide +kernel
theorem dX6_see_18 : decode cX6_see 18 = .ok (.ireturn, 1) := by decide +kernel
theorem dX6_see_19 : decode cX6_see 19 = .ok (.aload_n 0, 1) := by decide +kernel
theorem dX6_see_20 : decode cX6_see 20 = .ok (.getfield 54, 3) := by decide +kernel
theorem dX6_see_23 : decode cX6_see 23 = .ok (.getfield 91, 3) := by decide +kernel
theorem dX6_see_26 : decode cX6_see 26 = .ok (.bipush 6, 2) := by decide +kernel
theorem dX6_see_28 : decode cX6_see 28 = .ok (.if_icmp .lt 6, 3) := by decide +kernel
theorem dX6_see_31 : decode cX6_see 31 = .ok (.ldc 70, 2) := by decide +kernel
theorem dX6_see_33 : decode cX6_see 33 = .ok (.ireturn, 1) := by decide +kernel
theorem dX6_see_34 : decode cX6_see 34 = .ok (.aload_n 0, 1) := by decide +kernel
theorem dX6_see_35 : decode cX6_see 35 = .ok (.getfield 54, 3) := by decide +kernel
theorem dX6_see_38 : decode cX6_see 38 = .ok (.iload_n 1, 1) := by decide +kernel
theorem dX6_see_39 : decode cX6_see 39 = .ok (.iload_n 2, 1) := by decide +kernel
theorem dX6_see_40 : decode cX6_see 40 = .ok (.invokevirtual 253, 3) := by decide +kernel
theorem dX6_see_43 : decode cX6_see 43 = .ok (.aload_n 0, 1) := by decide +kernel
theorem dX6_see_44 : decode cX6_see 44 = .ok (.getfield 54, 3) := by decide +kernel
theorem dX6_see_47 : decode cX6_see 47 = .ok (.getfield 91, 3) := by decide +kernel
theorem dX6_see_50 : decode cX6_see 50 = .ok (.ireturn, 1) := by decide +kernel
theorem dX6_falls_0 : decode cX6_falls 0 = .ok (.iload_n 1, 1) := by decide +kernel
theorem dX6_falls_1 : decode cX6_falls 1 = .ok (.ifCond .lt 8, 3) := by decide +kernel
theorem dX6_falls_4 : decode cX6_falls 4 = .ok (.iload_n 1, 1) := by decide +kernel
theorem dX6_falls_5 : decode cX6_falls 5 = .ok (.iconst 1, 1) := by decide +kernel
theorem dX6_falls_6 : decode cX6_falls 6 = .ok (.if_icmp .le 6, 3) := by decide +kernel
theorem dX6_falls_9 : decode cX6_falls 9 = .ok (.ldc 65, 2) := by decide +kernel
theorem dX6_falls_11 : decode cX6_falls 11 = .ok (.ireturn, 1) := by decide +kernel
theorem dX6_falls_12 : decode cX6_falls 12 = .ok (.iload_n 1, 1) := by decide +kernel
theorem dX6_falls_13 : decode cX6_falls 13 = .ok (.ifCond .ne 20, 3) := by decide +kernel
theorem dX6_falls_16 : decode cX6_falls 16 = .ok (.aload_n 0, 1) := by decide +kernel
theorem dX6_falls_17 : decode cX6_falls 17 = .ok (.getfield 54, 3) := by decide +kernel
theorem dX6_falls_20 : decode cX6_falls 20 = .ok (.aload_n 0, 1) := by decide +kernel
theorem dX6_falls_21 : decode cX6_falls 21 = .ok (.getfield 19, 3) := by decide +kernel
theorem dX6_falls_24 : decode cX6_falls 24 = .ok (.getfield 105, 3) := by decide +kernel
theorem dX6_falls_27 : decode cX6_falls 27 = .ok (.invokevirtual 257, 3) := by decide +kernel
theorem dX6_falls_30 : decode cX6_falls 30 = .ok (.goto 17, 3) := by decide +kernel
theorem dX6_falls_33 : decode cX6_falls 33 = .ok (.aload_n 0, 1) := by decide +kernel
theorem dX6_falls_34 : decode cX6_falls 34 = .ok (.getfield 54, 3) := by decide +kernel
theorem dX6_falls_37 : decode cX6_falls 37 = .ok (.aload_n 0, 1) := by decide +kernel
theorem dX6_falls_38 : decode cX6_falls 38 = .ok (.getfield 19, 3) := by decide +kernel
theorem dX6_falls_41 : decode cX6_falls 41 = .ok (.getfield 105, 3) := by decide +kernel
theorem dX6_falls_44 : decode cX6_falls 44 = .ok (.invokevirtual 260, 3) := by decide +kernel
theorem dX6_falls_47 : decode cX6_falls 47 = .ok (.ireturn, 1) := by decide +kernel
theorem dX6_tryNext_0 : decode cX6_tryNext 0 = .ok (.aload_n 0, 1) := by decide +kernel
theorem dX6_tryNext_1 : decode cX6_tryNext 1 = .ok (.getfield 54, 3) := by decide +kernel
theorem dX6_tryNext_4 : decode cX6_tryNext 4 = .ok (.aload_n 0, 1) := by decide +kernel
theorem dX6_tryNext_5 : decode cX6_tryNext 5 = .ok (.getfield 19, 3) := by decide +kernel
theorem dX6_tryNext_8 : decode cX6_tryNext 8 = .ok (.getfield 105, 3) := by decide +kernel
theorem dX6_tryNext_11 : decode cX6_tryNext 11 = .ok (.invokevirtual 263, 3) := by decide +kernel
theorem dX6_tryNext_14 : decode cX6_tryNext 14 = .ok (.ireturn, 1) := by decide +kernel
theorem dX6_write_0 : decode cX6_write 0 = .ok (.aload_n 0, 1) := by decide +kernel
theorem dX6_write_1 : decode cX6_write 1 = .ok (.iload_n 1, 1) := by decide +kernel
theorem dX6_write_2 : decode cX6_write 2 = .ok (.invokevirtual 143, 3) := by decide +kernel
theorem dX6_write_5 : decode cX6_write 5 = .ok (.ifCond .eq 16, 3) := by decide +kernel
theorem dX6_write_8 : decode cX6_write 8 = .ok (.iload_n 2, 1) := by decide +kernel
theorem dX6_write_9 : decode cX6_write 9 = .ok (.iconst (-1), 1) := by decide +kernel
theorem dX6_write_10 : decode cX6_write 10 = .ok (.if_icmp .eq 14, 3) := by decide +kernel
theorem dX6_write_13 : decode cX6_write 13 = .ok (.aload_n 0, 1) := by decide +kernel
theorem dX6_write_14 : decode cX6_write 14 = .ok (.iload_n 2, 1) := by decide +kernel
theorem dX6_write_15 : decode cX6_write 15 = .ok (.invokevirtual 192, 3) := by decide +kernel
theorem dX6_write_18 : decode cX6_write 18 = .ok (.ifCond .ne 6, 3) := by decide +kernel
theorem dX6_write_21 : decode cX6_write 21 = .ok (.ldc 147, 2) := by decide +kernel
theorem dX6_write_23 : decode cX6_write 23 = .ok (.ireturn, 1) := by decide +kernel
theorem dX6_write_24 : decode cX6_write 24 = .ok (.aload_n 0, 1) := by decide +kernel
theorem dX6_write_25 : decode cX6_write 25 = .ok (.getfield 61, 3) := by decide +kernel
theorem dX6_write_28 : decode cX6_write 28 = .ok (.getfield 94, 3) := by decide +kernel
theorem dX6_write_31 : decode cX6_write 31 = .ok (.bipush 15, 2) := by decide +kernel
theorem dX6_write_33 : decode cX6_write 33 = .ok (.if_icmp .lt 6, 3) := by decide +kernel
theorem dX6_write_36 : decode cX6_write 36 = .ok (.ldc 70, 2) := by decide +kernel
theorem dX6_write_38 : decode cX6_write 38 = .ok (.ireturn, 1) := by decide +kernel
theorem dX6_write_39 : decode cX6_write 39 = .ok (.aload_n 0, 1) := by decide +kernel
theorem dX6_write_40 : decode cX6_write 40 = .ok (.getfield 61, 3) := by decide +kernel
theorem dX6_write_43 : decode cX6_write 43 = .ok (.iload_n 1, 1) := by decide +kernel
theorem dX6_write_44 : decode cX6_write 44 = .ok (.iload_n 2, 1) := by decide +kernel
theorem dX6_write_45 : decode cX6_write 45 = .ok (.invokevirtual 266, 3) := by decide +kernel
theorem dX6_write_48 : decode cX6_write 48 = .ok (.aload_n 0, 1) := by decide +kernel
theorem dX6_write_49 : decode cX6_write 49 = .ok (.getfield 61, 3) := by decide +kernel
theorem dX6_write_52 : decode cX6_write 52 = .ok (.getfield 94, 3) := by decide +kernel
theorem dX6_write_55 : decode cX6_write 55 = .ok (.ireturn, 1) := by decide +kernel
theorem dX6_tear_0 : decode cX6_tear 0 = .ok (.aload_n 0, 1) := by decide +kernel
theorem dX6_tear_1 : decode cX6_tear 1 = .ok (.getfield 54, 3) := by decide +kernel
theorem dX6_tear_4 : decode cX6_tear 4 = .ok (.getfield 91, 3) := by decide +kernel
theorem dX6_tear_7 : decode cX6_tear 7 = .ok (.aload_n 0, 1) := by decide +kernel
theorem dX6_tear_8 : decode cX6_tear 8 = .ok (.getfield 61, 3) := by decide +kernel
theorem dX6_tear_11 : decode cX6_tear 11 = .ok (.getfield 94, 3) := by decide +kernel
theorem dX6_tear_14 : decode cX6_tear 14 = .ok (.iadd, 1) := by decide +kernel
theorem dX6_tear_15 : decode cX6_tear 15 = .ok (.istore_n 1, 1) := by decide +kernel
theorem dX6_tear_16 : decode cX6_tear 16 = .ok (.aload_n 0, 1) := by decide +kernel
theorem dX6_tear_17 : decode cX6_tear 17 = .ok (.getfield 54, 3) := by decide +kernel
theorem dX6_tear_20 : decode cX6_tear 20 = .ok (.iconst 0, 1) := by decide +kernel
theorem dX6_tear_21 : decode cX6_tear 21 = .ok (.putfield 91, 3) := by decide +kernel
theorem dX6_tear_24 : decode cX6_tear 24 = .ok (.aload_n 0, 1) := by decide +kernel
theorem dX6_tear_25 : decode cX6_tear 25 = .ok (.getfield 61, 3) := by decide +kernel
theorem dX6_tear_28 : decode cX6_tear 28 = .ok (.iconst 0, 1) := by decide +kernel
theorem dX6_tear_29 : decode cX6_tear 29 = .ok (.putfield 94, 3) := by decide +kernel
theorem dX6_tear_32 : decode cX6_tear 32 = .ok (.iload_n 1, 1) := by decide +kernel
theorem dX6_tear_33 : decode cX6_tear 33 = .ok (.ireturn, 1) := by decide +kernel
theorem dX6_judge_0 : decode cX6_judge 0 = .ok (.aload_n 0, 1) := by decide +kernel
theorem dX6_judge_1 : decode cX6_judge 1 = .ok (.getfield 61, 3) := by decide +kernel
theorem dX6_judge_4 : decode cX6_judge 4 = .ok (.aload_n 0, 1) := by decide +kernel
theorem dX6_judge_5 : decode cX6_judge 5 = .ok (.getfield 29, 3) := by decide +kernel
theorem dX6_judge_8 : decode cX6_judge 8 = .ok (.getfield 164, 3) := by decide +kernel
theorem dX6_judge_11 : decode cX6_judge 11 = .ok (.invokevirtual 267, 3) := by decide +kernel
theorem dX6_judge_14 : decode cX6_judge 14 = .ok (.ireturn, 1) := by decide +kernel
theorem dX6_seed_0 : decode cX6_seed 0 = .ok (.iload_n 1, 1) := by decide +kernel
theorem dX6_seed_1 : decode cX6_seed 1 = .ok (.ifCond .ge 6, 3) := by decide +kernel
theorem dX6_seed_4 : decode cX6_seed 4 = .ok (.ldc 65, 2) := by decide +kernel
theorem dX6_seed_6 : decode cX6_seed 6 = .ok (.ireturn, 1) := by decide +kernel
theorem dX6_seed_7 : decode cX6_seed 7 = .ok (.aload_n 0, 1) := by decide +kernel
theorem dX6_seed_8 : decode cX6_seed 8 = .ok (.getfield 271, 3) := by decide +kernel
theorem dX6_seed_11 : decode cX6_seed 11 = .ok (.istore_n 2, 1) := by decide +kernel
theorem dX6_seed_12 : decode cX6_seed 12 = .ok (.aload_n 0, 1) := by decide +kernel
theorem dX6_seed_13 : decode cX6_seed 13 = .ok (.iload_n 1, 1) := by decide +kernel
theorem dX6_seed_14 : decode cX6_seed 14 = .ok (.putfield 271, 3) := by decide +kernel
theorem dX6_seed_17 : decode cX6_seed 17 = .ok (.iload_n 2, 1) := by decide +kernel
theorem dX6_seed_18 : decode cX6_seed 18 = .ok (.ireturn, 1) := by decide +kernel
theorem dX6_keep_0 : decode cX6_keep 0 = .ok (.aload_n 0, 1) := by decide +kernel
theorem dX6_keep_1 : decode cX6_keep 1 = .ok (.iload_n 1, 1) := by decide +kernel
theorem dX6_keep_2 : decode cX6_keep 2 = .ok (.invokevirtual 274, 3) := by decide +kernel
theorem dX6_keep_5 : decode cX6_keep 5 = .ok (.astore_n 2, 1) := by decide +kernel
theorem dX6_keep_6 : decode cX6_keep 6 = .ok (.aload_n 2, 1) := by decide +kernel
theorem dX6_keep_7 : decode cX6_keep 7 = .ok (.ifnonnull 6, 3) := by decide +kernel
theorem dX6_keep_10 : decode cX6_keep 10 = .ok (.ldc 147, 2) := by decide +kernel
theorem dX6_keep_12 : decode cX6_keep 12 = .ok (.ireturn, 1) := by decide +kernel
theorem dX6_keep_13 : decode cX6_keep 13 = .ok (.aload_n 2, 1) := by decide +kernel
theorem dX6_keep_14 : decode cX6_keep 14 = .ok (.aload_n 0, 1) := by decide +kernel
theorem dX6_keep_15 : decode cX6_keep 15 = .ok (.getfield 29, 3) := by decide +kernel
theorem dX6_keep_18 : decode cX6_keep 18 = .ok (.invokevirtual 244, 3) := by decide +kernel
theorem dX6_keep_21 : decode cX6_keep 21 = .ok (.aload_n 0, 1) := by decide +kernel
theorem dX6_keep_22 : decode cX6_keep 22 = .ok (.getfield 47, 3) := by decide +kernel
theorem dX6_keep_25 : decode cX6_keep 25 = .ok (.iload_n 1, 1) := by decide +kernel
theorem dX6_keep_26 : decode cX6_keep 26 = .ok (.aload_n 0, 1) := by decide +kernel
theorem dX6_keep_27 : decode cX6_keep 27 = .ok (.getfield 271, 3) := by decide +kernel
theorem dX6_keep_30 : decode cX6_keep 30 = .ok (.invokestatic 74, 3) := by decide +kernel
theorem dX6_keep_33 : decode cX6_keep 33 = .ok (.aload_n 0, 1) := by decide +kernel
theorem dX6_keep_34 : decode cX6_keep 34 = .ok (.dup, 1) := by decide +kernel
theorem dX6_keep_35 : decode cX6_keep 35 = .ok (.getfield 95, 3) := by decide +kernel
theorem dX6_keep_38 : decode cX6_keep 38 = .ok (.iconst 1, 1) := by decide +kernel
theorem dX6_keep_39 : decode cX6_keep 39 = .ok (.iload_n 1, 1) := by decide +kernel
theorem dX6_keep_40 : decode cX6_keep 40 = .ok (.ishl, 1) := by decide +kernel
theorem dX6_keep_41 : decode cX6_keep 41 = .ok (.ior, 1) := by decide +kernel
theorem dX6_keep_42 : decode cX6_keep 42 = .ok (.putfield 95, 3) := by decide +kernel
theorem dX6_keep_45 : decode cX6_keep 45 = .ok (.aload_n 0, 1) := by decide +kernel
theorem dX6_keep_46 : decode cX6_keep 46 = .ok (.getfield 39, 3) := by decide +kernel
theorem dX6_keep_49 : decode cX6_keep 49 = .ok (.iconst 0, 1) := by decide +kernel
theorem dX6_keep_50 : decode cX6_keep 50 = .ok (.putfield 98, 3) := by decide +kernel
theorem dX6_keep_53 : decode cX6_keep 53 = .ok (.iconst 1, 1) := by decide +kernel
theorem dX6_keep_54 : decode cX6_keep 54 = .ok (.ireturn, 1) := by decide +kernel
theorem dX6_goBack_0 : decode cX6_goBack 0 = .ok (.aload_n 0, 1) := by decide +kernel
theorem dX6_goBack_1 : decode cX6_goBack 1 = .ok (.iload_n 1, 1) := by decide +kernel
theorem dX6_goBack_2 : decode cX6_goBack 2 = .ok (.invokevirtual 274, 3) := by decide +kernel
theorem dX6_goBack_5 : decode cX6_goBack 5 = .ok (.astore_n 2, 1) := by decide +kernel
theorem dX6_goBack_6 : decode cX6_goBack 6 = .ok (.aload_n 2, 1) := by decide +kernel
theorem dX6_goBack_7 : decode cX6_goBack 7 = .ok (.ifnonnull 6, 3) := by decide +kernel
theorem dX6_goBack_10 : decode cX6_goBack 10 = .ok (.ldc 147, 2) := by decide +kernel
theorem dX6_goBack_12 : decode cX6_goBack 12 = .ok (.ireturn, 1) := by decide +kernel
theorem dX6_goBack_13 : decode cX6_goBack 13 = .ok (.aload_n 0, 1) := by decide +kernel
theorem dX6_goBack_14 : decode cX6_goBack 14 = .ok (.getfield 95, 3) := by decide +kernel
theorem dX6_goBack_17 : decode cX6_goBack 17 = .ok (.iload_n 1, 1) := by decide +kernel
theorem dX6_goBack_18 : decode cX6_goBack 18 = .ok (.invokestatic 200, 3) := by decide +kernel
theorem dX6_goBack_21 : decode cX6_goBack 21 = .ok (.ifCond .ne 6, 3) := by decide +kernel
theorem dX6_goBack_24 : decode cX6_goBack 24 = .ok (.ldc 195, 2) := by decide +kernel
theorem dX6_goBack_26 : decode cX6_goBack 26 = .ok (.ireturn, 1) := by decide +kernel
theorem dX6_goBack_27 : decode cX6_goBack 27 = .ok (.aload_n 0, 1) := by decide +kernel
theorem dX6_goBack_28 : decode cX6_goBack 28 = .ok (.getfield 29, 3) := by decide +kernel
theorem dX6_goBack_31 : decode cX6_goBack 31 = .ok (.aload_n 2, 1) := by decide +kernel
theorem dX6_goBack_32 : decode cX6_goBack 32 = .ok (.invokevirtual 244, 3) := by decide +kernel
theorem dX6_goBack_35 : decode cX6_goBack 35 = .ok (.aload_n 0, 1) := by decide +kernel
theorem dX6_goBack_36 : decode cX6_goBack 36 = .ok (.aload_n 0, 1) := by decide +kernel
theorem dX6_goBack_37 : decode cX6_goBack 37 = .ok (.getfield 47, 3) := by decide +kernel
theorem dX6_goBack_40 : decode cX6_goBack 40 = .ok (.iload_n 1, 1) := by decide +kernel
theorem dX6_goBack_41 : decode cX6_goBack 41 = .ok (.invokestatic 151, 3) := by decide +kernel
theorem dX6_goBack_44 : decode cX6_goBack 44 = .ok (.putfield 271, 3) := by decide +kernel
theorem dX6_goBack_47 : decode cX6_goBack 47 = .ok (.aload_n 0, 1) := by decide +kernel
theorem dX6_goBack_48 : decode cX6_goBack 48 = .ok (.getfield 39, 3) := by decide +kernel
theorem dX6_goBack_51 : decode cX6_goBack 51 = .ok (.iconst 0, 1) := by decide +kernel
theorem dX6_goBack_52 : decode cX6_goBack 52 = .ok (.putfield 98, 3) := by decide +kernel
theorem dX6_goBack_55 : decode cX6_goBack 55 = .ok (.iconst 1, 1) := by decide +kernel
theorem dX6_goBack_56 : decode cX6_goBack 56 = .ok (.ireturn, 1) := by decide +kernel
theorem dX6_isFarm_0 : decode cX6_isFarm 0 = .ok (.iload_n 1, 1) := by decide +kernel
theorem dX6_isFarm_1 : decode cX6_isFarm 1 = .ok (.ifCond .lt 18, 3) := by decide +kernel
theorem dX6_isFarm_4 : decode cX6_isFarm 4 = .ok (.iload_n 1, 1) := by decide +kernel
theorem dX6_isFarm_5 : decode cX6_isFarm 5 = .ok (.aload_n 0, 1) := by decide +kernel
theorem dX6_isFarm_6 : decode cX6_isFarm 6 = .ok (.getfield 19, 3) := by decide +kernel
theorem dX6_isFarm_9 : decode cX6_isFarm 9 = .ok (.getfield 99, 3) := by decide +kernel
theorem dX6_isFarm_12 : decode cX6_isFarm 12 = .ok (.if_icmp .ge 7, 3) := by decide +kernel
theorem dX6_isFarm_15 : decode cX6_isFarm 15 = .ok (.iconst 1, 1) := by decide +kernel
theorem dX6_isFarm_16 : decode cX6_isFarm 16 = .ok (.goto 4, 3) := by decide +kernel
theorem dX6_isFarm_19 : decode cX6_isFarm 19 = .ok (.iconst 0, 1) := by decide +kernel
theorem dX6_isFarm_20 : decode cX6_isFarm 20 = .ok (.ireturn, 1) := by decide +kernel
theorem dX6_isWord_0 : decode cX6_isWord 0 = .ok (.iload_n 1, 1) := by decide +kernel
theorem dX6_isWord_1 : decode cX6_isWord 1 = .ok (.ifCond .lt 18, 3) := by decide +kernel
theorem dX6_isWord_4 : decode cX6_isWord 4 = .ok (.iload_n 1, 1) := by decide +kernel
theorem dX6_isWord_5 : decode cX6_isWord 5 = .ok (.aload_n 0, 1) := by decide +kernel
theorem dX6_isWord_6 : decode cX6_isWord 6 = .ok (.getfield 19, 3) := by decide +kernel
theorem dX6_isWord_9 : decode cX6_isWord 9 = .ok (.getfield 105, 3) := by decide +kernel
theorem dX6_isWord_12 : decode cX6_isWord 12 = .ok (.if_icmp .ge 7, 3) := by decide +kernel
theorem dX6_isWord_15 : decode cX6_isWord 15 = .ok (.iconst 1, 1) := by decide +kernel
theorem dX6_isWord_16 : decode cX6_isWord 16 = .ok (.goto 4, 3) := by decide +kernel
theorem dX6_isWord_19 : decode cX6_isWord 19 = .ok (.iconst 0, 1) := by decide +kernel
theorem dX6_isWord_20 : decode cX6_isWord 20 = .ok (.ireturn, 1) := by decide +kernel
theorem dX6_isTalk_0 : decode cX6_isTalk 0 = .ok (.iload_n 1, 1) := by decide +kernel
theorem dX6_isTalk_1 : decode cX6_isTalk 1 = .ok (.ifCond .lt 18, 3) := by decide +kernel
theorem dX6_isTalk_4 : decode cX6_isTalk 4 = .ok (.iload_n 1, 1) := by decide +kernel
theorem dX6_isTalk_5 : decode cX6_isTalk 5 = .ok (.aload_n 0, 1) := by decide +kernel
theorem dX6_isTalk_6 : decode cX6_isTalk 6 = .ok (.getfield 29, 3) := by decide +kernel
theorem dX6_isTalk_9 : decode cX6_isTalk 9 = .ok (.getfield 121, 3) := by decide +kernel
theorem dX6_isTalk_12 : decode cX6_isTalk 12 = .ok (.if_icmp .ge 7, 3) := by decide +kernel
theorem dX6_isTalk_15 : decode cX6_isTalk 15 = .ok (.iconst 1, 1) := by decide +kernel
theorem dX6_isTalk_16 : decode cX6_isTalk 16 = .ok (.goto 4, 3) := by decide +kernel
theorem dX6_isTalk_19 : decode cX6_isTalk 19 = .ok (.iconst 0, 1) := by decide +kernel
theorem dX6_isTalk_20 : decode cX6_isTalk 20 = .ok (.ireturn, 1) := by decide +kernel
theorem dX6_areFarms_0 : decode cX6_areFarms 0 = .ok (.iload_n 1, 1) := by decide +kernel
theorem dX6_areFarms_1 : decode cX6_areFarms 1 = .ok (.iconst 1, 1) := by decide +kernel
theorem dX6_areFarms_2 : decode cX6_areFarms 2 = .ok (.aload_n 0, 1) := by decide +kernel
theorem dX6_areFarms_3 : decode cX6_areFarms 3 = .ok (.getfield 19, 3) := by decide +kernel
theorem dX6_areFarms_6 : decode cX6_areFarms 6 = .ok (.getfield 99, 3) := by decide +kernel
theorem dX6_areFarms_9 : decode cX6_areFarms 9 = .ok (.ishl, 1) := by decide +kernel
theorem dX6_areFarms_10 : decode cX6_areFarms 10 = .ok (.ineg, 1) := by decide +kernel
theorem dX6_areFarms_11 : decode cX6_areFarms 11 = .ok (.iand, 1) := by decide +kernel
theorem dX6_areFarms_12 : decode cX6_areFarms 12 = .ok (.ifCond .ne 7, 3) := by decide +kernel
theorem dX6_areFarms_15 : decode cX6_areFarms 15 = .ok (.iconst 1, 1) := by decide +kernel
theorem dX6_areFarms_16 : decode cX6_areFarms 16 = .ok (.goto 4, 3) := by decide +kernel
theorem dX6_areFarms_19 : decode cX6_areFarms 19 = .ok (.iconst 0, 1) := by decide +kernel
theorem dX6_areFarms_20 : decode cX6_areFarms 20 = .ok (.ireturn, 1) := by decide +kernel
theorem dX6_image_0 : decode cX6_image 0 = .ok (.iload_n 1, 1) := by decide +kernel
theorem dX6_image_1 : decode cX6_image 1 = .ok (.ifCond .lt 21, 3) := by decide +kernel
theorem dX6_image_4 : decode cX6_image 4 = .ok (.iload_n 1, 1) := by decide +kernel
theorem dX6_image_5 : decode cX6_image 5 = .ok (.aload_n 0, 1) := by decide +kernel
theorem dX6_image_6 : decode cX6_image 6 = .ok (.getfield 43, 3) := by decide +kernel
theorem dX6_image_9 : decode cX6_image 9 = .ok (.arraylength, 1) := by decide +kernel
theorem dX6_image_10 : decode cX6_image 10 = .ok (.if_icmp .ge 12, 3) := by decide +kernel
theorem dX6_image_13 : decode cX6_image 13 = .ok (.aload_n 0, 1) := by decide +kernel
theorem dX6_image_14 : decode cX6_image 14 = .ok (.getfield 43, 3) := by decide +kernel
theorem dX6_image_17 : decode cX6_image 17 = .ok (.iload_n 1, 1) := by decide +kernel
theorem dX6_image_18 : decode cX6_image 18 = .ok (.aaload, 1) := by decide +kernel
theorem dX6_image_19 : decode cX6_image 19 = .ok (.goto 4, 3) := by decide +kernel
theorem dX6_image_22 : decode cX6_image 22 = .ok (.aconst_null, 1) := by decide +kernel
theorem dX6_image_23 : decode cX6_image 23 = .ok (.areturn, 1) := by decide +kernel
theorem dX6_hoursRefused_0 : decode cX6_hoursRefused 0 = .ok (.iload_n 1, 1) := by decide +kernel
theorem dX6_hoursRefused_1 : decode cX6_hoursRefused 1 = .ok (.iconst 1, 1) := by decide +kernel
theorem dX6_hoursRefused_2 : decode cX6_hoursRefused 2 = .ok (.if_icmp .lt 9, 3) := by decide +kernel
theorem dX6_hoursRefused_5 : decode cX6_hoursRefused 5 = .ok (.iload_n 1, 1) := by decide +kernel
theorem dX6_hoursRefused_6 : decode cX6_hoursRefused 6 = .ok (.bipush 60, 2) := by decide +kernel
theorem dX6_hoursRefused_8 : decode cX6_hoursRefused 8 = .ok (.if_icmp .le 6, 3) := by decide +kernel
theorem dX6_hoursRefused_11 : decode cX6_hoursRefused 11 = .ok (.ldc 65, 2) := by decide +kernel
theorem dX6_hoursRefused_13 : decode cX6_hoursRefused 13 = .ok (.ireturn, 1) := by decide +kernel
theorem dX6_hoursRefused_14 : decode cX6_hoursRefused 14 = .ok (.aload_n 0, 1) := by decide +kernel
theorem dX6_hoursRefused_15 : decode cX6_hoursRefused 15 = .ok (.getfield 19, 3) := by decide +kernel
theorem dX6_hoursRefused_18 : decode cX6_hoursRefused 18 = .ok (.getfield 99, 3) := by decide +kernel
theorem dX6_hoursRefused_21 : decode cX6_hoursRefused 21 = .ok (.ifCond .ne 6, 3) := by decide +kernel
theorem dX6_hoursRefused_24 : decode cX6_hoursRefused 24 = .ok (.ldc 195, 2) := by decide +kernel
theorem dX6_hoursRefused_26 : decode cX6_hoursRefused 26 = .ok (.ireturn, 1) := by decide +kernel
theorem dX6_hoursRefused_27 : decode cX6_hoursRefused 27 = .ok (.aload_n 0, 1) := by decide +kernel
theorem dX6_hoursRefused_28 : decode cX6_hoursRefused 28 = .ok (.getfield 29, 3) := by decide +kernel
theorem dX6_hoursRefused_31 : decode cX6_hoursRefused 31 = .ok (.getfield 108, 3) := by decide +kernel
theorem dX6_hoursRefused_34 : decode cX6_hoursRefused 34 = .ok (.sipush 9000, 3) := by decide +kernel
theorem dX6_hoursRefused_37 : decode cX6_hoursRefused 37 = .ok (.if_icmp .le 8, 3) := by decide +kernel
theorem dX6_hoursRefused_40 : decode cX6_hoursRefused 40 = .ok (.ldc 70, 2) := by decide +kernel
theorem dX6_hoursRefused_42 : decode cX6_hoursRefused 42 = .ok (.goto 4, 3) := by decide +kernel
theorem dX6_hoursRefused_45 : decode cX6_hoursRefused 45 = .ok (.iconst 0, 1) := by decide +kernel
theorem dX6_hoursRefused_46 : decode cX6_hoursRefused 46 = .ok (.ireturn, 1) := by decide +kernel
theorem dX6_downOf_0 : decode cX6_downOf 0 = .ok (.iconst 0, 1) := by decide +kernel
theorem dX6_downOf_1 : decode cX6_downOf 1 = .ok (.istore_n 2, 1) := by decide +kernel
theorem dX6_downOf_2 : decode cX6_downOf 2 = .ok (.iload_n 1, 1) := by decide +kernel
theorem dX6_downOf_3 : decode cX6_downOf 3 = .ok (.istore_n 3, 1) := by decide +kernel
theorem dX6_downOf_4 : decode cX6_downOf 4 = .ok (.iconst 0, 1) := by decide +kernel
theorem dX6_downOf_5 : decode cX6_downOf 5 = .ok (.istore 4, 2) := by decide +kernel
theorem dX6_downOf_7 : decode cX6_downOf 7 = .ok (.iload 4, 2) := by decide +kernel
theorem dX6_downOf_9 : decode cX6_downOf 9 = .ok (.bipush 9, 2) := by decide +kernel
theorem dX6_downOf_11 : decode cX6_downOf 11 = .ok (.if_icmp .ge 43, 3) := by decide +kernel
theorem dX6_downOf_14 : decode cX6_downOf 14 = .ok (.iload_n 3, 1) := by decide +kernel
theorem dX6_downOf_15 : decode cX6_downOf 15 = .ok (.ifCond .eq 39, 3) := by decide +kernel
theorem dX6_downOf_18 : decode cX6_downOf 18 = .ok (.aload_n 0, 1) := by decide +kernel
theorem dX6_downOf_19 : decode cX6_downOf 19 = .ok (.getfield 19, 3) := by decide +kernel
theorem dX6_downOf_22 : decode cX6_downOf 22 = .ok (.getfield 148, 3) := by decide +kernel
theorem dX6_downOf_25 : decode cX6_downOf 25 = .ok (.iload_n 3, 1) := by decide +kernel
theorem dX6_downOf_26 : decode cX6_downOf 26 = .ok (.invokestatic 151, 3) := by decide +kernel
theorem dX6_downOf_29 : decode cX6_downOf 29 = .ok (.istore 5, 2) := by decide +kernel
theorem dX6_downOf_31 : decode cX6_downOf 31 = .ok (.iload_n 2, 1) := by decide +kernel
theorem dX6_downOf_32 : decode cX6_downOf 32 = .ok (.iconst 1, 1) := by decide +kernel
theorem dX6_downOf_33 : decode cX6_downOf 33 = .ok (.iload 5, 2) := by decide +kernel
theorem dX6_downOf_35 : decode cX6_downOf 35 = .ok (.ishl, 1) := by decide +kernel
theorem dX6_downOf_36 : decode cX6_downOf 36 = .ok (.ior, 1) := by decide +kernel
theorem dX6_downOf_37 : decode cX6_downOf 37 = .ok (.istore_n 2, 1) := by decide +kernel
theorem dX6_downOf_38 : decode cX6_downOf 38 = .ok (.aload_n 0, 1) := by decide +kernel
theorem dX6_downOf_39 : decode cX6_downOf 39 = .ok (.getfield 29, 3) := by decide +kernel
theorem dX6_downOf_42 : decode cX6_downOf 42 = .ok (.iload 5, 2) := by decide +kernel
theorem dX6_downOf_44 : decode cX6_downOf 44 = .ok (.invokevirtual 278, 3) := by decide +kernel
theorem dX6_downOf_47 : decode cX6_downOf 47 = .ok (.istore_n 3, 1) := by decide +kernel
theorem dX6_downOf_48 : decode cX6_downOf 48 = .ok (.iinc 4 1, 3) := by decide +kernel
theorem dX6_downOf_51 : decode cX6_downOf 51 = .ok (.goto (-44), 3) := by decide +kernel
theorem dX6_downOf_54 : decode cX6_downOf 54 = .ok (.iload_n 2, 1) := by decide +kernel
theorem dX6_downOf_55 : decode cX6_downOf 55 = .ok (.ireturn, 1) := by decide +kernel
theorem dX6_upOf_0 : decode cX6_upOf 0 = .ok (.iconst 0, 1) := by decide +kernel
theorem dX6_upOf_1 : decode cX6_upOf 1 = .ok (.istore_n 2, 1) := by decide +kernel
theorem dX6_upOf_2 : decode cX6_upOf 2 = .ok (.iconst 0, 1) := by decide +kernel
theorem dX6_upOf_3 : decode cX6_upOf 3 = .ok (.istore_n 3, 1) := by decide +kernel
theorem dX6_upOf_4 : decode cX6_upOf 4 = .ok (.iload_n 3, 1) := by decide +kernel
theorem dX6_upOf_5 : decode cX6_upOf 5 = .ok (.aload_n 0, 1) := by decide +kernel
theorem dX6_upOf_6 : decode cX6_upOf 6 = .ok (.getfield 19, 3) := by decide +kernel
theorem dX6_upOf_9 : decode cX6_upOf 9 = .ok (.getfield 99, 3) := by decide +kernel
theorem dX6_upOf_12 : decode cX6_upOf 12 = .ok (.if_icmp .ge 27, 3) := by decide +kernel
theorem dX6_upOf_15 : decode cX6_upOf 15 = .ok (.aload_n 0, 1) := by decide +kernel
theorem dX6_upOf_16 : decode cX6_upOf 16 = .ok (.iload_n 3, 1) := by decide +kernel
theorem dX6_upOf_17 : decode cX6_upOf 17 = .ok (.invokevirtual 217, 3) := by decide +kernel
theorem dX6_upOf_20 : decode cX6_upOf 20 = .ok (.iload_n 1, 1) := by decide +kernel
theorem dX6_upOf_21 : decode cX6_upOf 21 = .ok (.invokestatic 200, 3) := by decide +kernel
theorem dX6_upOf_24 : decode cX6_upOf 24 = .ok (.ifCond .eq 9, 3) := by decide +kernel
theorem dX6_upOf_27 : decode cX6_upOf 27 = .ok (.iload_n 2, 1) := by decide +kernel
theorem dX6_upOf_28 : decode cX6_upOf 28 = .ok (.iconst 1, 1) := by decide +kernel
theorem dX6_upOf_29 : decode cX6_upOf 29 = .ok (.iload_n 3, 1) := by decide +kernel
theorem dX6_upOf_30 : decode cX6_upOf 30 = .ok (.ishl, 1) := by decide +kernel
theorem dX6_upOf_31 : decode cX6_upOf 31 = .ok (.ior, 1) := by decide +kernel
theorem dX6_upOf_32 : decode cX6_upOf 32 = .ok (.istore_n 2, 1) := by decide +kernel
theorem dX6_upOf_33 : decode cX6_upOf 33 = .ok (.iinc 3 1, 3) := by decide +kernel
theorem dX6_upOf_36 : decode cX6_upOf 36 = .ok (.goto (-32), 3) := by decide +kernel
theorem dX6_upOf_39 : decode cX6_upOf 39 = .ok (.iload_n 2, 1) := by decide +kernel
theorem dX6_upOf_40 : decode cX6_upOf 40 = .ok (.ireturn, 1) := by decide +kernel
theorem dX6_wordAt_0 : decode cX6_wordAt 0 = .ok (.iload_n 3, 1) := by decide +kernel
theorem dX6_wordAt_1 : decode cX6_wordAt 1 = .ok (.istore 4, 2) := by decide +kernel
theorem dX6_wordAt_3 : decode cX6_wordAt 3 = .ok (.iload_n 1, 1) := by decide +kernel
theorem dX6_wordAt_4 : decode cX6_wordAt 4 = .ok (.istore 5, 2) := by decide +kernel
theorem dX6_wordAt_6 : decode cX6_wordAt 6 = .ok (.iconst 0, 1) := by decide +kernel
theorem dX6_wordAt_7 : decode cX6_wordAt 7 = .ok (.istore 6, 2) := by decide +kernel
theorem dX6_wordAt_9 : decode cX6_wordAt 9 = .ok (.iload 6, 2) := by decide +kernel
theorem dX6_wordAt_11 : decode cX6_wordAt 11 = .ok (.bipush 9, 2) := by decide +kernel
theorem dX6_wordAt_13 : decode cX6_wordAt 13 = .ok (.if_icmp .ge 65, 3) := by decide +kernel
theorem dX6_wordAt_16 : decode cX6_wordAt 16 = .ok (.iload 5, 2) := by decide +kernel
theorem dX6_wordAt_18 : decode cX6_wordAt 18 = .ok (.ifCond .eq 60, 3) := by decide +kernel
theorem dX6_wordAt_21 : decode cX6_wordAt 21 = .ok (.aload_n 0, 1) := by decide +kernel
theorem dX6_wordAt_22 : decode cX6_wordAt 22 = .ok (.getfield 19, 3) := by decide +kernel
theorem dX6_wordAt_25 : decode cX6_wordAt 25 = .ok (.getfield 148, 3) := by decide +kernel
theorem dX6_wordAt_28 : decode cX6_wordAt 28 = .ok (.iload 5, 2) := by decide +kernel
theorem dX6_wordAt_30 : decode cX6_wordAt 30 = .ok (.invokestatic 151, 3) := by decide +kernel
theorem dX6_wordAt_33 : decode cX6_wordAt 33 = .ok (.istore 7, 2) := by decide +kernel
theorem dX6_wordAt_35 : decode cX6_wordAt 35 = .ok (.aload_n 0, 1) := by decide +kernel
theorem dX6_wordAt_36 : decode cX6_wordAt 36 = .ok (.getfield 29, 3) := by decide +kernel
theorem dX6_wordAt_39 : decode cX6_wordAt 39 = .ok (.aload_n 0, 1) := by decide +kernel
theorem dX6_wordAt_40 : decode cX6_wordAt 40 = .ok (.getfield 19, 3) := by decide +kernel
theorem dX6_wordAt_43 : decode cX6_wordAt 43 = .ok (.iload 5, 2) := by decide +kernel
theorem dX6_wordAt_45 : decode cX6_wordAt 45 = .ok (.iload 4, 2) := by decide +kernel
theorem dX6_wordAt_47 : decode cX6_wordAt 47 = .ok (.invokevirtual 281, 3) := by decide +kernel
theorem dX6_wordAt_50 : decode cX6_wordAt 50 = .ok (.istore 4, 2) := by decide +kernel
theorem dX6_wordAt_52 : decode cX6_wordAt 52 = .ok (.iload 7, 2) := by decide +kernel
theorem dX6_wordAt_54 : decode cX6_wordAt 54 = .ok (.iload_n 2, 1) := by decide +kernel
theorem dX6_wordAt_55 : decode cX6_wordAt 55 = .ok (.if_icmp .ne 6, 3) := by decide +kernel
theorem dX6_wordAt_58 : decode cX6_wordAt 58 = .ok (.iload 4, 2) := by decide +kernel
theorem dX6_wordAt_60 : decode cX6_wordAt 60 = .ok (.ireturn, 1) := by decide +kernel
theorem dX6_wordAt_61 : decode cX6_wordAt 61 = .ok (.aload_n 0, 1) := by decide +kernel
theorem dX6_wordAt_62 : decode cX6_wordAt 62 = .ok (.getfield 29, 3) := by decide +kernel
theorem dX6_wordAt_65 : decode cX6_wordAt 65 = .ok (.iload 7, 2) := by decide +kernel
theorem dX6_wordAt_67 : decode cX6_wordAt 67 = .ok (.invokevirtual 278, 3) := by decide +kernel
theorem dX6_wordAt_70 : decode cX6_wordAt 70 = .ok (.istore 5, 2) := by decide +kernel
theorem dX6_wordAt_72 : decode cX6_wordAt 72 = .ok (.iinc 6 1, 3) := by decide +kernel
theorem dX6_wordAt_75 : decode cX6_wordAt 75 = .ok (.goto (-66), 3) := by decide +kernel
theorem dX6_wordAt_78 : decode cX6_wordAt 78 = .ok (.iconst (-1), 1) := by decide +kernel
theorem dX6_wordAt_79 : decode cX6_wordAt 79 = .ok (.ireturn, 1) := by decide +kernel
theorem dX6_hoursTo_0 : decode cX6_hoursTo 0 = .ok (.aload_n 0, 1) := by decide +kernel
theorem dX6_hoursTo_1 : decode cX6_hoursTo 1 = .ok (.getfield 29, 3) := by decide +kernel
theorem dX6_hoursTo_4 : decode cX6_hoursTo 4 = .ok (.getfield 111, 3) := by decide +kernel
theorem dX6_hoursTo_7 : decode cX6_hoursTo 7 = .ok (.istore_n 3, 1) := by decide +kernel
theorem dX6_hoursTo_8 : decode cX6_hoursTo 8 = .ok (.iload_n 3, 1) := by decide +kernel
theorem dX6_hoursTo_9 : decode cX6_hoursTo 9 = .ok (.iconst 1, 1) := by decide +kernel
theorem dX6_hoursTo_10 : decode cX6_hoursTo 10 = .ok (.if_icmp .ge 5, 3) := by decide +kernel
theorem dX6_hoursTo_13 : decode cX6_hoursTo 13 = .ok (.iconst (-1), 1) := by decide +kernel
theorem dX6_hoursTo_14 : decode cX6_hoursTo 14 = .ok (.ireturn, 1) := by decide +kernel
theorem dX6_hoursTo_15 : decode cX6_hoursTo 15 = .ok (.iconst 0, 1) := by decide +kernel
theorem dX6_hoursTo_16 : decode cX6_hoursTo 16 = .ok (.istore 4, 2) := by decide +kernel
theorem dX6_hoursTo_18 : decode cX6_hoursTo 18 = .ok (.iload_n 1, 1) := by decide +kernel
theorem dX6_hoursTo_19 : decode cX6_hoursTo 19 = .ok (.istore 5, 2) := by decide +kernel
theorem dX6_hoursTo_21 : decode cX6_hoursTo 21 = .ok (.iconst 0, 1) := by decide +kernel
theorem dX6_hoursTo_22 : decode cX6_hoursTo 22 = .ok (.istore 6, 2) := by decide +kernel
theorem dX6_hoursTo_24 : decode cX6_hoursTo 24 = .ok (.iload 6, 2) := by decide +kernel
theorem dX6_hoursTo_26 : decode cX6_hoursTo 26 = .ok (.bipush 9, 2) := by decide +kernel
theorem dX6_hoursTo_28 : decode cX6_hoursTo 28 = .ok (.if_icmp .ge 68, 3) := by decide +kernel
theorem dX6_hoursTo_31 : decode cX6_hoursTo 31 = .ok (.iload 5, 2) := by decide +kernel
theorem dX6_hoursTo_33 : decode cX6_hoursTo 33 = .ok (.ifCond .eq 63, 3) := by decide +kernel
theorem dX6_hoursTo_36 : decode cX6_hoursTo 36 = .ok (.aload_n 0, 1) := by decide +kernel
theorem dX6_hoursTo_37 : decode cX6_hoursTo 37 = .ok (.getfield 19, 3) := by decide +kernel
theorem dX6_hoursTo_40 : decode cX6_hoursTo 40 = .ok (.getfield 148, 3) := by decide +kernel
theorem dX6_hoursTo_43 : decode cX6_hoursTo 43 = .ok (.iload 5, 2) := by decide +kernel
theorem dX6_hoursTo_45 : decode cX6_hoursTo 45 = .ok (.invokestatic 151, 3) := by decide +kernel
theorem dX6_hoursTo_48 : decode cX6_hoursTo 48 = .ok (.istore 7, 2) := by decide +kernel
theorem dX6_hoursTo_50 : decode cX6_hoursTo 50 = .ok (.iload 4, 2) := by decide +kernel
theorem dX6_hoursTo_52 : decode cX6_hoursTo 52 = .ok (.aload_n 0, 1) := by decide +kernel
theorem dX6_hoursTo_53 : decode cX6_hoursTo 53 = .ok (.getfield 19, 3) := by decide +kernel
theorem dX6_hoursTo_56 : decode cX6_hoursTo 56 = .ok (.iload 5, 2) := by decide +kernel
theorem dX6_hoursTo_58 : decode cX6_hoursTo 58 = .ok (.invokevirtual 285, 3) := by decide +kernel
theorem dX6_hoursTo_61 : decode cX6_hoursTo 61 = .ok (.iload_n 3, 1) := by decide +kernel
theorem dX6_hoursTo_62 : decode cX6_hoursTo 62 = .ok (.iadd, 1) := by decide +kernel
theorem dX6_hoursTo_63 : decode cX6_hoursTo 63 = .ok (.iconst 1, 1) := by decide +kernel
theorem dX6_hoursTo_64 : decode cX6_hoursTo 64 = .ok (.isub, 1) := by decide +kernel
theorem dX6_hoursTo_65 : decode cX6_hoursTo 65 = .ok (.iload_n 3, 1) := by decide +kernel
theorem dX6_hoursTo_66 : decode cX6_hoursTo 66 = .ok (.idiv, 1) := by decide +kernel
theorem dX6_hoursTo_67 : decode cX6_hoursTo 67 = .ok (.iadd, 1) := by decide +kernel
theorem dX6_hoursTo_68 : decode cX6_hoursTo 68 = .ok (.istore 4, 2) := by decide +kernel
theorem dX6_hoursTo_70 : decode cX6_hoursTo 70 = .ok (.iload 7, 2) := by decide +kernel
theorem dX6_hoursTo_72 : decode cX6_hoursTo 72 = .ok (.iload_n 2, 1) := by decide +kernel
theorem dX6_hoursTo_73 : decode cX6_hoursTo 73 = .ok (.if_icmp .ne 6, 3) := by decide +kernel
theorem dX6_hoursTo_76 : decode cX6_hoursTo 76 = .ok (.iload 4, 2) := by decide +kernel
theorem dX6_hoursTo_78 : decode cX6_hoursTo 78 = .ok (.ireturn, 1) := by decide +kernel
theorem dX6_hoursTo_79 : decode cX6_hoursTo 79 = .ok (.aload_n 0, 1) := by decide +kernel
theorem dX6_hoursTo_80 : decode cX6_hoursTo 80 = .ok (.getfield 29, 3) := by decide +kernel
theorem dX6_hoursTo_83 : decode cX6_hoursTo 83 = .ok (.iload 7, 2) := by decide +kernel
theorem dX6_hoursTo_85 : decode cX6_hoursTo 85 = .ok (.invokevirtual 278, 3) := by decide +kernel
theorem dX6_hoursTo_88 : decode cX6_hoursTo 88 = .ok (.istore 5, 2) := by decide +kernel
theorem dX6_hoursTo_90 : decode cX6_hoursTo 90 = .ok (.iinc 6 1, 3) := by decide +kernel
theorem dX6_hoursTo_93 : decode cX6_hoursTo 93 = .ok (.goto (-69), 3) := by decide +kernel
theorem dX6_hoursTo_96 : decode cX6_hoursTo 96 = .ok (.iconst (-1), 1) := by decide +kernel
theorem dX6_hoursTo_97 : decode cX6_hoursTo 97 = .ok (.ireturn, 1) := by decide +kernel
theorem dX6_wordsFor_0 : decode cX6_wordsFor 0 = .ok (.iconst 0, 1) := by decide +kernel
theorem dX6_wordsFor_1 : decode cX6_wordsFor 1 = .ok (.istore 4, 2) := by decide +kernel
theorem dX6_wordsFor_3 : decode cX6_wordsFor 3 = .ok (.iconst 0, 1) := by decide +kernel
theorem dX6_wordsFor_4 : decode cX6_wordsFor 4 = .ok (.istore 5, 2) := by decide +kernel
theorem dX6_wordsFor_6 : decode cX6_wordsFor 6 = .ok (.iload 5, 2) := by decide +kernel
theorem dX6_wordsFor_8 : decode cX6_wordsFor 8 = .ok (.aload_n 0, 1) := by decide +kernel
theorem dX6_wordsFor_9 : decode cX6_wordsFor 9 = .ok (.getfield 19, 3) := by decide +kernel
theorem dX6_wordsFor_12 : decode cX6_wordsFor 12 = .ok (.getfield 105, 3) := by decide +kernel
theorem dX6_wordsFor_15 : decode cX6_wordsFor 15 = .ok (.if_icmp .ge 30, 3) := by decide +kernel
theorem dX6_wordsFor_18 : decode cX6_wordsFor 18 = .ok (.aload_n 0, 1) := by decide +kernel
theorem dX6_wordsFor_19 : decode cX6_wordsFor 19 = .ok (.iload_n 1, 1) := by decide +kernel
theorem dX6_wordsFor_20 : decode cX6_wordsFor 20 = .ok (.iload_n 2, 1) := by decide +kernel
theorem dX6_wordsFor_21 : decode cX6_wordsFor 21 = .ok (.iload 5, 2) := by decide +kernel
theorem dX6_wordsFor_23 : decode cX6_wordsFor 23 = .ok (.invokevirtual 223, 3) := by decide +kernel
theorem dX6_wordsFor_26 : decode cX6_wordsFor 26 = .ok (.iload_n 3, 1) := by decide +kernel
theorem dX6_wordsFor_27 : decode cX6_wordsFor 27 = .ok (.if_icmp .ne 12, 3) := by decide +kernel
theorem dX6_wordsFor_30 : decode cX6_wordsFor 30 = .ok (.iload 4, 2) := by decide +kernel
theorem dX6_wordsFor_32 : decode cX6_wordsFor 32 = .ok (.iconst 1, 1) := by decide +kernel
theorem dX6_wordsFor_33 : decode cX6_wordsFor 33 = .ok (.iload 5, 2) := by decide +kernel
theorem dX6_wordsFor_35 : decode cX6_wordsFor 35 = .ok (.ishl, 1) := by decide +kernel
theorem dX6_wordsFor_36 : decode cX6_wordsFor 36 = .ok (.ior, 1) := by decide +kernel
theorem dX6_wordsFor_37 : decode cX6_wordsFor 37 = .ok (.istore 4, 2) := by decide +kernel
theorem dX6_wordsFor_39 : decode cX6_wordsFor 39 = .ok (.iinc 5 1, 3) := by decide +kernel
theorem dX6_wordsFor_42 : decode cX6_wordsFor 42 = .ok (.goto (-36), 3) := by decide +kernel
theorem dX6_wordsFor_45 : decode cX6_wordsFor 45 = .ok (.iload 4, 2) := by decide +kernel
theorem dX6_wordsFor_47 : decode cX6_wordsFor 47 = .ok (.ireturn, 1) := by decide +kernel
theorem dX6_fewestDams_0 : decode cX6_fewestDams 0 = .ok (.iconst (-1), 1) := by decide +kernel
theorem dX6_fewestDams_1 : decode cX6_fewestDams 1 = .ok (.istore_n 3, 1) := by decide +kernel
theorem dX6_fewestDams_2 : decode cX6_fewestDams 2 = .ok (.iload_n 1, 1) := by decide +kernel
theorem dX6_fewestDams_3 : decode cX6_fewestDams 3 = .ok (.istore 4, 2) := by decide +kernel
theorem dX6_fewestDams_5 : decode cX6_fewestDams 5 = .ok (.iconst 0, 1) := by decide +kernel
theorem dX6_fewestDams_6 : decode cX6_fewestDams 6 = .ok (.istore 5, 2) := by decide +kernel
theorem dX6_fewestDams_8 : decode cX6_fewestDams 8 = .ok (.iload 5, 2) := by decide +kernel
theorem dX6_fewestDams_10 : decode cX6_fewestDams 10 = .ok (.bipush 9, 2) := by decide +kernel
theorem dX6_fewestDams_12 : decode cX6_fewestDams 12 = .ok (.if_icmp .ge 55, 3) := by decide +kernel
theorem dX6_fewestDams_15 : decode cX6_fewestDams 15 = .ok (.iload 4, 2) := by decide +kernel
theorem dX6_fewestDams_17 : decode cX6_fewestDams 17 = .ok (.ifCond .eq 50, 3) := by decide +kernel
theorem dX6_fewestDams_20 : decode cX6_fewestDams 20 = .ok (.aload_n 0, 1) := by decide +kernel
theorem dX6_fewestDams_21 : decode cX6_fewestDams 21 = .ok (.getfield 19, 3) := by decide +kernel
theorem dX6_fewestDams_24 : decode cX6_fewestDams 24 = .ok (.getfield 148, 3) := by decide +kernel
theorem dX6_fewestDams_27 : decode cX6_fewestDams 27 = .ok (.iload 4, 2) := by decide +kernel
theorem dX6_fewestDams_29 : decode cX6_fewestDams 29 = .ok (.invokestatic 151, 3) := by decide +kernel
theorem dX6_fewestDams_32 : decode cX6_fewestDams 32 = .ok (.istore 6, 2) := by decide +kernel
theorem dX6_fewestDams_34 : decode cX6_fewestDams 34 = .ok (.iload_n 2, 1) := by decide +kernel
theorem dX6_fewestDams_35 : decode cX6_fewestDams 35 = .ok (.iload 6, 2) := by decide +kernel
theorem dX6_fewestDams_37 : decode cX6_fewestDams 37 = .ok (.invokestatic 200, 3) := by decide +kernel
theorem dX6_fewestDams_40 : decode cX6_fewestDams 40 = .ok (.ifCond .eq 5, 3) := by decide +kernel
theorem dX6_fewestDams_43 : decode cX6_fewestDams 43 = .ok (.iload_n 3, 1) := by decide +kernel
theorem dX6_fewestDams_44 : decode cX6_fewestDams 44 = .ok (.ireturn, 1) := by decide +kernel
theorem dX6_fewestDams_45 : decode cX6_fewestDams 45 = .ok (.iconst 1, 1) := by decide +kernel
theorem dX6_fewestDams_46 : decode cX6_fewestDams 46 = .ok (.iload 6, 2) := by decide +kernel
theorem dX6_fewestDams_48 : decode cX6_fewestDams 48 = .ok (.ishl, 1) := by decide +kernel
theorem dX6_fewestDams_49 : decode cX6_fewestDams 49 = .ok (.istore_n 3, 1) := by decide +kernel
theorem dX6_fewestDams_50 : decode cX6_fewestDams 50 = .ok (.aload_n 0, 1) := by decide +kernel
theorem dX6_fewestDams_51 : decode cX6_fewestDams 51 = .ok (.getfield 29, 3) := by decide +kernel
theorem dX6_fewestDams_54 : decode cX6_fewestDams 54 = .ok (.iload 6, 2) := by decide +kernel
theorem dX6_fewestDams_56 : decode cX6_fewestDams 56 = .ok (.invokevirtual 278, 3) := by decide +kernel
theorem dX6_fewestDams_59 : decode cX6_fewestDams 59 = .ok (.istore 4, 2) := by decide +kernel
theorem dX6_fewestDams_61 : decode cX6_fewestDams 61 = .ok (.iinc 5 1, 3) := by decide +kernel
theorem dX6_fewestDams_64 : decode cX6_fewestDams 64 = .ok (.goto (-56), 3) := by decide +kernel
theorem dX6_fewestDams_67 : decode cX6_fewestDams 67 = .ok (.iconst 0, 1) := by decide +kernel
theorem dX6_fewestDams_68 : decode cX6_fewestDams 68 = .ok (.ireturn, 1) := by decide +kernel
theorem dX6_loudest_0 : decode cX6_loudest 0 = .ok (.iconst 0, 1) := by decide +kernel
theorem dX6_loudest_1 : decode cX6_loudest 1 = .ok (.istore_n 1, 1) := by decide +kernel
theorem dX6_loudest_2 : decode cX6_loudest 2 = .ok (.iconst (-1), 1) := by decide +kernel
theorem dX6_loudest_3 : decode cX6_loudest 3 = .ok (.istore_n 2, 1) := by decide +kernel
theorem dX6_loudest_4 : decode cX6_loudest 4 = .ok (.iconst 0, 1) := by decide +kernel
theorem dX6_loudest_5 : decode cX6_loudest 5 = .ok (.istore_n 3, 1) := by decide +kernel
theorem dX6_loudest_6 : decode cX6_loudest 6 = .ok (.iload_n 3, 1) := by decide +kernel
theorem dX6_loudest_7 : decode cX6_loudest 7 = .ok (.aload_n 0, 1) := by decide +kernel
theorem dX6_loudest_8 : decode cX6_loudest 8 = .ok (.getfield 19, 3) := by decide +kernel
theorem dX6_loudest_11 : decode cX6_loudest 11 = .ok (.getfield 99, 3) := by decide +kernel
theorem dX6_loudest_14 : decode cX6_loudest 14 = .ok (.if_icmp .ge 33, 3) := by decide +kernel
theorem dX6_loudest_17 : decode cX6_loudest 17 = .ok (.aload_n 0, 1) := by decide +kernel
theorem dX6_loudest_18 : decode cX6_loudest 18 = .ok (.getfield 29, 3) := by decide +kernel
theorem dX6_loudest_21 : decode cX6_loudest 21 = .ok (.getfield 167, 3) := by decide +kernel
theorem dX6_loudest_24 : decode cX6_loudest 24 = .ok (.iload_n 3, 1) := by decide +kernel
theorem dX6_loudest_25 : decode cX6_loudest 25 = .ok (.invokestatic 151, 3) := by decide +kernel
theorem dX6_loudest_28 : decode cX6_loudest 28 = .ok (.istore 4, 2) := by decide +kernel
theorem dX6_loudest_30 : decode cX6_loudest 30 = .ok (.iload 4, 2) := by decide +kernel
theorem dX6_loudest_32 : decode cX6_loudest 32 = .ok (.iload_n 1, 1) := by decide +kernel
theorem dX6_loudest_33 : decode cX6_loudest 33 = .ok (.if_icmp .le 8, 3) := by decide +kernel
theorem dX6_loudest_36 : decode cX6_loudest 36 = .ok (.iload 4, 2) := by decide +kernel
theorem dX6_loudest_38 : decode cX6_loudest 38 = .ok (.istore_n 1, 1) := by decide +kernel
theorem dX6_loudest_39 : decode cX6_loudest 39 = .ok (.iload_n 3, 1) := by decide +kernel
theorem dX6_loudest_40 : decode cX6_loudest 40 = .ok (.istore_n 2, 1) := by decide +kernel
theorem dX6_loudest_41 : decode cX6_loudest 41 = .ok (.iinc 3 1, 3) := by decide +kernel
theorem dX6_loudest_44 : decode cX6_loudest 44 = .ok (.goto (-38), 3) := by decide +kernel
theorem dX6_loudest_47 : decode cX6_loudest 47 = .ok (.iload_n 2, 1) := by decide +kernel
theorem dX6_loudest_48 : decode cX6_loudest 48 = .ok (.ireturn, 1) := by decide +kernel
theorem dX6_bottom_0 : decode cX6_bottom 0 = .ok (.iconst (-1), 1) := by decide +kernel
theorem dX6_bottom_1 : decode cX6_bottom 1 = .ok (.istore_n 1, 1) := by decide +kernel
theorem dX6_bottom_2 : decode cX6_bottom 2 = .ok (.iconst (-1), 1) := by decide +kernel
theorem dX6_bottom_3 : decode cX6_bottom 3 = .ok (.istore_n 2, 1) := by decide +kernel
theorem dX6_bottom_4 : decode cX6_bottom 4 = .ok (.iconst 1, 1) := by decide +kernel
theorem dX6_bottom_5 : decode cX6_bottom 5 = .ok (.istore_n 3, 1) := by decide +kernel
theorem dX6_bottom_6 : decode cX6_bottom 6 = .ok (.iload_n 3, 1) := by decide +kernel
theorem dX6_bottom_7 : decode cX6_bottom 7 = .ok (.aload_n 0, 1) := by decide +kernel
theorem dX6_bottom_8 : decode cX6_bottom 8 = .ok (.getfield 19, 3) := by decide +kernel
theorem dX6_bottom_11 : decode cX6_bottom 11 = .ok (.getfield 99, 3) := by decide +kernel
theorem dX6_bottom_14 : decode cX6_bottom 14 = .ok (.if_icmp .ge 30, 3) := by decide +kernel
theorem dX6_bottom_17 : decode cX6_bottom 17 = .ok (.aload_n 0, 1) := by decide +kernel
theorem dX6_bottom_18 : decode cX6_bottom 18 = .ok (.iload_n 3, 1) := by decide +kernel
theorem dX6_bottom_19 : decode cX6_bottom 19 = .ok (.invokevirtual 220, 3) := by decide +kernel
theorem dX6_bottom_22 : decode cX6_bottom 22 = .ok (.invokestatic 233, 3) := by decide +kernel
theorem dX6_bottom_25 : decode cX6_bottom 25 = .ok (.istore 4, 2) := by decide +kernel
theorem dX6_bottom_27 : decode cX6_bottom 27 = .ok (.iload 4, 2) := by decide +kernel
theorem dX6_bottom_29 : decode cX6_bottom 29 = .ok (.iload_n 1, 1) := by decide +kernel
theorem dX6_bottom_30 : decode cX6_bottom 30 = .ok (.if_icmp .le 8, 3) := by decide +kernel
theorem dX6_bottom_33 : decode cX6_bottom 33 = .ok (.iload 4, 2) := by decide +kernel
theorem dX6_bottom_35 : decode cX6_bottom 35 = .ok (.istore_n 1, 1) := by decide +kernel
theorem dX6_bottom_36 : decode cX6_bottom 36 = .ok (.iload_n 3, 1) := by decide +kernel
theorem dX6_bottom_37 : decode cX6_bottom 37 = .ok (.istore_n 2, 1) := by decide +kernel
theorem dX6_bottom_38 : decode cX6_bottom 38 = .ok (.iinc 3 1, 3) := by decide +kernel
theorem dX6_bottom_41 : decode cX6_bottom 41 = .ok (.goto (-35), 3) := by decide +kernel
theorem dX6_bottom_44 : decode cX6_bottom 44 = .ok (.iload_n 2, 1) := by decide +kernel
theorem dX6_bottom_45 : decode cX6_bottom 45 = .ok (.ireturn, 1) := by decide +kernel
theorem dX6_even_0 : decode cX6_even 0 = .ok (.iconst 0, 1) := by decide +kernel
theorem dX6_even_1 : decode cX6_even 1 = .ok (.istore_n 1, 1) := by decide +kernel
theorem dX6_even_2 : decode cX6_even 2 = .ok (.iconst 0, 1) := by decide +kernel
theorem dX6_even_3 : decode cX6_even 3 = .ok (.istore_n 2, 1) := by decide +kernel
theorem dX6_even_4 : decode cX6_even 4 = .ok (.iload_n 2, 1) := by decide +kernel
theorem dX6_even_5 : decode cX6_even 5 = .ok (.aload_n 0, 1) := by decide +kernel
theorem dX6_even_6 : decode cX6_even 6 = .ok (.getfield 19, 3) := by decide +kernel
theorem dX6_even_9 : decode cX6_even 9 = .ok (.getfield 99, 3) := by decide +kernel
theorem dX6_even_12 : decode cX6_even 12 = .ok (.if_icmp .ge 23, 3) := by decide +kernel
theorem dX6_even_15 : decode cX6_even 15 = .ok (.aload_n 0, 1) := by decide +kernel
theorem dX6_even_16 : decode cX6_even 16 = .ok (.iload_n 2, 1) := by decide +kernel
theorem dX6_even_17 : decode cX6_even 17 = .ok (.invokevirtual 288, 3) := by decide +kernel
theorem dX6_even_20 : decode cX6_even 20 = .ok (.ifCond .eq 9, 3) := by decide +kernel
theorem dX6_even_23 : decode cX6_even 23 = .ok (.iload_n 1, 1) := by decide +kernel
theorem dX6_even_24 : decode cX6_even 24 = .ok (.iconst 1, 1) := by decide +kernel
theorem dX6_even_25 : decode cX6_even 25 = .ok (.iload_n 2, 1) := by decide +kernel
theorem dX6_even_26 : decode cX6_even 26 = .ok (.ishl, 1) := by decide +kernel
theorem dX6_even_27 : decode cX6_even 27 = .ok (.ior, 1) := by decide +kernel
theorem dX6_even_28 : decode cX6_even 28 = .ok (.istore_n 1, 1) := by decide +kernel
theorem dX6_even_29 : decode cX6_even 29 = .ok (.iinc 2 1, 3) := by decide +kernel
theorem dX6_even_32 : decode cX6_even 32 = .ok (.goto (-28), 3) := by decide +kernel
theorem dX6_even_35 : decode cX6_even 35 = .ok (.iload_n 1, 1) := by decide +kernel
theorem dX6_even_36 : decode cX6_even 36 = .ok (.ireturn, 1) := by decide +kernel
theorem dX6_leavesAllAlone_0 : decode cX6_leavesAllAlone 0 = .ok (.iconst 0, 1) := by decide +kernel
theorem dX6_leavesAllAlone_1 : decode cX6_leavesAllAlone 1 = .ok (.istore_n 2, 1) := by decide +kernel
theorem dX6_leavesAllAlone_2 : decode cX6_leavesAllAlone 2 = .ok (.iload_n 2, 1) := by decide +kernel
theorem dX6_leavesAllAlone_3 : decode cX6_leavesAllAlone 3 = .ok (.aload_n 0, 1) := by decide +kernel
theorem dX6_leavesAllAlone_4 : decode cX6_leavesAllAlone 4 = .ok (.getfield 19, 3) := by decide +kernel
theorem dX6_leavesAllAlone_7 : decode cX6_leavesAllAlone 7 = .ok (.getfield 105, 3) := by decide +kernel
theorem dX6_leavesAllAlone_10 : decode cX6_leavesAllAlone 10 = .ok (.if_icmp .ge 22, 3) := by decide +kernel
theorem dX6_leavesAllAlone_13 : decode cX6_leavesAllAlone 13 = .ok (.aload_n 0, 1) := by decide +kernel
theorem dX6_leavesAllAlone_14 : decode cX6_leavesAllAlone 14 = .ok (.iload_n 1, 1) := by decide +kernel
theorem dX6_leavesAllAlone_15 : decode cX6_leavesAllAlone 15 = .ok (.iconst 0, 1) := by decide +kernel
theorem dX6_leavesAllAlone_16 : decode cX6_leavesAllAlone 16 = .ok (.iload_n 2, 1) := by decide +kernel
theorem dX6_leavesAllAlone_17 : decode cX6_leavesAllAlone 17 = .ok (.invokevirtual 223, 3) := by decide +kernel
theorem dX6_leavesAllAlone_20 : decode cX6_leavesAllAlone 20 = .ok (.iload_n 2, 1) := by decide +kernel
theorem dX6_leavesAllAlone_21 : decode cX6_leavesAllAlone 21 = .ok (.if_icmp .eq 5, 3) := by decide +kernel
theorem dX6_leavesAllAlone_24 : decode cX6_leavesAllAlone 24 = .ok (.iconst 0, 1) := by decide +kernel
theorem dX6_leavesAllAlone_25 : decode cX6_leavesAllAlone 25 = .ok (.ireturn, 1) := by decide +kernel
theorem dX6_leavesAllAlone_26 : decode cX6_leavesAllAlone 26 = .ok (.iinc 2 1, 3) := by decide +kernel
theorem dX6_leavesAllAlone_29 : decode cX6_leavesAllAlone 29 = .ok (.goto (-27), 3) := by decide +kernel
theorem dX6_leavesAllAlone_32 : decode cX6_leavesAllAlone 32 = .ok (.iconst 1, 1) := by decide +kernel
theorem dX6_leavesAllAlone_33 : decode cX6_leavesAllAlone 33 = .ok (.ireturn, 1) := by decide +kernel
theorem dX6_longest_0 : decode cX6_longest 0 = .ok (.iconst (-1), 1) := by decide +kernel
theorem dX6_longest_1 : decode cX6_longest 1 = .ok (.istore_n 1, 1) := by decide +kernel
theorem dX6_longest_2 : decode cX6_longest 2 = .ok (.iconst (-1), 1) := by decide +kernel
theorem dX6_longest_3 : decode cX6_longest 3 = .ok (.istore_n 2, 1) := by decide +kernel
theorem dX6_longest_4 : decode cX6_longest 4 = .ok (.iconst 0, 1) := by decide +kernel
theorem dX6_longest_5 : decode cX6_longest 5 = .ok (.istore_n 3, 1) := by decide +kernel
theorem dX6_longest_6 : decode cX6_longest 6 = .ok (.iload_n 3, 1) := by decide +kernel
theorem dX6_longest_7 : decode cX6_longest 7 = .ok (.aload_n 0, 1) := by decide +kernel
theorem dX6_longest_8 : decode cX6_longest 8 = .ok (.getfield 19, 3) := by decide +kernel
theorem dX6_longest_11 : decode cX6_longest 11 = .ok (.getfield 99, 3) := by decide +kernel
theorem dX6_longest_14 : decode cX6_longest 14 = .ok (.if_icmp .ge 28, 3) := by decide +kernel
theorem dX6_longest_17 : decode cX6_longest 17 = .ok (.aload_n 0, 1) := by decide +kernel
theorem dX6_longest_18 : decode cX6_longest 18 = .ok (.iload_n 3, 1) := by decide +kernel
theorem dX6_longest_19 : decode cX6_longest 19 = .ok (.iconst 0, 1) := by decide +kernel
theorem dX6_longest_20 : decode cX6_longest 20 = .ok (.invokevirtual 227, 3) := by decide +kernel
theorem dX6_longest_23 : decode cX6_longest 23 = .ok (.istore 4, 2) := by decide +kernel
theorem dX6_longest_25 : decode cX6_longest 25 = .ok (.iload 4, 2) := by decide +kernel
theorem dX6_longest_27 : decode cX6_longest 27 = .ok (.iload_n 1, 1) := by decide +kernel
theorem dX6_longest_28 : decode cX6_longest 28 = .ok (.if_icmp .le 8, 3) := by decide +kernel
theorem dX6_longest_31 : decode cX6_longest 31 = .ok (.iload 4, 2) := by decide +kernel
theorem dX6_longest_33 : decode cX6_longest 33 = .ok (.istore_n 1, 1) := by decide +kernel
theorem dX6_longest_34 : decode cX6_longest 34 = .ok (.iload_n 3, 1) := by decide +kernel
theorem dX6_longest_35 : decode cX6_longest 35 = .ok (.istore_n 2, 1) := by decide +kernel
theorem dX6_longest_36 : decode cX6_longest 36 = .ok (.iinc 3 1, 3) := by decide +kernel
theorem dX6_longest_39 : decode cX6_longest 39 = .ok (.goto (-33), 3) := by decide +kernel
theorem dX6_longest_42 : decode cX6_longest 42 = .ok (.iload_n 2, 1) := by decide +kernel
theorem dX6_longest_43 : decode cX6_longest 43 = .ok (.ireturn, 1) := by decide +kernel
theorem dX6_draw_0 : decode cX6_draw 0 = .ok (.aload_n 0, 1) := by decide +kernel
theorem dX6_draw_1 : decode cX6_draw 1 = .ok (.aload_n 0, 1) := by decide +kernel
theorem dX6_draw_2 : decode cX6_draw 2 = .ok (.getfield 271, 3) := by decide +kernel
theorem dX6_draw_5 : decode cX6_draw 5 = .ok (.i2l, 1) := by decide +kernel
theorem dX6_draw_6 : decode cX6_draw 6 = .ok (.ldc2_w 291, 3) := by decide +kernel
theorem dX6_draw_9 : decode cX6_draw 9 = .ok (.lmul, 1) := by decide +kernel
theorem dX6_draw_10 : decode cX6_draw 10 = .ok (.ldc2_w 293, 3) := by decide +kernel
theorem dX6_draw_13 : decode cX6_draw 13 = .ok (.ladd, 1) := by decide +kernel
theorem dX6_draw_14 : decode cX6_draw 14 = .ok (.ldc2_w 295, 3) := by decide +kernel
theorem dX6_draw_17 : decode cX6_draw 17 = .ok (.land, 1) := by decide +kernel
theorem dX6_draw_18 : decode cX6_draw 18 = .ok (.l2i, 1) := by decide +kernel
theorem dX6_draw_19 : decode cX6_draw 19 = .ok (.putfield 271, 3) := by decide +kernel
theorem dX6_draw_22 : decode cX6_draw 22 = .ok (.iload_n 1, 1) := by decide +kernel
theorem dX6_draw_23 : decode cX6_draw 23 = .ok (.ifCond .le 16, 3) := by decide +kernel
theorem dX6_draw_26 : decode cX6_draw 26 = .ok (.aload_n 0, 1) := by decide +kernel
theorem dX6_draw_27 : decode cX6_draw 27 = .ok (.getfield 271, 3) := by decide +kernel
theorem dX6_draw_30 : decode cX6_draw 30 = .ok (.ldc_w 297, 3) := by decide +kernel
theorem dX6_draw_33 : decode cX6_draw 33 = .ok (.idiv, 1) := by decide +kernel
theorem dX6_draw_34 : decode cX6_draw 34 = .ok (.iload_n 1, 1) := by decide +kernel
theorem dX6_draw_35 : decode cX6_draw 35 = .ok (.irem, 1) := by decide +kernel
theorem dX6_draw_36 : decode cX6_draw 36 = .ok (.goto 4, 3) := by decide +kernel
theorem dX6_draw_39 : decode cX6_draw 39 = .ok (.iconst 0, 1) := by decide +kernel
theorem dX6_draw_40 : decode cX6_draw 40 = .ok (.ireturn, 1) := by decide +kernel
theorem dX6_befall_0 : decode cX6_befall 0 = .ok (.aload_n 0, 1) := by decide +kernel
theorem dX6_befall_1 : decode cX6_befall 1 = .ok (.iconst 5, 1) := by decide +kernel
theorem dX6_befall_2 : decode cX6_befall 2 = .ok (.invokevirtual 298, 3) := by decide +kernel
theorem dX6_befall_5 : decode cX6_befall 5 = .ok (.tableswitch 75 0 2 #[27, 43, 50], 27) := by decide +kernel
theorem dX6_befall_32 : decode cX6_befall 32 = .ok (.aload_n 0, 1) := by decide +kernel
theorem dX6_befall_33 : decode cX6_befall 33 = .ok (.getfield 29, 3) := by decide +kernel
theorem dX6_befall_36 : decode cX6_befall 36 = .ok (.aload_n 0, 1) := by decide +kernel
theorem dX6_befall_37 : decode cX6_befall 37 = .ok (.bipush 10, 2) := by decide +kernel
theorem dX6_befall_39 : decode cX6_befall 39 = .ok (.invokevirtual 298, 3) := by decide +kernel
theorem dX6_befall_42 : decode cX6_befall 42 = .ok (.putfield 111, 3) := by decide +kernel
theorem dX6_befall_45 : decode cX6_befall 45 = .ok (.goto 35, 3) := by decide +kernel
theorem dX6_befall_48 : decode cX6_befall 48 = .ok (.aload_n 0, 1) := by decide +kernel
theorem dX6_befall_49 : decode cX6_befall 49 = .ok (.invokevirtual 301, 3) := by decide +kernel
theorem dX6_befall_52 : decode cX6_befall 52 = .ok (.goto 28, 3) := by decide +kernel
theorem dX6_befall_55 : decode cX6_befall 55 = .ok (.aload_n 0, 1) := by decide +kernel
theorem dX6_befall_56 : decode cX6_befall 56 = .ok (.getfield 29, 3) := by decide +kernel
theorem dX6_befall_59 : decode cX6_befall 59 = .ok (.aload_n 0, 1) := by decide +kernel
theorem dX6_befall_60 : decode cX6_befall 60 = .ok (.getfield 29, 3) := by decide +kernel
theorem dX6_befall_63 : decode cX6_befall 63 = .ok (.getfield 114, 3) := by decide +kernel
theorem dX6_befall_66 : decode cX6_befall 66 = .ok (.ifCond .ne 7, 3) := by decide +kernel
theorem dX6_befall_69 : decode cX6_befall 69 = .ok (.iconst 1, 1) := by decide +kernel
theorem dX6_befall_70 : decode cX6_befall 70 = .ok (.goto 4, 3) := by decide +kernel
theorem dX6_befall_73 : decode cX6_befall 73 = .ok (.iconst 0, 1) := by decide +kernel
theorem dX6_befall_74 : decode cX6_befall 74 = .ok (.putfield 114, 3) := by decide +kernel
theorem dX6_befall_77 : decode cX6_befall 77 = .ok (.goto 3, 3) := by decide +kernel
theorem dX6_befall_80 : decode cX6_befall 80 = .ok (.return_, 1) := by decide +kernel
theorem dX6_befallTalk_0 : decode cX6_befallTalk 0 = .ok (.aload_n 0, 1) := by decide +kernel
theorem dX6_befallTalk_1 : decode cX6_befallTalk 1 = .ok (.getfield 19, 3) := by decide +kernel
theorem dX6_befallTalk_4 : decode cX6_befallTalk 4 = .ok (.getfield 99, 3) := by decide +kernel
theorem dX6_befallTalk_7 : decode cX6_befallTalk 7 = .ok (.iconst 2, 1) := by decide +kernel
theorem dX6_befallTalk_8 : decode cX6_befallTalk 8 = .ok (.if_icmp .ge 4, 3) := by decide +kernel
theorem dX6_befallTalk_11 : decode cX6_befallTalk 11 = .ok (.return_, 1) := by decide +kernel
theorem dX6_befallTalk_12 : decode cX6_befallTalk 12 = .ok (.aload_n 0, 1) := by decide +kernel
theorem dX6_befallTalk_13 : decode cX6_befallTalk 13 = .ok (.aload_n 0, 1) := by decide +kernel
theorem dX6_befallTalk_14 : decode cX6_befallTalk 14 = .ok (.getfield 19, 3) := by decide +kernel
theorem dX6_befallTalk_17 : decode cX6_befallTalk 17 = .ok (.getfield 99, 3) := by decide +kernel
theorem dX6_befallTalk_20 : decode cX6_befallTalk 20 = .ok (.iconst 1, 1) := by decide +kernel
theorem dX6_befallTalk_21 : decode cX6_befallTalk 21 = .ok (.isub, 1) := by decide +kernel
theorem dX6_befallTalk_22 : decode cX6_befallTalk 22 = .ok (.invokevirtual 298, 3) := by decide +kernel
theorem dX6_befallTalk_25 : decode cX6_befallTalk 25 = .ok (.iconst 1, 1) := by decide +kernel
theorem dX6_befallTalk_26 : decode cX6_befallTalk 26 = .ok (.iadd, 1) := by decide +kernel
theorem dX6_befallTalk_27 : decode cX6_befallTalk 27 = .ok (.istore_n 1, 1) := by decide +kernel
theorem dX6_befallTalk_28 : decode cX6_befallTalk 28 = .ok (.aload_n 0, 1) := by decide +kernel
theorem dX6_befallTalk_29 : decode cX6_befallTalk 29 = .ok (.aload_n 0, 1) := by decide +kernel
theorem dX6_befallTalk_30 : decode cX6_befallTalk 30 = .ok (.getfield 19, 3) := by decide +kernel
theorem dX6_befallTalk_33 : decode cX6_befallTalk 33 = .ok (.getfield 105, 3) := by decide +kernel
theorem dX6_befallTalk_36 : decode cX6_befallTalk 36 = .ok (.invokevirtual 298, 3) := by decide +kernel
theorem dX6_befallTalk_39 : decode cX6_befallTalk 39 = .ok (.istore_n 2, 1) := by decide +kernel
theorem dX6_befallTalk_40 : decode cX6_befallTalk 40 = .ok (.aload_n 0, 1) := by decide +kernel
theorem dX6_befallTalk_41 : decode cX6_befallTalk 41 = .ok (.getfield 29, 3) := by decide +kernel
theorem dX6_befallTalk_44 : decode cX6_befallTalk 44 = .ok (.getfield 121, 3) := by decide +kernel
theorem dX6_befallTalk_47 : decode cX6_befallTalk 47 = .ok (.bipush 12, 2) := by decide +kernel
theorem dX6_befallTalk_49 : decode cX6_befallTalk 49 = .ok (.if_icmp .ge 16, 3) := by decide +kernel
theorem dX6_befallTalk_52 : decode cX6_befallTalk 52 = .ok (.aload_n 0, 1) := by decide +kernel
theorem dX6_befallTalk_53 : decode cX6_befallTalk 53 = .ok (.getfield 29, 3) := by decide +kernel
theorem dX6_befallTalk_56 : decode cX6_befallTalk 56 = .ok (.aload_n 0, 1) := by decide +kernel
theorem dX6_befallTalk_57 : decode cX6_befallTalk 57 = .ok (.getfield 19, 3) := by decide +kernel
theorem dX6_befallTalk_60 : decode cX6_befallTalk 60 = .ok (.iload_n 1, 1) := by decide +kernel
theorem dX6_befallTalk_61 : decode cX6_befallTalk 61 = .ok (.iload_n 2, 1) := by decide +kernel
theorem dX6_befallTalk_62 : decode cX6_befallTalk 62 = .ok (.invokevirtual 196, 3) := by decide +kernel
theorem dX6_befallTalk_65 : decode cX6_befallTalk 65 = .ok (.return_, 1) := by decide +kernel
theorem dX6_cell_0 : decode cX6_cell 0 = .ok (.iload_n 1, 1) := by decide +kernel
theorem dX6_cell_1 : decode cX6_cell 1 = .ok (.ifCond .lt 15, 3) := by decide +kernel
theorem dX6_cell_4 : decode cX6_cell 4 = .ok (.iload_n 1, 1) := by decide +kernel
theorem dX6_cell_5 : decode cX6_cell 5 = .ok (.aload_n 0, 1) := by decide +kernel
theorem dX6_cell_6 : decode cX6_cell 6 = .ok (.arraylength, 1) := by decide +kernel
theorem dX6_cell_7 : decode cX6_cell 7 = .ok (.if_icmp .ge 9, 3) := by decide +kernel
theorem dX6_cell_10 : decode cX6_cell 10 = .ok (.aload_n 0, 1) := by decide +kernel
theorem dX6_cell_11 : decode cX6_cell 11 = .ok (.iload_n 1, 1) := by decide +kernel
theorem dX6_cell_12 : decode cX6_cell 12 = .ok (.iaload, 1) := by decide +kernel
theorem dX6_cell_13 : decode cX6_cell 13 = .ok (.goto 4, 3) := by decide +kernel
theorem dX6_cell_16 : decode cX6_cell 16 = .ok (.iconst 0, 1) := by decide +kernel
theorem dX6_cell_17 : decode cX6_cell 17 = .ok (.ireturn, 1) := by decide +kernel
theorem dX6_put_0 : decode cX6_put 0 = .ok (.iload_n 1, 1) := by decide +kernel
theorem dX6_put_1 : decode cX6_put 1 = .ok (.ifCond .lt 13, 3) := by decide +kernel
theorem dX6_put_4 : decode cX6_put 4 = .ok (.iload_n 1, 1) := by decide +kernel
theorem dX6_put_5 : decode cX6_put 5 = .ok (.aload_n 0, 1) := by decide +kernel
theorem dX6_put_6 : decode cX6_put 6 = .ok (.arraylength, 1) := by decide +kernel
theorem dX6_put_7 : decode cX6_put 7 = .ok (.if_icmp .ge 7, 3) := by decide +kernel
theorem dX6_put_10 : decode cX6_put 10 = .ok (.aload_n 0, 1) := by decide +kernel
theorem dX6_put_11 : decode cX6_put 11 = .ok (.iload_n 1, 1) := by decide +kernel
theorem dX6_put_12 : decode cX6_put 12 = .ok (.iload_n 2, 1) := by decide +kernel
theorem dX6_put_13 : decode cX6_put 13 = .ok (.iastore, 1) := by decide +kernel
theorem dX6_put_14 : decode cX6_put 14 = .ok (.return_, 1) := by decide +kernel
theorem dX6_holds_0 : decode cX6_holds 0 = .ok (.iload_n 0, 1) := by decide +kernel
theorem dX6_holds_1 : decode cX6_holds 1 = .ok (.iload_n 1, 1) := by decide +kernel
theorem dX6_holds_2 : decode cX6_holds 2 = .ok (.ishr, 1) := by decide +kernel
theorem dX6_holds_3 : decode cX6_holds 3 = .ok (.iconst 1, 1) := by decide +kernel
theorem dX6_holds_4 : decode cX6_holds 4 = .ok (.iand, 1) := by decide +kernel
theorem dX6_holds_5 : decode cX6_holds 5 = .ok (.ifCond .eq 7, 3) := by decide +kernel
theorem dX6_holds_8 : decode cX6_holds 8 = .ok (.iconst 1, 1) := by decide +kernel
theorem dX6_holds_9 : decode cX6_holds 9 = .ok (.goto 4, 3) := by decide +kernel
theorem dX6_holds_12 : decode cX6_holds 12 = .ok (.iconst 0, 1) := by decide +kernel
theorem dX6_holds_13 : decode cX6_holds 13 = .ok (.ireturn, 1) := by decide +kernel
theorem dX6_garbledOnce_0 : decode cX6_garbledOnce 0 = .ok (.iload_n 0, 1) := by decide +kernel
theorem dX6_garbledOnce_1 : decode cX6_garbledOnce 1 = .ok (.tableswitch 73 1 4 #[31, 45, 56, 62], 31) := by decide +kernel
theorem dX6_garbledOnce_32 : decode cX6_garbledOnce 32 = .ok (.iload_n 2, 1) := by decide +kernel
theorem dX6_garbledOnce_33 : decode cX6_garbledOnce 33 = .ok (.ifCond .le 11, 3) := by decide +kernel
theorem dX6_garbledOnce_36 : decode cX6_garbledOnce 36 = .ok (.iload_n 3, 1) := by decide +kernel
theorem dX6_garbledOnce_37 : decode cX6_garbledOnce 37 = .ok (.iload_n 1, 1) := by decide +kernel
theorem dX6_garbledOnce_38 : decode cX6_garbledOnce 38 = .ok (.iadd, 1) := by decide +kernel
theorem dX6_garbledOnce_39 : decode cX6_garbledOnce 39 = .ok (.iload_n 2, 1) := by decide +kernel
theorem dX6_garbledOnce_40 : decode cX6_garbledOnce 40 = .ok (.irem, 1) := by decide +kernel
theorem dX6_garbledOnce_41 : decode cX6_garbledOnce 41 = .ok (.goto 4, 3) := by decide +kernel
theorem dX6_garbledOnce_44 : decode cX6_garbledOnce 44 = .ok (.iload_n 3, 1) := by decide +kernel
theorem dX6_garbledOnce_45 : decode cX6_garbledOnce 45 = .ok (.ireturn, 1) := by decide +kernel
theorem dX6_garbledOnce_46 : decode cX6_garbledOnce 46 = .ok (.iload_n 3, 1) := by decide +kernel
theorem dX6_garbledOnce_47 : decode cX6_garbledOnce 47 = .ok (.iload_n 1, 1) := by decide +kernel
theorem dX6_garbledOnce_48 : decode cX6_garbledOnce 48 = .ok (.if_icmp .le 7, 3) := by decide +kernel
theorem dX6_garbledOnce_51 : decode cX6_garbledOnce 51 = .ok (.iload_n 1, 1) := by decide +kernel
theorem dX6_garbledOnce_52 : decode cX6_garbledOnce 52 = .ok (.goto 4, 3) := by decide +kernel
theorem dX6_garbledOnce_55 : decode cX6_garbledOnce 55 = .ok (.iload_n 3, 1) := by decide +kernel
theorem dX6_garbledOnce_56 : decode cX6_garbledOnce 56 = .ok (.ireturn, 1) := by decide +kernel
theorem dX6_garbledOnce_57 : decode cX6_garbledOnce 57 = .ok (.iload_n 2, 1) := by decide +kernel
theorem dX6_garbledOnce_58 : decode cX6_garbledOnce 58 = .ok (.iconst 1, 1) := by decide +kernel
theorem dX6_garbledOnce_59 : decode cX6_garbledOnce 59 = .ok (.isub, 1) := by decide +kernel
theorem dX6_garbledOnce_60 : decode cX6_garbledOnce 60 = .ok (.iload_n 3, 1) := by decide +kernel
theorem dX6_garbledOnce_61 : decode cX6_garbledOnce 61 = .ok (.isub, 1) := by decide +kernel
theorem dX6_garbledOnce_62 : decode cX6_garbledOnce 62 = .ok (.ireturn, 1) := by decide +kernel
theorem dX6_garbledOnce_63 : decode cX6_garbledOnce 63 = .ok (.iload_n 3, 1) := by decide +kernel
theorem dX6_garbledOnce_64 : decode cX6_garbledOnce 64 = .ok (.iload_n 1, 1) := by decide +kernel
theorem dX6_garbledOnce_65 : decode cX6_garbledOnce 65 = .ok (.if_icmp .ge 7, 3) := by decide +kernel
theorem dX6_garbledOnce_68 : decode cX6_garbledOnce 68 = .ok (.iload_n 1, 1) := by decide +kernel
theorem dX6_garbledOnce_69 : decode cX6_garbledOnce 69 = .ok (.goto 4, 3) := by decide +kernel
theorem dX6_garbledOnce_72 : decode cX6_garbledOnce 72 = .ok (.iload_n 3, 1) := by decide +kernel
theorem dX6_garbledOnce_73 : decode cX6_garbledOnce 73 = .ok (.ireturn, 1) := by decide +kernel
theorem dX6_garbledOnce_74 : decode cX6_garbledOnce 74 = .ok (.iload_n 3, 1) := by decide +kernel
theorem dX6_garbledOnce_75 : decode cX6_garbledOnce 75 = .ok (.ireturn, 1) := by decide +kernel
theorem dJ6_bitCount_0f7a4_0 : decode cJ6_bitCount_0f7a4 0 = .ok (.iload_n 0, 1) := by decide +kernel
theorem dJ6_bitCount_0f7a4_1 : decode cJ6_bitCount_0f7a4 1 = .ok (.iload_n 0, 1) := by decide +kernel
theorem dJ6_bitCount_0f7a4_2 : decode cJ6_bitCount_0f7a4 2 = .ok (.iconst 1, 1) := by decide +kernel
theorem dJ6_bitCount_0f7a4_3 : decode cJ6_bitCount_0f7a4 3 = .ok (.iushr, 1) := by decide +kernel
theorem dJ6_bitCount_0f7a4_4 : decode cJ6_bitCount_0f7a4 4 = .ok (.ldc_w 265, 3) := by decide +kernel
theorem dJ6_bitCount_0f7a4_7 : decode cJ6_bitCount_0f7a4 7 = .ok (.iand, 1) := by decide +kernel
theorem dJ6_bitCount_0f7a4_8 : decode cJ6_bitCount_0f7a4 8 = .ok (.isub, 1) := by decide +kernel
theorem dJ6_bitCount_0f7a4_9 : decode cJ6_bitCount_0f7a4 9 = .ok (.istore_n 0, 1) := by decide +kernel
theorem dJ6_bitCount_0f7a4_10 : decode cJ6_bitCount_0f7a4 10 = .ok (.iload_n 0, 1) := by decide +kernel
theorem dJ6_bitCount_0f7a4_11 : decode cJ6_bitCount_0f7a4 11 = .ok (.ldc_w 266, 3) := by decide +kernel
theorem dJ6_bitCount_0f7a4_14 : decode cJ6_bitCount_0f7a4 14 = .ok (.iand, 1) := by decide +kernel
theorem dJ6_bitCount_0f7a4_15 : decode cJ6_bitCount_0f7a4 15 = .ok (.iload_n 0, 1) := by decide +kernel
theorem dJ6_bitCount_0f7a4_16 : decode cJ6_bitCount_0f7a4 16 = .ok (.iconst 2, 1) := by decide +kernel
theorem dJ6_bitCount_0f7a4_17 : decode cJ6_bitCount_0f7a4 17 = .ok (.iushr, 1) := by decide +kernel
theorem dJ6_bitCount_0f7a4_18 : decode cJ6_bitCount_0f7a4 18 = .ok (.ldc_w 266, 3) := by decide +kernel
theorem dJ6_bitCount_0f7a4_21 : decode cJ6_bitCount_0f7a4 21 = .ok (.iand, 1) := by decide +kernel
theorem dJ6_bitCount_0f7a4_22 : decode cJ6_bitCount_0f7a4 22 = .ok (.iadd, 1) := by decide +kernel
theorem dJ6_bitCount_0f7a4_23 : decode cJ6_bitCount_0f7a4 23 = .ok (.istore_n 0, 1) := by decide +kernel
theorem dJ6_bitCount_0f7a4_24 : decode cJ6_bitCount_0f7a4 24 = .ok (.iload_n 0, 1) := by decide +kernel
theorem dJ6_bitCount_0f7a4_25 : decode cJ6_bitCount_0f7a4 25 = .ok (.iload_n 0, 1) := by decide +kernel
theorem dJ6_bitCount_0f7a4_26 : decode cJ6_bitCount_0f7a4 26 = .ok (.iconst 4, 1) := by decide +kernel
theorem dJ6_bitCount_0f7a4_27 : decode cJ6_bitCount_0f7a4 27 = .ok (.iushr, 1) := by decide +kernel
theorem dJ6_bitCount_0f7a4_28 : decode cJ6_bitCount_0f7a4 28 = .ok (.iadd, 1) := by decide +kernel
theorem dJ6_bitCount_0f7a4_29 : decode cJ6_bitCount_0f7a4 29 = .ok (.ldc_w 267, 3) := by decide +kernel
theorem dJ6_bitCount_0f7a4_32 : decode cJ6_bitCount_0f7a4 32 = .ok (.iand, 1) := by decide +kernel
theorem dJ6_bitCount_0f7a4_33 : decode cJ6_bitCount_0f7a4 33 = .ok (.istore_n 0, 1) := by decide +kernel
theorem dJ6_bitCount_0f7a4_34 : decode cJ6_bitCount_0f7a4 34 = .ok (.iload_n 0, 1) := by decide +kernel
theorem dJ6_bitCount_0f7a4_35 : decode cJ6_bitCount_0f7a4 35 = .ok (.iload_n 0, 1) := by decide +kernel
theorem dJ6_bitCount_0f7a4_36 : decode cJ6_bitCount_0f7a4 36 = .ok (.bipush 8, 2) := by decide +kernel
theorem dJ6_bitCount_0f7a4_38 : decode cJ6_bitCount_0f7a4 38 = .ok (.iushr, 1) := by decide +kernel
theorem dJ6_bitCount_0f7a4_39 : decode cJ6_bitCount_0f7a4 39 = .ok (.iadd, 1) := by decide +kernel
theorem dJ6_bitCount_0f7a4_40 : decode cJ6_bitCount_0f7a4 40 = .ok (.istore_n 0, 1) := by decide +kernel
theorem dJ6_bitCount_0f7a4_41 : decode cJ6_bitCount_0f7a4 41 = .ok (.iload_n 0, 1) := by decide +kernel
theorem dJ6_bitCount_0f7a4_42 : decode cJ6_bitCount_0f7a4 42 = .ok (.iload_n 0, 1) := by decide +kernel
theorem dJ6_bitCount_0f7a4_43 : decode cJ6_bitCount_0f7a4 43 = .ok (.bipush 16, 2) := by decide +kernel
theorem dJ6_bitCount_0f7a4_45 : decode cJ6_bitCount_0f7a4 45 = .ok (.iushr, 1) := by decide +kernel
theorem dJ6_bitCount_0f7a4_46 : decode cJ6_bitCount_0f7a4 46 = .ok (.iadd, 1) := by decide +kernel
theorem dJ6_bitCount_0f7a4_47 : decode cJ6_bitCount_0f7a4 47 = .ok (.istore_n 0, 1) := by decide +kernel
theorem dJ6_bitCount_0f7a4_48 : decode cJ6_bitCount_0f7a4 48 = .ok (.iload_n 0, 1) := by decide +kernel
theorem dJ6_bitCount_0f7a4_49 : decode cJ6_bitCount_0f7a4 49 = .ok (.bipush 63, 2) := by decide +kernel
theorem dJ6_bitCount_0f7a4_51 : decode cJ6_bitCount_0f7a4 51 = .ok (.iand, 1) := by decide +kernel
theorem dJ6_bitCount_0f7a4_52 : decode cJ6_bitCount_0f7a4 52 = .ok (.ireturn, 1) := by decide +kernel
theorem dJ9_max_7cf53_0 : decode cJ9_max_7cf53 0 = .ok (.iload_n 0, 1) := by decide +kernel
theorem dJ9_max_7cf53_1 : decode cJ9_max_7cf53 1 = .ok (.iload_n 1, 1) := by decide +kernel
theorem dJ9_max_7cf53_2 : decode cJ9_max_7cf53 2 = .ok (.if_icmp .lt 7, 3) := by decide +kernel
theorem dJ9_max_7cf53_5 : decode cJ9_max_7cf53 5 = .ok (.iload_n 0, 1) := by decide +kernel
theorem dJ9_max_7cf53_6 : decode cJ9_max_7cf53 6 = .ok (.goto 4, 3) := by decide +kernel
theorem dJ9_max_7cf53_9 : decode cJ9_max_7cf53 9 = .ok (.iload_n 1, 1) := by decide +kernel
theorem dJ9_max_7cf53_10 : decode cJ9_max_7cf53 10 = .ok (.ireturn, 1) := by decide +kernel
theorem dJ9_min_7cf53_0 : decode cJ9_min_7cf53 0 = .ok (.iload_n 0, 1) := by decide +kernel
theorem dJ9_min_7cf53_1 : decode cJ9_min_7cf53 1 = .ok (.iload_n 1, 1) := by decide +kernel
theorem dJ9_min_7cf53_2 : decode cJ9_min_7cf53 2 = .ok (.if_icmp .gt 7, 3) := by decide +kernel
theorem dJ9_min_7cf53_5 : decode cJ9_min_7cf53 5 = .ok (.iload_n 0, 1) := by decide +kernel
theorem dJ9_min_7cf53_6 : decode cJ9_min_7cf53 6 = .ok (.goto 4, 3) := by decide +kernel
theorem dJ9_min_7cf53_9 : decode cJ9_min_7cf53 9 = .ok (.iload_n 1, 1) := by decide +kernel
theorem dJ9_min_7cf53_10 : decode cJ9_min_7cf53 10 = .ok (.ireturn, 1) := by decide +kernel
theorem dJ7_fill_53178_0 : decode cJ7_fill_53178 0 = .ok (.iconst 0, 1) := by decide +kernel
theorem dJ7_fill_53178_1 : decode cJ7_fill_53178 1 = .ok (.istore_n 2, 1) := by decide +kernel
theorem dJ7_fill_53178_2 : decode cJ7_fill_53178 2 = .ok (.aload_n 0, 1) := by decide +kernel
theorem dJ7_fill_53178_3 : decode cJ7_fill_53178 3 = .ok (.arraylength, 1) := by decide +kernel
theorem dJ7_fill_53178_4 : decode cJ7_fill_53178 4 = .ok (.istore_n 3, 1) := by decide +kernel
theorem dJ7_fill_53178_5 : decode cJ7_fill_53178 5 = .ok (.iload_n 2, 1) := by decide +kernel
theorem dJ7_fill_53178_6 : decode cJ7_fill_53178 6 = .ok (.iload_n 3, 1) := by decide +kernel
theorem dJ7_fill_53178_7 : decode cJ7_fill_53178 7 = .ok (.if_icmp .ge 13, 3) := by decide +kernel
theorem dJ7_fill_53178_10 : decode cJ7_fill_53178 10 = .ok (.aload_n 0, 1) := by decide +kernel
theorem dJ7_fill_53178_11 : decode cJ7_fill_53178 11 = .ok (.iload_n 2, 1) := by decide +kernel
theorem dJ7_fill_53178_12 : decode cJ7_fill_53178 12 = .ok (.iload_n 1, 1) := by decide +kernel
theorem dJ7_fill_53178_13 : decode cJ7_fill_53178 13 = .ok (.iastore, 1) := by decide +kernel
theorem dJ7_fill_53178_14 : decode cJ7_fill_53178 14 = .ok (.iinc 2 1, 3) := by decide +kernel
theorem dJ7_fill_53178_17 : decode cJ7_fill_53178 17 = .ok (.goto (-12), 3) := by decide +kernel
theorem dJ7_fill_53178_20 : decode cJ7_fill_53178 20 = .ok (.return_, 1) := by decide +kernel
