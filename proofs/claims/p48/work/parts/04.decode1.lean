theorem dX0_init_0 : decode cX0_init 0 = .ok (.aload_n 0, 1) := by decide +kernel
theorem dX0_init_1 : decode cX0_init 1 = .ok (.invokespecial 1, 3) := by decide +kernel
theorem dX0_init_4 : decode cX0_init 4 = .ok (.aload_n 0, 1) := by decide +kernel
theorem dX0_init_5 : decode cX0_init 5 = .ok (.sipush 400, 3) := by decide +kernel
theorem dX0_init_8 : decode cX0_init 8 = .ok (.putfield 7, 3) := by decide +kernel
theorem dX0_init_11 : decode cX0_init 11 = .ok (.aload_n 0, 1) := by decide +kernel
theorem dX0_init_12 : decode cX0_init 12 = .ok (.bipush 40, 2) := by decide +kernel
theorem dX0_init_14 : decode cX0_init 14 = .ok (.putfield 13, 3) := by decide +kernel
theorem dX0_init_17 : decode cX0_init 17 = .ok (.aload_n 0, 1) := by decide +kernel
theorem dX0_init_18 : decode cX0_init 18 = .ok (.sipush 400, 3) := by decide +kernel
theorem dX0_init_21 : decode cX0_init 21 = .ok (.putfield 16, 3) := by decide +kernel
theorem dX0_init_24 : decode cX0_init 24 = .ok (.return_, 1) := by decide +kernel
theorem dX0_renew_0 : decode cX0_renew 0 = .ok (.aload_n 0, 1) := by decide +kernel
theorem dX0_renew_1 : decode cX0_renew 1 = .ok (.iload_n 1, 1) := by decide +kernel
theorem dX0_renew_2 : decode cX0_renew 2 = .ok (.putfield 7, 3) := by decide +kernel
theorem dX0_renew_5 : decode cX0_renew 5 = .ok (.aload_n 0, 1) := by decide +kernel
theorem dX0_renew_6 : decode cX0_renew 6 = .ok (.iload_n 1, 1) := by decide +kernel
theorem dX0_renew_7 : decode cX0_renew 7 = .ok (.bipush 10, 2) := by decide +kernel
theorem dX0_renew_9 : decode cX0_renew 9 = .ok (.idiv, 1) := by decide +kernel
theorem dX0_renew_10 : decode cX0_renew 10 = .ok (.putfield 13, 3) := by decide +kernel
theorem dX0_renew_13 : decode cX0_renew 13 = .ok (.aload_n 0, 1) := by decide +kernel
theorem dX0_renew_14 : decode cX0_renew 14 = .ok (.iload_n 2, 1) := by decide +kernel
theorem dX0_renew_15 : decode cX0_renew 15 = .ok (.putfield 19, 3) := by decide +kernel
theorem dX0_renew_18 : decode cX0_renew 18 = .ok (.aload_n 0, 1) := by decide +kernel
theorem dX0_renew_19 : decode cX0_renew 19 = .ok (.iconst 0, 1) := by decide +kernel
theorem dX0_renew_20 : decode cX0_renew 20 = .ok (.putfield 23, 3) := by decide +kernel
theorem dX0_renew_23 : decode cX0_renew 23 = .ok (.aload_n 0, 1) := by decide +kernel
theorem dX0_renew_24 : decode cX0_renew 24 = .ok (.iload_n 1, 1) := by decide +kernel
theorem dX0_renew_25 : decode cX0_renew 25 = .ok (.putfield 16, 3) := by decide +kernel
theorem dX0_renew_28 : decode cX0_renew 28 = .ok (.return_, 1) := by decide +kernel
theorem dX0_copyFrom_0 : decode cX0_copyFrom 0 = .ok (.aload_n 0, 1) := by decide +kernel
theorem dX0_copyFrom_1 : decode cX0_copyFrom 1 = .ok (.aload_n 1, 1) := by decide +kernel
theorem dX0_copyFrom_2 : decode cX0_copyFrom 2 = .ok (.getfield 7, 3) := by decide +kernel
theorem dX0_copyFrom_5 : decode cX0_copyFrom 5 = .ok (.putfield 7, 3) := by decide +kernel
theorem dX0_copyFrom_8 : decode cX0_copyFrom 8 = .ok (.aload_n 0, 1) := by decide +kernel
theorem dX0_copyFrom_9 : decode cX0_copyFrom 9 = .ok (.aload_n 1, 1) := by decide +kernel
theorem dX0_copyFrom_10 : decode cX0_copyFrom 10 = .ok (.getfield 13, 3) := by decide +kernel
theorem dX0_copyFrom_13 : decode cX0_copyFrom 13 = .ok (.putfield 13, 3) := by decide +kernel
theorem dX0_copyFrom_16 : decode cX0_copyFrom 16 = .ok (.aload_n 0, 1) := by decide +kernel
theorem dX0_copyFrom_17 : decode cX0_copyFrom 17 = .ok (.aload_n 1, 1) := by decide +kernel
theorem dX0_copyFrom_18 : decode cX0_copyFrom 18 = .ok (.getfield 19, 3) := by decide +kernel
theorem dX0_copyFrom_21 : decode cX0_copyFrom 21 = .ok (.putfield 19, 3) := by decide +kernel
theorem dX0_copyFrom_24 : decode cX0_copyFrom 24 = .ok (.aload_n 0, 1) := by decide +kernel
theorem dX0_copyFrom_25 : decode cX0_copyFrom 25 = .ok (.aload_n 1, 1) := by decide +kernel
theorem dX0_copyFrom_26 : decode cX0_copyFrom 26 = .ok (.getfield 23, 3) := by decide +kernel
theorem dX0_copyFrom_29 : decode cX0_copyFrom 29 = .ok (.putfield 23, 3) := by decide +kernel
theorem dX0_copyFrom_32 : decode cX0_copyFrom 32 = .ok (.aload_n 0, 1) := by decide +kernel
theorem dX0_copyFrom_33 : decode cX0_copyFrom 33 = .ok (.aload_n 1, 1) := by decide +kernel
theorem dX0_copyFrom_34 : decode cX0_copyFrom 34 = .ok (.getfield 16, 3) := by decide +kernel
theorem dX0_copyFrom_37 : decode cX0_copyFrom 37 = .ok (.putfield 16, 3) := by decide +kernel
theorem dX0_copyFrom_40 : decode cX0_copyFrom 40 = .ok (.return_, 1) := by decide +kernel
theorem dX0_head_0 : decode cX0_head 0 = .ok (.aload_n 0, 1) := by decide +kernel
theorem dX0_head_1 : decode cX0_head 1 = .ok (.getfield 7, 3) := by decide +kernel
theorem dX0_head_4 : decode cX0_head 4 = .ok (.aload_n 0, 1) := by decide +kernel
theorem dX0_head_5 : decode cX0_head 5 = .ok (.getfield 23, 3) := by decide +kernel
theorem dX0_head_8 : decode cX0_head 8 = .ok (.isub, 1) := by decide +kernel
theorem dX0_head_9 : decode cX0_head 9 = .ok (.istore_n 1, 1) := by decide +kernel
theorem dX0_head_10 : decode cX0_head 10 = .ok (.iload_n 1, 1) := by decide +kernel
theorem dX0_head_11 : decode cX0_head 11 = .ok (.iconst 1, 1) := by decide +kernel
theorem dX0_head_12 : decode cX0_head 12 = .ok (.if_icmp .ge 7, 3) := by decide +kernel
theorem dX0_head_15 : decode cX0_head 15 = .ok (.iconst 0, 1) := by decide +kernel
theorem dX0_head_16 : decode cX0_head 16 = .ok (.goto 19, 3) := by decide +kernel
theorem dX0_head_19 : decode cX0_head 19 = .ok (.bipush 100, 2) := by decide +kernel
theorem dX0_head_21 : decode cX0_head 21 = .ok (.aload_n 0, 1) := by decide +kernel
theorem dX0_head_22 : decode cX0_head 22 = .ok (.getfield 16, 3) := by decide +kernel
theorem dX0_head_25 : decode cX0_head 25 = .ok (.imul, 1) := by decide +kernel
theorem dX0_head_26 : decode cX0_head 26 = .ok (.iload_n 1, 1) := by decide +kernel
theorem dX0_head_27 : decode cX0_head 27 = .ok (.idiv, 1) := by decide +kernel
theorem dX0_head_28 : decode cX0_head 28 = .ok (.bipush 100, 2) := by decide +kernel
theorem dX0_head_30 : decode cX0_head 30 = .ok (.isub, 1) := by decide +kernel
theorem dX0_head_31 : decode cX0_head 31 = .ok (.iconst 0, 1) := by decide +kernel
theorem dX0_head_32 : decode cX0_head 32 = .ok (.invokestatic 26, 3) := by decide +kernel
theorem dX0_head_35 : decode cX0_head 35 = .ok (.ireturn, 1) := by decide +kernel
theorem dX0_take_0 : decode cX0_take 0 = .ok (.iload_n 1, 1) := by decide +kernel
theorem dX0_take_1 : decode cX0_take 1 = .ok (.aload_n 0, 1) := by decide +kernel
theorem dX0_take_2 : decode cX0_take 2 = .ok (.getfield 7, 3) := by decide +kernel
theorem dX0_take_5 : decode cX0_take 5 = .ok (.aload_n 0, 1) := by decide +kernel
theorem dX0_take_6 : decode cX0_take 6 = .ok (.getfield 13, 3) := by decide +kernel
theorem dX0_take_9 : decode cX0_take 9 = .ok (.isub, 1) := by decide +kernel
theorem dX0_take_10 : decode cX0_take 10 = .ok (.aload_n 0, 1) := by decide +kernel
theorem dX0_take_11 : decode cX0_take 11 = .ok (.getfield 23, 3) := by decide +kernel
theorem dX0_take_14 : decode cX0_take 14 = .ok (.isub, 1) := by decide +kernel
theorem dX0_take_15 : decode cX0_take 15 = .ok (.invokestatic 32, 3) := by decide +kernel
theorem dX0_take_18 : decode cX0_take 18 = .ok (.istore_n 2, 1) := by decide +kernel
theorem dX0_take_19 : decode cX0_take 19 = .ok (.aload_n 0, 1) := by decide +kernel
theorem dX0_take_20 : decode cX0_take 20 = .ok (.dup, 1) := by decide +kernel
theorem dX0_take_21 : decode cX0_take 21 = .ok (.getfield 23, 3) := by decide +kernel
theorem dX0_take_24 : decode cX0_take 24 = .ok (.iload_n 2, 1) := by decide +kernel
theorem dX0_take_25 : decode cX0_take 25 = .ok (.iadd, 1) := by decide +kernel
theorem dX0_take_26 : decode cX0_take 26 = .ok (.putfield 23, 3) := by decide +kernel
theorem dX0_take_29 : decode cX0_take 29 = .ok (.iload_n 2, 1) := by decide +kernel
theorem dX0_take_30 : decode cX0_take 30 = .ok (.ireturn, 1) := by decide +kernel
theorem dX0_changeAir_0 : decode cX0_changeAir 0 = .ok (.aload_n 0, 1) := by decide +kernel
theorem dX0_changeAir_1 : decode cX0_changeAir 1 = .ok (.getfield 19, 3) := by decide +kernel
theorem dX0_changeAir_4 : decode cX0_changeAir 4 = .ok (.ifCond .eq 23, 3) := by decide +kernel
theorem dX0_changeAir_7 : decode cX0_changeAir 7 = .ok (.aload_n 0, 1) := by decide +kernel
theorem dX0_changeAir_8 : decode cX0_changeAir 8 = .ok (.aload_n 0, 1) := by decide +kernel
theorem dX0_changeAir_9 : decode cX0_changeAir 9 = .ok (.getfield 16, 3) := by decide +kernel
theorem dX0_changeAir_12 : decode cX0_changeAir 12 = .ok (.iconst 2, 1) := by decide +kernel
theorem dX0_changeAir_13 : decode cX0_changeAir 13 = .ok (.iadd, 1) := by decide +kernel
theorem dX0_changeAir_14 : decode cX0_changeAir 14 = .ok (.aload_n 0, 1) := by decide +kernel
theorem dX0_changeAir_15 : decode cX0_changeAir 15 = .ok (.getfield 7, 3) := by decide +kernel
theorem dX0_changeAir_18 : decode cX0_changeAir 18 = .ok (.invokestatic 32, 3) := by decide +kernel
theorem dX0_changeAir_21 : decode cX0_changeAir 21 = .ok (.putfield 16, 3) := by decide +kernel
theorem dX0_changeAir_24 : decode cX0_changeAir 24 = .ok (.goto 20, 3) := by decide +kernel
theorem dX0_changeAir_27 : decode cX0_changeAir 27 = .ok (.aload_n 0, 1) := by decide +kernel
theorem dX0_changeAir_28 : decode cX0_changeAir 28 = .ok (.aload_n 0, 1) := by decide +kernel
theorem dX0_changeAir_29 : decode cX0_changeAir 29 = .ok (.getfield 16, 3) := by decide +kernel
theorem dX0_changeAir_32 : decode cX0_changeAir 32 = .ok (.iconst 1, 1) := by decide +kernel
theorem dX0_changeAir_33 : decode cX0_changeAir 33 = .ok (.isub, 1) := by decide +kernel
theorem dX0_changeAir_34 : decode cX0_changeAir 34 = .ok (.aload_n 0, 1) := by decide +kernel
theorem dX0_changeAir_35 : decode cX0_changeAir 35 = .ok (.getfield 13, 3) := by decide +kernel
theorem dX0_changeAir_38 : decode cX0_changeAir 38 = .ok (.invokestatic 26, 3) := by decide +kernel
theorem dX0_changeAir_41 : decode cX0_changeAir 41 = .ok (.putfield 16, 3) := by decide +kernel
theorem dX0_changeAir_44 : decode cX0_changeAir 44 = .ok (.return_, 1) := by decide +kernel
theorem dX1_init_0 : decode cX1_init 0 = .ok (.aload_n 0, 1) := by decide +kernel
theorem dX1_init_1 : decode cX1_init 1 = .ok (.invokespecial 3, 3) := by decide +kernel
theorem dX1_init_4 : decode cX1_init 4 = .ok (.aload_n 0, 1) := by decide +kernel
theorem dX1_init_5 : decode cX1_init 5 = .ok (.bipush 40, 2) := by decide +kernel
theorem dX1_init_7 : decode cX1_init 7 = .ok (.newarray .char, 2) := by decide +kernel
theorem dX1_init_9 : decode cX1_init 9 = .ok (.putfield 9, 3) := by decide +kernel
theorem dX1_init_12 : decode cX1_init 12 = .ok (.return_, 1) := by decide +kernel
theorem dX2_init_0 : decode cX2_init 0 = .ok (.aload_n 0, 1) := by decide +kernel
theorem dX2_init_1 : decode cX2_init 1 = .ok (.invokespecial 1, 3) := by decide +kernel
theorem dX2_init_4 : decode cX2_init 4 = .ok (.return_, 1) := by decide +kernel
theorem dX2_copyFrom_0 : decode cX2_copyFrom 0 = .ok (.aload_n 0, 1) := by decide +kernel
theorem dX2_copyFrom_1 : decode cX2_copyFrom 1 = .ok (.aload_n 1, 1) := by decide +kernel
theorem dX2_copyFrom_2 : decode cX2_copyFrom 2 = .ok (.getfield 7, 3) := by decide +kernel
theorem dX2_copyFrom_5 : decode cX2_copyFrom 5 = .ok (.putfield 7, 3) := by decide +kernel
theorem dX2_copyFrom_8 : decode cX2_copyFrom 8 = .ok (.aload_n 0, 1) := by decide +kernel
theorem dX2_copyFrom_9 : decode cX2_copyFrom 9 = .ok (.aload_n 1, 1) := by decide +kernel
theorem dX2_copyFrom_10 : decode cX2_copyFrom 10 = .ok (.getfield 13, 3) := by decide +kernel
theorem dX2_copyFrom_13 : decode cX2_copyFrom 13 = .ok (.putfield 13, 3) := by decide +kernel
theorem dX2_copyFrom_16 : decode cX2_copyFrom 16 = .ok (.aload_n 0, 1) := by decide +kernel
theorem dX2_copyFrom_17 : decode cX2_copyFrom 17 = .ok (.aload_n 1, 1) := by decide +kernel
theorem dX2_copyFrom_18 : decode cX2_copyFrom 18 = .ok (.getfield 16, 3) := by decide +kernel
theorem dX2_copyFrom_21 : decode cX2_copyFrom 21 = .ok (.putfield 16, 3) := by decide +kernel
theorem dX2_copyFrom_24 : decode cX2_copyFrom 24 = .ok (.aload_n 0, 1) := by decide +kernel
theorem dX2_copyFrom_25 : decode cX2_copyFrom 25 = .ok (.aload_n 1, 1) := by decide +kernel
theorem dX2_copyFrom_26 : decode cX2_copyFrom 26 = .ok (.getfield 19, 3) := by decide +kernel
theorem dX2_copyFrom_29 : decode cX2_copyFrom 29 = .ok (.putfield 19, 3) := by decide +kernel
theorem dX2_copyFrom_32 : decode cX2_copyFrom 32 = .ok (.aload_n 0, 1) := by decide +kernel
theorem dX2_copyFrom_33 : decode cX2_copyFrom 33 = .ok (.aload_n 1, 1) := by decide +kernel
theorem dX2_copyFrom_34 : decode cX2_copyFrom 34 = .ok (.getfield 22, 3) := by decide +kernel
theorem dX2_copyFrom_37 : decode cX2_copyFrom 37 = .ok (.putfield 22, 3) := by decide +kernel
theorem dX2_copyFrom_40 : decode cX2_copyFrom 40 = .ok (.aload_n 0, 1) := by decide +kernel
theorem dX2_copyFrom_41 : decode cX2_copyFrom 41 = .ok (.aload_n 1, 1) := by decide +kernel
theorem dX2_copyFrom_42 : decode cX2_copyFrom 42 = .ok (.getfield 25, 3) := by decide +kernel
theorem dX2_copyFrom_45 : decode cX2_copyFrom 45 = .ok (.putfield 25, 3) := by decide +kernel
theorem dX2_copyFrom_48 : decode cX2_copyFrom 48 = .ok (.return_, 1) := by decide +kernel
theorem dX3_init_0 : decode cX3_init 0 = .ok (.aload_n 0, 1) := by decide +kernel
theorem dX3_init_1 : decode cX3_init 1 = .ok (.invokespecial 3, 3) := by decide +kernel
theorem dX3_init_4 : decode cX3_init 4 = .ok (.aload_n 0, 1) := by decide +kernel
theorem dX3_init_5 : decode cX3_init 5 = .ok (.new 9, 3) := by decide +kernel
theorem dX3_init_8 : decode cX3_init 8 = .ok (.dup, 1) := by decide +kernel
theorem dX3_init_9 : decode cX3_init 9 = .ok (.bipush 20, 2) := by decide +kernel
theorem dX3_init_11 : decode cX3_init 11 = .ok (.invokespecial 11, 3) := by decide +kernel
theorem dX3_init_14 : decode cX3_init 14 = .ok (.putfield 14, 3) := by decide +kernel
theorem dX3_init_17 : decode cX3_init 17 = .ok (.aload_n 0, 1) := by decide +kernel
theorem dX3_init_18 : decode cX3_init 18 = .ok (.new 9, 3) := by decide +kernel
theorem dX3_init_21 : decode cX3_init 21 = .ok (.dup, 1) := by decide +kernel
theorem dX3_init_22 : decode cX3_init 22 = .ok (.bipush 20, 2) := by decide +kernel
theorem dX3_init_24 : decode cX3_init 24 = .ok (.invokespecial 11, 3) := by decide +kernel
theorem dX3_init_27 : decode cX3_init 27 = .ok (.putfield 20, 3) := by decide +kernel
theorem dX3_init_30 : decode cX3_init 30 = .ok (.aload_n 0, 1) := by decide +kernel
theorem dX3_init_31 : decode cX3_init 31 = .ok (.new 9, 3) := by decide +kernel
theorem dX3_init_34 : decode cX3_init 34 = .ok (.dup, 1) := by decide +kernel
theorem dX3_init_35 : decode cX3_init 35 = .ok (.bipush 20, 2) := by decide +kernel
theorem dX3_init_37 : decode cX3_init 37 = .ok (.invokespecial 11, 3) := by decide +kernel
theorem dX3_init_40 : decode cX3_init 40 = .ok (.putfield 23, 3) := by decide +kernel
theorem dX3_init_43 : decode cX3_init 43 = .ok (.return_, 1) := by decide +kernel
theorem dX3_add_0 : decode cX3_add 0 = .ok (.aload_n 0, 1) := by decide +kernel
theorem dX3_add_1 : decode cX3_add 1 = .ok (.dup, 1) := by decide +kernel
theorem dX3_add_2 : decode cX3_add 2 = .ok (.getfield 26, 3) := by decide +kernel
theorem dX3_add_5 : decode cX3_add 5 = .ok (.iconst 1, 1) := by decide +kernel
theorem dX3_add_6 : decode cX3_add 6 = .ok (.iadd, 1) := by decide +kernel
theorem dX3_add_7 : decode cX3_add 7 = .ok (.putfield 26, 3) := by decide +kernel
theorem dX3_add_10 : decode cX3_add 10 = .ok (.aload_n 0, 1) := by decide +kernel
theorem dX3_add_11 : decode cX3_add 11 = .ok (.getfield 14, 3) := by decide +kernel
theorem dX3_add_14 : decode cX3_add 14 = .ok (.iload_n 1, 1) := by decide +kernel
theorem dX3_add_15 : decode cX3_add 15 = .ok (.invokevirtual 30, 3) := by decide +kernel
theorem dX3_add_18 : decode cX3_add 18 = .ok (.aload_n 0, 1) := by decide +kernel
theorem dX3_add_19 : decode cX3_add 19 = .ok (.getfield 20, 3) := by decide +kernel
theorem dX3_add_22 : decode cX3_add 22 = .ok (.iload_n 2, 1) := by decide +kernel
theorem dX3_add_23 : decode cX3_add 23 = .ok (.invokevirtual 30, 3) := by decide +kernel
theorem dX3_add_26 : decode cX3_add 26 = .ok (.aload_n 0, 1) := by decide +kernel
theorem dX3_add_27 : decode cX3_add 27 = .ok (.getfield 23, 3) := by decide +kernel
theorem dX3_add_30 : decode cX3_add 30 = .ok (.iload_n 3, 1) := by decide +kernel
theorem dX3_add_31 : decode cX3_add 31 = .ok (.invokevirtual 30, 3) := by decide +kernel
theorem dX3_add_34 : decode cX3_add 34 = .ok (.return_, 1) := by decide +kernel
theorem dX4_init_0 : decode cX4_init 0 = .ok (.aload_n 0, 1) := by decide +kernel
theorem dX4_init_1 : decode cX4_init 1 = .ok (.invokespecial 3, 3) := by decide +kernel
theorem dX4_init_4 : decode cX4_init 4 = .ok (.aload_n 0, 1) := by decide +kernel
theorem dX4_init_5 : decode cX4_init 5 = .ok (.bipush 60, 2) := by decide +kernel
theorem dX4_init_7 : decode cX4_init 7 = .ok (.putfield 9, 3) := by decide +kernel
theorem dX4_init_10 : decode cX4_init 10 = .ok (.aload_n 0, 1) := by decide +kernel
theorem dX4_init_11 : decode cX4_init 11 = .ok (.new 15, 3) := by decide +kernel
theorem dX4_init_14 : decode cX4_init 14 = .ok (.dup, 1) := by decide +kernel
theorem dX4_init_15 : decode cX4_init 15 = .ok (.invokespecial 17, 3) := by decide +kernel
theorem dX4_init_18 : decode cX4_init 18 = .ok (.putfield 18, 3) := by decide +kernel
theorem dX4_init_21 : decode cX4_init 21 = .ok (.aload_n 0, 1) := by decide +kernel
theorem dX4_init_22 : decode cX4_init 22 = .ok (.new 22, 3) := by decide +kernel
theorem dX4_init_25 : decode cX4_init 25 = .ok (.dup, 1) := by decide +kernel
theorem dX4_init_26 : decode cX4_init 26 = .ok (.invokespecial 24, 3) := by decide +kernel
theorem dX4_init_29 : decode cX4_init 29 = .ok (.putfield 25, 3) := by decide +kernel
theorem dX4_init_32 : decode cX4_init 32 = .ok (.aload_n 0, 1) := by decide +kernel
theorem dX4_init_33 : decode cX4_init 33 = .ok (.new 29, 3) := by decide +kernel
theorem dX4_init_36 : decode cX4_init 36 = .ok (.dup, 1) := by decide +kernel
theorem dX4_init_37 : decode cX4_init 37 = .ok (.bipush 16, 2) := by decide +kernel
theorem dX4_init_39 : decode cX4_init 39 = .ok (.invokespecial 31, 3) := by decide +kernel
theorem dX4_init_42 : decode cX4_init 42 = .ok (.putfield 34, 3) := by decide +kernel
theorem dX4_init_45 : decode cX4_init 45 = .ok (.aload_n 0, 1) := by decide +kernel
theorem dX4_init_46 : decode cX4_init 46 = .ok (.new 29, 3) := by decide +kernel
theorem dX4_init_49 : decode cX4_init 49 = .ok (.dup, 1) := by decide +kernel
theorem dX4_init_50 : decode cX4_init 50 = .ok (.bipush 32, 2) := by decide +kernel
theorem dX4_init_52 : decode cX4_init 52 = .ok (.invokespecial 31, 3) := by decide +kernel
theorem dX4_init_55 : decode cX4_init 55 = .ok (.putfield 38, 3) := by decide +kernel
theorem dX4_init_58 : decode cX4_init 58 = .ok (.aload_n 0, 1) := by decide +kernel
theorem dX4_init_59 : decode cX4_init 59 = .ok (.iload_n 1, 1) := by decide +kernel
theorem dX4_init_60 : decode cX4_init 60 = .ok (.putfield 41, 3) := by decide +kernel
theorem dX4_init_63 : decode cX4_init 63 = .ok (.aload_n 0, 1) := by decide +kernel
theorem dX4_init_64 : decode cX4_init 64 = .ok (.iload_n 2, 1) := by decide +kernel
theorem dX4_init_65 : decode cX4_init 65 = .ok (.putfield 44, 3) := by decide +kernel
theorem dX4_init_68 : decode cX4_init 68 = .ok (.aload_n 0, 1) := by decide +kernel
theorem dX4_init_69 : decode cX4_init 69 = .ok (.iload_n 3, 1) := by decide +kernel
theorem dX4_init_70 : decode cX4_init 70 = .ok (.putfield 47, 3) := by decide +kernel
theorem dX4_init_73 : decode cX4_init 73 = .ok (.aload_n 0, 1) := by decide +kernel
theorem dX4_init_74 : decode cX4_init 74 = .ok (.iload 4, 2) := by decide +kernel
theorem dX4_init_76 : decode cX4_init 76 = .ok (.putfield 50, 3) := by decide +kernel
theorem dX4_init_79 : decode cX4_init 79 = .ok (.aload_n 0, 1) := by decide +kernel
theorem dX4_init_80 : decode cX4_init 80 = .ok (.iload 5, 2) := by decide +kernel
theorem dX4_init_82 : decode cX4_init 82 = .ok (.putfield 53, 3) := by decide +kernel
theorem dX4_init_85 : decode cX4_init 85 = .ok (.return_, 1) := by decide +kernel
theorem dX4_copyFrom_0 : decode cX4_copyFrom 0 = .ok (.aload_n 0, 1) := by decide +kernel
theorem dX4_copyFrom_1 : decode cX4_copyFrom 1 = .ok (.aload_n 1, 1) := by decide +kernel
theorem dX4_copyFrom_2 : decode cX4_copyFrom 2 = .ok (.getfield 41, 3) := by decide +kernel
theorem dX4_copyFrom_5 : decode cX4_copyFrom 5 = .ok (.putfield 41, 3) := by decide +kernel
theorem dX4_copyFrom_8 : decode cX4_copyFrom 8 = .ok (.aload_n 0, 1) := by decide +kernel
theorem dX4_copyFrom_9 : decode cX4_copyFrom 9 = .ok (.aload_n 1, 1) := by decide +kernel
theorem dX4_copyFrom_10 : decode cX4_copyFrom 10 = .ok (.getfield 44, 3) := by decide +kernel
theorem dX4_copyFrom_13 : decode cX4_copyFrom 13 = .ok (.putfield 44, 3) := by decide +kernel
theorem dX4_copyFrom_16 : decode cX4_copyFrom 16 = .ok (.aload_n 0, 1) := by decide +kernel
theorem dX4_copyFrom_17 : decode cX4_copyFrom 17 = .ok (.aload_n 1, 1) := by decide +kernel
theorem dX4_copyFrom_18 : decode cX4_copyFrom 18 = .ok (.getfield 47, 3) := by decide +kernel
theorem dX4_copyFrom_21 : decode cX4_copyFrom 21 = .ok (.putfield 47, 3) := by decide +kernel
theorem dX4_copyFrom_24 : decode cX4_copyFrom 24 = .ok (.aload_n 0, 1) := by decide +kernel
theorem dX4_copyFrom_25 : decode cX4_copyFrom 25 = .ok (.aload_n 1, 1) := by decide +kernel
theorem dX4_copyFrom_26 : decode cX4_copyFrom 26 = .ok (.getfield 50, 3) := by decide +kernel
theorem dX4_copyFrom_29 : decode cX4_copyFrom 29 = .ok (.putfield 50, 3) := by decide +kernel
theorem dX4_copyFrom_32 : decode cX4_copyFrom 32 = .ok (.aload_n 0, 1) := by decide +kernel
theorem dX4_copyFrom_33 : decode cX4_copyFrom 33 = .ok (.aload_n 1, 1) := by decide +kernel
theorem dX4_copyFrom_34 : decode cX4_copyFrom 34 = .ok (.getfield 53, 3) := by decide +kernel
theorem dX4_copyFrom_37 : decode cX4_copyFrom 37 = .ok (.putfield 53, 3) := by decide +kernel
theorem dX4_copyFrom_40 : decode cX4_copyFrom 40 = .ok (.aload_n 0, 1) := by decide +kernel
theorem dX4_copyFrom_41 : decode cX4_copyFrom 41 = .ok (.aload_n 1, 1) := by decide +kernel
theorem dX4_copyFrom_42 : decode cX4_copyFrom 42 = .ok (.getfield 56, 3) := by decide +kernel
theorem dX4_copyFrom_45 : decode cX4_copyFrom 45 = .ok (.putfield 56, 3) := by decide +kernel
theorem dX4_copyFrom_48 : decode cX4_copyFrom 48 = .ok (.aload_n 0, 1) := by decide +kernel
theorem dX4_copyFrom_49 : decode cX4_copyFrom 49 = .ok (.aload_n 1, 1) := by decide +kernel
theorem dX4_copyFrom_50 : decode cX4_copyFrom 50 = .ok (.getfield 60, 3) := by decide +kernel
theorem dX4_copyFrom_53 : decode cX4_copyFrom 53 = .ok (.putfield 60, 3) := by decide +kernel
theorem dX4_copyFrom_56 : decode cX4_copyFrom 56 = .ok (.aload_n 0, 1) := by decide +kernel
theorem dX4_copyFrom_57 : decode cX4_copyFrom 57 = .ok (.aload_n 1, 1) := by decide +kernel
theorem dX4_copyFrom_58 : decode cX4_copyFrom 58 = .ok (.getfield 63, 3) := by decide +kernel
theorem dX4_copyFrom_61 : decode cX4_copyFrom 61 = .ok (.putfield 63, 3) := by decide +kernel
theorem dX4_copyFrom_64 : decode cX4_copyFrom 64 = .ok (.aload_n 0, 1) := by decide +kernel
theorem dX4_copyFrom_65 : decode cX4_copyFrom 65 = .ok (.aload_n 1, 1) := by decide +kernel
theorem dX4_copyFrom_66 : decode cX4_copyFrom 66 = .ok (.getfield 66, 3) := by decide +kernel
theorem dX4_copyFrom_69 : decode cX4_copyFrom 69 = .ok (.putfield 66, 3) := by decide +kernel
theorem dX4_copyFrom_72 : decode cX4_copyFrom 72 = .ok (.aload_n 0, 1) := by decide +kernel
theorem dX4_copyFrom_73 : decode cX4_copyFrom 73 = .ok (.aload_n 1, 1) := by decide +kernel
theorem dX4_copyFrom_74 : decode cX4_copyFrom 74 = .ok (.getfield 69, 3) := by decide +kernel
theorem dX4_copyFrom_77 : decode cX4_copyFrom 77 = .ok (.putfield 69, 3) := by decide +kernel
theorem dX4_copyFrom_80 : decode cX4_copyFrom 80 = .ok (.aload_n 0, 1) := by decide +kernel
theorem dX4_copyFrom_81 : decode cX4_copyFrom 81 = .ok (.aload_n 1, 1) := by decide +kernel
theorem dX4_copyFrom_82 : decode cX4_copyFrom 82 = .ok (.getfield 9, 3) := by decide +kernel
theorem dX4_copyFrom_85 : decode cX4_copyFrom 85 = .ok (.putfield 9, 3) := by decide +kernel
theorem dX4_copyFrom_88 : decode cX4_copyFrom 88 = .ok (.aload_n 0, 1) := by decide +kernel
theorem dX4_copyFrom_89 : decode cX4_copyFrom 89 = .ok (.aload_n 1, 1) := by decide +kernel
theorem dX4_copyFrom_90 : decode cX4_copyFrom 90 = .ok (.getfield 72, 3) := by decide +kernel
theorem dX4_copyFrom_93 : decode cX4_copyFrom 93 = .ok (.putfield 72, 3) := by decide +kernel
theorem dX4_copyFrom_96 : decode cX4_copyFrom 96 = .ok (.aload_n 0, 1) := by decide +kernel
theorem dX4_copyFrom_97 : decode cX4_copyFrom 97 = .ok (.aload_n 1, 1) := by decide +kernel
theorem dX4_copyFrom_98 : decode cX4_copyFrom 98 = .ok (.getfield 75, 3) := by decide +kernel
theorem dX4_copyFrom_101 : decode cX4_copyFrom 101 = .ok (.putfield 75, 3) := by decide +kernel
theorem dX4_copyFrom_104 : decode cX4_copyFrom 104 = .ok (.aload_n 0, 1) := by decide +kernel
theorem dX4_copyFrom_105 : decode cX4_copyFrom 105 = .ok (.getfield 18, 3) := by decide +kernel
theorem dX4_copyFrom_108 : decode cX4_copyFrom 108 = .ok (.aload_n 1, 1) := by decide +kernel
theorem dX4_copyFrom_109 : decode cX4_copyFrom 109 = .ok (.getfield 18, 3) := by decide +kernel
theorem dX4_copyFrom_112 : decode cX4_copyFrom 112 = .ok (.invokevirtual 78, 3) := by decide +kernel
theorem dX4_copyFrom_115 : decode cX4_copyFrom 115 = .ok (.aload_n 0, 1) := by decide +kernel
theorem dX4_copyFrom_116 : decode cX4_copyFrom 116 = .ok (.getfield 25, 3) := by decide +kernel
theorem dX4_copyFrom_119 : decode cX4_copyFrom 119 = .ok (.aload_n 1, 1) := by decide +kernel
theorem dX4_copyFrom_120 : decode cX4_copyFrom 120 = .ok (.getfield 25, 3) := by decide +kernel
theorem dX4_copyFrom_123 : decode cX4_copyFrom 123 = .ok (.invokevirtual 82, 3) := by decide +kernel
theorem dX4_copyFrom_126 : decode cX4_copyFrom 126 = .ok (.aload_n 0, 1) := by decide +kernel
theorem dX4_copyFrom_127 : decode cX4_copyFrom 127 = .ok (.getfield 34, 3) := by decide +kernel
theorem dX4_copyFrom_130 : decode cX4_copyFrom 130 = .ok (.aload_n 1, 1) := by decide +kernel
theorem dX4_copyFrom_131 : decode cX4_copyFrom 131 = .ok (.getfield 34, 3) := by decide +kernel
theorem dX4_copyFrom_134 : decode cX4_copyFrom 134 = .ok (.invokevirtual 85, 3) := by decide +kernel
theorem dX4_copyFrom_137 : decode cX4_copyFrom 137 = .ok (.aload_n 0, 1) := by decide +kernel
theorem dX4_copyFrom_138 : decode cX4_copyFrom 138 = .ok (.getfield 38, 3) := by decide +kernel
theorem dX4_copyFrom_141 : decode cX4_copyFrom 141 = .ok (.aload_n 1, 1) := by decide +kernel
theorem dX4_copyFrom_142 : decode cX4_copyFrom 142 = .ok (.getfield 38, 3) := by decide +kernel
theorem dX4_copyFrom_145 : decode cX4_copyFrom 145 = .ok (.invokevirtual 85, 3) := by decide +kernel
theorem dX4_copyFrom_148 : decode cX4_copyFrom 148 = .ok (.return_, 1) := by decide +kernel
theorem dX4_rest_0 : decode cX4_rest 0 = .ok (.aload_n 0, 1) := by decide +kernel
theorem dX4_rest_1 : decode cX4_rest 1 = .ok (.iconst 0, 1) := by decide +kernel
theorem dX4_rest_2 : decode cX4_rest 2 = .ok (.putfield 60, 3) := by decide +kernel
theorem dX4_rest_5 : decode cX4_rest 5 = .ok (.aload_n 0, 1) := by decide +kernel
theorem dX4_rest_6 : decode cX4_rest 6 = .ok (.iconst 0, 1) := by decide +kernel
theorem dX4_rest_7 : decode cX4_rest 7 = .ok (.putfield 63, 3) := by decide +kernel
theorem dX4_rest_10 : decode cX4_rest 10 = .ok (.aload_n 0, 1) := by decide +kernel
theorem dX4_rest_11 : decode cX4_rest 11 = .ok (.iconst 0, 1) := by decide +kernel
theorem dX4_rest_12 : decode cX4_rest 12 = .ok (.putfield 66, 3) := by decide +kernel
theorem dX4_rest_15 : decode cX4_rest 15 = .ok (.return_, 1) := by decide +kernel
theorem dX4_tick_0 : decode cX4_tick 0 = .ok (.aload_n 3, 1) := by decide +kernel
theorem dX4_tick_1 : decode cX4_tick 1 = .ok (.invokevirtual 88, 3) := by decide +kernel
theorem dX4_tick_4 : decode cX4_tick 4 = .ok (.aload_n 0, 1) := by decide +kernel
theorem dX4_tick_5 : decode cX4_tick 5 = .ok (.getfield 47, 3) := by decide +kernel
theorem dX4_tick_8 : decode cX4_tick 8 = .ok (.aload_n 0, 1) := by decide +kernel
theorem dX4_tick_9 : decode cX4_tick 9 = .ok (.getfield 60, 3) := by decide +kernel
theorem dX4_tick_12 : decode cX4_tick 12 = .ok (.imul, 1) := by decide +kernel
theorem dX4_tick_13 : decode cX4_tick 13 = .ok (.bipush 10, 2) := by decide +kernel
theorem dX4_tick_15 : decode cX4_tick 15 = .ok (.idiv, 1) := by decide +kernel
theorem dX4_tick_16 : decode cX4_tick 16 = .ok (.istore 4, 2) := by decide +kernel
theorem dX4_tick_18 : decode cX4_tick 18 = .ok (.iload 4, 2) := by decide +kernel
theorem dX4_tick_20 : decode cX4_tick 20 = .ok (.iload_n 1, 1) := by decide +kernel
theorem dX4_tick_21 : decode cX4_tick 21 = .ok (.if_icmp .le 28, 3) := by decide +kernel
theorem dX4_tick_24 : decode cX4_tick 24 = .ok (.aload_n 0, 1) := by decide +kernel
theorem dX4_tick_25 : decode cX4_tick 25 = .ok (.invokevirtual 93, 3) := by decide +kernel
theorem dX4_tick_28 : decode cX4_tick 28 = .ok (.aload_n 0, 1) := by decide +kernel
theorem dX4_tick_29 : decode cX4_tick 29 = .ok (.getfield 25, 3) := by decide +kernel
theorem dX4_tick_32 : decode cX4_tick 32 = .ok (.dup, 1) := by decide +kernel
theorem dX4_tick_33 : decode cX4_tick 33 = .ok (.getfield 96, 3) := by decide +kernel
theorem dX4_tick_36 : decode cX4_tick 36 = .ok (.iconst 1, 1) := by decide +kernel
theorem dX4_tick_37 : decode cX4_tick 37 = .ok (.iadd, 1) := by decide +kernel
theorem dX4_tick_38 : decode cX4_tick 38 = .ok (.putfield 96, 3) := by decide +kernel
theorem dX4_tick_41 : decode cX4_tick 41 = .ok (.aload_n 3, 1) := by decide +kernel
theorem dX4_tick_42 : decode cX4_tick 42 = .ok (.iconst 1, 1) := by decide +kernel
theorem dX4_tick_43 : decode cX4_tick 43 = .ok (.putfield 99, 3) := by decide +kernel
theorem dX4_tick_46 : decode cX4_tick 46 = .ok (.goto 45, 3) := by decide +kernel
theorem dX4_tick_49 : decode cX4_tick 49 = .ok (.aload_n 3, 1) := by decide +kernel
theorem dX4_tick_50 : decode cX4_tick 50 = .ok (.iload 4, 2) := by decide +kernel
theorem dX4_tick_52 : decode cX4_tick 52 = .ok (.putfield 102, 3) := by decide +kernel
theorem dX4_tick_55 : decode cX4_tick 55 = .ok (.aload_n 0, 1) := by decide +kernel
theorem dX4_tick_56 : decode cX4_tick 56 = .ok (.getfield 63, 3) := by decide +kernel
theorem dX4_tick_59 : decode cX4_tick 59 = .ok (.ifCond .eq 13, 3) := by decide +kernel
theorem dX4_tick_62 : decode cX4_tick 62 = .ok (.aload_n 0, 1) := by decide +kernel
theorem dX4_tick_63 : decode cX4_tick 63 = .ok (.iload 4, 2) := by decide +kernel
theorem dX4_tick_65 : decode cX4_tick 65 = .ok (.aload_n 3, 1) := by decide +kernel
theorem dX4_tick_66 : decode cX4_tick 66 = .ok (.invokevirtual 105, 3) := by decide +kernel
theorem dX4_tick_69 : decode cX4_tick 69 = .ok (.goto 22, 3) := by decide +kernel
theorem dX4_tick_72 : decode cX4_tick 72 = .ok (.aload_n 0, 1) := by decide +kernel
theorem dX4_tick_73 : decode cX4_tick 73 = .ok (.iload 4, 2) := by decide +kernel
theorem dX4_tick_75 : decode cX4_tick 75 = .ok (.invokevirtual 109, 3) := by decide +kernel
theorem dX4_tick_78 : decode cX4_tick 78 = .ok (.aload_n 0, 1) := by decide +kernel
theorem dX4_tick_79 : decode cX4_tick 79 = .ok (.invokevirtual 112, 3) := by decide +kernel
theorem dX4_tick_82 : decode cX4_tick 82 = .ok (.ifCond .eq 9, 3) := by decide +kernel
theorem dX4_tick_85 : decode cX4_tick 85 = .ok (.aload_n 0, 1) := by decide +kernel
theorem dX4_tick_86 : decode cX4_tick 86 = .ok (.iload_n 2, 1) := by decide +kernel
theorem dX4_tick_87 : decode cX4_tick 87 = .ok (.aload_n 3, 1) := by decide +kernel
theorem dX4_tick_88 : decode cX4_tick 88 = .ok (.invokevirtual 116, 3) := by decide +kernel
theorem dX4_tick_91 : decode cX4_tick 91 = .ok (.aload_n 0, 1) := by decide +kernel
theorem dX4_tick_92 : decode cX4_tick 92 = .ok (.aload_n 3, 1) := by decide +kernel
theorem dX4_tick_93 : decode cX4_tick 93 = .ok (.invokevirtual 119, 3) := by decide +kernel
theorem dX4_tick_96 : decode cX4_tick 96 = .ok (.aload_n 0, 1) := by decide +kernel
theorem dX4_tick_97 : decode cX4_tick 97 = .ok (.getfield 38, 3) := by decide +kernel
theorem dX4_tick_100 : decode cX4_tick 100 = .ok (.aload_n 0, 1) := by decide +kernel
theorem dX4_tick_101 : decode cX4_tick 101 = .ok (.getfield 60, 3) := by decide +kernel
theorem dX4_tick_104 : decode cX4_tick 104 = .ok (.i2b, 1) := by decide +kernel
theorem dX4_tick_105 : decode cX4_tick 105 = .ok (.invokevirtual 123, 3) := by decide +kernel
theorem dX4_tick_108 : decode cX4_tick 108 = .ok (.return_, 1) := by decide +kernel
theorem dX4_gainSpeed_0 : decode cX4_gainSpeed 0 = .ok (.aload_n 0, 1) := by decide +kernel
theorem dX4_gainSpeed_1 : decode cX4_gainSpeed 1 = .ok (.getfield 25, 3) := by decide +kernel
theorem dX4_gainSpeed_4 : decode cX4_gainSpeed 4 = .ok (.dup, 1) := by decide +kernel
theorem dX4_gainSpeed_5 : decode cX4_gainSpeed 5 = .ok (.getfield 126, 3) := by decide +kernel
theorem dX4_gainSpeed_8 : decode cX4_gainSpeed 8 = .ok (.iload_n 1, 1) := by decide +kernel
theorem dX4_gainSpeed_9 : decode cX4_gainSpeed 9 = .ok (.iadd, 1) := by decide +kernel
theorem dX4_gainSpeed_10 : decode cX4_gainSpeed 10 = .ok (.putfield 126, 3) := by decide +kernel
theorem dX4_gainSpeed_13 : decode cX4_gainSpeed 13 = .ok (.aload_n 0, 1) := by decide +kernel
theorem dX4_gainSpeed_14 : decode cX4_gainSpeed 14 = .ok (.getfield 60, 3) := by decide +kernel
theorem dX4_gainSpeed_17 : decode cX4_gainSpeed 17 = .ok (.aload_n 0, 1) := by decide +kernel
theorem dX4_gainSpeed_18 : decode cX4_gainSpeed 18 = .ok (.aload_n 0, 1) := by decide +kernel
theorem dX4_gainSpeed_19 : decode cX4_gainSpeed 19 = .ok (.getfield 41, 3) := by decide +kernel
theorem dX4_gainSpeed_22 : decode cX4_gainSpeed 22 = .ok (.invokevirtual 129, 3) := by decide +kernel
theorem dX4_gainSpeed_25 : decode cX4_gainSpeed 25 = .ok (.iadd, 1) := by decide +kernel
theorem dX4_gainSpeed_26 : decode cX4_gainSpeed 26 = .ok (.aload_n 0, 1) := by decide +kernel
theorem dX4_gainSpeed_27 : decode cX4_gainSpeed 27 = .ok (.getfield 50, 3) := by decide +kernel
theorem dX4_gainSpeed_30 : decode cX4_gainSpeed 30 = .ok (.aload_n 0, 1) := by decide +kernel
theorem dX4_gainSpeed_31 : decode cX4_gainSpeed 31 = .ok (.getfield 60, 3) := by decide +kernel
theorem dX4_gainSpeed_34 : decode cX4_gainSpeed 34 = .ok (.imul, 1) := by decide +kernel
theorem dX4_gainSpeed_35 : decode cX4_gainSpeed 35 = .ok (.aload_n 0, 1) := by decide +kernel
theorem dX4_gainSpeed_36 : decode cX4_gainSpeed 36 = .ok (.getfield 60, 3) := by decide +kernel
theorem dX4_gainSpeed_39 : decode cX4_gainSpeed 39 = .ok (.imul, 1) := by decide +kernel
theorem dX4_gainSpeed_40 : decode cX4_gainSpeed 40 = .ok (.ldc 133, 2) := by decide +kernel
theorem dX4_gainSpeed_42 : decode cX4_gainSpeed 42 = .ok (.idiv, 1) := by decide +kernel
theorem dX4_gainSpeed_43 : decode cX4_gainSpeed 43 = .ok (.isub, 1) := by decide +kernel
theorem dX4_gainSpeed_44 : decode cX4_gainSpeed 44 = .ok (.istore_n 2, 1) := by decide +kernel
theorem dX4_gainSpeed_45 : decode cX4_gainSpeed 45 = .ok (.aload_n 0, 1) := by decide +kernel
theorem dX4_gainSpeed_46 : decode cX4_gainSpeed 46 = .ok (.iload_n 2, 1) := by decide +kernel
theorem dX4_gainSpeed_47 : decode cX4_gainSpeed 47 = .ok (.iconst 0, 1) := by decide +kernel
theorem dX4_gainSpeed_48 : decode cX4_gainSpeed 48 = .ok (.invokestatic 134, 3) := by decide +kernel
theorem dX4_gainSpeed_51 : decode cX4_gainSpeed 51 = .ok (.sipush 2000, 3) := by decide +kernel
theorem dX4_gainSpeed_54 : decode cX4_gainSpeed 54 = .ok (.invokestatic 140, 3) := by decide +kernel
theorem dX4_gainSpeed_57 : decode cX4_gainSpeed 57 = .ok (.putfield 60, 3) := by decide +kernel
theorem dX4_gainSpeed_60 : decode cX4_gainSpeed 60 = .ok (.aload_n 0, 1) := by decide +kernel
theorem dX4_gainSpeed_61 : decode cX4_gainSpeed 61 = .ok (.dup, 1) := by decide +kernel
theorem dX4_gainSpeed_62 : decode cX4_gainSpeed 62 = .ok (.getfield 66, 3) := by decide +kernel
theorem dX4_gainSpeed_65 : decode cX4_gainSpeed 65 = .ok (.iconst 1, 1) := by decide +kernel
theorem dX4_gainSpeed_66 : decode cX4_gainSpeed 66 = .ok (.iadd, 1) := by decide +kernel
theorem dX4_gainSpeed_67 : decode cX4_gainSpeed 67 = .ok (.putfield 66, 3) := by decide +kernel
theorem dX4_gainSpeed_70 : decode cX4_gainSpeed 70 = .ok (.return_, 1) := by decide +kernel
theorem dX4_speedFrom_0 : decode cX4_speedFrom 0 = .ok (.aload_n 0, 1) := by decide +kernel
theorem dX4_speedFrom_1 : decode cX4_speedFrom 1 = .ok (.getfield 44, 3) := by decide +kernel
theorem dX4_speedFrom_4 : decode cX4_speedFrom 4 = .ok (.iconst 1, 1) := by decide +kernel
theorem dX4_speedFrom_5 : decode cX4_speedFrom 5 = .ok (.if_icmp .ge 7, 3) := by decide +kernel
theorem dX4_speedFrom_8 : decode cX4_speedFrom 8 = .ok (.iconst 0, 1) := by decide +kernel
theorem dX4_speedFrom_9 : decode cX4_speedFrom 9 = .ok (.goto 12, 3) := by decide +kernel
theorem dX4_speedFrom_12 : decode cX4_speedFrom 12 = .ok (.bipush 100, 2) := by decide +kernel
theorem dX4_speedFrom_14 : decode cX4_speedFrom 14 = .ok (.iload_n 1, 1) := by decide +kernel
theorem dX4_speedFrom_15 : decode cX4_speedFrom 15 = .ok (.imul, 1) := by decide +kernel
theorem dX4_speedFrom_16 : decode cX4_speedFrom 16 = .ok (.aload_n 0, 1) := by decide +kernel
theorem dX4_speedFrom_17 : decode cX4_speedFrom 17 = .ok (.getfield 44, 3) := by decide +kernel
theorem dX4_speedFrom_20 : decode cX4_speedFrom 20 = .ok (.idiv, 1) := by decide +kernel
theorem dX4_speedFrom_21 : decode cX4_speedFrom 21 = .ok (.ireturn, 1) := by decide +kernel
theorem dX4_slamRuleHolds_0 : decode cX4_slamRuleHolds 0 = .ok (.aload_n 0, 1) := by decide +kernel
theorem dX4_slamRuleHolds_1 : decode cX4_slamRuleHolds 1 = .ok (.getfield 69, 3) := by decide +kernel
theorem dX4_slamRuleHolds_4 : decode cX4_slamRuleHolds 4 = .ok (.ifCond .ne 20, 3) := by decide +kernel
theorem dX4_slamRuleHolds_7 : decode cX4_slamRuleHolds 7 = .ok (.aload_n 0, 1) := by decide +kernel
theorem dX4_slamRuleHolds_8 : decode cX4_slamRuleHolds 8 = .ok (.getfield 60, 3) := by decide +kernel
theorem dX4_slamRuleHolds_11 : decode cX4_slamRuleHolds 11 = .ok (.aload_n 0, 1) := by decide +kernel
theorem dX4_slamRuleHolds_12 : decode cX4_slamRuleHolds 12 = .ok (.getfield 9, 3) := by decide +kernel
theorem dX4_slamRuleHolds_15 : decode cX4_slamRuleHolds 15 = .ok (.if_icmp .lt 7, 3) := by decide +kernel
theorem dX4_slamRuleHolds_18 : decode cX4_slamRuleHolds 18 = .ok (.iconst 1, 1) := by decide +kernel
theorem dX4_slamRuleHolds_19 : decode cX4_slamRuleHolds 19 = .ok (.goto 4, 3) := by decide +kernel
theorem dX4_slamRuleHolds_22 : decode cX4_slamRuleHolds 22 = .ok (.iconst 0, 1) := by decide +kernel
theorem dX4_slamRuleHolds_23 : decode cX4_slamRuleHolds 23 = .ok (.ireturn, 1) := by decide +kernel
theorem dX4_slamRuleHolds_24 : decode cX4_slamRuleHolds 24 = .ok (.aload_n 0, 1) := by decide +kernel
theorem dX4_slamRuleHolds_25 : decode cX4_slamRuleHolds 25 = .ok (.getfield 69, 3) := by decide +kernel
theorem dX4_slamRuleHolds_28 : decode cX4_slamRuleHolds 28 = .ok (.iconst 1, 1) := by decide +kernel
theorem dX4_slamRuleHolds_29 : decode cX4_slamRuleHolds 29 = .ok (.if_icmp .ne 28, 3) := by decide +kernel
theorem dX4_slamRuleHolds_32 : decode cX4_slamRuleHolds 32 = .ok (.aload_n 0, 1) := by decide +kernel
theorem dX4_slamRuleHolds_33 : decode cX4_slamRuleHolds 33 = .ok (.getfield 60, 3) := by decide +kernel
theorem dX4_slamRuleHolds_36 : decode cX4_slamRuleHolds 36 = .ok (.aload_n 0, 1) := by decide +kernel
theorem dX4_slamRuleHolds_37 : decode cX4_slamRuleHolds 37 = .ok (.getfield 60, 3) := by decide +kernel
theorem dX4_slamRuleHolds_40 : decode cX4_slamRuleHolds 40 = .ok (.imul, 1) := by decide +kernel
theorem dX4_slamRuleHolds_41 : decode cX4_slamRuleHolds 41 = .ok (.bipush 100, 2) := by decide +kernel
theorem dX4_slamRuleHolds_43 : decode cX4_slamRuleHolds 43 = .ok (.idiv, 1) := by decide +kernel
theorem dX4_slamRuleHolds_44 : decode cX4_slamRuleHolds 44 = .ok (.aload_n 0, 1) := by decide +kernel
theorem dX4_slamRuleHolds_45 : decode cX4_slamRuleHolds 45 = .ok (.getfield 9, 3) := by decide +kernel
theorem dX4_slamRuleHolds_48 : decode cX4_slamRuleHolds 48 = .ok (.if_icmp .lt 7, 3) := by decide +kernel
theorem dX4_slamRuleHolds_51 : decode cX4_slamRuleHolds 51 = .ok (.iconst 1, 1) := by decide +kernel
theorem dX4_slamRuleHolds_52 : decode cX4_slamRuleHolds 52 = .ok (.goto 4, 3) := by decide +kernel
theorem dX4_slamRuleHolds_55 : decode cX4_slamRuleHolds 55 = .ok (.iconst 0, 1) := by decide +kernel
theorem dX4_slamRuleHolds_56 : decode cX4_slamRuleHolds 56 = .ok (.ireturn, 1) := by decide +kernel
theorem dX4_slamRuleHolds_57 : decode cX4_slamRuleHolds 57 = .ok (.aload_n 0, 1) := by decide +kernel
theorem dX4_slamRuleHolds_58 : decode cX4_slamRuleHolds 58 = .ok (.getfield 66, 3) := by decide +kernel
theorem dX4_slamRuleHolds_61 : decode cX4_slamRuleHolds 61 = .ok (.aload_n 0, 1) := by decide +kernel
theorem dX4_slamRuleHolds_62 : decode cX4_slamRuleHolds 62 = .ok (.getfield 9, 3) := by decide +kernel
theorem dX4_slamRuleHolds_65 : decode cX4_slamRuleHolds 65 = .ok (.if_icmp .lt 7, 3) := by decide +kernel
theorem dX4_slamRuleHolds_68 : decode cX4_slamRuleHolds 68 = .ok (.iconst 1, 1) := by decide +kernel
theorem dX4_slamRuleHolds_69 : decode cX4_slamRuleHolds 69 = .ok (.goto 4, 3) := by decide +kernel
theorem dX4_slamRuleHolds_72 : decode cX4_slamRuleHolds 72 = .ok (.iconst 0, 1) := by decide +kernel
theorem dX4_slamRuleHolds_73 : decode cX4_slamRuleHolds 73 = .ok (.ireturn, 1) := by decide +kernel
theorem dX4_slam_0 : decode cX4_slam 0 = .ok (.aload_n 0, 1) := by decide +kernel
theorem dX4_slam_1 : decode cX4_slam 1 = .ok (.iconst 1, 1) := by decide +kernel
theorem dX4_slam_2 : decode cX4_slam 2 = .ok (.putfield 63, 3) := by decide +kernel
theorem dX4_slam_5 : decode cX4_slam 5 = .ok (.aload_n 2, 1) := by decide +kernel
theorem dX4_slam_6 : decode cX4_slam 6 = .ok (.iconst 1, 1) := by decide +kernel
theorem dX4_slam_7 : decode cX4_slam 7 = .ok (.putfield 143, 3) := by decide +kernel
theorem dX4_slam_10 : decode cX4_slam 10 = .ok (.aload_n 0, 1) := by decide +kernel
theorem dX4_slam_11 : decode cX4_slam 11 = .ok (.getfield 25, 3) := by decide +kernel
theorem dX4_slam_14 : decode cX4_slam 14 = .ok (.dup, 1) := by decide +kernel
theorem dX4_slam_15 : decode cX4_slam 15 = .ok (.getfield 146, 3) := by decide +kernel
theorem dX4_slam_18 : decode cX4_slam 18 = .ok (.iconst 1, 1) := by decide +kernel
theorem dX4_slam_19 : decode cX4_slam 19 = .ok (.iadd, 1) := by decide +kernel
theorem dX4_slam_20 : decode cX4_slam 20 = .ok (.putfield 146, 3) := by decide +kernel
theorem dX4_slam_23 : decode cX4_slam 23 = .ok (.aload_n 0, 1) := by decide +kernel
theorem dX4_slam_24 : decode cX4_slam 24 = .ok (.getfield 34, 3) := by decide +kernel
theorem dX4_slam_27 : decode cX4_slam 27 = .ok (.iload_n 1, 1) := by decide +kernel
theorem dX4_slam_28 : decode cX4_slam 28 = .ok (.aload_n 0, 1) := by decide +kernel
theorem dX4_slam_29 : decode cX4_slam 29 = .ok (.getfield 75, 3) := by decide +kernel
theorem dX4_slam_32 : decode cX4_slam 32 = .ok (.isub, 1) := by decide +kernel
theorem dX4_slam_33 : decode cX4_slam 33 = .ok (.invokevirtual 123, 3) := by decide +kernel
theorem dX4_slam_36 : decode cX4_slam 36 = .ok (.aload_n 0, 1) := by decide +kernel
theorem dX4_slam_37 : decode cX4_slam 37 = .ok (.iload_n 1, 1) := by decide +kernel
theorem dX4_slam_38 : decode cX4_slam 38 = .ok (.putfield 75, 3) := by decide +kernel
theorem dX4_slam_41 : decode cX4_slam 41 = .ok (.aload_n 0, 1) := by decide +kernel
theorem dX4_slam_42 : decode cX4_slam 42 = .ok (.getfield 18, 3) := by decide +kernel
theorem dX4_slam_45 : decode cX4_slam 45 = .ok (.getfield 149, 3) := by decide +kernel
theorem dX4_slam_48 : decode cX4_slam 48 = .ok (.istore_n 3, 1) := by decide +kernel
theorem dX4_slam_49 : decode cX4_slam 49 = .ok (.aload_n 0, 1) := by decide +kernel
theorem dX4_slam_50 : decode cX4_slam 50 = .ok (.getfield 18, 3) := by decide +kernel
theorem dX4_slam_53 : decode cX4_slam 53 = .ok (.invokevirtual 152, 3) := by decide +kernel
theorem dX4_slam_56 : decode cX4_slam 56 = .ok (.aload_n 0, 1) := by decide +kernel
theorem dX4_slam_57 : decode cX4_slam 57 = .ok (.getfield 18, 3) := by decide +kernel
theorem dX4_slam_60 : decode cX4_slam 60 = .ok (.getfield 149, 3) := by decide +kernel
theorem dX4_slam_63 : decode cX4_slam 63 = .ok (.aload_n 0, 1) := by decide +kernel
theorem dX4_slam_64 : decode cX4_slam 64 = .ok (.getfield 18, 3) := by decide +kernel
theorem dX4_slam_67 : decode cX4_slam 67 = .ok (.getfield 155, 3) := by decide +kernel
theorem dX4_slam_70 : decode cX4_slam 70 = .ok (.if_icmp .ne 19, 3) := by decide +kernel
theorem dX4_slam_73 : decode cX4_slam 73 = .ok (.iload_n 3, 1) := by decide +kernel
theorem dX4_slam_74 : decode cX4_slam 74 = .ok (.aload_n 0, 1) := by decide +kernel
theorem dX4_slam_75 : decode cX4_slam 75 = .ok (.getfield 18, 3) := by decide +kernel
theorem dX4_slam_78 : decode cX4_slam 78 = .ok (.getfield 155, 3) := by decide +kernel
theorem dX4_slam_81 : decode cX4_slam 81 = .ok (.if_icmp .le 8, 3) := by decide +kernel
theorem dX4_slam_84 : decode cX4_slam 84 = .ok (.aload_n 2, 1) := by decide +kernel
theorem dX4_slam_85 : decode cX4_slam 85 = .ok (.iconst 4, 1) := by decide +kernel
theorem dX4_slam_86 : decode cX4_slam 86 = .ok (.putfield 99, 3) := by decide +kernel
theorem dX4_slam_89 : decode cX4_slam 89 = .ok (.return_, 1) := by decide +kernel
theorem dX4_pushIntoChamber_0 : decode cX4_pushIntoChamber 0 = .ok (.iload_n 1, 1) := by decide +kernel
theorem dX4_pushIntoChamber_1 : decode cX4_pushIntoChamber 1 = .ok (.aload_n 0, 1) := by decide +kernel
theorem dX4_pushIntoChamber_2 : decode cX4_pushIntoChamber 2 = .ok (.getfield 18, 3) := by decide +kernel
theorem dX4_pushIntoChamber_5 : decode cX4_pushIntoChamber 5 = .ok (.iload_n 1, 1) := by decide +kernel
theorem dX4_pushIntoChamber_6 : decode cX4_pushIntoChamber 6 = .ok (.invokevirtual 158, 3) := by decide +kernel
theorem dX4_pushIntoChamber_9 : decode cX4_pushIntoChamber 9 = .ok (.isub, 1) := by decide +kernel
theorem dX4_pushIntoChamber_10 : decode cX4_pushIntoChamber 10 = .ok (.istore_n 3, 1) := by decide +kernel
theorem dX4_pushIntoChamber_11 : decode cX4_pushIntoChamber 11 = .ok (.iload_n 3, 1) := by decide +kernel
theorem dX4_pushIntoChamber_12 : decode cX4_pushIntoChamber 12 = .ok (.ifCond .le 21, 3) := by decide +kernel
theorem dX4_pushIntoChamber_15 : decode cX4_pushIntoChamber 15 = .ok (.aload_n 0, 1) := by decide +kernel
theorem dX4_pushIntoChamber_16 : decode cX4_pushIntoChamber 16 = .ok (.getfield 25, 3) := by decide +kernel
theorem dX4_pushIntoChamber_19 : decode cX4_pushIntoChamber 19 = .ok (.dup, 1) := by decide +kernel
theorem dX4_pushIntoChamber_20 : decode cX4_pushIntoChamber 20 = .ok (.getfield 161, 3) := by decide +kernel
theorem dX4_pushIntoChamber_23 : decode cX4_pushIntoChamber 23 = .ok (.iload_n 3, 1) := by decide +kernel
theorem dX4_pushIntoChamber_24 : decode cX4_pushIntoChamber 24 = .ok (.iadd, 1) := by decide +kernel
theorem dX4_pushIntoChamber_25 : decode cX4_pushIntoChamber 25 = .ok (.putfield 161, 3) := by decide +kernel
theorem dX4_pushIntoChamber_28 : decode cX4_pushIntoChamber 28 = .ok (.aload_n 2, 1) := by decide +kernel
theorem dX4_pushIntoChamber_29 : decode cX4_pushIntoChamber 29 = .ok (.iconst 2, 1) := by decide +kernel
theorem dX4_pushIntoChamber_30 : decode cX4_pushIntoChamber 30 = .ok (.putfield 99, 3) := by decide +kernel
theorem dX4_pushIntoChamber_33 : decode cX4_pushIntoChamber 33 = .ok (.aload_n 0, 1) := by decide +kernel
theorem dX4_pushIntoChamber_34 : decode cX4_pushIntoChamber 34 = .ok (.getfield 60, 3) := by decide +kernel
theorem dX4_pushIntoChamber_37 : decode cX4_pushIntoChamber 37 = .ok (.iconst 1, 1) := by decide +kernel
theorem dX4_pushIntoChamber_38 : decode cX4_pushIntoChamber 38 = .ok (.isub, 1) := by decide +kernel
theorem dX4_pushIntoChamber_39 : decode cX4_pushIntoChamber 39 = .ok (.aload_n 0, 1) := by decide +kernel
theorem dX4_pushIntoChamber_40 : decode cX4_pushIntoChamber 40 = .ok (.aload_n 0, 1) := by decide +kernel
theorem dX4_pushIntoChamber_41 : decode cX4_pushIntoChamber 41 = .ok (.getfield 18, 3) := by decide +kernel
theorem dX4_pushIntoChamber_44 : decode cX4_pushIntoChamber 44 = .ok (.invokevirtual 164, 3) := by decide +kernel
theorem dX4_pushIntoChamber_47 : decode cX4_pushIntoChamber 47 = .ok (.aload_n 0, 1) := by decide +kernel
theorem dX4_pushIntoChamber_48 : decode cX4_pushIntoChamber 48 = .ok (.getfield 41, 3) := by decide +kernel
theorem dX4_pushIntoChamber_51 : decode cX4_pushIntoChamber 51 = .ok (.isub, 1) := by decide +kernel
theorem dX4_pushIntoChamber_52 : decode cX4_pushIntoChamber 52 = .ok (.iconst 0, 1) := by decide +kernel
theorem dX4_pushIntoChamber_53 : decode cX4_pushIntoChamber 53 = .ok (.invokestatic 134, 3) := by decide +kernel
theorem dX4_pushIntoChamber_56 : decode cX4_pushIntoChamber 56 = .ok (.invokevirtual 129, 3) := by decide +kernel
theorem dX4_pushIntoChamber_59 : decode cX4_pushIntoChamber 59 = .ok (.isub, 1) := by decide +kernel
theorem dX4_pushIntoChamber_60 : decode cX4_pushIntoChamber 60 = .ok (.istore 4, 2) := by decide +kernel
theorem dX4_pushIntoChamber_62 : decode cX4_pushIntoChamber 62 = .ok (.iload 4, 2) := by decide +kernel
theorem dX4_pushIntoChamber_64 : decode cX4_pushIntoChamber 64 = .ok (.iconst 1, 1) := by decide +kernel
theorem dX4_pushIntoChamber_65 : decode cX4_pushIntoChamber 65 = .ok (.if_icmp .ge 10, 3) := by decide +kernel
theorem dX4_pushIntoChamber_68 : decode cX4_pushIntoChamber 68 = .ok (.aload_n 0, 1) := by decide +kernel
theorem dX4_pushIntoChamber_69 : decode cX4_pushIntoChamber 69 = .ok (.invokevirtual 93, 3) := by decide +kernel
theorem dX4_pushIntoChamber_72 : decode cX4_pushIntoChamber 72 = .ok (.goto 9, 3) := by decide +kernel
theorem dX4_pushIntoChamber_75 : decode cX4_pushIntoChamber 75 = .ok (.aload_n 0, 1) := by decide +kernel
theorem dX4_pushIntoChamber_76 : decode cX4_pushIntoChamber 76 = .ok (.iload 4, 2) := by decide +kernel
theorem dX4_pushIntoChamber_78 : decode cX4_pushIntoChamber 78 = .ok (.putfield 60, 3) := by decide +kernel
theorem dX4_pushIntoChamber_81 : decode cX4_pushIntoChamber 81 = .ok (.return_, 1) := by decide +kernel
theorem dX4_deliver_0 : decode cX4_deliver 0 = .ok (.aload_n 0, 1) := by decide +kernel
theorem dX4_deliver_1 : decode cX4_deliver 1 = .ok (.getfield 18, 3) := by decide +kernel
theorem dX4_deliver_4 : decode cX4_deliver 4 = .ok (.invokevirtual 164, 3) := by decide +kernel
theorem dX4_deliver_7 : decode cX4_deliver 7 = .ok (.istore_n 2, 1) := by decide +kernel
theorem dX4_deliver_8 : decode cX4_deliver 8 = .ok (.iload_n 2, 1) := by decide +kernel
theorem dX4_deliver_9 : decode cX4_deliver 9 = .ok (.aload_n 0, 1) := by decide +kernel
theorem dX4_deliver_10 : decode cX4_deliver 10 = .ok (.getfield 53, 3) := by decide +kernel
theorem dX4_deliver_13 : decode cX4_deliver 13 = .ok (.if_icmp .gt 4, 3) := by decide +kernel
theorem dX4_deliver_16 : decode cX4_deliver 16 = .ok (.return_, 1) := by decide +kernel
theorem dX4_deliver_17 : decode cX4_deliver 17 = .ok (.aload_n 0, 1) := by decide +kernel
theorem dX4_deliver_18 : decode cX4_deliver 18 = .ok (.getfield 18, 3) := by decide +kernel
theorem dX4_deliver_21 : decode cX4_deliver 21 = .ok (.getfield 168, 3) := by decide +kernel
theorem dX4_deliver_24 : decode cX4_deliver 24 = .ok (.iconst 1, 1) := by decide +kernel
theorem dX4_deliver_25 : decode cX4_deliver 25 = .ok (.iload_n 2, 1) := by decide +kernel
theorem dX4_deliver_26 : decode cX4_deliver 26 = .ok (.aload_n 0, 1) := by decide +kernel
theorem dX4_deliver_27 : decode cX4_deliver 27 = .ok (.getfield 53, 3) := by decide +kernel
theorem dX4_deliver_30 : decode cX4_deliver 30 = .ok (.isub, 1) := by decide +kernel
theorem dX4_deliver_31 : decode cX4_deliver 31 = .ok (.bipush 10, 2) := by decide +kernel
theorem dX4_deliver_33 : decode cX4_deliver 33 = .ok (.idiv, 1) := by decide +kernel
theorem dX4_deliver_34 : decode cX4_deliver 34 = .ok (.iadd, 1) := by decide +kernel
theorem dX4_deliver_35 : decode cX4_deliver 35 = .ok (.invokestatic 140, 3) := by decide +kernel
theorem dX4_deliver_38 : decode cX4_deliver 38 = .ok (.istore_n 3, 1) := by decide +kernel
theorem dX4_deliver_39 : decode cX4_deliver 39 = .ok (.aload_n 0, 1) := by decide +kernel
theorem dX4_deliver_40 : decode cX4_deliver 40 = .ok (.getfield 18, 3) := by decide +kernel
theorem dX4_deliver_43 : decode cX4_deliver 43 = .ok (.dup, 1) := by decide +kernel
theorem dX4_deliver_44 : decode cX4_deliver 44 = .ok (.getfield 168, 3) := by decide +kernel
theorem dX4_deliver_47 : decode cX4_deliver 47 = .ok (.iload_n 3, 1) := by decide +kernel
theorem dX4_deliver_48 : decode cX4_deliver 48 = .ok (.isub, 1) := by decide +kernel
theorem dX4_deliver_49 : decode cX4_deliver 49 = .ok (.putfield 168, 3) := by decide +kernel
theorem dX4_deliver_52 : decode cX4_deliver 52 = .ok (.aload_n 0, 1) := by decide +kernel
theorem dX4_deliver_53 : decode cX4_deliver 53 = .ok (.getfield 25, 3) := by decide +kernel
theorem dX4_deliver_56 : decode cX4_deliver 56 = .ok (.dup, 1) := by decide +kernel
theorem dX4_deliver_57 : decode cX4_deliver 57 = .ok (.getfield 171, 3) := by decide +kernel
theorem dX4_deliver_60 : decode cX4_deliver 60 = .ok (.iload_n 3, 1) := by decide +kernel
theorem dX4_deliver_61 : decode cX4_deliver 61 = .ok (.iadd, 1) := by decide +kernel
theorem dX4_deliver_62 : decode cX4_deliver 62 = .ok (.putfield 171, 3) := by decide +kernel
theorem dX4_deliver_65 : decode cX4_deliver 65 = .ok (.aload_n 1, 1) := by decide +kernel
theorem dX4_deliver_66 : decode cX4_deliver 66 = .ok (.iload_n 3, 1) := by decide +kernel
theorem dX4_deliver_67 : decode cX4_deliver 67 = .ok (.putfield 174, 3) := by decide +kernel
theorem dX4_deliver_70 : decode cX4_deliver 70 = .ok (.iload_n 3, 1) := by decide +kernel
theorem dX4_deliver_71 : decode cX4_deliver 71 = .ok (.sipush 30000, 3) := by decide +kernel
theorem dX4_deliver_74 : decode cX4_deliver 74 = .ok (.aload_n 0, 1) := by decide +kernel
theorem dX4_deliver_75 : decode cX4_deliver 75 = .ok (.getfield 72, 3) := by decide +kernel
theorem dX4_deliver_78 : decode cX4_deliver 78 = .ok (.isub, 1) := by decide +kernel
theorem dX4_deliver_79 : decode cX4_deliver 79 = .ok (.invokestatic 140, 3) := by decide +kernel
theorem dX4_deliver_82 : decode cX4_deliver 82 = .ok (.istore 4, 2) := by decide +kernel
theorem dX4_deliver_84 : decode cX4_deliver 84 = .ok (.aload_n 0, 1) := by decide +kernel
theorem dX4_deliver_85 : decode cX4_deliver 85 = .ok (.dup, 1) := by decide +kernel
theorem dX4_deliver_86 : decode cX4_deliver 86 = .ok (.getfield 72, 3) := by decide +kernel
theorem dX4_deliver_89 : decode cX4_deliver 89 = .ok (.iload 4, 2) := by decide +kernel
theorem dX4_deliver_91 : decode cX4_deliver 91 = .ok (.iadd, 1) := by decide +kernel
theorem dX4_deliver_92 : decode cX4_deliver 92 = .ok (.putfield 72, 3) := by decide +kernel
theorem dX4_deliver_95 : decode cX4_deliver 95 = .ok (.aload_n 0, 1) := by decide +kernel
theorem dX4_deliver_96 : decode cX4_deliver 96 = .ok (.getfield 25, 3) := by decide +kernel
theorem dX4_deliver_99 : decode cX4_deliver 99 = .ok (.dup, 1) := by decide +kernel
theorem dX4_deliver_100 : decode cX4_deliver 100 = .ok (.getfield 177, 3) := by decide +kernel
theorem dX4_deliver_103 : decode cX4_deliver 103 = .ok (.iload_n 3, 1) := by decide +kernel
theorem dX4_deliver_104 : decode cX4_deliver 104 = .ok (.iload 4, 2) := by decide +kernel
theorem dX4_deliver_106 : decode cX4_deliver 106 = .ok (.isub, 1) := by decide +kernel
theorem dX4_deliver_107 : decode cX4_deliver 107 = .ok (.iadd, 1) := by decide +kernel
theorem dX4_deliver_108 : decode cX4_deliver 108 = .ok (.putfield 177, 3) := by decide +kernel
theorem dX4_deliver_111 : decode cX4_deliver 111 = .ok (.aload_n 1, 1) := by decide +kernel
theorem dX4_deliver_112 : decode cX4_deliver 112 = .ok (.iload_n 3, 1) := by decide +kernel
theorem dX4_deliver_113 : decode cX4_deliver 113 = .ok (.iload 4, 2) := by decide +kernel
theorem dX4_deliver_115 : decode cX4_deliver 115 = .ok (.if_icmp .le 7, 3) := by decide +kernel
theorem dX4_deliver_118 : decode cX4_deliver 118 = .ok (.iconst 1, 1) := by decide +kernel
theorem dX4_deliver_119 : decode cX4_deliver 119 = .ok (.goto 4, 3) := by decide +kernel
theorem dX4_deliver_122 : decode cX4_deliver 122 = .ok (.iconst 0, 1) := by decide +kernel
theorem dX4_deliver_123 : decode cX4_deliver 123 = .ok (.putfield 180, 3) := by decide +kernel
theorem dX4_deliver_126 : decode cX4_deliver 126 = .ok (.return_, 1) := by decide +kernel
theorem dX4_thousandths_0 : decode cX4_thousandths 0 = .ok (.aload_n 0, 1) := by decide +kernel
theorem dX4_thousandths_1 : decode cX4_thousandths 1 = .ok (.getfield 25, 3) := by decide +kernel
theorem dX4_thousandths_4 : decode cX4_thousandths 4 = .ok (.getfield 126, 3) := by decide +kernel
theorem dX4_thousandths_7 : decode cX4_thousandths 7 = .ok (.i2l, 1) := by decide +kernel
theorem dX4_thousandths_8 : decode cX4_thousandths 8 = .ok (.aload_n 0, 1) := by decide +kernel
theorem dX4_thousandths_9 : decode cX4_thousandths 9 = .ok (.getfield 25, 3) := by decide +kernel
theorem dX4_thousandths_12 : decode cX4_thousandths 12 = .ok (.getfield 161, 3) := by decide +kernel
theorem dX4_thousandths_15 : decode cX4_thousandths 15 = .ok (.i2l, 1) := by decide +kernel
theorem dX4_thousandths_16 : decode cX4_thousandths 16 = .ok (.ladd, 1) := by decide +kernel
theorem dX4_thousandths_17 : decode cX4_thousandths 17 = .ok (.aload_n 0, 1) := by decide +kernel
theorem dX4_thousandths_18 : decode cX4_thousandths 18 = .ok (.getfield 25, 3) := by decide +kernel
theorem dX4_thousandths_21 : decode cX4_thousandths 21 = .ok (.getfield 171, 3) := by decide +kernel
theorem dX4_thousandths_24 : decode cX4_thousandths 24 = .ok (.i2l, 1) := by decide +kernel
theorem dX4_thousandths_25 : decode cX4_thousandths 25 = .ok (.ladd, 1) := by decide +kernel
theorem dX4_thousandths_26 : decode cX4_thousandths 26 = .ok (.lstore_n 1, 1) := by decide +kernel
theorem dX4_thousandths_27 : decode cX4_thousandths 27 = .ok (.lload_n 1, 1) := by decide +kernel
theorem dX4_thousandths_28 : decode cX4_thousandths 28 = .ok (.aload_n 0, 1) := by decide +kernel
theorem dX4_thousandths_29 : decode cX4_thousandths 29 = .ok (.getfield 41, 3) := by decide +kernel
theorem dX4_thousandths_32 : decode cX4_thousandths 32 = .ok (.i2l, 1) := by decide +kernel
theorem dX4_thousandths_33 : decode cX4_thousandths 33 = .ok (.lmul, 1) := by decide +kernel
theorem dX4_thousandths_34 : decode cX4_thousandths 34 = .ok (.lstore_n 3, 1) := by decide +kernel
theorem dX4_thousandths_35 : decode cX4_thousandths 35 = .ok (.lload_n 3, 1) := by decide +kernel
theorem dX4_thousandths_36 : decode cX4_thousandths 36 = .ok (.lconst 1, 1) := by decide +kernel
theorem dX4_thousandths_37 : decode cX4_thousandths 37 = .ok (.lcmp, 1) := by decide +kernel
theorem dX4_thousandths_38 : decode cX4_thousandths 38 = .ok (.ifCond .ge 7, 3) := by decide +kernel
theorem dX4_thousandths_41 : decode cX4_thousandths 41 = .ok (.sipush (-1005), 3) := by decide +kernel
theorem dX4_thousandths_44 : decode cX4_thousandths 44 = .ok (.ireturn, 1) := by decide +kernel
theorem dX4_thousandths_45 : decode cX4_thousandths 45 = .ok (.ldc2_w 183, 3) := by decide +kernel
theorem dX4_thousandths_48 : decode cX4_thousandths 48 = .ok (.aload_n 0, 1) := by decide +kernel
theorem dX4_thousandths_49 : decode cX4_thousandths 49 = .ok (.getfield 25, 3) := by decide +kernel
theorem dX4_thousandths_52 : decode cX4_thousandths 52 = .ok (.getfield 171, 3) := by decide +kernel
theorem dX4_thousandths_55 : decode cX4_thousandths 55 = .ok (.i2l, 1) := by decide +kernel
theorem dX4_thousandths_56 : decode cX4_thousandths 56 = .ok (.lmul, 1) := by decide +kernel
theorem dX4_thousandths_57 : decode cX4_thousandths 57 = .ok (.aload_n 0, 1) := by decide +kernel
theorem dX4_thousandths_58 : decode cX4_thousandths 58 = .ok (.getfield 53, 3) := by decide +kernel
theorem dX4_thousandths_61 : decode cX4_thousandths 61 = .ok (.i2l, 1) := by decide +kernel
theorem dX4_thousandths_62 : decode cX4_thousandths 62 = .ok (.lmul, 1) := by decide +kernel
theorem dX4_thousandths_63 : decode cX4_thousandths 63 = .ok (.lload_n 3, 1) := by decide +kernel
theorem dX4_thousandths_64 : decode cX4_thousandths 64 = .ok (.ldiv, 1) := by decide +kernel
theorem dX4_thousandths_65 : decode cX4_thousandths 65 = .ok (.l2i, 1) := by decide +kernel
theorem dX4_thousandths_66 : decode cX4_thousandths 66 = .ok (.ireturn, 1) := by decide +kernel
theorem dX5_init_0 : decode cX5_init 0 = .ok (.aload_n 0, 1) := by decide +kernel
theorem dX5_init_1 : decode cX5_init 1 = .ok (.invokespecial 1, 3) := by decide +kernel
theorem dX5_init_4 : decode cX5_init 4 = .ok (.return_, 1) := by decide +kernel
theorem dX5_clear_0 : decode cX5_clear 0 = .ok (.aload_n 0, 1) := by decide +kernel
theorem dX5_clear_1 : decode cX5_clear 1 = .ok (.iconst 0, 1) := by decide +kernel
theorem dX5_clear_2 : decode cX5_clear 2 = .ok (.putfield 7, 3) := by decide +kernel
theorem dX5_clear_5 : decode cX5_clear 5 = .ok (.aload_n 0, 1) := by decide +kernel
theorem dX5_clear_6 : decode cX5_clear 6 = .ok (.iconst 0, 1) := by decide +kernel
theorem dX5_clear_7 : decode cX5_clear 7 = .ok (.putfield 13, 3) := by decide +kernel
theorem dX5_clear_10 : decode cX5_clear 10 = .ok (.aload_n 0, 1) := by decide +kernel
theorem dX5_clear_11 : decode cX5_clear 11 = .ok (.iconst 0, 1) := by decide +kernel
theorem dX5_clear_12 : decode cX5_clear 12 = .ok (.putfield 16, 3) := by decide +kernel
theorem dX5_clear_15 : decode cX5_clear 15 = .ok (.aload_n 0, 1) := by decide +kernel
theorem dX5_clear_16 : decode cX5_clear 16 = .ok (.iconst 0, 1) := by decide +kernel
theorem dX5_clear_17 : decode cX5_clear 17 = .ok (.putfield 20, 3) := by decide +kernel
theorem dX5_clear_20 : decode cX5_clear 20 = .ok (.aload_n 0, 1) := by decide +kernel
theorem dX5_clear_21 : decode cX5_clear 21 = .ok (.iconst 0, 1) := by decide +kernel
theorem dX5_clear_22 : decode cX5_clear 22 = .ok (.putfield 23, 3) := by decide +kernel
theorem dX5_clear_25 : decode cX5_clear 25 = .ok (.return_, 1) := by decide +kernel
theorem dX6_init_0 : decode cX6_init 0 = .ok (.aload_n 0, 1) := by decide +kernel
theorem dX6_init_1 : decode cX6_init 1 = .ok (.invokespecial 3, 3) := by decide +kernel
theorem dX6_init_4 : decode cX6_init 4 = .ok (.aload_n 0, 1) := by decide +kernel
theorem dX6_init_5 : decode cX6_init 5 = .ok (.iload_n 1, 1) := by decide +kernel
theorem dX6_init_6 : decode cX6_init 6 = .ok (.iconst 1, 1) := by decide +kernel
theorem dX6_init_7 : decode cX6_init 7 = .ok (.invokestatic 9, 3) := by decide +kernel
theorem dX6_init_10 : decode cX6_init 10 = .ok (.newarray .int, 2) := by decide +kernel
theorem dX6_init_12 : decode cX6_init 12 = .ok (.putfield 15, 3) := by decide +kernel
theorem dX6_init_15 : decode cX6_init 15 = .ok (.return_, 1) := by decide +kernel
theorem dX6_add_0 : decode cX6_add 0 = .ok (.aload_n 0, 1) := by decide +kernel
theorem dX6_add_1 : decode cX6_add 1 = .ok (.getfield 21, 3) := by decide +kernel
theorem dX6_add_4 : decode cX6_add 4 = .ok (.ifCond .lt 15, 3) := by decide +kernel
theorem dX6_add_7 : decode cX6_add 7 = .ok (.aload_n 0, 1) := by decide +kernel
theorem dX6_add_8 : decode cX6_add 8 = .ok (.getfield 21, 3) := by decide +kernel
theorem dX6_add_11 : decode cX6_add 11 = .ok (.aload_n 0, 1) := by decide +kernel
theorem dX6_add_12 : decode cX6_add 12 = .ok (.getfield 15, 3) := by decide +kernel
theorem dX6_add_15 : decode cX6_add 15 = .ok (.arraylength, 1) := by decide +kernel
theorem dX6_add_16 : decode cX6_add 16 = .ok (.if_icmp .lt 8, 3) := by decide +kernel
theorem dX6_add_19 : decode cX6_add 19 = .ok (.aload_n 0, 1) := by decide +kernel
theorem dX6_add_20 : decode cX6_add 20 = .ok (.iconst 0, 1) := by decide +kernel
theorem dX6_add_21 : decode cX6_add 21 = .ok (.putfield 21, 3) := by decide +kernel
theorem dX6_add_24 : decode cX6_add 24 = .ok (.aload_n 0, 1) := by decide +kernel
theorem dX6_add_25 : decode cX6_add 25 = .ok (.getfield 15, 3) := by decide +kernel
theorem dX6_add_28 : decode cX6_add 28 = .ok (.aload_n 0, 1) := by decide +kernel
theorem dX6_add_29 : decode cX6_add 29 = .ok (.getfield 21, 3) := by decide +kernel
theorem dX6_add_32 : decode cX6_add 32 = .ok (.iload_n 1, 1) := by decide +kernel
theorem dX6_add_33 : decode cX6_add 33 = .ok (.iastore, 1) := by decide +kernel
theorem dX6_add_34 : decode cX6_add 34 = .ok (.aload_n 0, 1) := by decide +kernel
theorem dX6_add_35 : decode cX6_add 35 = .ok (.dup, 1) := by decide +kernel
theorem dX6_add_36 : decode cX6_add 36 = .ok (.getfield 21, 3) := by decide +kernel
theorem dX6_add_39 : decode cX6_add 39 = .ok (.iconst 1, 1) := by decide +kernel
theorem dX6_add_40 : decode cX6_add 40 = .ok (.iadd, 1) := by decide +kernel
theorem dX6_add_41 : decode cX6_add 41 = .ok (.putfield 21, 3) := by decide +kernel
theorem dX6_add_44 : decode cX6_add 44 = .ok (.aload_n 0, 1) := by decide +kernel
theorem dX6_add_45 : decode cX6_add 45 = .ok (.getfield 25, 3) := by decide +kernel
theorem dX6_add_48 : decode cX6_add 48 = .ok (.aload_n 0, 1) := by decide +kernel
theorem dX6_add_49 : decode cX6_add 49 = .ok (.getfield 15, 3) := by decide +kernel
theorem dX6_add_52 : decode cX6_add 52 = .ok (.arraylength, 1) := by decide +kernel
theorem dX6_add_53 : decode cX6_add 53 = .ok (.if_icmp .ge 13, 3) := by decide +kernel
theorem dX6_add_56 : decode cX6_add 56 = .ok (.aload_n 0, 1) := by decide +kernel
theorem dX6_add_57 : decode cX6_add 57 = .ok (.dup, 1) := by decide +kernel
theorem dX6_add_58 : decode cX6_add 58 = .ok (.getfield 25, 3) := by decide +kernel
theorem dX6_add_61 : decode cX6_add 61 = .ok (.iconst 1, 1) := by decide +kernel
theorem dX6_add_62 : decode cX6_add 62 = .ok (.iadd, 1) := by decide +kernel
theorem dX6_add_63 : decode cX6_add 63 = .ok (.putfield 25, 3) := by decide +kernel
theorem dX6_add_66 : decode cX6_add 66 = .ok (.return_, 1) := by decide +kernel
theorem dX6_latest_0 : decode cX6_latest 0 = .ok (.iload_n 1, 1) := by decide +kernel
theorem dX6_latest_1 : decode cX6_latest 1 = .ok (.iconst 0, 1) := by decide +kernel
theorem dX6_latest_2 : decode cX6_latest 2 = .ok (.aload_n 0, 1) := by decide +kernel
theorem dX6_latest_3 : decode cX6_latest 3 = .ok (.getfield 25, 3) := by decide +kernel
theorem dX6_latest_6 : decode cX6_latest 6 = .ok (.iconst 1, 1) := by decide +kernel
theorem dX6_latest_7 : decode cX6_latest 7 = .ok (.isub, 1) := by decide +kernel
theorem dX6_latest_8 : decode cX6_latest 8 = .ok (.invokestatic 28, 3) := by decide +kernel
theorem dX6_latest_11 : decode cX6_latest 11 = .ok (.ifCond .eq 7, 3) := by decide +kernel
theorem dX6_latest_14 : decode cX6_latest 14 = .ok (.sipush (-1005), 3) := by decide +kernel
theorem dX6_latest_17 : decode cX6_latest 17 = .ok (.ireturn, 1) := by decide +kernel
theorem dX6_latest_18 : decode cX6_latest 18 = .ok (.aload_n 0, 1) := by decide +kernel
theorem dX6_latest_19 : decode cX6_latest 19 = .ok (.getfield 21, 3) := by decide +kernel
theorem dX6_latest_22 : decode cX6_latest 22 = .ok (.iconst 1, 1) := by decide +kernel
theorem dX6_latest_23 : decode cX6_latest 23 = .ok (.isub, 1) := by decide +kernel
theorem dX6_latest_24 : decode cX6_latest 24 = .ok (.iload_n 1, 1) := by decide +kernel
theorem dX6_latest_25 : decode cX6_latest 25 = .ok (.isub, 1) := by decide +kernel
theorem dX6_latest_26 : decode cX6_latest 26 = .ok (.istore_n 2, 1) := by decide +kernel
theorem dX6_latest_27 : decode cX6_latest 27 = .ok (.iload_n 2, 1) := by decide +kernel
theorem dX6_latest_28 : decode cX6_latest 28 = .ok (.ifCond .ge 11, 3) := by decide +kernel
theorem dX6_latest_31 : decode cX6_latest 31 = .ok (.iload_n 2, 1) := by decide +kernel
theorem dX6_latest_32 : decode cX6_latest 32 = .ok (.aload_n 0, 1) := by decide +kernel
theorem dX6_latest_33 : decode cX6_latest 33 = .ok (.getfield 15, 3) := by decide +kernel
theorem dX6_latest_36 : decode cX6_latest 36 = .ok (.arraylength, 1) := by decide +kernel
theorem dX6_latest_37 : decode cX6_latest 37 = .ok (.iadd, 1) := by decide +kernel
theorem dX6_latest_38 : decode cX6_latest 38 = .ok (.istore_n 2, 1) := by decide +kernel
theorem dX6_latest_39 : decode cX6_latest 39 = .ok (.iload_n 2, 1) := by decide +kernel
theorem dX6_latest_40 : decode cX6_latest 40 = .ok (.iconst 0, 1) := by decide +kernel
theorem dX6_latest_41 : decode cX6_latest 41 = .ok (.aload_n 0, 1) := by decide +kernel
theorem dX6_latest_42 : decode cX6_latest 42 = .ok (.getfield 15, 3) := by decide +kernel
theorem dX6_latest_45 : decode cX6_latest 45 = .ok (.arraylength, 1) := by decide +kernel
theorem dX6_latest_46 : decode cX6_latest 46 = .ok (.iconst 1, 1) := by decide +kernel
theorem dX6_latest_47 : decode cX6_latest 47 = .ok (.isub, 1) := by decide +kernel
theorem dX6_latest_48 : decode cX6_latest 48 = .ok (.invokestatic 28, 3) := by decide +kernel
theorem dX6_latest_51 : decode cX6_latest 51 = .ok (.ifCond .eq 9, 3) := by decide +kernel
theorem dX6_latest_54 : decode cX6_latest 54 = .ok (.sipush (-1005), 3) := by decide +kernel
theorem dX6_latest_57 : decode cX6_latest 57 = .ok (.goto 9, 3) := by decide +kernel
theorem dX6_latest_60 : decode cX6_latest 60 = .ok (.aload_n 0, 1) := by decide +kernel
theorem dX6_latest_61 : decode cX6_latest 61 = .ok (.getfield 15, 3) := by decide +kernel
theorem dX6_latest_64 : decode cX6_latest 64 = .ok (.iload_n 2, 1) := by decide +kernel
theorem dX6_latest_65 : decode cX6_latest 65 = .ok (.iaload, 1) := by decide +kernel
theorem dX6_latest_66 : decode cX6_latest 66 = .ok (.ireturn, 1) := by decide +kernel
theorem dX6_copyFrom_0 : decode cX6_copyFrom 0 = .ok (.aload_n 0, 1) := by decide +kernel
theorem dX6_copyFrom_1 : decode cX6_copyFrom 1 = .ok (.aload_n 1, 1) := by decide +kernel
theorem dX6_copyFrom_2 : decode cX6_copyFrom 2 = .ok (.getfield 25, 3) := by decide +kernel
theorem dX6_copyFrom_5 : decode cX6_copyFrom 5 = .ok (.putfield 25, 3) := by decide +kernel
theorem dX6_copyFrom_8 : decode cX6_copyFrom 8 = .ok (.aload_n 0, 1) := by decide +kernel
theorem dX6_copyFrom_9 : decode cX6_copyFrom 9 = .ok (.aload_n 1, 1) := by decide +kernel
theorem dX6_copyFrom_10 : decode cX6_copyFrom 10 = .ok (.getfield 21, 3) := by decide +kernel
theorem dX6_copyFrom_13 : decode cX6_copyFrom 13 = .ok (.putfield 21, 3) := by decide +kernel
theorem dX6_copyFrom_16 : decode cX6_copyFrom 16 = .ok (.aload_n 1, 1) := by decide +kernel
theorem dX6_copyFrom_17 : decode cX6_copyFrom 17 = .ok (.getfield 15, 3) := by decide +kernel
theorem dX6_copyFrom_20 : decode cX6_copyFrom 20 = .ok (.iconst 0, 1) := by decide +kernel
theorem dX6_copyFrom_21 : decode cX6_copyFrom 21 = .ok (.aload_n 0, 1) := by decide +kernel
theorem dX6_copyFrom_22 : decode cX6_copyFrom 22 = .ok (.getfield 15, 3) := by decide +kernel
theorem dX6_copyFrom_25 : decode cX6_copyFrom 25 = .ok (.iconst 0, 1) := by decide +kernel
theorem dX6_copyFrom_26 : decode cX6_copyFrom 26 = .ok (.aload_n 0, 1) := by decide +kernel
theorem dX6_copyFrom_27 : decode cX6_copyFrom 27 = .ok (.getfield 15, 3) := by decide +kernel
theorem dX6_copyFrom_30 : decode cX6_copyFrom 30 = .ok (.arraylength, 1) := by decide +kernel
theorem dX6_copyFrom_31 : decode cX6_copyFrom 31 = .ok (.aload_n 1, 1) := by decide +kernel
theorem dX6_copyFrom_32 : decode cX6_copyFrom 32 = .ok (.getfield 15, 3) := by decide +kernel
theorem dX6_copyFrom_35 : decode cX6_copyFrom 35 = .ok (.arraylength, 1) := by decide +kernel
theorem dX6_copyFrom_36 : decode cX6_copyFrom 36 = .ok (.invokestatic 32, 3) := by decide +kernel
theorem dX6_copyFrom_39 : decode cX6_copyFrom 39 = .ok (.invokestatic 35, 3) := by decide +kernel
theorem dX6_copyFrom_42 : decode cX6_copyFrom 42 = .ok (.return_, 1) := by decide +kernel
theorem dX7_init_0 : decode cX7_init 0 = .ok (.aload_n 0, 1) := by decide +kernel
theorem dX7_init_1 : decode cX7_init 1 = .ok (.invokespecial 3, 3) := by decide +kernel
theorem dX7_init_4 : decode cX7_init 4 = .ok (.aload_n 0, 1) := by decide +kernel
theorem dX7_init_5 : decode cX7_init 5 = .ok (.sipush 5000, 3) := by decide +kernel
theorem dX7_init_8 : decode cX7_init 8 = .ok (.putfield 9, 3) := by decide +kernel
theorem dX7_init_11 : decode cX7_init 11 = .ok (.aload_n 0, 1) := by decide +kernel
theorem dX7_init_12 : decode cX7_init 12 = .ok (.bipush 100, 2) := by decide +kernel
theorem dX7_init_14 : decode cX7_init 14 = .ok (.putfield 15, 3) := by decide +kernel
theorem dX7_init_17 : decode cX7_init 17 = .ok (.aload_n 0, 1) := by decide +kernel
theorem dX7_init_18 : decode cX7_init 18 = .ok (.iconst 4, 1) := by decide +kernel
theorem dX7_init_19 : decode cX7_init 19 = .ok (.anewarray 18, 3) := by decide +kernel
theorem dX7_init_22 : decode cX7_init 22 = .ok (.putfield 20, 3) := by decide +kernel
theorem dX7_init_25 : decode cX7_init 25 = .ok (.iconst 0, 1) := by decide +kernel
theorem dX7_init_26 : decode cX7_init 26 = .ok (.istore_n 1, 1) := by decide +kernel
theorem dX7_init_27 : decode cX7_init 27 = .ok (.iload_n 1, 1) := by decide +kernel
theorem dX7_init_28 : decode cX7_init 28 = .ok (.aload_n 0, 1) := by decide +kernel
theorem dX7_init_29 : decode cX7_init 29 = .ok (.getfield 20, 3) := by decide +kernel
theorem dX7_init_32 : decode cX7_init 32 = .ok (.arraylength, 1) := by decide +kernel
theorem dX7_init_33 : decode cX7_init 33 = .ok (.if_icmp .ge 27, 3) := by decide +kernel
theorem dX7_init_36 : decode cX7_init 36 = .ok (.aload_n 0, 1) := by decide +kernel
theorem dX7_init_37 : decode cX7_init 37 = .ok (.getfield 20, 3) := by decide +kernel
theorem dX7_init_40 : decode cX7_init 40 = .ok (.iload_n 1, 1) := by decide +kernel
theorem dX7_init_41 : decode cX7_init 41 = .ok (.new 18, 3) := by decide +kernel
theorem dX7_init_44 : decode cX7_init 44 = .ok (.dup, 1) := by decide +kernel
theorem dX7_init_45 : decode cX7_init 45 = .ok (.iconst 0, 1) := by decide +kernel
theorem dX7_init_46 : decode cX7_init 46 = .ok (.iconst 1, 1) := by decide +kernel
theorem dX7_init_47 : decode cX7_init 47 = .ok (.iconst 0, 1) := by decide +kernel
theorem dX7_init_48 : decode cX7_init 48 = .ok (.iconst 0, 1) := by decide +kernel
theorem dX7_init_49 : decode cX7_init 49 = .ok (.iconst 0, 1) := by decide +kernel
theorem dX7_init_50 : decode cX7_init 50 = .ok (.invokespecial 24, 3) := by decide +kernel
theorem dX7_init_53 : decode cX7_init 53 = .ok (.aastore, 1) := by decide +kernel
theorem dX7_init_54 : decode cX7_init 54 = .ok (.iinc 1 1, 3) := by decide +kernel
theorem dX7_init_57 : decode cX7_init 57 = .ok (.goto (-30), 3) := by decide +kernel
theorem dX7_init_60 : decode cX7_init 60 = .ok (.return_, 1) := by decide +kernel
theorem dX7_pumpAt_0 : decode cX7_pumpAt 0 = .ok (.iload_n 1, 1) := by decide +kernel
theorem dX7_pumpAt_1 : decode cX7_pumpAt 1 = .ok (.aload_n 0, 1) := by decide +kernel
theorem dX7_pumpAt_2 : decode cX7_pumpAt 2 = .ok (.getfield 27, 3) := by decide +kernel
theorem dX7_pumpAt_5 : decode cX7_pumpAt 5 = .ok (.if_icmp .ge 18, 3) := by decide +kernel
theorem dX7_pumpAt_8 : decode cX7_pumpAt 8 = .ok (.iload_n 1, 1) := by decide +kernel
theorem dX7_pumpAt_9 : decode cX7_pumpAt 9 = .ok (.iconst 0, 1) := by decide +kernel
theorem dX7_pumpAt_10 : decode cX7_pumpAt 10 = .ok (.aload_n 0, 1) := by decide +kernel
theorem dX7_pumpAt_11 : decode cX7_pumpAt 11 = .ok (.getfield 20, 3) := by decide +kernel
theorem dX7_pumpAt_14 : decode cX7_pumpAt 14 = .ok (.arraylength, 1) := by decide +kernel
theorem dX7_pumpAt_15 : decode cX7_pumpAt 15 = .ok (.iconst 1, 1) := by decide +kernel
theorem dX7_pumpAt_16 : decode cX7_pumpAt 16 = .ok (.isub, 1) := by decide +kernel
theorem dX7_pumpAt_17 : decode cX7_pumpAt 17 = .ok (.invokestatic 30, 3) := by decide +kernel
theorem dX7_pumpAt_20 : decode cX7_pumpAt 20 = .ok (.ifCond .eq 5, 3) := by decide +kernel
theorem dX7_pumpAt_23 : decode cX7_pumpAt 23 = .ok (.aconst_null, 1) := by decide +kernel
theorem dX7_pumpAt_24 : decode cX7_pumpAt 24 = .ok (.areturn, 1) := by decide +kernel
theorem dX7_pumpAt_25 : decode cX7_pumpAt 25 = .ok (.aload_n 0, 1) := by decide +kernel
theorem dX7_pumpAt_26 : decode cX7_pumpAt 26 = .ok (.getfield 20, 3) := by decide +kernel
theorem dX7_pumpAt_29 : decode cX7_pumpAt 29 = .ok (.iload_n 1, 1) := by decide +kernel
theorem dX7_pumpAt_30 : decode cX7_pumpAt 30 = .ok (.aaload, 1) := by decide +kernel
theorem dX7_pumpAt_31 : decode cX7_pumpAt 31 = .ok (.areturn, 1) := by decide +kernel
theorem dX7_runningPumps_0 : decode cX7_runningPumps 0 = .ok (.iconst 0, 1) := by decide +kernel
theorem dX7_runningPumps_1 : decode cX7_runningPumps 1 = .ok (.istore_n 1, 1) := by decide +kernel
theorem dX7_runningPumps_2 : decode cX7_runningPumps 2 = .ok (.iconst 0, 1) := by decide +kernel
theorem dX7_runningPumps_3 : decode cX7_runningPumps 3 = .ok (.istore_n 2, 1) := by decide +kernel
theorem dX7_runningPumps_4 : decode cX7_runningPumps 4 = .ok (.iload_n 2, 1) := by decide +kernel
theorem dX7_runningPumps_5 : decode cX7_runningPumps 5 = .ok (.aload_n 0, 1) := by decide +kernel
theorem dX7_runningPumps_6 : decode cX7_runningPumps 6 = .ok (.getfield 27, 3) := by decide +kernel
theorem dX7_runningPumps_9 : decode cX7_runningPumps 9 = .ok (.if_icmp .ge 29, 3) := by decide +kernel
theorem dX7_runningPumps_12 : decode cX7_runningPumps 12 = .ok (.aload_n 0, 1) := by decide +kernel
theorem dX7_runningPumps_13 : decode cX7_runningPumps 13 = .ok (.iload_n 2, 1) := by decide +kernel
theorem dX7_runningPumps_14 : decode cX7_runningPumps 14 = .ok (.invokevirtual 34, 3) := by decide +kernel
theorem dX7_runningPumps_17 : decode cX7_runningPumps 17 = .ok (.astore_n 3, 1) := by decide +kernel
theorem dX7_runningPumps_18 : decode cX7_runningPumps 18 = .ok (.aload_n 3, 1) := by decide +kernel
theorem dX7_runningPumps_19 : decode cX7_runningPumps 19 = .ok (.ifnull 13, 3) := by decide +kernel
theorem dX7_runningPumps_22 : decode cX7_runningPumps 22 = .ok (.aload_n 3, 1) := by decide +kernel
theorem dX7_runningPumps_23 : decode cX7_runningPumps 23 = .ok (.getfield 38, 3) := by decide +kernel
theorem dX7_runningPumps_26 : decode cX7_runningPumps 26 = .ok (.ifCond .eq 6, 3) := by decide +kernel
theorem dX7_runningPumps_29 : decode cX7_runningPumps 29 = .ok (.iinc 1 1, 3) := by decide +kernel
theorem dX7_runningPumps_32 : decode cX7_runningPumps 32 = .ok (.iinc 2 1, 3) := by decide +kernel
theorem dX7_runningPumps_35 : decode cX7_runningPumps 35 = .ok (.goto (-31), 3) := by decide +kernel
theorem dX7_runningPumps_38 : decode cX7_runningPumps 38 = .ok (.iload_n 1, 1) := by decide +kernel
theorem dX7_runningPumps_39 : decode cX7_runningPumps 39 = .ok (.ireturn, 1) := by decide +kernel
theorem dX7_fillBasin_0 : decode cX7_fillBasin 0 = .ok (.iload_n 1, 1) := by decide +kernel
theorem dX7_fillBasin_1 : decode cX7_fillBasin 1 = .ok (.sipush 20000, 3) := by decide +kernel
theorem dX7_fillBasin_4 : decode cX7_fillBasin 4 = .ok (.aload_n 0, 1) := by decide +kernel
theorem dX7_fillBasin_5 : decode cX7_fillBasin 5 = .ok (.getfield 9, 3) := by decide +kernel
theorem dX7_fillBasin_8 : decode cX7_fillBasin 8 = .ok (.isub, 1) := by decide +kernel
theorem dX7_fillBasin_9 : decode cX7_fillBasin 9 = .ok (.invokestatic 42, 3) := by decide +kernel
theorem dX7_fillBasin_12 : decode cX7_fillBasin 12 = .ok (.istore_n 2, 1) := by decide +kernel
theorem dX7_fillBasin_13 : decode cX7_fillBasin 13 = .ok (.aload_n 0, 1) := by decide +kernel
theorem dX7_fillBasin_14 : decode cX7_fillBasin 14 = .ok (.dup, 1) := by decide +kernel
theorem dX7_fillBasin_15 : decode cX7_fillBasin 15 = .ok (.getfield 9, 3) := by decide +kernel
theorem dX7_fillBasin_18 : decode cX7_fillBasin 18 = .ok (.iload_n 2, 1) := by decide +kernel
theorem dX7_fillBasin_19 : decode cX7_fillBasin 19 = .ok (.iadd, 1) := by decide +kernel
theorem dX7_fillBasin_20 : decode cX7_fillBasin 20 = .ok (.putfield 9, 3) := by decide +kernel
