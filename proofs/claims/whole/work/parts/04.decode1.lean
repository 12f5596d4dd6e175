theorem dX0_init_0 : decode cX0_init 0 = .ok (.aload_n 0, 1) := by decide +kernel
theorem dX0_init_1 : decode cX0_init 1 = .ok (.invokespecial 1, 3) := by decide +kernel
theorem dX0_init_4 : decode cX0_init 4 = .ok (.aload_n 0, 1) := by decide +kernel
theorem dX0_init_5 : decode cX0_init 5 = .ok (.sipush 400, 3) := by decide +kernel
theorem dX0_init_8 : decode cX0_init 8 = .ok (.putfield 7, 3) := by decide +kernel
theorem dX0_init_11 : decode cX0_init 11 = .ok (.aload_n 0, 1) := by decide +kernel
theorem dX0_init_12 : decode cX0_init 12 = .ok (.bipush 40, 2) := by decide +kernel
theorem dX0_init_14 : decode cX0_init 14 = .ok (.putfield 13, 3) := by decide +kernel
theorem dX0_init_17 : decode cX0_init 17 = .ok (.aload_n 0, 1) := by decide +kernel
theorem dX0_init_18 : decode cX0_init 18 = .ok (.sipush 400, 3) := by decide +kernel
theorem dX0_init_21 : decode cX0_init 21 = .ok (.putfield 16, 3) := by decide +kernel
theorem dX0_init_24 : decode cX0_init 24 = .ok (.return_, 1) := by decide +kernel
theorem dX0_renew_0 : decode cX0_renew 0 = .ok (.aload_n 0, 1) := by decide +kernel
theorem dX0_renew_1 : decode cX0_renew 1 = .ok (.iload_n 1, 1) := by decide +kernel
theorem dX0_renew_2 : decode cX0_renew 2 = .ok (.putfield 7, 3) := by decide +kernel
theorem dX0_renew_5 : decode cX0_renew 5 = .ok (.aload_n 0, 1) := by decide +kernel
theorem dX0_renew_6 : decode cX0_renew 6 = .ok (.iload_n 1, 1) := by decide +kernel
theorem dX0_renew_7 : decode cX0_renew 7 = .ok (.bipush 10, 2) := by decide +kernel
theorem dX0_renew_9 : decode cX0_renew 9 = .ok (.idiv, 1) := by decide +kernel
theorem dX0_renew_10 : decode cX0_renew 10 = .ok (.putfield 13, 3) := by decide +kernel
theorem dX0_renew_13 : decode cX0_renew 13 = .ok (.aload_n 0, 1) := by decide +kernel
theorem dX0_renew_14 : decode cX0_renew 14 = .ok (.iload_n 2, 1) := by decide +kernel
theorem dX0_renew_15 : decode cX0_renew 15 = .ok (.putfield 19, 3) := by decide +kernel
theorem dX0_renew_18 : decode cX0_renew 18 = .ok (.aload_n 0, 1) := by decide +kernel
theorem dX0_renew_19 : decode cX0_renew 19 = .ok (.iconst 0, 1) := by decide +kernel
theorem dX0_renew_20 : decode cX0_renew 20 = .ok (.putfield 23, 3) := by decide +kernel
theorem dX0_renew_23 : decode cX0_renew 23 = .ok (.aload_n 0, 1) := by decide +kernel
theorem dX0_renew_24 : decode cX0_renew 24 = .ok (.iload_n 1, 1) := by decide +kernel
theorem dX0_renew_25 : decode cX0_renew 25 = .ok (.putfield 16, 3) := by decide +kernel
theorem dX0_renew_28 : decode cX0_renew 28 = .ok (.return_, 1) := by decide +kernel
theorem dX0_copyFrom_0 : decode cX0_copyFrom 0 = .ok (.aload_n 0, 1) := by decide +kernel
theorem dX0_copyFrom_1 : decode cX0_copyFrom 1 = .ok (.aload_n 1, 1) := by decide +kernel
theorem dX0_copyFrom_2 : decode cX0_copyFrom 2 = .ok (.getfield 7, 3) := by decide +kernel
theorem dX0_copyFrom_5 : decode cX0_copyFrom 5 = .ok (.putfield 7, 3) := by decide +kernel
theorem dX0_copyFrom_8 : decode cX0_copyFrom 8 = .ok (.aload_n 0, 1) := by decide +kernel
theorem dX0_copyFrom_9 : decode cX0_copyFrom 9 = .ok (.aload_n 1, 1) := by decide +kernel
theorem dX0_copyFrom_10 : decode cX0_copyFrom 10 = .ok (.getfield 13, 3) := by decide +kernel
theorem dX0_copyFrom_13 : decode cX0_copyFrom 13 = .ok (.putfield 13, 3) := by decide +kernel
theorem dX0_copyFrom_16 : decode cX0_copyFrom 16 = .ok (.aload_n 0, 1) := by decide +kernel
theorem dX0_copyFrom_17 : decode cX0_copyFrom 17 = .ok (.aload_n 1, 1) := by decide +kernel
theorem dX0_copyFrom_18 : decode cX0_copyFrom 18 = .ok (.getfield 19, 3) := by decide +kernel
theorem dX0_copyFrom_21 : decode cX0_copyFrom 21 = .ok (.putfield 19, 3) := by decide +kernel
theorem dX0_copyFrom_24 : decode cX0_copyFrom 24 = .ok (.aload_n 0, 1) := by decide +kernel
theorem dX0_copyFrom_25 : decode cX0_copyFrom 25 = .ok (.aload_n 1, 1) := by decide +kernel
theorem dX0_copyFrom_26 : decode cX0_copyFrom 26 = .ok (.getfield 23, 3) := by decide +kernel
theorem dX0_copyFrom_29 : decode cX0_copyFrom 29 = .ok (.putfield 23, 3) := by decide +kernel
theorem dX0_copyFrom_32 : decode cX0_copyFrom 32 = .ok (.aload_n 0, 1) := by decide +kernel
theorem dX0_copyFrom_33 : decode cX0_copyFrom 33 = .ok (.aload_n 1, 1) := by decide +kernel
theorem dX0_copyFrom_34 : decode cX0_copyFrom 34 = .ok (.getfield 16, 3) := by decide +kernel
theorem dX0_copyFrom_37 : decode cX0_copyFrom 37 = .ok (.putfield 16, 3) := by decide +kernel
theorem dX0_copyFrom_40 : decode cX0_copyFrom 40 = .ok (.return_, 1) := by decide +kernel
theorem dX0_head_0 : decode cX0_head 0 = .ok (.aload_n 0, 1) := by decide +kernel
theorem dX0_head_1 : decode cX0_head 1 = .ok (.getfield 7, 3) := by decide +kernel
theorem dX0_head_4 : decode cX0_head 4 = .ok (.aload_n 0, 1) := by decide +kernel
theorem dX0_head_5 : decode cX0_head 5 = .ok (.getfield 23, 3) := by decide +kernel
theorem dX0_head_8 : decode cX0_head 8 = .ok (.isub, 1) := by decide +kernel
theorem dX0_head_9 : decode cX0_head 9 = .ok (.istore_n 1, 1) := by decide +kernel
theorem dX0_head_10 : decode cX0_head 10 = .ok (.iload_n 1, 1) := by decide +kernel
theorem dX0_head_11 : decode cX0_head 11 = .ok (.iconst 1, 1) := by decide +kernel
theorem dX0_head_12 : decode cX0_head 12 = .ok (.if_icmp .ge 7, 3) := by decide +kernel
theorem dX0_head_15 : decode cX0_head 15 = .ok (.iconst 0, 1) := by decide +kernel
theorem dX0_head_16 : decode cX0_head 16 = .ok (.goto 19, 3) := by decide +kernel
theorem dX0_head_19 : decode cX0_head 19 = .ok (.bipush 100, 2) := by decide +kernel
theorem dX0_head_21 : decode cX0_head 21 = .ok (.aload_n 0, 1) := by decide +kernel
theorem dX0_head_22 : decode cX0_head 22 = .ok (.getfield 16, 3) := by decide +kernel
theorem dX0_head_25 : decode cX0_head 25 = .ok (.imul, 1) := by decide +kernel
theorem dX0_head_26 : decode cX0_head 26 = .ok (.iload_n 1, 1) := by decide +kernel
theorem dX0_head_27 : decode cX0_head 27 = .ok (.idiv, 1) := by decide +kernel
theorem dX0_head_28 : decode cX0_head 28 = .ok (.bipush 100, 2) := by decide +kernel
theorem dX0_head_30 : decode cX0_head 30 = .ok (.isub, 1) := by decide +kernel
theorem dX0_head_31 : decode cX0_head 31 = .ok (.iconst 0, 1) := by decide +kernel
theorem dX0_head_32 : decode cX0_head 32 = .ok (.invokestatic 26, 3) := by decide +kernel
theorem dX0_head_35 : decode cX0_head 35 = .ok (.ireturn, 1) := by decide +kernel
theorem dX0_take_0 : decode cX0_take 0 = .ok (.iload_n 1, 1) := by decide +kernel
theorem dX0_take_1 : decode cX0_take 1 = .ok (.aload_n 0, 1) := by decide +kernel
theorem dX0_take_2 : decode cX0_take 2 = .ok (.getfield 7, 3) := by decide +kernel
theorem dX0_take_5 : decode cX0_take 5 = .ok (.aload_n 0, 1) := by decide +kernel
theorem dX0_take_6 : decode cX0_take 6 = .ok (.getfield 13, 3) := by decide +kernel
theorem dX0_take_9 : decode cX0_take 9 = .ok (.isub, 1) := by decide +kernel
theorem dX0_take_10 : decode cX0_take 10 = .ok (.aload_n 0, 1) := by decide +kernel
theorem dX0_take_11 : decode cX0_take 11 = .ok (.getfield 23, 3) := by decide +kernel
theorem dX0_take_14 : decode cX0_take 14 = .ok (.isub, 1) := by decide +kernel
theorem dX0_take_15 : decode cX0_take 15 = .ok (.invokestatic 32, 3) := by decide +kernel
theorem dX0_take_18 : decode cX0_take 18 = .ok (.istore_n 2, 1) := by decide +kernel
theorem dX0_take_19 : decode cX0_take 19 = .ok (.aload_n 0, 1) := by decide +kernel
theorem dX0_take_20 : decode cX0_take 20 = .ok (.dup, 1) := by decide +kernel
theorem dX0_take_21 : decode cX0_take 21 = .ok (.getfield 23, 3) := by decide +kernel
theorem dX0_take_24 : decode cX0_take 24 = .ok (.iload_n 2, 1) := by decide +kernel
theorem dX0_take_25 : decode cX0_take 25 = .ok (.iadd, 1) := by decide +kernel
theorem dX0_take_26 : decode cX0_take 26 = .ok (.putfield 23, 3) := by decide +kernel
theorem dX0_take_29 : decode cX0_take 29 = .ok (.iload_n 2, 1) := by decide +kernel
theorem dX0_take_30 : decode cX0_take 30 = .ok (.ireturn, 1) := by decide +kernel
theorem dX0_changeAir_0 : decode cX0_changeAir 0 = .ok (.aload_n 0, 1) := by decide +kernel
theorem dX0_changeAir_1 : decode cX0_changeAir 1 = .ok (.getfield 19, 3) := by decide +kernel
theorem dX0_changeAir_4 : decode cX0_changeAir 4 = .ok (.ifCond .eq 23, 3) := by decide +kernel
theorem dX0_changeAir_7 : decode cX0_changeAir 7 = .ok (.aload_n 0, 1) := by decide +kernel
theorem dX0_changeAir_8 : decode cX0_changeAir 8 = .ok (.aload_n 0, 1) := by decide +kernel
theorem dX0_changeAir_9 : decode cX0_changeAir 9 = .ok (.getfield 16, 3) := by decide +kernel
theorem dX0_changeAir_12 : decode cX0_changeAir 12 = .ok (.iconst 2, 1) := by decide +kernel
theorem dX0_changeAir_13 : decode cX0_changeAir 13 = .ok (.iadd, 1) := by decide +kernel
theorem dX0_changeAir_14 : decode cX0_changeAir 14 = .ok (.aload_n 0, 1) := by decide +kernel
theorem dX0_changeAir_15 : decode cX0_changeAir 15 = .ok (.getfield 7, 3) := by decide +kernel
theorem dX0_changeAir_18 : decode cX0_changeAir 18 = .ok (.invokestatic 32, 3) := by decide +kernel
theorem dX0_changeAir_21 : decode cX0_changeAir 21 = .ok (.putfield 16, 3) := by decide +kernel
theorem dX0_changeAir_24 : decode cX0_changeAir 24 = .ok (.goto 20, 3) := by decide +kernel
theorem dX0_changeAir_27 : decode cX0_changeAir 27 = .ok (.aload_n 0, 1) := by decide +kernel
theorem dX0_changeAir_28 : decode cX0_changeAir 28 = .ok (.aload_n 0, 1) := by decide +kernel
theorem dX0_changeAir_29 : decode cX0_changeAir 29 = .ok (.getfield 16, 3) := by decide +kernel
theorem dX0_changeAir_32 : decode cX0_changeAir 32 = .ok (.iconst 1, 1) := by decide +kernel
theorem dX0_changeAir_33 : decode cX0_changeAir 33 = .ok (.isub, 1) := by decide +kernel
theorem dX0_changeAir_34 : decode cX0_changeAir 34 = .ok (.aload_n 0, 1) := by decide +kernel
theorem dX0_changeAir_35 : decode cX0_changeAir 35 = .ok (.getfield 13, 3) := by decide +kernel
theorem dX0_changeAir_38 : decode cX0_changeAir 38 = .ok (.invokestatic 26, 3) := by decide +kernel
theorem dX0_changeAir_41 : decode cX0_changeAir 41 = .ok (.putfield 16, 3) := by decide +kernel
theorem dX0_changeAir_44 : decode cX0_changeAir 44 = .ok (.return_, 1) := by decide +kernel
theorem dX1_init_0 : decode cX1_init 0 = .ok (.aload_n 0, 1) := by decide +kernel
theorem dX1_init_1 : decode cX1_init 1 = .ok (.invokespecial 3, 3) := by decide +kernel
theorem dX1_init_4 : decode cX1_init 4 = .ok (.aload_n 0, 1) := by decide +kernel
theorem dX1_init_5 : decode cX1_init 5 = .ok (.bipush 40, 2) := by decide +kernel
theorem dX1_init_7 : decode cX1_init 7 = .ok (.newarray .char, 2) := by decide +kernel
theorem dX1_init_9 : decode cX1_init 9 = .ok (.putfield 9, 3) := by decide +kernel
theorem dX1_init_12 : decode cX1_init 12 = .ok (.return_, 1) := by decide +kernel
theorem dX1_signAt_0 : decode cX1_signAt 0 = .ok (.iload_n 1, 1) := by decide +kernel
theorem dX1_signAt_1 : decode cX1_signAt 1 = .ok (.aload_n 0, 1) := by decide +kernel
theorem dX1_signAt_2 : decode cX1_signAt 2 = .ok (.getfield 15, 3) := by decide +kernel
theorem dX1_signAt_5 : decode cX1_signAt 5 = .ok (.if_icmp .ge 18, 3) := by decide +kernel
theorem dX1_signAt_8 : decode cX1_signAt 8 = .ok (.iload_n 1, 1) := by decide +kernel
theorem dX1_signAt_9 : decode cX1_signAt 9 = .ok (.iconst 0, 1) := by decide +kernel
theorem dX1_signAt_10 : decode cX1_signAt 10 = .ok (.aload_n 0, 1) := by decide +kernel
theorem dX1_signAt_11 : decode cX1_signAt 11 = .ok (.getfield 9, 3) := by decide +kernel
theorem dX1_signAt_14 : decode cX1_signAt 14 = .ok (.arraylength, 1) := by decide +kernel
theorem dX1_signAt_15 : decode cX1_signAt 15 = .ok (.iconst 1, 1) := by decide +kernel
theorem dX1_signAt_16 : decode cX1_signAt 16 = .ok (.isub, 1) := by decide +kernel
theorem dX1_signAt_17 : decode cX1_signAt 17 = .ok (.invokestatic 19, 3) := by decide +kernel
theorem dX1_signAt_20 : decode cX1_signAt 20 = .ok (.ifCond .eq 7, 3) := by decide +kernel
theorem dX1_signAt_23 : decode cX1_signAt 23 = .ok (.iconst 0, 1) := by decide +kernel
theorem dX1_signAt_24 : decode cX1_signAt 24 = .ok (.goto 9, 3) := by decide +kernel
theorem dX1_signAt_27 : decode cX1_signAt 27 = .ok (.aload_n 0, 1) := by decide +kernel
theorem dX1_signAt_28 : decode cX1_signAt 28 = .ok (.getfield 9, 3) := by decide +kernel
theorem dX1_signAt_31 : decode cX1_signAt 31 = .ok (.iload_n 1, 1) := by decide +kernel
theorem dX1_signAt_32 : decode cX1_signAt 32 = .ok (.caload, 1) := by decide +kernel
theorem dX1_signAt_33 : decode cX1_signAt 33 = .ok (.ireturn, 1) := by decide +kernel
theorem dX1_commandStartsAt_0 : decode cX1_commandStartsAt 0 = .ok (.iload_n 1, 1) := by decide +kernel
theorem dX1_commandStartsAt_1 : decode cX1_commandStartsAt 1 = .ok (.ifCond .eq 15, 3) := by decide +kernel
theorem dX1_commandStartsAt_4 : decode cX1_commandStartsAt 4 = .ok (.aload_n 0, 1) := by decide +kernel
theorem dX1_commandStartsAt_5 : decode cX1_commandStartsAt 5 = .ok (.iload_n 1, 1) := by decide +kernel
theorem dX1_commandStartsAt_6 : decode cX1_commandStartsAt 6 = .ok (.iconst 1, 1) := by decide +kernel
theorem dX1_commandStartsAt_7 : decode cX1_commandStartsAt 7 = .ok (.isub, 1) := by decide +kernel
theorem dX1_commandStartsAt_8 : decode cX1_commandStartsAt 8 = .ok (.invokevirtual 23, 3) := by decide +kernel
theorem dX1_commandStartsAt_11 : decode cX1_commandStartsAt 11 = .ok (.bipush 59, 2) := by decide +kernel
theorem dX1_commandStartsAt_13 : decode cX1_commandStartsAt 13 = .ok (.if_icmp .ne 7, 3) := by decide +kernel
theorem dX1_commandStartsAt_16 : decode cX1_commandStartsAt 16 = .ok (.iconst 1, 1) := by decide +kernel
theorem dX1_commandStartsAt_17 : decode cX1_commandStartsAt 17 = .ok (.goto 4, 3) := by decide +kernel
theorem dX1_commandStartsAt_20 : decode cX1_commandStartsAt 20 = .ok (.iconst 0, 1) := by decide +kernel
theorem dX1_commandStartsAt_21 : decode cX1_commandStartsAt 21 = .ok (.ireturn, 1) := by decide +kernel
theorem dX1_numberAt_0 : decode cX1_numberAt 0 = .ok (.iconst 0, 1) := by decide +kernel
theorem dX1_numberAt_1 : decode cX1_numberAt 1 = .ok (.istore_n 2, 1) := by decide +kernel
theorem dX1_numberAt_2 : decode cX1_numberAt 2 = .ok (.iload_n 1, 1) := by decide +kernel
theorem dX1_numberAt_3 : decode cX1_numberAt 3 = .ok (.istore_n 3, 1) := by decide +kernel
theorem dX1_numberAt_4 : decode cX1_numberAt 4 = .ok (.iload_n 3, 1) := by decide +kernel
theorem dX1_numberAt_5 : decode cX1_numberAt 5 = .ok (.iload_n 1, 1) := by decide +kernel
theorem dX1_numberAt_6 : decode cX1_numberAt 6 = .ok (.iconst 3, 1) := by decide +kernel
theorem dX1_numberAt_7 : decode cX1_numberAt 7 = .ok (.iadd, 1) := by decide +kernel
theorem dX1_numberAt_8 : decode cX1_numberAt 8 = .ok (.if_icmp .ge 34, 3) := by decide +kernel
theorem dX1_numberAt_11 : decode cX1_numberAt 11 = .ok (.aload_n 0, 1) := by decide +kernel
theorem dX1_numberAt_12 : decode cX1_numberAt 12 = .ok (.iload_n 3, 1) := by decide +kernel
theorem dX1_numberAt_13 : decode cX1_numberAt 13 = .ok (.invokevirtual 23, 3) := by decide +kernel
theorem dX1_numberAt_16 : decode cX1_numberAt 16 = .ok (.invokestatic 27, 3) := by decide +kernel
theorem dX1_numberAt_19 : decode cX1_numberAt 19 = .ok (.ifCond .eq 23, 3) := by decide +kernel
theorem dX1_numberAt_22 : decode cX1_numberAt 22 = .ok (.iload_n 2, 1) := by decide +kernel
theorem dX1_numberAt_23 : decode cX1_numberAt 23 = .ok (.bipush 10, 2) := by decide +kernel
theorem dX1_numberAt_25 : decode cX1_numberAt 25 = .ok (.imul, 1) := by decide +kernel
theorem dX1_numberAt_26 : decode cX1_numberAt 26 = .ok (.aload_n 0, 1) := by decide +kernel
theorem dX1_numberAt_27 : decode cX1_numberAt 27 = .ok (.iload_n 3, 1) := by decide +kernel
theorem dX1_numberAt_28 : decode cX1_numberAt 28 = .ok (.invokevirtual 23, 3) := by decide +kernel
theorem dX1_numberAt_31 : decode cX1_numberAt 31 = .ok (.iadd, 1) := by decide +kernel
theorem dX1_numberAt_32 : decode cX1_numberAt 32 = .ok (.bipush 48, 2) := by decide +kernel
theorem dX1_numberAt_34 : decode cX1_numberAt 34 = .ok (.isub, 1) := by decide +kernel
theorem dX1_numberAt_35 : decode cX1_numberAt 35 = .ok (.istore_n 2, 1) := by decide +kernel
theorem dX1_numberAt_36 : decode cX1_numberAt 36 = .ok (.iinc 3 1, 3) := by decide +kernel
theorem dX1_numberAt_39 : decode cX1_numberAt 39 = .ok (.goto (-35), 3) := by decide +kernel
theorem dX1_numberAt_42 : decode cX1_numberAt 42 = .ok (.iload_n 2, 1) := by decide +kernel
theorem dX1_numberAt_43 : decode cX1_numberAt 43 = .ok (.ireturn, 1) := by decide +kernel
theorem dX1_firstError_0 : decode cX1_firstError 0 = .ok (.iconst 0, 1) := by decide +kernel
theorem dX1_firstError_1 : decode cX1_firstError 1 = .ok (.istore_n 1, 1) := by decide +kernel
theorem dX1_firstError_2 : decode cX1_firstError 2 = .ok (.iconst 0, 1) := by decide +kernel
theorem dX1_firstError_3 : decode cX1_firstError 3 = .ok (.istore_n 2, 1) := by decide +kernel
theorem dX1_firstError_4 : decode cX1_firstError 4 = .ok (.iload_n 2, 1) := by decide +kernel
theorem dX1_firstError_5 : decode cX1_firstError 5 = .ok (.aload_n 0, 1) := by decide +kernel
theorem dX1_firstError_6 : decode cX1_firstError 6 = .ok (.getfield 15, 3) := by decide +kernel
theorem dX1_firstError_9 : decode cX1_firstError 9 = .ok (.if_icmp .ge 26, 3) := by decide +kernel
theorem dX1_firstError_12 : decode cX1_firstError 12 = .ok (.iload_n 1, 1) := by decide +kernel
theorem dX1_firstError_13 : decode cX1_firstError 13 = .ok (.aload_n 0, 1) := by decide +kernel
theorem dX1_firstError_14 : decode cX1_firstError 14 = .ok (.iload_n 2, 1) := by decide +kernel
theorem dX1_firstError_15 : decode cX1_firstError 15 = .ok (.invokevirtual 23, 3) := by decide +kernel
theorem dX1_firstError_18 : decode cX1_firstError 18 = .ok (.invokestatic 31, 3) := by decide +kernel
theorem dX1_firstError_21 : decode cX1_firstError 21 = .ok (.istore_n 1, 1) := by decide +kernel
theorem dX1_firstError_22 : decode cX1_firstError 22 = .ok (.iload_n 1, 1) := by decide +kernel
theorem dX1_firstError_23 : decode cX1_firstError 23 = .ok (.iconst (-1), 1) := by decide +kernel
theorem dX1_firstError_24 : decode cX1_firstError 24 = .ok (.if_icmp .ne 5, 3) := by decide +kernel
theorem dX1_firstError_27 : decode cX1_firstError 27 = .ok (.iload_n 2, 1) := by decide +kernel
theorem dX1_firstError_28 : decode cX1_firstError 28 = .ok (.ireturn, 1) := by decide +kernel
theorem dX1_firstError_29 : decode cX1_firstError 29 = .ok (.iinc 2 1, 3) := by decide +kernel
theorem dX1_firstError_32 : decode cX1_firstError 32 = .ok (.goto (-28), 3) := by decide +kernel
theorem dX1_firstError_35 : decode cX1_firstError 35 = .ok (.iload_n 1, 1) := by decide +kernel
theorem dX1_firstError_36 : decode cX1_firstError 36 = .ok (.invokestatic 35, 3) := by decide +kernel
theorem dX1_firstError_39 : decode cX1_firstError 39 = .ok (.ifCond .eq 9, 3) := by decide +kernel
theorem dX1_firstError_42 : decode cX1_firstError 42 = .ok (.sipush (-1005), 3) := by decide +kernel
theorem dX1_firstError_45 : decode cX1_firstError 45 = .ok (.goto 7, 3) := by decide +kernel
theorem dX1_firstError_48 : decode cX1_firstError 48 = .ok (.aload_n 0, 1) := by decide +kernel
theorem dX1_firstError_49 : decode cX1_firstError 49 = .ok (.getfield 15, 3) := by decide +kernel
theorem dX1_firstError_52 : decode cX1_firstError 52 = .ok (.ireturn, 1) := by decide +kernel
theorem dX1_isDigit_0 : decode cX1_isDigit 0 = .ok (.iload_n 0, 1) := by decide +kernel
theorem dX1_isDigit_1 : decode cX1_isDigit 1 = .ok (.bipush 48, 2) := by decide +kernel
theorem dX1_isDigit_3 : decode cX1_isDigit 3 = .ok (.if_icmp .lt 13, 3) := by decide +kernel
theorem dX1_isDigit_6 : decode cX1_isDigit 6 = .ok (.iload_n 0, 1) := by decide +kernel
theorem dX1_isDigit_7 : decode cX1_isDigit 7 = .ok (.bipush 57, 2) := by decide +kernel
theorem dX1_isDigit_9 : decode cX1_isDigit 9 = .ok (.if_icmp .gt 7, 3) := by decide +kernel
theorem dX1_isDigit_12 : decode cX1_isDigit 12 = .ok (.iconst 1, 1) := by decide +kernel
theorem dX1_isDigit_13 : decode cX1_isDigit 13 = .ok (.goto 4, 3) := by decide +kernel
theorem dX1_isDigit_16 : decode cX1_isDigit 16 = .ok (.iconst 0, 1) := by decide +kernel
theorem dX1_isDigit_17 : decode cX1_isDigit 17 = .ok (.ireturn, 1) := by decide +kernel
theorem dX1_mayEnd_0 : decode cX1_mayEnd 0 = .ok (.iload_n 0, 1) := by decide +kernel
theorem dX1_mayEnd_1 : decode cX1_mayEnd 1 = .ok (.iconst 5, 1) := by decide +kernel
theorem dX1_mayEnd_2 : decode cX1_mayEnd 2 = .ok (.if_icmp .eq 15, 3) := by decide +kernel
theorem dX1_mayEnd_5 : decode cX1_mayEnd 5 = .ok (.iload_n 0, 1) := by decide +kernel
theorem dX1_mayEnd_6 : decode cX1_mayEnd 6 = .ok (.bipush 6, 2) := by decide +kernel
theorem dX1_mayEnd_8 : decode cX1_mayEnd 8 = .ok (.if_icmp .eq 9, 3) := by decide +kernel
theorem dX1_mayEnd_11 : decode cX1_mayEnd 11 = .ok (.iload_n 0, 1) := by decide +kernel
theorem dX1_mayEnd_12 : decode cX1_mayEnd 12 = .ok (.bipush 7, 2) := by decide +kernel
theorem dX1_mayEnd_14 : decode cX1_mayEnd 14 = .ok (.if_icmp .ne 7, 3) := by decide +kernel
theorem dX1_mayEnd_17 : decode cX1_mayEnd 17 = .ok (.iconst 1, 1) := by decide +kernel
theorem dX1_mayEnd_18 : decode cX1_mayEnd 18 = .ok (.goto 4, 3) := by decide +kernel
theorem dX1_mayEnd_21 : decode cX1_mayEnd 21 = .ok (.iconst 0, 1) := by decide +kernel
theorem dX1_mayEnd_22 : decode cX1_mayEnd 22 = .ok (.ireturn, 1) := by decide +kernel
theorem dX1_placeAfter_0 : decode cX1_placeAfter 0 = .ok (.iload_n 1, 1) := by decide +kernel
theorem dX1_placeAfter_1 : decode cX1_placeAfter 1 = .ok (.bipush 59, 2) := by decide +kernel
theorem dX1_placeAfter_3 : decode cX1_placeAfter 3 = .ok (.if_icmp .ne 16, 3) := by decide +kernel
theorem dX1_placeAfter_6 : decode cX1_placeAfter 6 = .ok (.iload_n 0, 1) := by decide +kernel
theorem dX1_placeAfter_7 : decode cX1_placeAfter 7 = .ok (.invokestatic 35, 3) := by decide +kernel
theorem dX1_placeAfter_10 : decode cX1_placeAfter 10 = .ok (.ifCond .eq 7, 3) := by decide +kernel
theorem dX1_placeAfter_13 : decode cX1_placeAfter 13 = .ok (.iconst 0, 1) := by decide +kernel
theorem dX1_placeAfter_14 : decode cX1_placeAfter 14 = .ok (.goto 4, 3) := by decide +kernel
theorem dX1_placeAfter_17 : decode cX1_placeAfter 17 = .ok (.iconst (-1), 1) := by decide +kernel
theorem dX1_placeAfter_18 : decode cX1_placeAfter 18 = .ok (.ireturn, 1) := by decide +kernel
theorem dX1_placeAfter_19 : decode cX1_placeAfter 19 = .ok (.iload_n 0, 1) := by decide +kernel
theorem dX1_placeAfter_20 : decode cX1_placeAfter 20 = .ok (.ifCond .ne 8, 3) := by decide +kernel
theorem dX1_placeAfter_23 : decode cX1_placeAfter 23 = .ok (.iload_n 1, 1) := by decide +kernel
theorem dX1_placeAfter_24 : decode cX1_placeAfter 24 = .ok (.invokestatic 39, 3) := by decide +kernel
theorem dX1_placeAfter_27 : decode cX1_placeAfter 27 = .ok (.ireturn, 1) := by decide +kernel
theorem dX1_placeAfter_28 : decode cX1_placeAfter 28 = .ok (.iload_n 0, 1) := by decide +kernel
theorem dX1_placeAfter_29 : decode cX1_placeAfter 29 = .ok (.iconst 3, 1) := by decide +kernel
theorem dX1_placeAfter_30 : decode cX1_placeAfter 30 = .ok (.if_icmp .ne 15, 3) := by decide +kernel
theorem dX1_placeAfter_33 : decode cX1_placeAfter 33 = .ok (.iload_n 1, 1) := by decide +kernel
theorem dX1_placeAfter_34 : decode cX1_placeAfter 34 = .ok (.bipush 61, 2) := by decide +kernel
theorem dX1_placeAfter_36 : decode cX1_placeAfter 36 = .ok (.if_icmp .ne 7, 3) := by decide +kernel
theorem dX1_placeAfter_39 : decode cX1_placeAfter 39 = .ok (.iconst 4, 1) := by decide +kernel
theorem dX1_placeAfter_40 : decode cX1_placeAfter 40 = .ok (.goto 4, 3) := by decide +kernel
theorem dX1_placeAfter_43 : decode cX1_placeAfter 43 = .ok (.iconst (-1), 1) := by decide +kernel
theorem dX1_placeAfter_44 : decode cX1_placeAfter 44 = .ok (.ireturn, 1) := by decide +kernel
theorem dX1_placeAfter_45 : decode cX1_placeAfter 45 = .ok (.iload_n 1, 1) := by decide +kernel
theorem dX1_placeAfter_46 : decode cX1_placeAfter 46 = .ok (.invokestatic 27, 3) := by decide +kernel
theorem dX1_placeAfter_49 : decode cX1_placeAfter 49 = .ok (.ifCond .eq 10, 3) := by decide +kernel
theorem dX1_placeAfter_52 : decode cX1_placeAfter 52 = .ok (.iload_n 0, 1) := by decide +kernel
theorem dX1_placeAfter_53 : decode cX1_placeAfter 53 = .ok (.invokestatic 43, 3) := by decide +kernel
theorem dX1_placeAfter_56 : decode cX1_placeAfter 56 = .ok (.goto 4, 3) := by decide +kernel
theorem dX1_placeAfter_59 : decode cX1_placeAfter 59 = .ok (.iconst (-1), 1) := by decide +kernel
theorem dX1_placeAfter_60 : decode cX1_placeAfter 60 = .ok (.ireturn, 1) := by decide +kernel
theorem dX1_placeAfterLetter_0 : decode cX1_placeAfterLetter 0 = .ok (.iload_n 0, 1) := by decide +kernel
theorem dX1_placeAfterLetter_1 : decode cX1_placeAfterLetter 1 = .ok (.tableswitch 97 101 119 #[91, 97, 97, 91, 95, 97, 97, 97, 97, 97, 97, 97, 97, 91, 93, 97, 97, 97, 95], 91) := by decide +kernel
theorem dX1_placeAfterLetter_92 : decode cX1_placeAfterLetter 92 = .ok (.iconst 1, 1) := by decide +kernel
theorem dX1_placeAfterLetter_93 : decode cX1_placeAfterLetter 93 = .ok (.ireturn, 1) := by decide +kernel
theorem dX1_placeAfterLetter_94 : decode cX1_placeAfterLetter 94 = .ok (.iconst 2, 1) := by decide +kernel
theorem dX1_placeAfterLetter_95 : decode cX1_placeAfterLetter 95 = .ok (.ireturn, 1) := by decide +kernel
theorem dX1_placeAfterLetter_96 : decode cX1_placeAfterLetter 96 = .ok (.iconst 4, 1) := by decide +kernel
theorem dX1_placeAfterLetter_97 : decode cX1_placeAfterLetter 97 = .ok (.ireturn, 1) := by decide +kernel
theorem dX1_placeAfterLetter_98 : decode cX1_placeAfterLetter 98 = .ok (.iconst (-1), 1) := by decide +kernel
theorem dX1_placeAfterLetter_99 : decode cX1_placeAfterLetter 99 = .ok (.ireturn, 1) := by decide +kernel
theorem dX1_placeAfterDigit_0 : decode cX1_placeAfterDigit 0 = .ok (.iload_n 0, 1) := by decide +kernel
theorem dX1_placeAfterDigit_1 : decode cX1_placeAfterDigit 1 = .ok (.tableswitch 49 1 6 #[39, 42, 49, 44, 46, 39], 39) := by decide +kernel
theorem dX1_placeAfterDigit_40 : decode cX1_placeAfterDigit 40 = .ok (.bipush 7, 2) := by decide +kernel
theorem dX1_placeAfterDigit_42 : decode cX1_placeAfterDigit 42 = .ok (.ireturn, 1) := by decide +kernel
theorem dX1_placeAfterDigit_43 : decode cX1_placeAfterDigit 43 = .ok (.iconst 3, 1) := by decide +kernel
theorem dX1_placeAfterDigit_44 : decode cX1_placeAfterDigit 44 = .ok (.ireturn, 1) := by decide +kernel
theorem dX1_placeAfterDigit_45 : decode cX1_placeAfterDigit 45 = .ok (.iconst 5, 1) := by decide +kernel
theorem dX1_placeAfterDigit_46 : decode cX1_placeAfterDigit 46 = .ok (.ireturn, 1) := by decide +kernel
theorem dX1_placeAfterDigit_47 : decode cX1_placeAfterDigit 47 = .ok (.bipush 6, 2) := by decide +kernel
theorem dX1_placeAfterDigit_49 : decode cX1_placeAfterDigit 49 = .ok (.ireturn, 1) := by decide +kernel
theorem dX1_placeAfterDigit_50 : decode cX1_placeAfterDigit 50 = .ok (.iconst (-1), 1) := by decide +kernel
theorem dX1_placeAfterDigit_51 : decode cX1_placeAfterDigit 51 = .ok (.ireturn, 1) := by decide +kernel
theorem dX2_init_0 : decode cX2_init 0 = .ok (.aload_n 0, 1) := by decide +kernel
theorem dX2_init_1 : decode cX2_init 1 = .ok (.invokespecial 1, 3) := by decide +kernel
theorem dX2_init_4 : decode cX2_init 4 = .ok (.return_, 1) := by decide +kernel
theorem dX2_copyFrom_0 : decode cX2_copyFrom 0 = .ok (.aload_n 0, 1) := by decide +kernel
theorem dX2_copyFrom_1 : decode cX2_copyFrom 1 = .ok (.aload_n 1, 1) := by decide +kernel
theorem dX2_copyFrom_2 : decode cX2_copyFrom 2 = .ok (.getfield 7, 3) := by decide +kernel
theorem dX2_copyFrom_5 : decode cX2_copyFrom 5 = .ok (.putfield 7, 3) := by decide +kernel
theorem dX2_copyFrom_8 : decode cX2_copyFrom 8 = .ok (.aload_n 0, 1) := by decide +kernel
theorem dX2_copyFrom_9 : decode cX2_copyFrom 9 = .ok (.aload_n 1, 1) := by decide +kernel
theorem dX2_copyFrom_10 : decode cX2_copyFrom 10 = .ok (.getfield 13, 3) := by decide +kernel
theorem dX2_copyFrom_13 : decode cX2_copyFrom 13 = .ok (.putfield 13, 3) := by decide +kernel
theorem dX2_copyFrom_16 : decode cX2_copyFrom 16 = .ok (.aload_n 0, 1) := by decide +kernel
theorem dX2_copyFrom_17 : decode cX2_copyFrom 17 = .ok (.aload_n 1, 1) := by decide +kernel
theorem dX2_copyFrom_18 : decode cX2_copyFrom 18 = .ok (.getfield 16, 3) := by decide +kernel
theorem dX2_copyFrom_21 : decode cX2_copyFrom 21 = .ok (.putfield 16, 3) := by decide +kernel
theorem dX2_copyFrom_24 : decode cX2_copyFrom 24 = .ok (.aload_n 0, 1) := by decide +kernel
theorem dX2_copyFrom_25 : decode cX2_copyFrom 25 = .ok (.aload_n 1, 1) := by decide +kernel
theorem dX2_copyFrom_26 : decode cX2_copyFrom 26 = .ok (.getfield 19, 3) := by decide +kernel
theorem dX2_copyFrom_29 : decode cX2_copyFrom 29 = .ok (.putfield 19, 3) := by decide +kernel
theorem dX2_copyFrom_32 : decode cX2_copyFrom 32 = .ok (.aload_n 0, 1) := by decide +kernel
theorem dX2_copyFrom_33 : decode cX2_copyFrom 33 = .ok (.aload_n 1, 1) := by decide +kernel
theorem dX2_copyFrom_34 : decode cX2_copyFrom 34 = .ok (.getfield 22, 3) := by decide +kernel
theorem dX2_copyFrom_37 : decode cX2_copyFrom 37 = .ok (.putfield 22, 3) := by decide +kernel
theorem dX2_copyFrom_40 : decode cX2_copyFrom 40 = .ok (.aload_n 0, 1) := by decide +kernel
theorem dX2_copyFrom_41 : decode cX2_copyFrom 41 = .ok (.aload_n 1, 1) := by decide +kernel
theorem dX2_copyFrom_42 : decode cX2_copyFrom 42 = .ok (.getfield 25, 3) := by decide +kernel
theorem dX2_copyFrom_45 : decode cX2_copyFrom 45 = .ok (.putfield 25, 3) := by decide +kernel
theorem dX2_copyFrom_48 : decode cX2_copyFrom 48 = .ok (.return_, 1) := by decide +kernel
theorem dX3_init_0 : decode cX3_init 0 = .ok (.aload_n 0, 1) := by decide +kernel
theorem dX3_init_1 : decode cX3_init 1 = .ok (.invokespecial 3, 3) := by decide +kernel
theorem dX3_init_4 : decode cX3_init 4 = .ok (.aload_n 0, 1) := by decide +kernel
theorem dX3_init_5 : decode cX3_init 5 = .ok (.new 9, 3) := by decide +kernel
theorem dX3_init_8 : decode cX3_init 8 = .ok (.dup, 1) := by decide +kernel
theorem dX3_init_9 : decode cX3_init 9 = .ok (.bipush 20, 2) := by decide +kernel
theorem dX3_init_11 : decode cX3_init 11 = .ok (.invokespecial 11, 3) := by decide +kernel
theorem dX3_init_14 : decode cX3_init 14 = .ok (.putfield 14, 3) := by decide +kernel
theorem dX3_init_17 : decode cX3_init 17 = .ok (.aload_n 0, 1) := by decide +kernel
theorem dX3_init_18 : decode cX3_init 18 = .ok (.new 9, 3) := by decide +kernel
theorem dX3_init_21 : decode cX3_init 21 = .ok (.dup, 1) := by decide +kernel
theorem dX3_init_22 : decode cX3_init 22 = .ok (.bipush 20, 2) := by decide +kernel
theorem dX3_init_24 : decode cX3_init 24 = .ok (.invokespecial 11, 3) := by decide +kernel
theorem dX3_init_27 : decode cX3_init 27 = .ok (.putfield 20, 3) := by decide +kernel
theorem dX3_init_30 : decode cX3_init 30 = .ok (.aload_n 0, 1) := by decide +kernel
theorem dX3_init_31 : decode cX3_init 31 = .ok (.new 9, 3) := by decide +kernel
theorem dX3_init_34 : decode cX3_init 34 = .ok (.dup, 1) := by decide +kernel
theorem dX3_init_35 : decode cX3_init 35 = .ok (.bipush 20, 2) := by decide +kernel
theorem dX3_init_37 : decode cX3_init 37 = .ok (.invokespecial 11, 3) := by decide +kernel
theorem dX3_init_40 : decode cX3_init 40 = .ok (.putfield 23, 3) := by decide +kernel
theorem dX3_init_43 : decode cX3_init 43 = .ok (.return_, 1) := by decide +kernel
theorem dX3_add_0 : decode cX3_add 0 = .ok (.aload_n 0, 1) := by decide +kernel
theorem dX3_add_1 : decode cX3_add 1 = .ok (.dup, 1) := by decide +kernel
theorem dX3_add_2 : decode cX3_add 2 = .ok (.getfield 26, 3) := by decide +kernel
theorem dX3_add_5 : decode cX3_add 5 = .ok (.iconst 1, 1) := by decide +kernel
theorem dX3_add_6 : decode cX3_add 6 = .ok (.iadd, 1) := by decide +kernel
theorem dX3_add_7 : decode cX3_add 7 = .ok (.putfield 26, 3) := by decide +kernel
theorem dX3_add_10 : decode cX3_add 10 = .ok (.aload_n 0, 1) := by decide +kernel
theorem dX3_add_11 : decode cX3_add 11 = .ok (.getfield 14, 3) := by decide +kernel
theorem dX3_add_14 : decode cX3_add 14 = .ok (.iload_n 1, 1) := by decide +kernel
theorem dX3_add_15 : decode cX3_add 15 = .ok (.invokevirtual 30, 3) := by decide +kernel
theorem dX3_add_18 : decode cX3_add 18 = .ok (.aload_n 0, 1) := by decide +kernel
theorem dX3_add_19 : decode cX3_add 19 = .ok (.getfield 20, 3) := by decide +kernel
theorem dX3_add_22 : decode cX3_add 22 = .ok (.iload_n 2, 1) := by decide +kernel
theorem dX3_add_23 : decode cX3_add 23 = .ok (.invokevirtual 30, 3) := by decide +kernel
theorem dX3_add_26 : decode cX3_add 26 = .ok (.aload_n 0, 1) := by decide +kernel
theorem dX3_add_27 : decode cX3_add 27 = .ok (.getfield 23, 3) := by decide +kernel
theorem dX3_add_30 : decode cX3_add 30 = .ok (.iload_n 3, 1) := by decide +kernel
theorem dX3_add_31 : decode cX3_add 31 = .ok (.invokevirtual 30, 3) := by decide +kernel
theorem dX3_add_34 : decode cX3_add 34 = .ok (.return_, 1) := by decide +kernel
theorem dX4_init_0 : decode cX4_init 0 = .ok (.aload_n 0, 1) := by decide +kernel
theorem dX4_init_1 : decode cX4_init 1 = .ok (.invokespecial 3, 3) := by decide +kernel
theorem dX4_init_4 : decode cX4_init 4 = .ok (.aload_n 0, 1) := by decide +kernel
theorem dX4_init_5 : decode cX4_init 5 = .ok (.bipush 60, 2) := by decide +kernel
theorem dX4_init_7 : decode cX4_init 7 = .ok (.putfield 9, 3) := by decide +kernel
theorem dX4_init_10 : decode cX4_init 10 = .ok (.aload_n 0, 1) := by decide +kernel
theorem dX4_init_11 : decode cX4_init 11 = .ok (.new 15, 3) := by decide +kernel
theorem dX4_init_14 : decode cX4_init 14 = .ok (.dup, 1) := by decide +kernel
theorem dX4_init_15 : decode cX4_init 15 = .ok (.invokespecial 17, 3) := by decide +kernel
theorem dX4_init_18 : decode cX4_init 18 = .ok (.putfield 18, 3) := by decide +kernel
theorem dX4_init_21 : decode cX4_init 21 = .ok (.aload_n 0, 1) := by decide +kernel
theorem dX4_init_22 : decode cX4_init 22 = .ok (.new 22, 3) := by decide +kernel
theorem dX4_init_25 : decode cX4_init 25 = .ok (.dup, 1) := by decide +kernel
theorem dX4_init_26 : decode cX4_init 26 = .ok (.invokespecial 24, 3) := by decide +kernel
theorem dX4_init_29 : decode cX4_init 29 = .ok (.putfield 25, 3) := by decide +kernel
theorem dX4_init_32 : decode cX4_init 32 = .ok (.aload_n 0, 1) := by decide +kernel
theorem dX4_init_33 : decode cX4_init 33 = .ok (.new 29, 3) := by decide +kernel
theorem dX4_init_36 : decode cX4_init 36 = .ok (.dup, 1) := by decide +kernel
theorem dX4_init_37 : decode cX4_init 37 = .ok (.bipush 16, 2) := by decide +kernel
theorem dX4_init_39 : decode cX4_init 39 = .ok (.invokespecial 31, 3) := by decide +kernel
theorem dX4_init_42 : decode cX4_init 42 = .ok (.putfield 34, 3) := by decide +kernel
theorem dX4_init_45 : decode cX4_init 45 = .ok (.aload_n 0, 1) := by decide +kernel
theorem dX4_init_46 : decode cX4_init 46 = .ok (.new 29, 3) := by decide +kernel
theorem dX4_init_49 : decode cX4_init 49 = .ok (.dup, 1) := by decide +kernel
theorem dX4_init_50 : decode cX4_init 50 = .ok (.bipush 32, 2) := by decide +kernel
theorem dX4_init_52 : decode cX4_init 52 = .ok (.invokespecial 31, 3) := by decide +kernel
theorem dX4_init_55 : decode cX4_init 55 = .ok (.putfield 38, 3) := by decide +kernel
theorem dX4_init_58 : decode cX4_init 58 = .ok (.aload_n 0, 1) := by decide +kernel
theorem dX4_init_59 : decode cX4_init 59 = .ok (.iload_n 1, 1) := by decide +kernel
theorem dX4_init_60 : decode cX4_init 60 = .ok (.putfield 41, 3) := by decide +kernel
theorem dX4_init_63 : decode cX4_init 63 = .ok (.aload_n 0, 1) := by decide +kernel
theorem dX4_init_64 : decode cX4_init 64 = .ok (.iload_n 2, 1) := by decide +kernel
theorem dX4_init_65 : decode cX4_init 65 = .ok (.putfield 44, 3) := by decide +kernel
theorem dX4_init_68 : decode cX4_init 68 = .ok (.aload_n 0, 1) := by decide +kernel
theorem dX4_init_69 : decode cX4_init 69 = .ok (.iload_n 3, 1) := by decide +kernel
theorem dX4_init_70 : decode cX4_init 70 = .ok (.putfield 47, 3) := by decide +kernel
theorem dX4_init_73 : decode cX4_init 73 = .ok (.aload_n 0, 1) := by decide +kernel
theorem dX4_init_74 : decode cX4_init 74 = .ok (.iload 4, 2) := by decide +kernel
theorem dX4_init_76 : decode cX4_init 76 = .ok (.putfield 50, 3) := by decide +kernel
theorem dX4_init_79 : decode cX4_init 79 = .ok (.aload_n 0, 1) := by decide +kernel
theorem dX4_init_80 : decode cX4_init 80 = .ok (.iload 5, 2) := by decide +kernel
theorem dX4_init_82 : decode cX4_init 82 = .ok (.putfield 53, 3) := by decide +kernel
theorem dX4_init_85 : decode cX4_init 85 = .ok (.return_, 1) := by decide +kernel
theorem dX4_copyFrom_0 : decode cX4_copyFrom 0 = .ok (.aload_n 0, 1) := by decide +kernel
theorem dX4_copyFrom_1 : decode cX4_copyFrom 1 = .ok (.aload_n 1, 1) := by decide +kernel
theorem dX4_copyFrom_2 : decode cX4_copyFrom 2 = .ok (.getfield 41, 3) := by decide +kernel
theorem dX4_copyFrom_5 : decode cX4_copyFrom 5 = .ok (.putfield 41, 3) := by decide +kernel
theorem dX4_copyFrom_8 : decode cX4_copyFrom 8 = .ok (.aload_n 0, 1) := by decide +kernel
theorem dX4_copyFrom_9 : decode cX4_copyFrom 9 = .ok (.aload_n 1, 1) := by decide +kernel
theorem dX4_copyFrom_10 : decode cX4_copyFrom 10 = .ok (.getfield 44, 3) := by decide +kernel
theorem dX4_copyFrom_13 : decode cX4_copyFrom 13 = .ok (.putfield 44, 3) := by decide +kernel
theorem dX4_copyFrom_16 : decode cX4_copyFrom 16 = .ok (.aload_n 0, 1) := by decide +kernel
theorem dX4_copyFrom_17 : decode cX4_copyFrom 17 = .ok (.aload_n 1, 1) := by decide +kernel
theorem dX4_copyFrom_18 : decode cX4_copyFrom 18 = .ok (.getfield 47, 3) := by decide +kernel
theorem dX4_copyFrom_21 : decode cX4_copyFrom 21 = .ok (.putfield 47, 3) := by decide +kernel
theorem dX4_copyFrom_24 : decode cX4_copyFrom 24 = .ok (.aload_n 0, 1) := by decide +kernel
theorem dX4_copyFrom_25 : decode cX4_copyFrom 25 = .ok (.aload_n 1, 1) := by decide +kernel
theorem dX4_copyFrom_26 : decode cX4_copyFrom 26 = .ok (.getfield 50, 3) := by decide +kernel
theorem dX4_copyFrom_29 : decode cX4_copyFrom 29 = .ok (.putfield 50, 3) := by decide +kernel
theorem dX4_copyFrom_32 : decode cX4_copyFrom 32 = .ok (.aload_n 0, 1) := by decide +kernel
theorem dX4_copyFrom_33 : decode cX4_copyFrom 33 = .ok (.aload_n 1, 1) := by decide +kernel
theorem dX4_copyFrom_34 : decode cX4_copyFrom 34 = .ok (.getfield 53, 3) := by decide +kernel
theorem dX4_copyFrom_37 : decode cX4_copyFrom 37 = .ok (.putfield 53, 3) := by decide +kernel
theorem dX4_copyFrom_40 : decode cX4_copyFrom 40 = .ok (.aload_n 0, 1) := by decide +kernel
theorem dX4_copyFrom_41 : decode cX4_copyFrom 41 = .ok (.aload_n 1, 1) := by decide +kernel
theorem dX4_copyFrom_42 : decode cX4_copyFrom 42 = .ok (.getfield 56, 3) := by decide +kernel
theorem dX4_copyFrom_45 : decode cX4_copyFrom 45 = .ok (.putfield 56, 3) := by decide +kernel
theorem dX4_copyFrom_48 : decode cX4_copyFrom 48 = .ok (.aload_n 0, 1) := by decide +kernel
theorem dX4_copyFrom_49 : decode cX4_copyFrom 49 = .ok (.aload_n 1, 1) := by decide +kernel
theorem dX4_copyFrom_50 : decode cX4_copyFrom 50 = .ok (.getfield 60, 3) := by decide +kernel
theorem dX4_copyFrom_53 : decode cX4_copyFrom 53 = .ok (.putfield 60, 3) := by decide +kernel
theorem dX4_copyFrom_56 : decode cX4_copyFrom 56 = .ok (.aload_n 0, 1) := by decide +kernel
theorem dX4_copyFrom_57 : decode cX4_copyFrom 57 = .ok (.aload_n 1, 1) := by decide +kernel
theorem dX4_copyFrom_58 : decode cX4_copyFrom 58 = .ok (.getfield 63, 3) := by decide +kernel
theorem dX4_copyFrom_61 : decode cX4_copyFrom 61 = .ok (.putfield 63, 3) := by decide +kernel
theorem dX4_copyFrom_64 : decode cX4_copyFrom 64 = .ok (.aload_n 0, 1) := by decide +kernel
theorem dX4_copyFrom_65 : decode cX4_copyFrom 65 = .ok (.aload_n 1, 1) := by decide +kernel
theorem dX4_copyFrom_66 : decode cX4_copyFrom 66 = .ok (.getfield 66, 3) := by decide +kernel
theorem dX4_copyFrom_69 : decode cX4_copyFrom 69 = .ok (.putfield 66, 3) := by decide +kernel
theorem dX4_copyFrom_72 : decode cX4_copyFrom 72 = .ok (.aload_n 0, 1) := by decide +kernel
theorem dX4_copyFrom_73 : decode cX4_copyFrom 73 = .ok (.aload_n 1, 1) := by decide +kernel
theorem dX4_copyFrom_74 : decode cX4_copyFrom 74 = .ok (.getfield 69, 3) := by decide +kernel
theorem dX4_copyFrom_77 : decode cX4_copyFrom 77 = .ok (.putfield 69, 3) := by decide +kernel
theorem dX4_copyFrom_80 : decode cX4_copyFrom 80 = .ok (.aload_n 0, 1) := by decide +kernel
theorem dX4_copyFrom_81 : decode cX4_copyFrom 81 = .ok (.aload_n 1, 1) := by decide +kernel
theorem dX4_copyFrom_82 : decode cX4_copyFrom 82 = .ok (.getfield 9, 3) := by decide +kernel
theorem dX4_copyFrom_85 : decode cX4_copyFrom 85 = .ok (.putfield 9, 3) := by decide +kernel
theorem dX4_copyFrom_88 : decode cX4_copyFrom 88 = .ok (.aload_n 0, 1) := by decide +kernel
theorem dX4_copyFrom_89 : decode cX4_copyFrom 89 = .ok (.aload_n 1, 1) := by decide +kernel
theorem dX4_copyFrom_90 : decode cX4_copyFrom 90 = .ok (.getfield 72, 3) := by decide +kernel
theorem dX4_copyFrom_93 : decode cX4_copyFrom 93 = .ok (.putfield 72, 3) := by decide +kernel
theorem dX4_copyFrom_96 : decode cX4_copyFrom 96 = .ok (.aload_n 0, 1) := by decide +kernel
theorem dX4_copyFrom_97 : decode cX4_copyFrom 97 = .ok (.aload_n 1, 1) := by decide +kernel
theorem dX4_copyFrom_98 : decode cX4_copyFrom 98 = .ok (.getfield 75, 3) := by decide +kernel
theorem dX4_copyFrom_101 : decode cX4_copyFrom 101 = .ok (.putfield 75, 3) := by decide +kernel
theorem dX4_copyFrom_104 : decode cX4_copyFrom 104 = .ok (.aload_n 0, 1) := by decide +kernel
theorem dX4_copyFrom_105 : decode cX4_copyFrom 105 = .ok (.getfield 18, 3) := by decide +kernel
theorem dX4_copyFrom_108 : decode cX4_copyFrom 108 = .ok (.aload_n 1, 1) := by decide +kernel
theorem dX4_copyFrom_109 : decode cX4_copyFrom 109 = .ok (.getfield 18, 3) := by decide +kernel
theorem dX4_copyFrom_112 : decode cX4_copyFrom 112 = .ok (.invokevirtual 78, 3) := by decide +kernel
theorem dX4_copyFrom_115 : decode cX4_copyFrom 115 = .ok (.aload_n 0, 1) := by decide +kernel
theorem dX4_copyFrom_116 : decode cX4_copyFrom 116 = .ok (.getfield 25, 3) := by decide +kernel
theorem dX4_copyFrom_119 : decode cX4_copyFrom 119 = .ok (.aload_n 1, 1) := by decide +kernel
theorem dX4_copyFrom_120 : decode cX4_copyFrom 120 = .ok (.getfield 25, 3) := by decide +kernel
theorem dX4_copyFrom_123 : decode cX4_copyFrom 123 = .ok (.invokevirtual 82, 3) := by decide +kernel
theorem dX4_copyFrom_126 : decode cX4_copyFrom 126 = .ok (.aload_n 0, 1) := by decide +kernel
theorem dX4_copyFrom_127 : decode cX4_copyFrom 127 = .ok (.getfield 34, 3) := by decide +kernel
theorem dX4_copyFrom_130 : decode cX4_copyFrom 130 = .ok (.aload_n 1, 1) := by decide +kernel
theorem dX4_copyFrom_131 : decode cX4_copyFrom 131 = .ok (.getfield 34, 3) := by decide +kernel
theorem dX4_copyFrom_134 : decode cX4_copyFrom 134 = .ok (.invokevirtual 85, 3) := by decide +kernel
theorem dX4_copyFrom_137 : decode cX4_copyFrom 137 = .ok (.aload_n 0, 1) := by decide +kernel
theorem dX4_copyFrom_138 : decode cX4_copyFrom 138 = .ok (.getfield 38, 3) := by decide +kernel
theorem dX4_copyFrom_141 : decode cX4_copyFrom 141 = .ok (.aload_n 1, 1) := by decide +kernel
theorem dX4_copyFrom_142 : decode cX4_copyFrom 142 = .ok (.getfield 38, 3) := by decide +kernel
theorem dX4_copyFrom_145 : decode cX4_copyFrom 145 = .ok (.invokevirtual 85, 3) := by decide +kernel
theorem dX4_copyFrom_148 : decode cX4_copyFrom 148 = .ok (.return_, 1) := by decide +kernel
theorem dX4_rest_0 : decode cX4_rest 0 = .ok (.aload_n 0, 1) := by decide +kernel
theorem dX4_rest_1 : decode cX4_rest 1 = .ok (.iconst 0, 1) := by decide +kernel
theorem dX4_rest_2 : decode cX4_rest 2 = .ok (.putfield 60, 3) := by decide +kernel
theorem dX4_rest_5 : decode cX4_rest 5 = .ok (.aload_n 0, 1) := by decide +kernel
theorem dX4_rest_6 : decode cX4_rest 6 = .ok (.iconst 0, 1) := by decide +kernel
theorem dX4_rest_7 : decode cX4_rest 7 = .ok (.putfield 63, 3) := by decide +kernel
theorem dX4_rest_10 : decode cX4_rest 10 = .ok (.aload_n 0, 1) := by decide +kernel
theorem dX4_rest_11 : decode cX4_rest 11 = .ok (.iconst 0, 1) := by decide +kernel
theorem dX4_rest_12 : decode cX4_rest 12 = .ok (.putfield 66, 3) := by decide +kernel
theorem dX4_rest_15 : decode cX4_rest 15 = .ok (.return_, 1) := by decide +kernel
theorem dX4_tick_0 : decode cX4_tick 0 = .ok (.aload_n 3, 1) := by decide +kernel
theorem dX4_tick_1 : decode cX4_tick 1 = .ok (.invokevirtual 88, 3) := by decide +kernel
theorem dX4_tick_4 : decode cX4_tick 4 = .ok (.aload_n 0, 1) := by decide +kernel
theorem dX4_tick_5 : decode cX4_tick 5 = .ok (.getfield 47, 3) := by decide +kernel
theorem dX4_tick_8 : decode cX4_tick 8 = .ok (.aload_n 0, 1) := by decide +kernel
theorem dX4_tick_9 : decode cX4_tick 9 = .ok (.getfield 60, 3) := by decide +kernel
theorem dX4_tick_12 : decode cX4_tick 12 = .ok (.imul, 1) := by decide +kernel
theorem dX4_tick_13 : decode cX4_tick 13 = .ok (.bipush 10, 2) := by decide +kernel
theorem dX4_tick_15 : decode cX4_tick 15 = .ok (.idiv, 1) := by decide +kernel
theorem dX4_tick_16 : decode cX4_tick 16 = .ok (.istore 4, 2) := by decide +kernel
theorem dX4_tick_18 : decode cX4_tick 18 = .ok (.iload 4, 2) := by decide +kernel
theorem dX4_tick_20 : decode cX4_tick 20 = .ok (.iload_n 1, 1) := by decide +kernel
theorem dX4_tick_21 : decode cX4_tick 21 = .ok (.if_icmp .le 28, 3) := by decide +kernel
theorem dX4_tick_24 : decode cX4_tick 24 = .ok (.aload_n 0, 1) := by decide +kernel
theorem dX4_tick_25 : decode cX4_tick 25 = .ok (.invokevirtual 93, 3) := by decide +kernel
theorem dX4_tick_28 : decode cX4_tick 28 = .ok (.aload_n 0, 1) := by decide +kernel
theorem dX4_tick_29 : decode cX4_tick 29 = .ok (.getfield 25, 3) := by decide +kernel
theorem dX4_tick_32 : decode cX4_tick 32 = .ok (.dup, 1) := by decide +kernel
theorem dX4_tick_33 : decode cX4_tick 33 = .ok (.getfield 96, 3) := by decide +kernel
theorem dX4_tick_36 : decode cX4_tick 36 = .ok (.iconst 1, 1) := by decide +kernel
theorem dX4_tick_37 : decode cX4_tick 37 = .ok (.iadd, 1) := by decide +kernel
theorem dX4_tick_38 : decode cX4_tick 38 = .ok (.putfield 96, 3) := by decide +kernel
theorem dX4_tick_41 : decode cX4_tick 41 = .ok (.aload_n 3, 1) := by decide +kernel
theorem dX4_tick_42 : decode cX4_tick 42 = .ok (.iconst 1, 1) := by decide +kernel
theorem dX4_tick_43 : decode cX4_tick 43 = .ok (.putfield 99, 3) := by decide +kernel
theorem dX4_tick_46 : decode cX4_tick 46 = .ok (.goto 45, 3) := by decide +kernel
theorem dX4_tick_49 : decode cX4_tick 49 = .ok (.aload_n 3, 1) := by decide +kernel
theorem dX4_tick_50 : decode cX4_tick 50 = .ok (.iload 4, 2) := by decide +kernel
theorem dX4_tick_52 : decode cX4_tick 52 = .ok (.putfield 102, 3) := by decide +kernel
theorem dX4_tick_55 : decode cX4_tick 55 = .ok (.aload_n 0, 1) := by decide +kernel
theorem dX4_tick_56 : decode cX4_tick 56 = .ok (.getfield 63, 3) := by decide +kernel
theorem dX4_tick_59 : decode cX4_tick 59 = .ok (.ifCond .eq 13, 3) := by decide +kernel
theorem dX4_tick_62 : decode cX4_tick 62 = .ok (.aload_n 0, 1) := by decide +kernel
theorem dX4_tick_63 : decode cX4_tick 63 = .ok (.iload 4, 2) := by decide +kernel
theorem dX4_tick_65 : decode cX4_tick 65 = .ok (.aload_n 3, 1) := by decide +kernel
theorem dX4_tick_66 : decode cX4_tick 66 = .ok (.invokevirtual 105, 3) := by decide +kernel
theorem dX4_tick_69 : decode cX4_tick 69 = .ok (.goto 22, 3) := by decide +kernel
theorem dX4_tick_72 : decode cX4_tick 72 = .ok (.aload_n 0, 1) := by decide +kernel
theorem dX4_tick_73 : decode cX4_tick 73 = .ok (.iload 4, 2) := by decide +kernel
theorem dX4_tick_75 : decode cX4_tick 75 = .ok (.invokevirtual 109, 3) := by decide +kernel
theorem dX4_tick_78 : decode cX4_tick 78 = .ok (.aload_n 0, 1) := by decide +kernel
theorem dX4_tick_79 : decode cX4_tick 79 = .ok (.invokevirtual 112, 3) := by decide +kernel
theorem dX4_tick_82 : decode cX4_tick 82 = .ok (.ifCond .eq 9, 3) := by decide +kernel
theorem dX4_tick_85 : decode cX4_tick 85 = .ok (.aload_n 0, 1) := by decide +kernel
theorem dX4_tick_86 : decode cX4_tick 86 = .ok (.iload_n 2, 1) := by decide +kernel
theorem dX4_tick_87 : decode cX4_tick 87 = .ok (.aload_n 3, 1) := by decide +kernel
theorem dX4_tick_88 : decode cX4_tick 88 = .ok (.invokevirtual 116, 3) := by decide +kernel
theorem dX4_tick_91 : decode cX4_tick 91 = .ok (.aload_n 0, 1) := by decide +kernel
theorem dX4_tick_92 : decode cX4_tick 92 = .ok (.aload_n 3, 1) := by decide +kernel
theorem dX4_tick_93 : decode cX4_tick 93 = .ok (.invokevirtual 119, 3) := by decide +kernel
theorem dX4_tick_96 : decode cX4_tick 96 = .ok (.aload_n 0, 1) := by decide +kernel
theorem dX4_tick_97 : decode cX4_tick 97 = .ok (.getfield 38, 3) := by decide +kernel
theorem dX4_tick_100 : decode cX4_tick 100 = .ok (.aload_n 0, 1) := by decide +kernel
theorem dX4_tick_101 : decode cX4_tick 101 = .ok (.getfield 60, 3) := by decide +kernel
theorem dX4_tick_104 : decode cX4_tick 104 = .ok (.i2b, 1) := by decide +kernel
theorem dX4_tick_105 : decode cX4_tick 105 = .ok (.invokevirtual 123, 3) := by decide +kernel
theorem dX4_tick_108 : decode cX4_tick 108 = .ok (.return_, 1) := by decide +kernel
theorem dX4_gainSpeed_0 : decode cX4_gainSpeed 0 = .ok (.aload_n 0, 1) := by decide +kernel
theorem dX4_gainSpeed_1 : decode cX4_gainSpeed 1 = .ok (.getfield 25, 3) := by decide +kernel
theorem dX4_gainSpeed_4 : decode cX4_gainSpeed 4 = .ok (.dup, 1) := by decide +kernel
theorem dX4_gainSpeed_5 : decode cX4_gainSpeed 5 = .ok (.getfield 126, 3) := by decide +kernel
theorem dX4_gainSpeed_8 : decode cX4_gainSpeed 8 = .ok (.iload_n 1, 1) := by decide +kernel
theorem dX4_gainSpeed_9 : decode cX4_gainSpeed 9 = .ok (.iadd, 1) := by decide +kernel
theorem dX4_gainSpeed_10 : decode cX4_gainSpeed 10 = .ok (.putfield 126, 3) := by decide +kernel
theorem dX4_gainSpeed_13 : decode cX4_gainSpeed 13 = .ok (.aload_n 0, 1) := by decide +kernel
theorem dX4_gainSpeed_14 : decode cX4_gainSpeed 14 = .ok (.getfield 60, 3) := by decide +kernel
theorem dX4_gainSpeed_17 : decode cX4_gainSpeed 17 = .ok (.aload_n 0, 1) := by decide +kernel
theorem dX4_gainSpeed_18 : decode cX4_gainSpeed 18 = .ok (.aload_n 0, 1) := by decide +kernel
theorem dX4_gainSpeed_19 : decode cX4_gainSpeed 19 = .ok (.getfield 41, 3) := by decide +kernel
theorem dX4_gainSpeed_22 : decode cX4_gainSpeed 22 = .ok (.invokevirtual 129, 3) := by decide +kernel
theorem dX4_gainSpeed_25 : decode cX4_gainSpeed 25 = .ok (.iadd, 1) := by decide +kernel
theorem dX4_gainSpeed_26 : decode cX4_gainSpeed 26 = .ok (.aload_n 0, 1) := by decide +kernel
theorem dX4_gainSpeed_27 : decode cX4_gainSpeed 27 = .ok (.getfield 50, 3) := by decide +kernel
theorem dX4_gainSpeed_30 : decode cX4_gainSpeed 30 = .ok (.aload_n 0, 1) := by decide +kernel
theorem dX4_gainSpeed_31 : decode cX4_gainSpeed 31 = .ok (.getfield 60, 3) := by decide +kernel
theorem dX4_gainSpeed_34 : decode cX4_gainSpeed 34 = .ok (.imul, 1) := by decide +kernel
theorem dX4_gainSpeed_35 : decode cX4_gainSpeed 35 = .ok (.aload_n 0, 1) := by decide +kernel
theorem dX4_gainSpeed_36 : decode cX4_gainSpeed 36 = .ok (.getfield 60, 3) := by decide +kernel
theorem dX4_gainSpeed_39 : decode cX4_gainSpeed 39 = .ok (.imul, 1) := by decide +kernel
theorem dX4_gainSpeed_40 : decode cX4_gainSpeed 40 = .ok (.ldc 133, 2) := by decide +kernel
theorem dX4_gainSpeed_42 : decode cX4_gainSpeed 42 = .ok (.idiv, 1) := by decide +kernel
theorem dX4_gainSpeed_43 : decode cX4_gainSpeed 43 = .ok (.isub, 1) := by decide +kernel
theorem dX4_gainSpeed_44 : decode cX4_gainSpeed 44 = .ok (.istore_n 2, 1) := by decide +kernel
theorem dX4_gainSpeed_45 : decode cX4_gainSpeed 45 = .ok (.aload_n 0, 1) := by decide +kernel
theorem dX4_gainSpeed_46 : decode cX4_gainSpeed 46 = .ok (.iload_n 2, 1) := by decide +kernel
theorem dX4_gainSpeed_47 : decode cX4_gainSpeed 47 = .ok (.iconst 0, 1) := by decide +kernel
theorem dX4_gainSpeed_48 : decode cX4_gainSpeed 48 = .ok (.invokestatic 134, 3) := by decide +kernel
theorem dX4_gainSpeed_51 : decode cX4_gainSpeed 51 = .ok (.sipush 2000, 3) := by decide +kernel
theorem dX4_gainSpeed_54 : decode cX4_gainSpeed 54 = .ok (.invokestatic 140, 3) := by decide +kernel
theorem dX4_gainSpeed_57 : decode cX4_gainSpeed 57 = .ok (.putfield 60, 3) := by decide +kernel
theorem dX4_gainSpeed_60 : decode cX4_gainSpeed 60 = .ok (.aload_n 0, 1) := by decide +kernel
theorem dX4_gainSpeed_61 : decode cX4_gainSpeed 61 = .ok (.dup, 1) := by decide +kernel
theorem dX4_gainSpeed_62 : decode cX4_gainSpeed 62 = .ok (.getfield 66, 3) := by decide +kernel
theorem dX4_gainSpeed_65 : decode cX4_gainSpeed 65 = .ok (.iconst 1, 1) := by decide +kernel
theorem dX4_gainSpeed_66 : decode cX4_gainSpeed 66 = .ok (.iadd, 1) := by decide +kernel
theorem dX4_gainSpeed_67 : decode cX4_gainSpeed 67 = .ok (.putfield 66, 3) := by decide +kernel
theorem dX4_gainSpeed_70 : decode cX4_gainSpeed 70 = .ok (.return_, 1) := by decide +kernel
theorem dX4_speedFrom_0 : decode cX4_speedFrom 0 = .ok (.aload_n 0, 1) := by decide +kernel
theorem dX4_speedFrom_1 : decode cX4_speedFrom 1 = .ok (.getfield 44, 3) := by decide +kernel
theorem dX4_speedFrom_4 : decode cX4_speedFrom 4 = .ok (.iconst 1, 1) := by decide +kernel
theorem dX4_speedFrom_5 : decode cX4_speedFrom 5 = .ok (.if_icmp .ge 7, 3) := by decide +kernel
theorem dX4_speedFrom_8 : decode cX4_speedFrom 8 = .ok (.iconst 0, 1) := by decide +kernel
theorem dX4_speedFrom_9 : decode cX4_speedFrom 9 = .ok (.goto 12, 3) := by decide +kernel
theorem dX4_speedFrom_12 : decode cX4_speedFrom 12 = .ok (.bipush 100, 2) := by decide +kernel
theorem dX4_speedFrom_14 : decode cX4_speedFrom 14 = .ok (.iload_n 1, 1) := by decide +kernel
theorem dX4_speedFrom_15 : decode cX4_speedFrom 15 = .ok (.imul, 1) := by decide +kernel
theorem dX4_speedFrom_16 : decode cX4_speedFrom 16 = .ok (.aload_n 0, 1) := by decide +kernel
theorem dX4_speedFrom_17 : decode cX4_speedFrom 17 = .ok (.getfield 44, 3) := by decide +kernel
theorem dX4_speedFrom_20 : decode cX4_speedFrom 20 = .ok (.idiv, 1) := by decide +kernel
theorem dX4_speedFrom_21 : decode cX4_speedFrom 21 = .ok (.ireturn, 1) := by decide +kernel
theorem dX4_slamRuleHolds_0 : decode cX4_slamRuleHolds 0 = .ok (.aload_n 0, 1) := by decide +kernel
theorem dX4_slamRuleHolds_1 : decode cX4_slamRuleHolds 1 = .ok (.getfield 69, 3) := by decide +kernel
theorem dX4_slamRuleHolds_4 : decode cX4_slamRuleHolds 4 = .ok (.ifCond .ne 20, 3) := by decide +kernel
theorem dX4_slamRuleHolds_7 : decode cX4_slamRuleHolds 7 = .ok (.aload_n 0, 1) := by decide +kernel
theorem dX4_slamRuleHolds_8 : decode cX4_slamRuleHolds 8 = .ok (.getfield 60, 3) := by decide +kernel
theorem dX4_slamRuleHolds_11 : decode cX4_slamRuleHolds 11 = .ok (.aload_n 0, 1) := by decide +kernel
theorem dX4_slamRuleHolds_12 : decode cX4_slamRuleHolds 12 = .ok (.getfield 9, 3) := by decide +kernel
theorem dX4_slamRuleHolds_15 : decode cX4_slamRuleHolds 15 = .ok (.if_icmp .lt 7, 3) := by decide +kernel
theorem dX4_slamRuleHolds_18 : decode cX4_slamRuleHolds 18 = .ok (.iconst 1, 1) := by decide +kernel
theorem dX4_slamRuleHolds_19 : decode cX4_slamRuleHolds 19 = .ok (.goto 4, 3) := by decide +kernel
theorem dX4_slamRuleHolds_22 : decode cX4_slamRuleHolds 22 = .ok (.iconst 0, 1) := by decide +kernel
theorem dX4_slamRuleHolds_23 : decode cX4_slamRuleHolds 23 = .ok (.ireturn, 1) := by decide +kernel
theorem dX4_slamRuleHolds_24 : decode cX4_slamRuleHolds 24 = .ok (.aload_n 0, 1) := by decide +kernel
theorem dX4_slamRuleHolds_25 : decode cX4_slamRuleHolds 25 = .ok (.getfield 69, 3) := by decide +kernel
theorem dX4_slamRuleHolds_28 : decode cX4_slamRuleHolds 28 = .ok (.iconst 1, 1) := by decide +kernel
theorem dX4_slamRuleHolds_29 : decode cX4_slamRuleHolds 29 = .ok (.if_icmp .ne 28, 3) := by decide +kernel
theorem dX4_slamRuleHolds_32 : decode cX4_slamRuleHolds 32 = .ok (.aload_n 0, 1) := by decide +kernel
theorem dX4_slamRuleHolds_33 : decode cX4_slamRuleHolds 33 = .ok (.getfield 60, 3) := by decide +kernel
theorem dX4_slamRuleHolds_36 : decode cX4_slamRuleHolds 36 = .ok (.aload_n 0, 1) := by decide +kernel
theorem dX4_slamRuleHolds_37 : decode cX4_slamRuleHolds 37 = .ok (.getfield 60, 3) := by decide +kernel
theorem dX4_slamRuleHolds_40 : decode cX4_slamRuleHolds 40 = .ok (.imul, 1) := by decide +kernel
theorem dX4_slamRuleHolds_41 : decode cX4_slamRuleHolds 41 = .ok (.bipush 100, 2) := by decide +kernel
theorem dX4_slamRuleHolds_43 : decode cX4_slamRuleHolds 43 = .ok (.idiv, 1) := by decide +kernel
theorem dX4_slamRuleHolds_44 : decode cX4_slamRuleHolds 44 = .ok (.aload_n 0, 1) := by decide +kernel
theorem dX4_slamRuleHolds_45 : decode cX4_slamRuleHolds 45 = .ok (.getfield 9, 3) := by decide +kernel
theorem dX4_slamRuleHolds_48 : decode cX4_slamRuleHolds 48 = .ok (.if_icmp .lt 7, 3) := by decide +kernel
theorem dX4_slamRuleHolds_51 : decode cX4_slamRuleHolds 51 = .ok (.iconst 1, 1) := by decide +kernel
theorem dX4_slamRuleHolds_52 : decode cX4_slamRuleHolds 52 = .ok (.goto 4, 3) := by decide +kernel
theorem dX4_slamRuleHolds_55 : decode cX4_slamRuleHolds 55 = .ok (.iconst 0, 1) := by decide +kernel
theorem dX4_slamRuleHolds_56 : decode cX4_slamRuleHolds 56 = .ok (.ireturn, 1) := by decide +kernel
theorem dX4_slamRuleHolds_57 : decode cX4_slamRuleHolds 57 = .ok (.aload_n 0, 1) := by decide +kernel
theorem dX4_slamRuleHolds_58 : decode cX4_slamRuleHolds 58 = .ok (.getfield 66, 3) := by decide +kernel
theorem dX4_slamRuleHolds_61 : decode cX4_slamRuleHolds 61 = .ok (.aload_n 0, 1) := by decide +kernel
theorem dX4_slamRuleHolds_62 : decode cX4_slamRuleHolds 62 = .ok (.getfield 9, 3) := by decide +kernel
theorem dX4_slamRuleHolds_65 : decode cX4_slamRuleHolds 65 = .ok (.if_icmp .lt 7, 3) := by decide +kernel
theorem dX4_slamRuleHolds_68 : decode cX4_slamRuleHolds 68 = .ok (.iconst 1, 1) := by decide +kernel
theorem dX4_slamRuleHolds_69 : decode cX4_slamRuleHolds 69 = .ok (.goto 4, 3) := by decide +kernel
theorem dX4_slamRuleHolds_72 : decode cX4_slamRuleHolds 72 = .ok (.iconst 0, 1) := by decide +kernel
theorem dX4_slamRuleHolds_73 : decode cX4_slamRuleHolds 73 = .ok (.ireturn, 1) := by decide +kernel
theorem dX4_slam_0 : decode cX4_slam 0 = .ok (.aload_n 0, 1) := by decide +kernel
theorem dX4_slam_1 : decode cX4_slam 1 = .ok (.iconst 1, 1) := by decide +kernel
theorem dX4_slam_2 : decode cX4_slam 2 = .ok (.putfield 63, 3) := by decide +kernel
theorem dX4_slam_5 : decode cX4_slam 5 = .ok (.aload_n 2, 1) := by decide +kernel
theorem dX4_slam_6 : decode cX4_slam 6 = .ok (.iconst 1, 1) := by decide +kernel
theorem dX4_slam_7 : decode cX4_slam 7 = .ok (.putfield 143, 3) := by decide +kernel
theorem dX4_slam_10 : decode cX4_slam 10 = .ok (.aload_n 0, 1) := by decide +kernel
theorem dX4_slam_11 : decode cX4_slam 11 = .ok (.getfield 25, 3) := by decide +kernel
theorem dX4_slam_14 : decode cX4_slam 14 = .ok (.dup, 1) := by decide +kernel
theorem dX4_slam_15 : decode cX4_slam 15 = .ok (.getfield 146, 3) := by decide +kernel
theorem dX4_slam_18 : decode cX4_slam 18 = .ok (.iconst 1, 1) := by decide +kernel
theorem dX4_slam_19 : decode cX4_slam 19 = .ok (.iadd, 1) := by decide +kernel
theorem dX4_slam_20 : decode cX4_slam 20 = .ok (.putfield 146, 3) := by decide +kernel
theorem dX4_slam_23 : decode cX4_slam 23 = .ok (.aload_n 0, 1) := by decide +kernel
theorem dX4_slam_24 : decode cX4_slam 24 = .ok (.getfield 34, 3) := by decide +kernel
theorem dX4_slam_27 : decode cX4_slam 27 = .ok (.iload_n 1, 1) := by decide +kernel
theorem dX4_slam_28 : decode cX4_slam 28 = .ok (.aload_n 0, 1) := by decide +kernel
theorem dX4_slam_29 : decode cX4_slam 29 = .ok (.getfield 75, 3) := by decide +kernel
theorem dX4_slam_32 : decode cX4_slam 32 = .ok (.isub, 1) := by decide +kernel
theorem dX4_slam_33 : decode cX4_slam 33 = .ok (.invokevirtual 123, 3) := by decide +kernel
theorem dX4_slam_36 : decode cX4_slam 36 = .ok (.aload_n 0, 1) := by decide +kernel
theorem dX4_slam_37 : decode cX4_slam 37 = .ok (.iload_n 1, 1) := by decide +kernel
theorem dX4_slam_38 : decode cX4_slam 38 = .ok (.putfield 75, 3) := by decide +kernel
theorem dX4_slam_41 : decode cX4_slam 41 = .ok (.aload_n 0, 1) := by decide +kernel
theorem dX4_slam_42 : decode cX4_slam 42 = .ok (.getfield 18, 3) := by decide +kernel
theorem dX4_slam_45 : decode cX4_slam 45 = .ok (.getfield 149, 3) := by decide +kernel
theorem dX4_slam_48 : decode cX4_slam 48 = .ok (.istore_n 3, 1) := by decide +kernel
theorem dX4_slam_49 : decode cX4_slam 49 = .ok (.aload_n 0, 1) := by decide +kernel
theorem dX4_slam_50 : decode cX4_slam 50 = .ok (.getfield 18, 3) := by decide +kernel
theorem dX4_slam_53 : decode cX4_slam 53 = .ok (.invokevirtual 152, 3) := by decide +kernel
theorem dX4_slam_56 : decode cX4_slam 56 = .ok (.aload_n 0, 1) := by decide +kernel
theorem dX4_slam_57 : decode cX4_slam 57 = .ok (.getfield 18, 3) := by decide +kernel
theorem dX4_slam_60 : decode cX4_slam 60 = .ok (.getfield 149, 3) := by decide +kernel
theorem dX4_slam_63 : decode cX4_slam 63 = .ok (.aload_n 0, 1) := by decide +kernel
theorem dX4_slam_64 : decode cX4_slam 64 = .ok (.getfield 18, 3) := by decide +kernel
theorem dX4_slam_67 : decode cX4_slam 67 = .ok (.getfield 155, 3) := by decide +kernel
theorem dX4_slam_70 : decode cX4_slam 70 = .ok (.if_icmp .ne 19, 3) := by decide +kernel
theorem dX4_slam_73 : decode cX4_slam 73 = .ok (.iload_n 3, 1) := by decide +kernel
theorem dX4_slam_74 : decode cX4_slam 74 = .ok (.aload_n 0, 1) := by decide +kernel
theorem dX4_slam_75 : decode cX4_slam 75 = .ok (.getfield 18, 3) := by decide +kernel
theorem dX4_slam_78 : decode cX4_slam 78 = .ok (.getfield 155, 3) := by decide +kernel
theorem dX4_slam_81 : decode cX4_slam 81 = .ok (.if_icmp .le 8, 3) := by decide +kernel
theorem dX4_slam_84 : decode cX4_slam 84 = .ok (.aload_n 2, 1) := by decide +kernel
theorem dX4_slam_85 : decode cX4_slam 85 = .ok (.iconst 4, 1) := by decide +kernel
theorem dX4_slam_86 : decode cX4_slam 86 = .ok (.putfield 99, 3) := by decide +kernel
theorem dX4_slam_89 : decode cX4_slam 89 = .ok (.return_, 1) := by decide +kernel
theorem dX4_pushIntoChamber_0 : decode cX4_pushIntoChamber 0 = .ok (.iload_n 1, 1) := by decide +kernel
theorem dX4_pushIntoChamber_1 : decode cX4_pushIntoChamber 1 = .ok (.aload_n 0, 1) := by decide +kernel
theorem dX4_pushIntoChamber_2 : decode cX4_pushIntoChamber 2 = .ok (.getfield 18, 3) := by decide +kernel
theorem dX4_pushIntoChamber_5 : decode cX4_pushIntoChamber 5 = .ok (.iload_n 1, 1) := by decide +kernel
theorem dX4_pushIntoChamber_6 : decode cX4_pushIntoChamber 6 = .ok (.invokevirtual 158, 3) := by decide +kernel
theorem dX4_pushIntoChamber_9 : decode cX4_pushIntoChamber 9 = .ok (.isub, 1) := by decide +kernel
theorem dX4_pushIntoChamber_10 : decode cX4_pushIntoChamber 10 = .ok (.istore_n 3, 1) := by decide +kernel
theorem dX4_pushIntoChamber_11 : decode cX4_pushIntoChamber 11 = .ok (.iload_n 3, 1) := by decide +kernel
theorem dX4_pushIntoChamber_12 : decode cX4_pushIntoChamber 12 = .ok (.ifCond .le 21, 3) := by decide +kernel
theorem dX4_pushIntoChamber_15 : decode cX4_pushIntoChamber 15 = .ok (.aload_n 0, 1) := by decide +kernel
theorem dX4_pushIntoChamber_16 : decode cX4_pushIntoChamber 16 = .ok (.getfield 25, 3) := by decide +kernel
theorem dX4_pushIntoChamber_19 : decode cX4_pushIntoChamber 19 = .ok (.dup, 1) := by decide +kernel
theorem dX4_pushIntoChamber_20 : decode cX4_pushIntoChamber 20 = .ok (.getfield 161, 3) := by decide +kernel
theorem dX4_pushIntoChamber_23 : decode cX4_pushIntoChamber 23 = .ok (.iload_n 3, 1) := by decide +kernel
theorem dX4_pushIntoChamber_24 : decode cX4_pushIntoChamber 24 = .ok (.iadd, 1) := by decide +kernel
theorem dX4_pushIntoChamber_25 : decode cX4_pushIntoChamber 25 = .ok (.putfield 161, 3) := by decide +kernel
theorem dX4_pushIntoChamber_28 : decode cX4_pushIntoChamber 28 = .ok (.aload_n 2, 1) := by decide +kernel
theorem dX4_pushIntoChamber_29 : decode cX4_pushIntoChamber 29 = .ok (.iconst 2, 1) := by decide +kernel
theorem dX4_pushIntoChamber_30 : decode cX4_pushIntoChamber 30 = .ok (.putfield 99, 3) := by decide +kernel
theorem dX4_pushIntoChamber_33 : decode cX4_pushIntoChamber 33 = .ok (.aload_n 0, 1) := by decide +kernel
theorem dX4_pushIntoChamber_34 : decode cX4_pushIntoChamber 34 = .ok (.getfield 60, 3) := by decide +kernel
theorem dX4_pushIntoChamber_37 : decode cX4_pushIntoChamber 37 = .ok (.iconst 1, 1) := by decide +kernel
theorem dX4_pushIntoChamber_38 : decode cX4_pushIntoChamber 38 = .ok (.isub, 1) := by decide +kernel
theorem dX4_pushIntoChamber_39 : decode cX4_pushIntoChamber 39 = .ok (.aload_n 0, 1) := by decide +kernel
theorem dX4_pushIntoChamber_40 : decode cX4_pushIntoChamber 40 = .ok (.aload_n 0, 1) := by decide +kernel
theorem dX4_pushIntoChamber_41 : decode cX4_pushIntoChamber 41 = .ok (.getfield 18, 3) := by decide +kernel
theorem dX4_pushIntoChamber_44 : decode cX4_pushIntoChamber 44 = .ok (.invokevirtual 164, 3) := by decide +kernel
theorem dX4_pushIntoChamber_47 : decode cX4_pushIntoChamber 47 = .ok (.aload_n 0, 1) := by decide +kernel
theorem dX4_pushIntoChamber_48 : decode cX4_pushIntoChamber 48 = .ok (.getfield 41, 3) := by decide +kernel
theorem dX4_pushIntoChamber_51 : decode cX4_pushIntoChamber 51 = .ok (.isub, 1) := by decide +kernel
theorem dX4_pushIntoChamber_52 : decode cX4_pushIntoChamber 52 = .ok (.iconst 0, 1) := by decide +kernel
theorem dX4_pushIntoChamber_53 : decode cX4_pushIntoChamber 53 = .ok (.invokestatic 134, 3) := by decide +kernel
theorem dX4_pushIntoChamber_56 : decode cX4_pushIntoChamber 56 = .ok (.invokevirtual 129, 3) := by decide +kernel
theorem dX4_pushIntoChamber_59 : decode cX4_pushIntoChamber 59 = .ok (.isub, 1) := by decide +kernel
theorem dX4_pushIntoChamber_60 : decode cX4_pushIntoChamber 60 = .ok (.istore 4, 2) := by decide +kernel
theorem dX4_pushIntoChamber_62 : decode cX4_pushIntoChamber 62 = .ok (.iload 4, 2) := by decide +kernel
theorem dX4_pushIntoChamber_64 : decode cX4_pushIntoChamber 64 = .ok (.iconst 1, 1) := by decide +kernel
theorem dX4_pushIntoChamber_65 : decode cX4_pushIntoChamber 65 = .ok (.if_icmp .ge 10, 3) := by decide +kernel
theorem dX4_pushIntoChamber_68 : decode cX4_pushIntoChamber 68 = .ok (.aload_n 0, 1) := by decide +kernel
theorem dX4_pushIntoChamber_69 : decode cX4_pushIntoChamber 69 = .ok (.invokevirtual 93, 3) := by decide +kernel
theorem dX4_pushIntoChamber_72 : decode cX4_pushIntoChamber 72 = .ok (.goto 9, 3) := by decide +kernel
theorem dX4_pushIntoChamber_75 : decode cX4_pushIntoChamber 75 = .ok (.aload_n 0, 1) := by decide +kernel
theorem dX4_pushIntoChamber_76 : decode cX4_pushIntoChamber 76 = .ok (.iload 4, 2) := by decide +kernel
theorem dX4_pushIntoChamber_78 : decode cX4_pushIntoChamber 78 = .ok (.putfield 60, 3) := by decide +kernel
theorem dX4_pushIntoChamber_81 : decode cX4_pushIntoChamber 81 = .ok (.return_, 1) := by decide +kernel
theorem dX4_deliver_0 : decode cX4_deliver 0 = .ok (.aload_n 0, 1) := by decide +kernel
theorem dX4_deliver_1 : decode cX4_deliver 1 = .ok (.getfield 18, 3) := by decide +kernel
theorem dX4_deliver_4 : decode cX4_deliver 4 = .ok (.invokevirtual 164, 3) := by decide +kernel
theorem dX4_deliver_7 : decode cX4_deliver 7 = .ok (.istore_n 2, 1) := by decide +kernel
theorem dX4_deliver_8 : decode cX4_deliver 8 = .ok (.iload_n 2, 1) := by decide +kernel
theorem dX4_deliver_9 : decode cX4_deliver 9 = .ok (.aload_n 0, 1) := by decide +kernel
theorem dX4_deliver_10 : decode cX4_deliver 10 = .ok (.getfield 53, 3) := by decide +kernel
theorem dX4_deliver_13 : decode cX4_deliver 13 = .ok (.if_icmp .gt 4, 3) := by decide +kernel
theorem dX4_deliver_16 : decode cX4_deliver 16 = .ok (.return_, 1) := by decide +kernel
theorem dX4_deliver_17 : decode cX4_deliver 17 = .ok (.aload_n 0, 1) := by decide +kernel
theorem dX4_deliver_18 : decode cX4_deliver 18 = .ok (.getfield 18, 3) := by decide +kernel
theorem dX4_deliver_21 : decode cX4_deliver 21 = .ok (.getfield 168, 3) := by decide +kernel
theorem dX4_deliver_24 : decode cX4_deliver 24 = .ok (.iconst 1, 1) := by decide +kernel
theorem dX4_deliver_25 : decode cX4_deliver 25 = .ok (.iload_n 2, 1) := by decide +kernel
theorem dX4_deliver_26 : decode cX4_deliver 26 = .ok (.aload_n 0, 1) := by decide +kernel
theorem dX4_deliver_27 : decode cX4_deliver 27 = .ok (.getfield 53, 3) := by decide +kernel
theorem dX4_deliver_30 : decode cX4_deliver 30 = .ok (.isub, 1) := by decide +kernel
theorem dX4_deliver_31 : decode cX4_deliver 31 = .ok (.bipush 10, 2) := by decide +kernel
theorem dX4_deliver_33 : decode cX4_deliver 33 = .ok (.idiv, 1) := by decide +kernel
theorem dX4_deliver_34 : decode cX4_deliver 34 = .ok (.iadd, 1) := by decide +kernel
theorem dX4_deliver_35 : decode cX4_deliver 35 = .ok (.invokestatic 140, 3) := by decide +kernel
theorem dX4_deliver_38 : decode cX4_deliver 38 = .ok (.istore_n 3, 1) := by decide +kernel
theorem dX4_deliver_39 : decode cX4_deliver 39 = .ok (.aload_n 0, 1) := by decide +kernel
theorem dX4_deliver_40 : decode cX4_deliver 40 = .ok (.getfield 18, 3) := by decide +kernel
theorem dX4_deliver_43 : decode cX4_deliver 43 = .ok (.dup, 1) := by decide +kernel
theorem dX4_deliver_44 : decode cX4_deliver 44 = .ok (.getfield 168, 3) := by decide +kernel
theorem dX4_deliver_47 : decode cX4_deliver 47 = .ok (.iload_n 3, 1) := by decide +kernel
theorem dX4_deliver_48 : decode cX4_deliver 48 = .ok (.isub, 1) := by decide +kernel
theorem dX4_deliver_49 : decode cX4_deliver 49 = .ok (.putfield 168, 3) := by decide +kernel
theorem dX4_deliver_52 : decode cX4_deliver 52 = .ok (.aload_n 0, 1) := by decide +kernel
theorem dX4_deliver_53 : decode cX4_deliver 53 = .ok (.getfield 25, 3) := by decide +kernel
theorem dX4_deliver_56 : decode cX4_deliver 56 = .ok (.dup, 1) := by decide +kernel
theorem dX4_deliver_57 : decode cX4_deliver 57 = .ok (.getfield 171, 3) := by decide +kernel
theorem dX4_deliver_60 : decode cX4_deliver 60 = .ok (.iload_n 3, 1) := by decide +kernel
theorem dX4_deliver_61 : decode cX4_deliver 61 = .ok (.iadd, 1) := by decide +kernel
theorem dX4_deliver_62 : decode cX4_deliver 62 = .ok (.putfield 171, 3) := by decide +kernel
theorem dX4_deliver_65 : decode cX4_deliver 65 = .ok (.aload_n 1, 1) := by decide +kernel
theorem dX4_deliver_66 : decode cX4_deliver 66 = .ok (.iload_n 3, 1) := by decide +kernel
theorem dX4_deliver_67 : decode cX4_deliver 67 = .ok (.putfield 174, 3) := by decide +kernel
theorem dX4_deliver_70 : decode cX4_deliver 70 = .ok (.iload_n 3, 1) := by decide +kernel
theorem dX4_deliver_71 : decode cX4_deliver 71 = .ok (.sipush 30000, 3) := by decide +kernel
theorem dX4_deliver_74 : decode cX4_deliver 74 = .ok (.aload_n 0, 1) := by decide +kernel
theorem dX4_deliver_75 : decode cX4_deliver 75 = .ok (.getfield 72, 3) := by decide +kernel
theorem dX4_deliver_78 : decode cX4_deliver 78 = .ok (.isub, 1) := by decide +kernel
theorem dX4_deliver_79 : decode cX4_deliver 79 = .ok (.invokestatic 140, 3) := by decide +kernel
theorem dX4_deliver_82 : decode cX4_deliver 82 = .ok (.istore 4, 2) := by decide +kernel
theorem dX4_deliver_84 : decode cX4_deliver 84 = .ok (.aload_n 0, 1) := by decide +kernel
theorem dX4_deliver_85 : decode cX4_deliver 85 = .ok (.dup, 1) := by decide +kernel
theorem dX4_deliver_86 : decode cX4_deliver 86 = .ok (.getfield 72, 3) := by decide +kernel
theorem dX4_deliver_89 : decode cX4_deliver 89 = .ok (.iload 4, 2) := by decide +kernel
theorem dX4_deliver_91 : decode cX4_deliver 91 = .ok (.iadd, 1) := by decide +kernel
theorem dX4_deliver_92 : decode cX4_deliver 92 = .ok (.putfield 72, 3) := by decide +kernel
theorem dX4_deliver_95 : decode cX4_deliver 95 = .ok (.aload_n 0, 1) := by decide +kernel
theorem dX4_deliver_96 : decode cX4_deliver 96 = .ok (.getfield 25, 3) := by decide +kernel
theorem dX4_deliver_99 : decode cX4_deliver 99 = .ok (.dup, 1) := by decide +kernel
theorem dX4_deliver_100 : decode cX4_deliver 100 = .ok (.getfield 177, 3) := by decide +kernel
theorem dX4_deliver_103 : decode cX4_deliver 103 = .ok (.iload_n 3, 1) := by decide +kernel
theorem dX4_deliver_104 : decode cX4_deliver 104 = .ok (.iload 4, 2) := by decide +kernel
theorem dX4_deliver_106 : decode cX4_deliver 106 = .ok (.isub, 1) := by decide +kernel
theorem dX4_deliver_107 : decode cX4_deliver 107 = .ok (.iadd, 1) := by decide +kernel
theorem dX4_deliver_108 : decode cX4_deliver 108 = .ok (.putfield 177, 3) := by decide +kernel
theorem dX4_deliver_111 : decode cX4_deliver 111 = .ok (.aload_n 1, 1) := by decide +kernel
theorem dX4_deliver_112 : decode cX4_deliver 112 = .ok (.iload_n 3, 1) := by decide +kernel
theorem dX4_deliver_113 : decode cX4_deliver 113 = .ok (.iload 4, 2) := by decide +kernel
theorem dX4_deliver_115 : decode cX4_deliver 115 = .ok (.if_icmp .le 7, 3) := by decide +kernel
theorem dX4_deliver_118 : decode cX4_deliver 118 = .ok (.iconst 1, 1) := by decide +kernel
theorem dX4_deliver_119 : decode cX4_deliver 119 = .ok (.goto 4, 3) := by decide +kernel
theorem dX4_deliver_122 : decode cX4_deliver 122 = .ok (.iconst 0, 1) := by decide +kernel
theorem dX4_deliver_123 : decode cX4_deliver 123 = .ok (.putfield 180, 3) := by decide +kernel
theorem dX4_deliver_126 : decode cX4_deliver 126 = .ok (.return_, 1) := by decide +kernel
theorem dX4_thousandths_0 : decode cX4_thousandths 0 = .ok (.aload_n 0, 1) := by decide +kernel
theorem dX4_thousandths_1 : decode cX4_thousandths 1 = .ok (.getfield 25, 3) := by decide +kernel
theorem dX4_thousandths_4 : decode cX4_thousandths 4 = .ok (.getfield 126, 3) := by decide +kernel
theorem dX4_thousandths_7 : decode cX4_thousandths 7 = .ok (.i2l, 1) := by decide +kernel
theorem dX4_thousandths_8 : decode cX4_thousandths 8 = .ok (.aload_n 0, 1) := by decide +kernel
theorem dX4_thousandths_9 : decode cX4_thousandths 9 = .ok (.getfield 25, 3) := by decide +kernel
theorem dX4_thousandths_12 : decode cX4_thousandths 12 = .ok (.getfield 161, 3) := by decide +kernel
theorem dX4_thousandths_15 : decode cX4_thousandths 15 = .ok (.i2l, 1) := by decide +kernel
theorem dX4_thousandths_16 : decode cX4_thousandths 16 = .ok (.ladd, 1) := by decide +kernel
theorem dX4_thousandths_17 : decode cX4_thousandths 17 = .ok (.aload_n 0, 1) := by decide +kernel
theorem dX4_thousandths_18 : decode cX4_thousandths 18 = .ok (.getfield 25, 3) := by decide +kernel
theorem dX4_thousandths_21 : decode cX4_thousandths 21 = .ok (.getfield 171, 3) := by decide +kernel
theorem dX4_thousandths_24 : decode cX4_thousandths 24 = .ok (.i2l, 1) := by decide +kernel
theorem dX4_thousandths_25 : decode cX4_thousandths 25 = .ok (.ladd, 1) := by decide +kernel
theorem dX4_thousandths_26 : decode cX4_thousandths 26 = .ok (.lstore_n 1, 1) := by decide +kernel
theorem dX4_thousandths_27 : decode cX4_thousandths 27 = .ok (.lload_n 1, 1) := by decide +kernel
theorem dX4_thousandths_28 : decode cX4_thousandths 28 = .ok (.aload_n 0, 1) := by decide +kernel
theorem dX4_thousandths_29 : decode cX4_thousandths 29 = .ok (.getfield 41, 3) := by decide +kernel
theorem dX4_thousandths_32 : decode cX4_thousandths 32 = .ok (.i2l, 1) := by decide +kernel
theorem dX4_thousandths_33 : decode cX4_thousandths 33 = .ok (.lmul, 1) := by decide +kernel
theorem dX4_thousandths_34 : decode cX4_thousandths 34 = .ok (.lstore_n 3, 1) := by decide +kernel
theorem dX4_thousandths_35 : decode cX4_thousandths 35 = .ok (.lload_n 3, 1) := by decide +kernel
theorem dX4_thousandths_36 : decode cX4_thousandths 36 = .ok (.lconst 1, 1) := by decide +kernel
theorem dX4_thousandths_37 : decode cX4_thousandths 37 = .ok (.lcmp, 1) := by decide +kernel
theorem dX4_thousandths_38 : decode cX4_thousandths 38 = .ok (.ifCond .ge 7, 3) := by decide +kernel
theorem dX4_thousandths_41 : decode cX4_thousandths 41 = .ok (.sipush (-1005), 3) := by decide +kernel
theorem dX4_thousandths_44 : decode cX4_thousandths 44 = .ok (.ireturn, 1) := by decide +kernel
theorem dX4_thousandths_45 : decode cX4_thousandths 45 = .ok (.ldc2_w 183, 3) := by decide +kernel
theorem dX4_thousandths_48 : decode cX4_thousandths 48 = .ok (.aload_n 0, 1) := by decide +kernel
theorem dX4_thousandths_49 : decode cX4_thousandths 49 = .ok (.getfield 25, 3) := by decide +kernel
theorem dX4_thousandths_52 : decode cX4_thousandths 52 = .ok (.getfield 171, 3) := by decide +kernel
theorem dX4_thousandths_55 : decode cX4_thousandths 55 = .ok (.i2l, 1) := by decide +kernel
theorem dX4_thousandths_56 : decode cX4_thousandths 56 = .ok (.lmul, 1) := by decide +kernel
theorem dX4_thousandths_57 : decode cX4_thousandths 57 = .ok (.aload_n 0, 1) := by decide +kernel
theorem dX4_thousandths_58 : decode cX4_thousandths 58 = .ok (.getfield 53, 3) := by decide +kernel
theorem dX4_thousandths_61 : decode cX4_thousandths 61 = .ok (.i2l, 1) := by decide +kernel
theorem dX4_thousandths_62 : decode cX4_thousandths 62 = .ok (.lmul, 1) := by decide +kernel
theorem dX4_thousandths_63 : decode cX4_thousandths 63 = .ok (.lload_n 3, 1) := by decide +kernel
theorem dX4_thousandths_64 : decode cX4_thousandths 64 = .ok (.ldiv, 1) := by decide +kernel
theorem dX4_thousandths_65 : decode cX4_thousandths 65 = .ok (.l2i, 1) := by decide +kernel
theorem dX4_thousandths_66 : decode cX4_thousandths 66 = .ok (.ireturn, 1) := by decide +kernel
theorem dX4_slamMark_0 : decode cX4_slamMark 0 = .ok (.aload_n 0, 1) := by decide +kernel
theorem dX4_slamMark_1 : decode cX4_slamMark 1 = .ok (.getfield 60, 3) := by decide +kernel
theorem dX4_slamMark_4 : decode cX4_slamMark 4 = .ok (.i2l, 1) := by decide +kernel
theorem dX4_slamMark_5 : decode cX4_slamMark 5 = .ok (.ldc2_w 185, 3) := by decide +kernel
theorem dX4_slamMark_8 : decode cX4_slamMark 8 = .ok (.lmul, 1) := by decide +kernel
theorem dX4_slamMark_9 : decode cX4_slamMark 9 = .ok (.aload_n 0, 1) := by decide +kernel
theorem dX4_slamMark_10 : decode cX4_slamMark 10 = .ok (.getfield 18, 3) := by decide +kernel
theorem dX4_slamMark_13 : decode cX4_slamMark 13 = .ok (.getfield 168, 3) := by decide +kernel
theorem dX4_slamMark_16 : decode cX4_slamMark 16 = .ok (.i2l, 1) := by decide +kernel
theorem dX4_slamMark_17 : decode cX4_slamMark 17 = .ok (.ladd, 1) := by decide +kernel
theorem dX4_slamMark_18 : decode cX4_slamMark 18 = .ok (.ldc2_w 185, 3) := by decide +kernel
theorem dX4_slamMark_21 : decode cX4_slamMark 21 = .ok (.lmul, 1) := by decide +kernel
theorem dX4_slamMark_22 : decode cX4_slamMark 22 = .ok (.aload_n 0, 1) := by decide +kernel
theorem dX4_slamMark_23 : decode cX4_slamMark 23 = .ok (.getfield 18, 3) := by decide +kernel
theorem dX4_slamMark_26 : decode cX4_slamMark 26 = .ok (.getfield 149, 3) := by decide +kernel
theorem dX4_slamMark_29 : decode cX4_slamMark 29 = .ok (.i2l, 1) := by decide +kernel
theorem dX4_slamMark_30 : decode cX4_slamMark 30 = .ok (.ladd, 1) := by decide +kernel
theorem dX4_slamMark_31 : decode cX4_slamMark 31 = .ok (.lreturn, 1) := by decide +kernel
theorem dX5_init_0 : decode cX5_init 0 = .ok (.aload_n 0, 1) := by decide +kernel
theorem dX5_init_1 : decode cX5_init 1 = .ok (.invokespecial 1, 3) := by decide +kernel
theorem dX5_init_4 : decode cX5_init 4 = .ok (.return_, 1) := by decide +kernel
theorem dX5_clear_0 : decode cX5_clear 0 = .ok (.aload_n 0, 1) := by decide +kernel
theorem dX5_clear_1 : decode cX5_clear 1 = .ok (.iconst 0, 1) := by decide +kernel
theorem dX5_clear_2 : decode cX5_clear 2 = .ok (.putfield 7, 3) := by decide +kernel
theorem dX5_clear_5 : decode cX5_clear 5 = .ok (.aload_n 0, 1) := by decide +kernel
theorem dX5_clear_6 : decode cX5_clear 6 = .ok (.iconst 0, 1) := by decide +kernel
theorem dX5_clear_7 : decode cX5_clear 7 = .ok (.putfield 13, 3) := by decide +kernel
theorem dX5_clear_10 : decode cX5_clear 10 = .ok (.aload_n 0, 1) := by decide +kernel
theorem dX5_clear_11 : decode cX5_clear 11 = .ok (.iconst 0, 1) := by decide +kernel
theorem dX5_clear_12 : decode cX5_clear 12 = .ok (.putfield 16, 3) := by decide +kernel
theorem dX5_clear_15 : decode cX5_clear 15 = .ok (.aload_n 0, 1) := by decide +kernel
theorem dX5_clear_16 : decode cX5_clear 16 = .ok (.iconst 0, 1) := by decide +kernel
theorem dX5_clear_17 : decode cX5_clear 17 = .ok (.putfield 20, 3) := by decide +kernel
theorem dX5_clear_20 : decode cX5_clear 20 = .ok (.aload_n 0, 1) := by decide +kernel
theorem dX5_clear_21 : decode cX5_clear 21 = .ok (.iconst 0, 1) := by decide +kernel
theorem dX5_clear_22 : decode cX5_clear 22 = .ok (.putfield 23, 3) := by decide +kernel
theorem dX5_clear_25 : decode cX5_clear 25 = .ok (.return_, 1) := by decide +kernel
theorem dX6_init_0 : decode cX6_init 0 = .ok (.aload_n 0, 1) := by decide +kernel
theorem dX6_init_1 : decode cX6_init 1 = .ok (.invokespecial 3, 3) := by decide +kernel
theorem dX6_init_4 : decode cX6_init 4 = .ok (.aload_n 0, 1) := by decide +kernel
theorem dX6_init_5 : decode cX6_init 5 = .ok (.iload_n 1, 1) := by decide +kernel
theorem dX6_init_6 : decode cX6_init 6 = .ok (.iconst 1, 1) := by decide +kernel
theorem dX6_init_7 : decode cX6_init 7 = .ok (.invokestatic 9, 3) := by decide +kernel
theorem dX6_init_10 : decode cX6_init 10 = .ok (.newarray .int, 2) := by decide +kernel
theorem dX6_init_12 : decode cX6_init 12 = .ok (.putfield 15, 3) := by decide +kernel
theorem dX6_init_15 : decode cX6_init 15 = .ok (.return_, 1) := by decide +kernel
theorem dX6_add_0 : decode cX6_add 0 = .ok (.aload_n 0, 1) := by decide +kernel
theorem dX6_add_1 : decode cX6_add 1 = .ok (.getfield 21, 3) := by decide +kernel
theorem dX6_add_4 : decode cX6_add 4 = .ok (.ifCond .lt 15, 3) := by decide +kernel
theorem dX6_add_7 : decode cX6_add 7 = .ok (.aload_n 0, 1) := by decide +kernel
theorem dX6_add_8 : decode cX6_add 8 = .ok (.getfield 21, 3) := by decide +kernel
theorem dX6_add_11 : decode cX6_add 11 = .ok (.aload_n 0, 1) := by decide +kernel
theorem dX6_add_12 : decode cX6_add 12 = .ok (.getfield 15, 3) := by decide +kernel
theorem dX6_add_15 : decode cX6_add 15 = .ok (.arraylength, 1) := by decide +kernel
theorem dX6_add_16 : decode cX6_add 16 = .ok (.if_icmp .lt 8, 3) := by decide +kernel
theorem dX6_add_19 : decode cX6_add 19 = .ok (.aload_n 0, 1) := by decide +kernel
theorem dX6_add_20 : decode cX6_add 20 = .ok (.iconst 0, 1) := by decide +kernel
theorem dX6_add_21 : decode cX6_add 21 = .ok (.putfield 21, 3) := by decide +kernel
theorem dX6_add_24 : decode cX6_add 24 = .ok (.aload_n 0, 1) := by decide +kernel
theorem dX6_add_25 : decode cX6_add 25 = .ok (.getfield 15, 3) := by decide +kernel
theorem dX6_add_28 : decode cX6_add 28 = .ok (.aload_n 0, 1) := by decide +kernel
theorem dX6_add_29 : decode cX6_add 29 = .ok (.getfield 21, 3) := by decide +kernel
theorem dX6_add_32 : decode cX6_add 32 = .ok (.iload_n 1, 1) := by decide +kernel
theorem dX6_add_33 : decode cX6_add 33 = .ok (.iastore, 1) := by decide +kernel
theorem dX6_add_34 : decode cX6_add 34 = .ok (.aload_n 0, 1) := by decide +kernel
theorem dX6_add_35 : decode cX6_add 35 = .ok (.dup, 1) := by decide +kernel
theorem dX6_add_36 : decode cX6_add 36 = .ok (.getfield 21, 3) := by decide +kernel
theorem dX6_add_39 : decode cX6_add 39 = .ok (.iconst 1, 1) := by decide +kernel
theorem dX6_add_40 : decode cX6_add 40 = .ok (.iadd, 1) := by decide +kernel
theorem dX6_add_41 : decode cX6_add 41 = .ok (.putfield 21, 3) := by decide +kernel
theorem dX6_add_44 : decode cX6_add 44 = .ok (.aload_n 0, 1) := by decide +kernel
theorem dX6_add_45 : decode cX6_add 45 = .ok (.getfield 25, 3) := by decide +kernel
theorem dX6_add_48 : decode cX6_add 48 = .ok (.aload_n 0, 1) := by decide +kernel
theorem dX6_add_49 : decode cX6_add 49 = .ok (.getfield 15, 3) := by decide +kernel
theorem dX6_add_52 : decode cX6_add 52 = .ok (.arraylength, 1) := by decide +kernel
theorem dX6_add_53 : decode cX6_add 53 = .ok (.if_icmp .ge 13, 3) := by decide +kernel
theorem dX6_add_56 : decode cX6_add 56 = .ok (.aload_n 0, 1) := by decide +kernel
theorem dX6_add_57 : decode cX6_add 57 = .ok (.dup, 1) := by decide +kernel
theorem dX6_add_58 : decode cX6_add 58 = .ok (.getfield 25, 3) := by decide +kernel
theorem dX6_add_61 : decode cX6_add 61 = .ok (.iconst 1, 1) := by decide +kernel
theorem dX6_add_62 : decode cX6_add 62 = .ok (.iadd, 1) := by decide +kernel
theorem dX6_add_63 : decode cX6_add 63 = .ok (.putfield 25, 3) := by decide +kernel
theorem dX6_add_66 : decode cX6_add 66 = .ok (.return_, 1) := by decide +kernel
theorem dX6_latest_0 : decode cX6_latest 0 = .ok (.iload_n 1, 1) := by decide +kernel
theorem dX6_latest_1 : decode cX6_latest 1 = .ok (.iconst 0, 1) := by decide +kernel
theorem dX6_latest_2 : decode cX6_latest 2 = .ok (.aload_n 0, 1) := by decide +kernel
theorem dX6_latest_3 : decode cX6_latest 3 = .ok (.getfield 25, 3) := by decide +kernel
theorem dX6_latest_6 : decode cX6_latest 6 = .ok (.iconst 1, 1) := by decide +kernel
theorem dX6_latest_7 : decode cX6_latest 7 = .ok (.isub, 1) := by decide +kernel
theorem dX6_latest_8 : decode cX6_latest 8 = .ok (.invokestatic 28, 3) := by decide +kernel
theorem dX6_latest_11 : decode cX6_latest 11 = .ok (.ifCond .eq 7, 3) := by decide +kernel
theorem dX6_latest_14 : decode cX6_latest 14 = .ok (.sipush (-1005), 3) := by decide +kernel
theorem dX6_latest_17 : decode cX6_latest 17 = .ok (.ireturn, 1) := by decide +kernel
theorem dX6_latest_18 : decode cX6_latest 18 = .ok (.aload_n 0, 1) := by decide +kernel
theorem dX6_latest_19 : decode cX6_latest 19 = .ok (.getfield 21, 3) := by decide +kernel
theorem dX6_latest_22 : decode cX6_latest 22 = .ok (.iconst 1, 1) := by decide +kernel
theorem dX6_latest_23 : decode cX6_latest 23 = .ok (.isub, 1) := by decide +kernel
theorem dX6_latest_24 : decode cX6_latest 24 = .ok (.iload_n 1, 1) := by decide +kernel
theorem dX6_latest_25 : decode cX6_latest 25 = .ok (.isub, 1) := by decide +kernel
theorem dX6_latest_26 : decode cX6_latest 26 = .ok (.istore_n 2, 1) := by decide +kernel
theorem dX6_latest_27 : decode cX6_latest 27 = .ok (.iload_n 2, 1) := by decide +kernel
theorem dX6_latest_28 : decode cX6_latest 28 = .ok (.ifCond .ge 11, 3) := by decide +kernel
theorem dX6_latest_31 : decode cX6_latest 31 = .ok (.iload_n 2, 1) := by decide +kernel
theorem dX6_latest_32 : decode cX6_latest 32 = .ok (.aload_n 0, 1) := by decide +kernel
theorem dX6_latest_33 : decode cX6_latest 33 = .ok (.getfield 15, 3) := by decide +kernel
theorem dX6_latest_36 : decode cX6_latest 36 = .ok (.arraylength, 1) := by decide +kernel
theorem dX6_latest_37 : decode cX6_latest 37 = .ok (.iadd, 1) := by decide +kernel
theorem dX6_latest_38 : decode cX6_latest 38 = .ok (.istore_n 2, 1) := by decide +kernel
theorem dX6_latest_39 : decode cX6_latest 39 = .ok (.iload_n 2, 1) := by decide +kernel
theorem dX6_latest_40 : decode cX6_latest 40 = .ok (.iconst 0, 1) := by decide +kernel
theorem dX6_latest_41 : decode cX6_latest 41 = .ok (.aload_n 0, 1) := by decide +kernel
theorem dX6_latest_42 : decode cX6_latest 42 = .ok (.getfield 15, 3) := by decide +kernel
theorem dX6_latest_45 : decode cX6_latest 45 = .ok (.arraylength, 1) := by decide +kernel
theorem dX6_latest_46 : decode cX6_latest 46 = .ok (.iconst 1, 1) := by decide +kernel
theorem dX6_latest_47 : decode cX6_latest 47 = .ok (.isub, 1) := by decide +kernel
theorem dX6_latest_48 : decode cX6_latest 48 = .ok (.invokestatic 28, 3) := by decide +kernel
theorem dX6_latest_51 : decode cX6_latest 51 = .ok (.ifCond .eq 9, 3) := by decide +kernel
theorem dX6_latest_54 : decode cX6_latest 54 = .ok (.sipush (-1005), 3) := by decide +kernel
theorem dX6_latest_57 : decode cX6_latest 57 = .ok (.goto 9, 3) := by decide +kernel
theorem dX6_latest_60 : decode cX6_latest 60 = .ok (.aload_n 0, 1) := by decide +kernel
theorem dX6_latest_61 : decode cX6_latest 61 = .ok (.getfield 15, 3) := by decide +kernel
theorem dX6_latest_64 : decode cX6_latest 64 = .ok (.iload_n 2, 1) := by decide +kernel
theorem dX6_latest_65 : decode cX6_latest 65 = .ok (.iaload, 1) := by decide +kernel
theorem dX6_latest_66 : decode cX6_latest 66 = .ok (.ireturn, 1) := by decide +kernel
theorem dX6_copyFrom_0 : decode cX6_copyFrom 0 = .ok (.aload_n 0, 1) := by decide +kernel
theorem dX6_copyFrom_1 : decode cX6_copyFrom 1 = .ok (.aload_n 1, 1) := by decide +kernel
theorem dX6_copyFrom_2 : decode cX6_copyFrom 2 = .ok (.getfield 25, 3) := by decide +kernel
theorem dX6_copyFrom_5 : decode cX6_copyFrom 5 = .ok (.putfield 25, 3) := by decide +kernel
theorem dX6_copyFrom_8 : decode cX6_copyFrom 8 = .ok (.aload_n 0, 1) := by decide +kernel
theorem dX6_copyFrom_9 : decode cX6_copyFrom 9 = .ok (.aload_n 1, 1) := by decide +kernel
theorem dX6_copyFrom_10 : decode cX6_copyFrom 10 = .ok (.getfield 21, 3) := by decide +kernel
theorem dX6_copyFrom_13 : decode cX6_copyFrom 13 = .ok (.putfield 21, 3) := by decide +kernel
theorem dX6_copyFrom_16 : decode cX6_copyFrom 16 = .ok (.aload_n 1, 1) := by decide +kernel
theorem dX6_copyFrom_17 : decode cX6_copyFrom 17 = .ok (.getfield 15, 3) := by decide +kernel
theorem dX6_copyFrom_20 : decode cX6_copyFrom 20 = .ok (.iconst 0, 1) := by decide +kernel
theorem dX6_copyFrom_21 : decode cX6_copyFrom 21 = .ok (.aload_n 0, 1) := by decide +kernel
theorem dX6_copyFrom_22 : decode cX6_copyFrom 22 = .ok (.getfield 15, 3) := by decide +kernel
theorem dX6_copyFrom_25 : decode cX6_copyFrom 25 = .ok (.iconst 0, 1) := by decide +kernel
theorem dX6_copyFrom_26 : decode cX6_copyFrom 26 = .ok (.aload_n 0, 1) := by decide +kernel
theorem dX6_copyFrom_27 : decode cX6_copyFrom 27 = .ok (.getfield 15, 3) := by decide +kernel
theorem dX6_copyFrom_30 : decode cX6_copyFrom 30 = .ok (.arraylength, 1) := by decide +kernel
theorem dX6_copyFrom_31 : decode cX6_copyFrom 31 = .ok (.aload_n 1, 1) := by decide +kernel
theorem dX6_copyFrom_32 : decode cX6_copyFrom 32 = .ok (.getfield 15, 3) := by decide +kernel
theorem dX6_copyFrom_35 : decode cX6_copyFrom 35 = .ok (.arraylength, 1) := by decide +kernel
theorem dX6_copyFrom_36 : decode cX6_copyFrom 36 = .ok (.invokestatic 32, 3) := by decide +kernel
theorem dX6_copyFrom_39 : decode cX6_copyFrom 39 = .ok (.invokestatic 35, 3) := by decide +kernel
theorem dX6_copyFrom_42 : decode cX6_copyFrom 42 = .ok (.return_, 1) := by decide +kernel
theorem dX7_init_0 : decode cX7_init 0 = .ok (.aload_n 0, 1) := by decide +kernel
theorem dX7_init_1 : decode cX7_init 1 = .ok (.invokespecial 3, 3) := by decide +kernel
theorem dX7_init_4 : decode cX7_init 4 = .ok (.aload_n 0, 1) := by decide +kernel
theorem dX7_init_5 : decode cX7_init 5 = .ok (.sipush 5000, 3) := by decide +kernel
theorem dX7_init_8 : decode cX7_init 8 = .ok (.putfield 9, 3) := by decide +kernel
theorem dX7_init_11 : decode cX7_init 11 = .ok (.aload_n 0, 1) := by decide +kernel
theorem dX7_init_12 : decode cX7_init 12 = .ok (.bipush 100, 2) := by decide +kernel
theorem dX7_init_14 : decode cX7_init 14 = .ok (.putfield 15, 3) := by decide +kernel
theorem dX7_init_17 : decode cX7_init 17 = .ok (.aload_n 0, 1) := by decide +kernel
theorem dX7_init_18 : decode cX7_init 18 = .ok (.iconst 4, 1) := by decide +kernel
theorem dX7_init_19 : decode cX7_init 19 = .ok (.anewarray 18, 3) := by decide +kernel
theorem dX7_init_22 : decode cX7_init 22 = .ok (.putfield 20, 3) := by decide +kernel
theorem dX7_init_25 : decode cX7_init 25 = .ok (.iconst 0, 1) := by decide +kernel
theorem dX7_init_26 : decode cX7_init 26 = .ok (.istore_n 1, 1) := by decide +kernel
theorem dX7_init_27 : decode cX7_init 27 = .ok (.iload_n 1, 1) := by decide +kernel
theorem dX7_init_28 : decode cX7_init 28 = .ok (.aload_n 0, 1) := by decide +kernel
theorem dX7_init_29 : decode cX7_init 29 = .ok (.getfield 20, 3) := by decide +kernel
theorem dX7_init_32 : decode cX7_init 32 = .ok (.arraylength, 1) := by decide +kernel
theorem dX7_init_33 : decode cX7_init 33 = .ok (.if_icmp .ge 27, 3) := by decide +kernel
theorem dX7_init_36 : decode cX7_init 36 = .ok (.aload_n 0, 1) := by decide +kernel
theorem dX7_init_37 : decode cX7_init 37 = .ok (.getfield 20, 3) := by decide +kernel
theorem dX7_init_40 : decode cX7_init 40 = .ok (.iload_n 1, 1) := by decide +kernel
theorem dX7_init_41 : decode cX7_init 41 = .ok (.new 18, 3) := by decide +kernel
theorem dX7_init_44 : decode cX7_init 44 = .ok (.dup, 1) := by decide +kernel
theorem dX7_init_45 : decode cX7_init 45 = .ok (.iconst 0, 1) := by decide +kernel
theorem dX7_init_46 : decode cX7_init 46 = .ok (.iconst 1, 1) := by decide +kernel
theorem dX7_init_47 : decode cX7_init 47 = .ok (.iconst 0, 1) := by decide +kernel
theorem dX7_init_48 : decode cX7_init 48 = .ok (.iconst 0, 1) := by decide +kernel
theorem dX7_init_49 : decode cX7_init 49 = .ok (.iconst 0, 1) := by decide +kernel
theorem dX7_init_50 : decode cX7_init 50 = .ok (.invokespecial 24, 3) := by decide +kernel
theorem dX7_init_53 : decode cX7_init 53 = .ok (.aastore, 1) := by decide +kernel
theorem dX7_init_54 : decode cX7_init 54 = .ok (.iinc 1 1, 3) := by decide +kernel
theorem dX7_init_57 : decode cX7_init 57 = .ok (.goto (-30), 3) := by decide +kernel
theorem dX7_init_60 : decode cX7_init 60 = .ok (.return_, 1) := by decide +kernel
theorem dX7_pumpAt_0 : decode cX7_pumpAt 0 = .ok (.iload_n 1, 1) := by decide +kernel
theorem dX7_pumpAt_1 : decode cX7_pumpAt 1 = .ok (.aload_n 0, 1) := by decide +kernel
theorem dX7_pumpAt_2 : decode cX7_pumpAt 2 = .ok (.getfield 27, 3) := by decide +kernel
theorem dX7_pumpAt_5 : decode cX7_pumpAt 5 = .ok (.if_icmp .ge 18, 3) := by decide +kernel
theorem dX7_pumpAt_8 : decode cX7_pumpAt 8 = .ok (.iload_n 1, 1) := by decide +kernel
theorem dX7_pumpAt_9 : decode cX7_pumpAt 9 = .ok (.iconst 0, 1) := by decide +kernel
theorem dX7_pumpAt_10 : decode cX7_pumpAt 10 = .ok (.aload_n 0, 1) := by decide +kernel
theorem dX7_pumpAt_11 : decode cX7_pumpAt 11 = .ok (.getfield 20, 3) := by decide +kernel
theorem dX7_pumpAt_14 : decode cX7_pumpAt 14 = .ok (.arraylength, 1) := by decide +kernel
theorem dX7_pumpAt_15 : decode cX7_pumpAt 15 = .ok (.iconst 1, 1) := by decide +kernel
theorem dX7_pumpAt_16 : decode cX7_pumpAt 16 = .ok (.isub, 1) := by decide +kernel
theorem dX7_pumpAt_17 : decode cX7_pumpAt 17 = .ok (.invokestatic 30, 3) := by decide +kernel
theorem dX7_pumpAt_20 : decode cX7_pumpAt 20 = .ok (.ifCond .eq 5, 3) := by decide +kernel
theorem dX7_pumpAt_23 : decode cX7_pumpAt 23 = .ok (.aconst_null, 1) := by decide +kernel
theorem dX7_pumpAt_24 : decode cX7_pumpAt 24 = .ok (.areturn, 1) := by decide +kernel
theorem dX7_pumpAt_25 : decode cX7_pumpAt 25 = .ok (.aload_n 0, 1) := by decide +kernel
theorem dX7_pumpAt_26 : decode cX7_pumpAt 26 = .ok (.getfield 20, 3) := by decide +kernel
theorem dX7_pumpAt_29 : decode cX7_pumpAt 29 = .ok (.iload_n 1, 1) := by decide +kernel
theorem dX7_pumpAt_30 : decode cX7_pumpAt 30 = .ok (.aaload, 1) := by decide +kernel
theorem dX7_pumpAt_31 : decode cX7_pumpAt 31 = .ok (.areturn, 1) := by decide +kernel
theorem dX7_runningPumps_0 : decode cX7_runningPumps 0 = .ok (.iconst 0, 1) := by decide +kernel
theorem dX7_runningPumps_1 : decode cX7_runningPumps 1 = .ok (.istore_n 1, 1) := by decide +kernel
theorem dX7_runningPumps_2 : decode cX7_runningPumps 2 = .ok (.iconst 0, 1) := by decide +kernel
theorem dX7_runningPumps_3 : decode cX7_runningPumps 3 = .ok (.istore_n 2, 1) := by decide +kernel
theorem dX7_runningPumps_4 : decode cX7_runningPumps 4 = .ok (.iload_n 2, 1) := by decide +kernel
theorem dX7_runningPumps_5 : decode cX7_runningPumps 5 = .ok (.aload_n 0, 1) := by decide +kernel
theorem dX7_runningPumps_6 : decode cX7_runningPumps 6 = .ok (.getfield 27, 3) := by decide +kernel
theorem dX7_runningPumps_9 : decode cX7_runningPumps 9 = .ok (.if_icmp .ge 29, 3) := by decide +kernel
theorem dX7_runningPumps_12 : decode cX7_runningPumps 12 = .ok (.aload_n 0, 1) := by decide +kernel
theorem dX7_runningPumps_13 : decode cX7_runningPumps 13 = .ok (.iload_n 2, 1) := by decide +kernel
theorem dX7_runningPumps_14 : decode cX7_runningPumps 14 = .ok (.invokevirtual 34, 3) := by decide +kernel
theorem dX7_runningPumps_17 : decode cX7_runningPumps 17 = .ok (.astore_n 3, 1) := by decide +kernel
theorem dX7_runningPumps_18 : decode cX7_runningPumps 18 = .ok (.aload_n 3, 1) := by decide +kernel
theorem dX7_runningPumps_19 : decode cX7_runningPumps 19 = .ok (.ifnull 13, 3) := by decide +kernel
theorem dX7_runningPumps_22 : decode cX7_runningPumps 22 = .ok (.aload_n 3, 1) := by decide +kernel
theorem dX7_runningPumps_23 : decode cX7_runningPumps 23 = .ok (.getfield 38, 3) := by decide +kernel
theorem dX7_runningPumps_26 : decode cX7_runningPumps 26 = .ok (.ifCond .eq 6, 3) := by decide +kernel
theorem dX7_runningPumps_29 : decode cX7_runningPumps 29 = .ok (.iinc 1 1, 3) := by decide +kernel
theorem dX7_runningPumps_32 : decode cX7_runningPumps 32 = .ok (.iinc 2 1, 3) := by decide +kernel
theorem dX7_runningPumps_35 : decode cX7_runningPumps 35 = .ok (.goto (-31), 3) := by decide +kernel
theorem dX7_runningPumps_38 : decode cX7_runningPumps 38 = .ok (.iload_n 1, 1) := by decide +kernel
theorem dX7_runningPumps_39 : decode cX7_runningPumps 39 = .ok (.ireturn, 1) := by decide +kernel
theorem dX7_fillBasin_0 : decode cX7_fillBasin 0 = .ok (.iload_n 1, 1) := by decide +kernel
theorem dX7_fillBasin_1 : decode cX7_fillBasin 1 = .ok (.sipush 20000, 3) := by decide +kernel
theorem dX7_fillBasin_4 : decode cX7_fillBasin 4 = .ok (.aload_n 0, 1) := by decide +kernel
theorem dX7_fillBasin_5 : decode cX7_fillBasin 5 = .ok (.getfield 9, 3) := by decide +kernel
theorem dX7_fillBasin_8 : decode cX7_fillBasin 8 = .ok (.isub, 1) := by decide +kernel
theorem dX7_fillBasin_9 : decode cX7_fillBasin 9 = .ok (.invokestatic 42, 3) := by decide +kernel
theorem dX7_fillBasin_12 : decode cX7_fillBasin 12 = .ok (.istore_n 2, 1) := by decide +kernel
theorem dX7_fillBasin_13 : decode cX7_fillBasin 13 = .ok (.aload_n 0, 1) := by decide +kernel
theorem dX7_fillBasin_14 : decode cX7_fillBasin 14 = .ok (.dup, 1) := by decide +kernel
theorem dX7_fillBasin_15 : decode cX7_fillBasin 15 = .ok (.getfield 9, 3) := by decide +kernel
theorem dX7_fillBasin_18 : decode cX7_fillBasin 18 = .ok (.iload_n 2, 1) := by decide +kernel
theorem dX7_fillBasin_19 : decode cX7_fillBasin 19 = .ok (.iadd, 1) := by decide +kernel
theorem dX7_fillBasin_20 : decode cX7_fillBasin 20 = .ok (.putfield 9, 3) := by decide +kernel
theorem dX7_fillBasin_23 : decode cX7_fillBasin 23 = .ok (.aload_n 0, 1) := by decide +kernel
theorem dX7_fillBasin_24 : decode cX7_fillBasin 24 = .ok (.dup, 1) := by decide +kernel
theorem dX7_fillBasin_25 : decode cX7_fillBasin 25 = .ok (.getfield 48, 3) := by decide +kernel
theorem dX7_fillBasin_28 : decode cX7_fillBasin 28 = .ok (.iload_n 1, 1) := by decide +kernel
theorem dX7_fillBasin_29 : decode cX7_fillBasin 29 = .ok (.iload_n 2, 1) := by decide +kernel
theorem dX7_fillBasin_30 : decode cX7_fillBasin 30 = .ok (.isub, 1) := by decide +kernel
theorem dX7_fillBasin_31 : decode cX7_fillBasin 31 = .ok (.iadd, 1) := by decide +kernel
theorem dX7_fillBasin_32 : decode cX7_fillBasin 32 = .ok (.putfield 48, 3) := by decide +kernel
theorem dX7_fillBasin_35 : decode cX7_fillBasin 35 = .ok (.return_, 1) := by decide +kernel
theorem dX7_copyFrom_0 : decode cX7_copyFrom 0 = .ok (.aload_n 0, 1) := by decide +kernel
theorem dX7_copyFrom_1 : decode cX7_copyFrom 1 = .ok (.aload_n 1, 1) := by decide +kernel
theorem dX7_copyFrom_2 : decode cX7_copyFrom 2 = .ok (.getfield 51, 3) := by decide +kernel
theorem dX7_copyFrom_5 : decode cX7_copyFrom 5 = .ok (.putfield 51, 3) := by decide +kernel
theorem dX7_copyFrom_8 : decode cX7_copyFrom 8 = .ok (.aload_n 0, 1) := by decide +kernel
theorem dX7_copyFrom_9 : decode cX7_copyFrom 9 = .ok (.aload_n 1, 1) := by decide +kernel
theorem dX7_copyFrom_10 : decode cX7_copyFrom 10 = .ok (.getfield 9, 3) := by decide +kernel
theorem dX7_copyFrom_13 : decode cX7_copyFrom 13 = .ok (.putfield 9, 3) := by decide +kernel
theorem dX7_copyFrom_16 : decode cX7_copyFrom 16 = .ok (.aload_n 0, 1) := by decide +kernel
theorem dX7_copyFrom_17 : decode cX7_copyFrom 17 = .ok (.aload_n 1, 1) := by decide +kernel
theorem dX7_copyFrom_18 : decode cX7_copyFrom 18 = .ok (.getfield 48, 3) := by decide +kernel
theorem dX7_copyFrom_21 : decode cX7_copyFrom 21 = .ok (.putfield 48, 3) := by decide +kernel
theorem dX7_copyFrom_24 : decode cX7_copyFrom 24 = .ok (.aload_n 0, 1) := by decide +kernel
theorem dX7_copyFrom_25 : decode cX7_copyFrom 25 = .ok (.aload_n 1, 1) := by decide +kernel
theorem dX7_copyFrom_26 : decode cX7_copyFrom 26 = .ok (.getfield 15, 3) := by decide +kernel
theorem dX7_copyFrom_29 : decode cX7_copyFrom 29 = .ok (.putfield 15, 3) := by decide +kernel
theorem dX7_copyFrom_32 : decode cX7_copyFrom 32 = .ok (.aload_n 0, 1) := by decide +kernel
theorem dX7_copyFrom_33 : decode cX7_copyFrom 33 = .ok (.aload_n 1, 1) := by decide +kernel
theorem dX7_copyFrom_34 : decode cX7_copyFrom 34 = .ok (.getfield 27, 3) := by decide +kernel
theorem dX7_copyFrom_37 : decode cX7_copyFrom 37 = .ok (.putfield 27, 3) := by decide +kernel
theorem dX7_copyFrom_40 : decode cX7_copyFrom 40 = .ok (.iconst 0, 1) := by decide +kernel
theorem dX7_copyFrom_41 : decode cX7_copyFrom 41 = .ok (.istore_n 2, 1) := by decide +kernel
theorem dX7_copyFrom_42 : decode cX7_copyFrom 42 = .ok (.iload_n 2, 1) := by decide +kernel
theorem dX7_copyFrom_43 : decode cX7_copyFrom 43 = .ok (.aload_n 0, 1) := by decide +kernel
theorem dX7_copyFrom_44 : decode cX7_copyFrom 44 = .ok (.getfield 27, 3) := by decide +kernel
theorem dX7_copyFrom_47 : decode cX7_copyFrom 47 = .ok (.if_icmp .ge 37, 3) := by decide +kernel
theorem dX7_copyFrom_50 : decode cX7_copyFrom 50 = .ok (.aload_n 0, 1) := by decide +kernel
theorem dX7_copyFrom_51 : decode cX7_copyFrom 51 = .ok (.iload_n 2, 1) := by decide +kernel
theorem dX7_copyFrom_52 : decode cX7_copyFrom 52 = .ok (.invokevirtual 34, 3) := by decide +kernel
theorem dX7_copyFrom_55 : decode cX7_copyFrom 55 = .ok (.astore_n 3, 1) := by decide +kernel
theorem dX7_copyFrom_56 : decode cX7_copyFrom 56 = .ok (.aload_n 1, 1) := by decide +kernel
theorem dX7_copyFrom_57 : decode cX7_copyFrom 57 = .ok (.iload_n 2, 1) := by decide +kernel
theorem dX7_copyFrom_58 : decode cX7_copyFrom 58 = .ok (.invokevirtual 34, 3) := by decide +kernel
theorem dX7_copyFrom_61 : decode cX7_copyFrom 61 = .ok (.astore 4, 2) := by decide +kernel
theorem dX7_copyFrom_63 : decode cX7_copyFrom 63 = .ok (.aload_n 3, 1) := by decide +kernel
theorem dX7_copyFrom_64 : decode cX7_copyFrom 64 = .ok (.ifnull 14, 3) := by decide +kernel
theorem dX7_copyFrom_67 : decode cX7_copyFrom 67 = .ok (.aload 4, 2) := by decide +kernel
theorem dX7_copyFrom_69 : decode cX7_copyFrom 69 = .ok (.ifnull 9, 3) := by decide +kernel
theorem dX7_copyFrom_72 : decode cX7_copyFrom 72 = .ok (.aload_n 3, 1) := by decide +kernel
theorem dX7_copyFrom_73 : decode cX7_copyFrom 73 = .ok (.aload 4, 2) := by decide +kernel
theorem dX7_copyFrom_75 : decode cX7_copyFrom 75 = .ok (.invokevirtual 54, 3) := by decide +kernel
theorem dX7_copyFrom_78 : decode cX7_copyFrom 78 = .ok (.iinc 2 1, 3) := by decide +kernel
theorem dX7_copyFrom_81 : decode cX7_copyFrom 81 = .ok (.goto (-39), 3) := by decide +kernel
theorem dX7_copyFrom_84 : decode cX7_copyFrom 84 = .ok (.return_, 1) := by decide +kernel
theorem dX8_init_0 : decode cX8_init 0 = .ok (.aload_n 0, 1) := by decide +kernel
theorem dX8_init_1 : decode cX8_init 1 = .ok (.invokespecial 1, 3) := by decide +kernel
theorem dX8_init_4 : decode cX8_init 4 = .ok (.aload_n 0, 1) := by decide +kernel
theorem dX8_init_5 : decode cX8_init 5 = .ok (.new 7, 3) := by decide +kernel
theorem dX8_init_8 : decode cX8_init 8 = .ok (.dup, 1) := by decide +kernel
theorem dX8_init_9 : decode cX8_init 9 = .ok (.invokespecial 9, 3) := by decide +kernel
theorem dX8_init_12 : decode cX8_init 12 = .ok (.putfield 10, 3) := by decide +kernel
theorem dX8_init_15 : decode cX8_init 15 = .ok (.aload_n 0, 1) := by decide +kernel
theorem dX8_init_16 : decode cX8_init 16 = .ok (.bipush 8, 2) := by decide +kernel
theorem dX8_init_18 : decode cX8_init 18 = .ok (.anewarray 7, 3) := by decide +kernel
theorem dX8_init_21 : decode cX8_init 21 = .ok (.putfield 16, 3) := by decide +kernel
theorem dX8_init_24 : decode cX8_init 24 = .ok (.aload_n 0, 1) := by decide +kernel
theorem dX8_init_25 : decode cX8_init 25 = .ok (.sipush (-1005), 3) := by decide +kernel
theorem dX8_init_28 : decode cX8_init 28 = .ok (.putfield 20, 3) := by decide +kernel
theorem dX8_init_31 : decode cX8_init 31 = .ok (.aload_n 0, 1) := by decide +kernel
theorem dX8_init_32 : decode cX8_init 32 = .ok (.new 24, 3) := by decide +kernel
theorem dX8_init_35 : decode cX8_init 35 = .ok (.dup, 1) := by decide +kernel
theorem dX8_init_36 : decode cX8_init 36 = .ok (.invokespecial 26, 3) := by decide +kernel
theorem dX8_init_39 : decode cX8_init 39 = .ok (.putfield 27, 3) := by decide +kernel
theorem dX8_init_42 : decode cX8_init 42 = .ok (.aload_n 0, 1) := by decide +kernel
theorem dX8_init_43 : decode cX8_init 43 = .ok (.new 31, 3) := by decide +kernel
theorem dX8_init_46 : decode cX8_init 46 = .ok (.dup, 1) := by decide +kernel
theorem dX8_init_47 : decode cX8_init 47 = .ok (.invokespecial 33, 3) := by decide +kernel
theorem dX8_init_50 : decode cX8_init 50 = .ok (.putfield 34, 3) := by decide +kernel
theorem dX8_init_53 : decode cX8_init 53 = .ok (.aload_n 0, 1) := by decide +kernel
theorem dX8_init_54 : decode cX8_init 54 = .ok (.new 38, 3) := by decide +kernel
theorem dX8_init_57 : decode cX8_init 57 = .ok (.dup, 1) := by decide +kernel
theorem dX8_init_58 : decode cX8_init 58 = .ok (.invokespecial 40, 3) := by decide +kernel
theorem dX8_init_61 : decode cX8_init 61 = .ok (.putfield 41, 3) := by decide +kernel
theorem dX8_init_64 : decode cX8_init 64 = .ok (.aload_n 0, 1) := by decide +kernel
theorem dX8_init_65 : decode cX8_init 65 = .ok (.new 45, 3) := by decide +kernel
theorem dX8_init_68 : decode cX8_init 68 = .ok (.dup, 1) := by decide +kernel
theorem dX8_init_69 : decode cX8_init 69 = .ok (.iconst 0, 1) := by decide +kernel
theorem dX8_init_70 : decode cX8_init 70 = .ok (.iconst 1, 1) := by decide +kernel
theorem dX8_init_71 : decode cX8_init 71 = .ok (.iconst 0, 1) := by decide +kernel
theorem dX8_init_72 : decode cX8_init 72 = .ok (.iconst 0, 1) := by decide +kernel
theorem dX8_init_73 : decode cX8_init 73 = .ok (.iconst 0, 1) := by decide +kernel
theorem dX8_init_74 : decode cX8_init 74 = .ok (.invokespecial 47, 3) := by decide +kernel
theorem dX8_init_77 : decode cX8_init 77 = .ok (.putfield 50, 3) := by decide +kernel
theorem dX8_init_80 : decode cX8_init 80 = .ok (.aload_n 0, 1) := by decide +kernel
theorem dX8_init_81 : decode cX8_init 81 = .ok (.sipush 2000, 3) := by decide +kernel
theorem dX8_init_84 : decode cX8_init 84 = .ok (.newarray .long, 2) := by decide +kernel
theorem dX8_init_86 : decode cX8_init 86 = .ok (.putfield 54, 3) := by decide +kernel
theorem dX8_init_89 : decode cX8_init 89 = .ok (.iconst 0, 1) := by decide +kernel
theorem dX8_init_90 : decode cX8_init 90 = .ok (.istore_n 1, 1) := by decide +kernel
theorem dX8_init_91 : decode cX8_init 91 = .ok (.iload_n 1, 1) := by decide +kernel
theorem dX8_init_92 : decode cX8_init 92 = .ok (.aload_n 0, 1) := by decide +kernel
theorem dX8_init_93 : decode cX8_init 93 = .ok (.getfield 16, 3) := by decide +kernel
theorem dX8_init_96 : decode cX8_init 96 = .ok (.arraylength, 1) := by decide +kernel
theorem dX8_init_97 : decode cX8_init 97 = .ok (.if_icmp .ge 22, 3) := by decide +kernel
theorem dX8_init_100 : decode cX8_init 100 = .ok (.aload_n 0, 1) := by decide +kernel
theorem dX8_init_101 : decode cX8_init 101 = .ok (.getfield 16, 3) := by decide +kernel
theorem dX8_init_104 : decode cX8_init 104 = .ok (.iload_n 1, 1) := by decide +kernel
theorem dX8_init_105 : decode cX8_init 105 = .ok (.new 7, 3) := by decide +kernel
theorem dX8_init_108 : decode cX8_init 108 = .ok (.dup, 1) := by decide +kernel
theorem dX8_init_109 : decode cX8_init 109 = .ok (.invokespecial 9, 3) := by decide +kernel
theorem dX8_init_112 : decode cX8_init 112 = .ok (.aastore, 1) := by decide +kernel
theorem dX8_init_113 : decode cX8_init 113 = .ok (.iinc 1 1, 3) := by decide +kernel
theorem dX8_init_116 : decode cX8_init 116 = .ok (.goto (-25), 3) := by decide +kernel
theorem dX8_init_119 : decode cX8_init 119 = .ok (.return_, 1) := by decide +kernel
theorem dX8_addPump_0 : decode cX8_addPump 0 = .ok (.iload_n 1, 1) := by decide +kernel
theorem dX8_addPump_1 : decode cX8_addPump 1 = .ok (.bipush 10, 2) := by decide +kernel
theorem dX8_addPump_3 : decode cX8_addPump 3 = .ok (.bipush 99, 2) := by decide +kernel
theorem dX8_addPump_5 : decode cX8_addPump 5 = .ok (.invokestatic 58, 3) := by decide +kernel
theorem dX8_addPump_8 : decode cX8_addPump 8 = .ok (.ifCond .ne 50, 3) := by decide +kernel
theorem dX8_addPump_11 : decode cX8_addPump 11 = .ok (.iload_n 2, 1) := by decide +kernel
theorem dX8_addPump_12 : decode cX8_addPump 12 = .ok (.bipush 10, 2) := by decide +kernel
theorem dX8_addPump_14 : decode cX8_addPump 14 = .ok (.sipush 400, 3) := by decide +kernel
theorem dX8_addPump_17 : decode cX8_addPump 17 = .ok (.invokestatic 58, 3) := by decide +kernel
theorem dX8_addPump_20 : decode cX8_addPump 20 = .ok (.ifCond .ne 38, 3) := by decide +kernel
theorem dX8_addPump_23 : decode cX8_addPump 23 = .ok (.iload_n 3, 1) := by decide +kernel
theorem dX8_addPump_24 : decode cX8_addPump 24 = .ok (.iconst 1, 1) := by decide +kernel
theorem dX8_addPump_25 : decode cX8_addPump 25 = .ok (.bipush 20, 2) := by decide +kernel
theorem dX8_addPump_27 : decode cX8_addPump 27 = .ok (.invokestatic 58, 3) := by decide +kernel
theorem dX8_addPump_30 : decode cX8_addPump 30 = .ok (.ifCond .ne 28, 3) := by decide +kernel
theorem dX8_addPump_33 : decode cX8_addPump 33 = .ok (.iload 4, 2) := by decide +kernel
theorem dX8_addPump_35 : decode cX8_addPump 35 = .ok (.iconst 0, 1) := by decide +kernel
theorem dX8_addPump_36 : decode cX8_addPump 36 = .ok (.bipush 100, 2) := by decide +kernel
theorem dX8_addPump_38 : decode cX8_addPump 38 = .ok (.invokestatic 58, 3) := by decide +kernel
theorem dX8_addPump_41 : decode cX8_addPump 41 = .ok (.ifCond .ne 17, 3) := by decide +kernel
theorem dX8_addPump_44 : decode cX8_addPump 44 = .ok (.iload 5, 2) := by decide +kernel
theorem dX8_addPump_46 : decode cX8_addPump 46 = .ok (.iload_n 1, 1) := by decide +kernel
theorem dX8_addPump_47 : decode cX8_addPump 47 = .ok (.iconst 1, 1) := by decide +kernel
theorem dX8_addPump_48 : decode cX8_addPump 48 = .ok (.iadd, 1) := by decide +kernel
theorem dX8_addPump_49 : decode cX8_addPump 49 = .ok (.sipush 500, 3) := by decide +kernel
theorem dX8_addPump_52 : decode cX8_addPump 52 = .ok (.invokestatic 58, 3) := by decide +kernel
theorem dX8_addPump_55 : decode cX8_addPump 55 = .ok (.ifCond .eq 7, 3) := by decide +kernel
theorem dX8_addPump_58 : decode cX8_addPump 58 = .ok (.sipush (-1002), 3) := by decide +kernel
theorem dX8_addPump_61 : decode cX8_addPump 61 = .ok (.ireturn, 1) := by decide +kernel
theorem dX8_addPump_62 : decode cX8_addPump 62 = .ok (.aload_n 0, 1) := by decide +kernel
theorem dX8_addPump_63 : decode cX8_addPump 63 = .ok (.getfield 10, 3) := by decide +kernel
theorem dX8_addPump_66 : decode cX8_addPump 66 = .ok (.getfield 62, 3) := by decide +kernel
theorem dX8_addPump_69 : decode cX8_addPump 69 = .ok (.istore 6, 2) := by decide +kernel
theorem dX8_addPump_71 : decode cX8_addPump 71 = .ok (.iload 6, 2) := by decide +kernel
theorem dX8_addPump_73 : decode cX8_addPump 73 = .ok (.iconst 0, 1) := by decide +kernel
theorem dX8_addPump_74 : decode cX8_addPump 74 = .ok (.aload_n 0, 1) := by decide +kernel
theorem dX8_addPump_75 : decode cX8_addPump 75 = .ok (.getfield 10, 3) := by decide +kernel
theorem dX8_addPump_78 : decode cX8_addPump 78 = .ok (.getfield 65, 3) := by decide +kernel
theorem dX8_addPump_81 : decode cX8_addPump 81 = .ok (.arraylength, 1) := by decide +kernel
theorem dX8_addPump_82 : decode cX8_addPump 82 = .ok (.iconst 1, 1) := by decide +kernel
theorem dX8_addPump_83 : decode cX8_addPump 83 = .ok (.isub, 1) := by decide +kernel
theorem dX8_addPump_84 : decode cX8_addPump 84 = .ok (.invokestatic 58, 3) := by decide +kernel
theorem dX8_addPump_87 : decode cX8_addPump 87 = .ok (.ifCond .eq 7, 3) := by decide +kernel
theorem dX8_addPump_90 : decode cX8_addPump 90 = .ok (.sipush (-1004), 3) := by decide +kernel
theorem dX8_addPump_93 : decode cX8_addPump 93 = .ok (.ireturn, 1) := by decide +kernel
theorem dX8_addPump_94 : decode cX8_addPump 94 = .ok (.aload_n 0, 1) := by decide +kernel
theorem dX8_addPump_95 : decode cX8_addPump 95 = .ok (.invokevirtual 69, 3) := by decide +kernel
theorem dX8_addPump_98 : decode cX8_addPump 98 = .ok (.aload_n 0, 1) := by decide +kernel
theorem dX8_addPump_99 : decode cX8_addPump 99 = .ok (.getfield 10, 3) := by decide +kernel
theorem dX8_addPump_102 : decode cX8_addPump 102 = .ok (.getfield 65, 3) := by decide +kernel
theorem dX8_addPump_105 : decode cX8_addPump 105 = .ok (.iload 6, 2) := by decide +kernel
theorem dX8_addPump_107 : decode cX8_addPump 107 = .ok (.new 45, 3) := by decide +kernel
theorem dX8_addPump_110 : decode cX8_addPump 110 = .ok (.dup, 1) := by decide +kernel
theorem dX8_addPump_111 : decode cX8_addPump 111 = .ok (.iload_n 1, 1) := by decide +kernel
theorem dX8_addPump_112 : decode cX8_addPump 112 = .ok (.iload_n 2, 1) := by decide +kernel
theorem dX8_addPump_113 : decode cX8_addPump 113 = .ok (.iload_n 3, 1) := by decide +kernel
theorem dX8_addPump_114 : decode cX8_addPump 114 = .ok (.iload 4, 2) := by decide +kernel
theorem dX8_addPump_116 : decode cX8_addPump 116 = .ok (.iload 5, 2) := by decide +kernel
theorem dX8_addPump_118 : decode cX8_addPump 118 = .ok (.invokespecial 47, 3) := by decide +kernel
theorem dX8_addPump_121 : decode cX8_addPump 121 = .ok (.aastore, 1) := by decide +kernel
theorem dX8_addPump_122 : decode cX8_addPump 122 = .ok (.aload_n 0, 1) := by decide +kernel
theorem dX8_addPump_123 : decode cX8_addPump 123 = .ok (.getfield 10, 3) := by decide +kernel
theorem dX8_addPump_126 : decode cX8_addPump 126 = .ok (.iload 6, 2) := by decide +kernel
theorem dX8_addPump_128 : decode cX8_addPump 128 = .ok (.iconst 1, 1) := by decide +kernel
theorem dX8_addPump_129 : decode cX8_addPump 129 = .ok (.iadd, 1) := by decide +kernel
theorem dX8_addPump_130 : decode cX8_addPump 130 = .ok (.putfield 62, 3) := by decide +kernel
theorem dX8_addPump_133 : decode cX8_addPump 133 = .ok (.iload 6, 2) := by decide +kernel
theorem dX8_addPump_135 : decode cX8_addPump 135 = .ok (.ireturn, 1) := by decide +kernel
theorem dX8_setValve_0 : decode cX8_setValve 0 = .ok (.aload_n 0, 1) := by decide +kernel
theorem dX8_setValve_1 : decode cX8_setValve 1 = .ok (.getfield 10, 3) := by decide +kernel
theorem dX8_setValve_4 : decode cX8_setValve 4 = .ok (.iload_n 1, 1) := by decide +kernel
theorem dX8_setValve_5 : decode cX8_setValve 5 = .ok (.invokevirtual 72, 3) := by decide +kernel
theorem dX8_setValve_8 : decode cX8_setValve 8 = .ok (.astore 4, 2) := by decide +kernel
theorem dX8_setValve_10 : decode cX8_setValve 10 = .ok (.aload 4, 2) := by decide +kernel
theorem dX8_setValve_12 : decode cX8_setValve 12 = .ok (.ifnonnull 7, 3) := by decide +kernel
theorem dX8_setValve_15 : decode cX8_setValve 15 = .ok (.sipush (-1001), 3) := by decide +kernel
theorem dX8_setValve_18 : decode cX8_setValve 18 = .ok (.ireturn, 1) := by decide +kernel
theorem dX8_setValve_19 : decode cX8_setValve 19 = .ok (.iload_n 2, 1) := by decide +kernel
theorem dX8_setValve_20 : decode cX8_setValve 20 = .ok (.iconst 0, 1) := by decide +kernel
theorem dX8_setValve_21 : decode cX8_setValve 21 = .ok (.iconst 2, 1) := by decide +kernel
theorem dX8_setValve_22 : decode cX8_setValve 22 = .ok (.invokestatic 58, 3) := by decide +kernel
theorem dX8_setValve_25 : decode cX8_setValve 25 = .ok (.ifCond .ne 14, 3) := by decide +kernel
theorem dX8_setValve_28 : decode cX8_setValve 28 = .ok (.iload_n 3, 1) := by decide +kernel
theorem dX8_setValve_29 : decode cX8_setValve 29 = .ok (.iconst 1, 1) := by decide +kernel
theorem dX8_setValve_30 : decode cX8_setValve 30 = .ok (.sipush 500, 3) := by decide +kernel
theorem dX8_setValve_33 : decode cX8_setValve 33 = .ok (.invokestatic 58, 3) := by decide +kernel
theorem dX8_setValve_36 : decode cX8_setValve 36 = .ok (.ifCond .eq 7, 3) := by decide +kernel
theorem dX8_setValve_39 : decode cX8_setValve 39 = .ok (.sipush (-1002), 3) := by decide +kernel
theorem dX8_setValve_42 : decode cX8_setValve 42 = .ok (.ireturn, 1) := by decide +kernel
theorem dX8_setValve_43 : decode cX8_setValve 43 = .ok (.aload 4, 2) := by decide +kernel
theorem dX8_setValve_45 : decode cX8_setValve 45 = .ok (.getfield 76, 3) := by decide +kernel
theorem dX8_setValve_48 : decode cX8_setValve 48 = .ok (.ifCond .eq 7, 3) := by decide +kernel
theorem dX8_setValve_51 : decode cX8_setValve 51 = .ok (.sipush (-1003), 3) := by decide +kernel
theorem dX8_setValve_54 : decode cX8_setValve 54 = .ok (.ireturn, 1) := by decide +kernel
theorem dX8_setValve_55 : decode cX8_setValve 55 = .ok (.aload_n 0, 1) := by decide +kernel
theorem dX8_setValve_56 : decode cX8_setValve 56 = .ok (.invokevirtual 69, 3) := by decide +kernel
theorem dX8_setValve_59 : decode cX8_setValve 59 = .ok (.aload 4, 2) := by decide +kernel
theorem dX8_setValve_61 : decode cX8_setValve 61 = .ok (.getfield 80, 3) := by decide +kernel
theorem dX8_setValve_64 : decode cX8_setValve 64 = .ok (.istore 5, 2) := by decide +kernel
theorem dX8_setValve_66 : decode cX8_setValve 66 = .ok (.aload 4, 2) := by decide +kernel
theorem dX8_setValve_68 : decode cX8_setValve 68 = .ok (.iload_n 2, 1) := by decide +kernel
theorem dX8_setValve_69 : decode cX8_setValve 69 = .ok (.putfield 83, 3) := by decide +kernel
theorem dX8_setValve_72 : decode cX8_setValve 72 = .ok (.aload 4, 2) := by decide +kernel
theorem dX8_setValve_74 : decode cX8_setValve 74 = .ok (.iload_n 3, 1) := by decide +kernel
theorem dX8_setValve_75 : decode cX8_setValve 75 = .ok (.putfield 80, 3) := by decide +kernel
theorem dX8_setValve_78 : decode cX8_setValve 78 = .ok (.iload 5, 2) := by decide +kernel
theorem dX8_setValve_80 : decode cX8_setValve 80 = .ok (.ireturn, 1) := by decide +kernel
theorem dX8_setChamber_0 : decode cX8_setChamber 0 = .ok (.aload_n 0, 1) := by decide +kernel
theorem dX8_setChamber_1 : decode cX8_setChamber 1 = .ok (.getfield 10, 3) := by decide +kernel
theorem dX8_setChamber_4 : decode cX8_setChamber 4 = .ok (.iload_n 1, 1) := by decide +kernel
theorem dX8_setChamber_5 : decode cX8_setChamber 5 = .ok (.invokevirtual 72, 3) := by decide +kernel
theorem dX8_setChamber_8 : decode cX8_setChamber 8 = .ok (.astore 4, 2) := by decide +kernel
theorem dX8_setChamber_10 : decode cX8_setChamber 10 = .ok (.aload 4, 2) := by decide +kernel
theorem dX8_setChamber_12 : decode cX8_setChamber 12 = .ok (.ifnonnull 7, 3) := by decide +kernel
theorem dX8_setChamber_15 : decode cX8_setChamber 15 = .ok (.sipush (-1001), 3) := by decide +kernel
theorem dX8_setChamber_18 : decode cX8_setChamber 18 = .ok (.ireturn, 1) := by decide +kernel
theorem dX8_setChamber_19 : decode cX8_setChamber 19 = .ok (.iload_n 2, 1) := by decide +kernel
theorem dX8_setChamber_20 : decode cX8_setChamber 20 = .ok (.bipush 50, 2) := by decide +kernel
theorem dX8_setChamber_22 : decode cX8_setChamber 22 = .ok (.sipush 2000, 3) := by decide +kernel
theorem dX8_setChamber_25 : decode cX8_setChamber 25 = .ok (.invokestatic 58, 3) := by decide +kernel
theorem dX8_setChamber_28 : decode cX8_setChamber 28 = .ok (.ifCond .eq 7, 3) := by decide +kernel
theorem dX8_setChamber_31 : decode cX8_setChamber 31 = .ok (.sipush (-1002), 3) := by decide +kernel
theorem dX8_setChamber_34 : decode cX8_setChamber 34 = .ok (.ireturn, 1) := by decide +kernel
theorem dX8_setChamber_35 : decode cX8_setChamber 35 = .ok (.aload 4, 2) := by decide +kernel
theorem dX8_setChamber_37 : decode cX8_setChamber 37 = .ok (.getfield 76, 3) := by decide +kernel
theorem dX8_setChamber_40 : decode cX8_setChamber 40 = .ok (.ifCond .eq 7, 3) := by decide +kernel
theorem dX8_setChamber_43 : decode cX8_setChamber 43 = .ok (.sipush (-1003), 3) := by decide +kernel
theorem dX8_setChamber_46 : decode cX8_setChamber 46 = .ok (.ireturn, 1) := by decide +kernel
theorem dX8_setChamber_47 : decode cX8_setChamber 47 = .ok (.aload_n 0, 1) := by decide +kernel
theorem dX8_setChamber_48 : decode cX8_setChamber 48 = .ok (.invokevirtual 69, 3) := by decide +kernel
theorem dX8_setChamber_51 : decode cX8_setChamber 51 = .ok (.aload 4, 2) := by decide +kernel
theorem dX8_setChamber_53 : decode cX8_setChamber 53 = .ok (.getfield 86, 3) := by decide +kernel
theorem dX8_setChamber_56 : decode cX8_setChamber 56 = .ok (.getfield 90, 3) := by decide +kernel
theorem dX8_setChamber_59 : decode cX8_setChamber 59 = .ok (.istore 5, 2) := by decide +kernel
theorem dX8_setChamber_61 : decode cX8_setChamber 61 = .ok (.aload_n 0, 1) := by decide +kernel
theorem dX8_setChamber_62 : decode cX8_setChamber 62 = .ok (.getfield 10, 3) := by decide +kernel
theorem dX8_setChamber_65 : decode cX8_setChamber 65 = .ok (.iload 5, 2) := by decide +kernel
theorem dX8_setChamber_67 : decode cX8_setChamber 67 = .ok (.invokevirtual 95, 3) := by decide +kernel
theorem dX8_setChamber_70 : decode cX8_setChamber 70 = .ok (.aload 4, 2) := by decide +kernel
theorem dX8_setChamber_72 : decode cX8_setChamber 72 = .ok (.getfield 86, 3) := by decide +kernel
theorem dX8_setChamber_75 : decode cX8_setChamber 75 = .ok (.iload_n 2, 1) := by decide +kernel
theorem dX8_setChamber_76 : decode cX8_setChamber 76 = .ok (.iload_n 3, 1) := by decide +kernel
theorem dX8_setChamber_77 : decode cX8_setChamber 77 = .ok (.invokevirtual 99, 3) := by decide +kernel
theorem dX8_setChamber_80 : decode cX8_setChamber 80 = .ok (.iload 5, 2) := by decide +kernel
theorem dX8_setChamber_82 : decode cX8_setChamber 82 = .ok (.ireturn, 1) := by decide +kernel
theorem dX8_setInflow_0 : decode cX8_setInflow 0 = .ok (.iload_n 1, 1) := by decide +kernel
theorem dX8_setInflow_1 : decode cX8_setInflow 1 = .ok (.iconst 0, 1) := by decide +kernel
theorem dX8_setInflow_2 : decode cX8_setInflow 2 = .ok (.sipush 500, 3) := by decide +kernel
theorem dX8_setInflow_5 : decode cX8_setInflow 5 = .ok (.invokestatic 58, 3) := by decide +kernel
theorem dX8_setInflow_8 : decode cX8_setInflow 8 = .ok (.ifCond .eq 7, 3) := by decide +kernel
theorem dX8_setInflow_11 : decode cX8_setInflow 11 = .ok (.sipush (-1002), 3) := by decide +kernel
theorem dX8_setInflow_14 : decode cX8_setInflow 14 = .ok (.ireturn, 1) := by decide +kernel
theorem dX8_setInflow_15 : decode cX8_setInflow 15 = .ok (.aload_n 0, 1) := by decide +kernel
theorem dX8_setInflow_16 : decode cX8_setInflow 16 = .ok (.invokevirtual 69, 3) := by decide +kernel
theorem dX8_setInflow_19 : decode cX8_setInflow 19 = .ok (.aload_n 0, 1) := by decide +kernel
theorem dX8_setInflow_20 : decode cX8_setInflow 20 = .ok (.getfield 10, 3) := by decide +kernel
theorem dX8_setInflow_23 : decode cX8_setInflow 23 = .ok (.getfield 103, 3) := by decide +kernel
theorem dX8_setInflow_26 : decode cX8_setInflow 26 = .ok (.istore_n 2, 1) := by decide +kernel
theorem dX8_setInflow_27 : decode cX8_setInflow 27 = .ok (.aload_n 0, 1) := by decide +kernel
theorem dX8_setInflow_28 : decode cX8_setInflow 28 = .ok (.getfield 10, 3) := by decide +kernel
theorem dX8_setInflow_31 : decode cX8_setInflow 31 = .ok (.iload_n 1, 1) := by decide +kernel
theorem dX8_setInflow_32 : decode cX8_setInflow 32 = .ok (.putfield 103, 3) := by decide +kernel
theorem dX8_setInflow_35 : decode cX8_setInflow 35 = .ok (.iload_n 2, 1) := by decide +kernel
theorem dX8_setInflow_36 : decode cX8_setInflow 36 = .ok (.ireturn, 1) := by decide +kernel
theorem dX8_start_0 : decode cX8_start 0 = .ok (.aload_n 0, 1) := by decide +kernel
theorem dX8_start_1 : decode cX8_start 1 = .ok (.getfield 10, 3) := by decide +kernel
theorem dX8_start_4 : decode cX8_start 4 = .ok (.iload_n 1, 1) := by decide +kernel
theorem dX8_start_5 : decode cX8_start 5 = .ok (.invokevirtual 72, 3) := by decide +kernel
theorem dX8_start_8 : decode cX8_start 8 = .ok (.astore_n 2, 1) := by decide +kernel
theorem dX8_start_9 : decode cX8_start 9 = .ok (.aload_n 2, 1) := by decide +kernel
theorem dX8_start_10 : decode cX8_start 10 = .ok (.ifnonnull 7, 3) := by decide +kernel
theorem dX8_start_13 : decode cX8_start 13 = .ok (.sipush (-1001), 3) := by decide +kernel
theorem dX8_start_16 : decode cX8_start 16 = .ok (.ireturn, 1) := by decide +kernel
theorem dX8_start_17 : decode cX8_start 17 = .ok (.aload_n 2, 1) := by decide +kernel
theorem dX8_start_18 : decode cX8_start 18 = .ok (.getfield 76, 3) := by decide +kernel
theorem dX8_start_21 : decode cX8_start 21 = .ok (.ifCond .eq 7, 3) := by decide +kernel
theorem dX8_start_24 : decode cX8_start 24 = .ok (.sipush (-1003), 3) := by decide +kernel
theorem dX8_start_27 : decode cX8_start 27 = .ok (.ireturn, 1) := by decide +kernel
theorem dX8_start_28 : decode cX8_start 28 = .ok (.aload_n 0, 1) := by decide +kernel
theorem dX8_start_29 : decode cX8_start 29 = .ok (.invokevirtual 69, 3) := by decide +kernel
theorem dX8_start_32 : decode cX8_start 32 = .ok (.aload_n 2, 1) := by decide +kernel
theorem dX8_start_33 : decode cX8_start 33 = .ok (.iconst 1, 1) := by decide +kernel
theorem dX8_start_34 : decode cX8_start 34 = .ok (.putfield 76, 3) := by decide +kernel
theorem dX8_start_37 : decode cX8_start 37 = .ok (.aload_n 2, 1) := by decide +kernel
theorem dX8_start_38 : decode cX8_start 38 = .ok (.aload_n 0, 1) := by decide +kernel
theorem dX8_start_39 : decode cX8_start 39 = .ok (.getfield 10, 3) := by decide +kernel
theorem dX8_start_42 : decode cX8_start 42 = .ok (.getfield 106, 3) := by decide +kernel
theorem dX8_start_45 : decode cX8_start 45 = .ok (.putfield 109, 3) := by decide +kernel
theorem dX8_start_48 : decode cX8_start 48 = .ok (.aload_n 0, 1) := by decide +kernel
theorem dX8_start_49 : decode cX8_start 49 = .ok (.getfield 10, 3) := by decide +kernel
theorem dX8_start_52 : decode cX8_start 52 = .ok (.invokevirtual 112, 3) := by decide +kernel
theorem dX8_start_55 : decode cX8_start 55 = .ok (.ireturn, 1) := by decide +kernel
theorem dX8_stop_0 : decode cX8_stop 0 = .ok (.aload_n 0, 1) := by decide +kernel
theorem dX8_stop_1 : decode cX8_stop 1 = .ok (.getfield 10, 3) := by decide +kernel
theorem dX8_stop_4 : decode cX8_stop 4 = .ok (.iload_n 1, 1) := by decide +kernel
theorem dX8_stop_5 : decode cX8_stop 5 = .ok (.invokevirtual 72, 3) := by decide +kernel
theorem dX8_stop_8 : decode cX8_stop 8 = .ok (.astore_n 2, 1) := by decide +kernel
theorem dX8_stop_9 : decode cX8_stop 9 = .ok (.aload_n 2, 1) := by decide +kernel
theorem dX8_stop_10 : decode cX8_stop 10 = .ok (.ifnonnull 7, 3) := by decide +kernel
theorem dX8_stop_13 : decode cX8_stop 13 = .ok (.sipush (-1001), 3) := by decide +kernel
theorem dX8_stop_16 : decode cX8_stop 16 = .ok (.ireturn, 1) := by decide +kernel
theorem dX8_stop_17 : decode cX8_stop 17 = .ok (.aload_n 2, 1) := by decide +kernel
theorem dX8_stop_18 : decode cX8_stop 18 = .ok (.getfield 76, 3) := by decide +kernel
theorem dX8_stop_21 : decode cX8_stop 21 = .ok (.ifCond .ne 7, 3) := by decide +kernel
theorem dX8_stop_24 : decode cX8_stop 24 = .ok (.sipush (-1003), 3) := by decide +kernel
theorem dX8_stop_27 : decode cX8_stop 27 = .ok (.ireturn, 1) := by decide +kernel
theorem dX8_stop_28 : decode cX8_stop 28 = .ok (.aload_n 0, 1) := by decide +kernel
theorem dX8_stop_29 : decode cX8_stop 29 = .ok (.invokevirtual 69, 3) := by decide +kernel
theorem dX8_stop_32 : decode cX8_stop 32 = .ok (.aload_n 2, 1) := by decide +kernel
theorem dX8_stop_33 : decode cX8_stop 33 = .ok (.iconst 0, 1) := by decide +kernel
theorem dX8_stop_34 : decode cX8_stop 34 = .ok (.putfield 76, 3) := by decide +kernel
theorem dX8_stop_37 : decode cX8_stop 37 = .ok (.aload_n 2, 1) := by decide +kernel
theorem dX8_stop_38 : decode cX8_stop 38 = .ok (.invokevirtual 116, 3) := by decide +kernel
theorem dX8_stop_41 : decode cX8_stop 41 = .ok (.aload_n 0, 1) := by decide +kernel
theorem dX8_stop_42 : decode cX8_stop 42 = .ok (.getfield 10, 3) := by decide +kernel
theorem dX8_stop_45 : decode cX8_stop 45 = .ok (.invokevirtual 112, 3) := by decide +kernel
theorem dX8_stop_48 : decode cX8_stop 48 = .ok (.ireturn, 1) := by decide +kernel
theorem dX8_emptyTank_0 : decode cX8_emptyTank 0 = .ok (.aload_n 0, 1) := by decide +kernel
theorem dX8_emptyTank_1 : decode cX8_emptyTank 1 = .ok (.getfield 10, 3) := by decide +kernel
theorem dX8_emptyTank_4 : decode cX8_emptyTank 4 = .ok (.iload_n 1, 1) := by decide +kernel
theorem dX8_emptyTank_5 : decode cX8_emptyTank 5 = .ok (.invokevirtual 72, 3) := by decide +kernel
theorem dX8_emptyTank_8 : decode cX8_emptyTank 8 = .ok (.astore_n 2, 1) := by decide +kernel
theorem dX8_emptyTank_9 : decode cX8_emptyTank 9 = .ok (.aload_n 2, 1) := by decide +kernel
theorem dX8_emptyTank_10 : decode cX8_emptyTank 10 = .ok (.ifnonnull 7, 3) := by decide +kernel
theorem dX8_emptyTank_13 : decode cX8_emptyTank 13 = .ok (.sipush (-1001), 3) := by decide +kernel
theorem dX8_emptyTank_16 : decode cX8_emptyTank 16 = .ok (.ireturn, 1) := by decide +kernel
theorem dX8_emptyTank_17 : decode cX8_emptyTank 17 = .ok (.aload_n 2, 1) := by decide +kernel
theorem dX8_emptyTank_18 : decode cX8_emptyTank 18 = .ok (.getfield 119, 3) := by decide +kernel
theorem dX8_emptyTank_21 : decode cX8_emptyTank 21 = .ok (.ifCond .ne 7, 3) := by decide +kernel
theorem dX8_emptyTank_24 : decode cX8_emptyTank 24 = .ok (.sipush (-1003), 3) := by decide +kernel
theorem dX8_emptyTank_27 : decode cX8_emptyTank 27 = .ok (.ireturn, 1) := by decide +kernel
theorem dX8_emptyTank_28 : decode cX8_emptyTank 28 = .ok (.aload_n 0, 1) := by decide +kernel
theorem dX8_emptyTank_29 : decode cX8_emptyTank 29 = .ok (.invokevirtual 69, 3) := by decide +kernel
theorem dX8_emptyTank_32 : decode cX8_emptyTank 32 = .ok (.aload_n 2, 1) := by decide +kernel
theorem dX8_emptyTank_33 : decode cX8_emptyTank 33 = .ok (.getfield 119, 3) := by decide +kernel
theorem dX8_emptyTank_36 : decode cX8_emptyTank 36 = .ok (.istore_n 3, 1) := by decide +kernel
theorem dX8_emptyTank_37 : decode cX8_emptyTank 37 = .ok (.aload_n 2, 1) := by decide +kernel
theorem dX8_emptyTank_38 : decode cX8_emptyTank 38 = .ok (.iconst 0, 1) := by decide +kernel
theorem dX8_emptyTank_39 : decode cX8_emptyTank 39 = .ok (.putfield 119, 3) := by decide +kernel
theorem dX8_emptyTank_42 : decode cX8_emptyTank 42 = .ok (.iload_n 3, 1) := by decide +kernel
theorem dX8_emptyTank_43 : decode cX8_emptyTank 43 = .ok (.ireturn, 1) := by decide +kernel
theorem dX8_pass_0 : decode cX8_pass 0 = .ok (.iload_n 1, 1) := by decide +kernel
theorem dX8_pass_1 : decode cX8_pass 1 = .ok (.iconst 1, 1) := by decide +kernel
theorem dX8_pass_2 : decode cX8_pass 2 = .ok (.sipush 200, 3) := by decide +kernel
theorem dX8_pass_5 : decode cX8_pass 5 = .ok (.invokestatic 58, 3) := by decide +kernel
theorem dX8_pass_8 : decode cX8_pass 8 = .ok (.ifCond .eq 7, 3) := by decide +kernel
theorem dX8_pass_11 : decode cX8_pass 11 = .ok (.sipush (-1002), 3) := by decide +kernel
theorem dX8_pass_14 : decode cX8_pass 14 = .ok (.ireturn, 1) := by decide +kernel
theorem dX8_pass_15 : decode cX8_pass 15 = .ok (.aload_n 0, 1) := by decide +kernel
theorem dX8_pass_16 : decode cX8_pass 16 = .ok (.getfield 10, 3) := by decide +kernel
theorem dX8_pass_19 : decode cX8_pass 19 = .ok (.getfield 106, 3) := by decide +kernel
theorem dX8_pass_22 : decode cX8_pass 22 = .ok (.iload_n 1, 1) := by decide +kernel
theorem dX8_pass_23 : decode cX8_pass 23 = .ok (.iadd, 1) := by decide +kernel
theorem dX8_pass_24 : decode cX8_pass 24 = .ok (.sipush 20000, 3) := by decide +kernel
theorem dX8_pass_27 : decode cX8_pass 27 = .ok (.if_icmp .le 7, 3) := by decide +kernel
theorem dX8_pass_30 : decode cX8_pass 30 = .ok (.sipush (-1003), 3) := by decide +kernel
theorem dX8_pass_33 : decode cX8_pass 33 = .ok (.ireturn, 1) := by decide +kernel
theorem dX8_pass_34 : decode cX8_pass 34 = .ok (.aload_n 0, 1) := by decide +kernel
theorem dX8_pass_35 : decode cX8_pass 35 = .ok (.invokevirtual 69, 3) := by decide +kernel
theorem dX8_pass_38 : decode cX8_pass 38 = .ok (.iconst 0, 1) := by decide +kernel
theorem dX8_pass_39 : decode cX8_pass 39 = .ok (.istore_n 2, 1) := by decide +kernel
theorem dX8_pass_40 : decode cX8_pass 40 = .ok (.iconst 0, 1) := by decide +kernel
theorem dX8_pass_41 : decode cX8_pass 41 = .ok (.istore_n 3, 1) := by decide +kernel
theorem dX8_pass_42 : decode cX8_pass 42 = .ok (.iload_n 3, 1) := by decide +kernel
theorem dX8_pass_43 : decode cX8_pass 43 = .ok (.iload_n 1, 1) := by decide +kernel
theorem dX8_pass_44 : decode cX8_pass 44 = .ok (.if_icmp .ge 16, 3) := by decide +kernel
theorem dX8_pass_47 : decode cX8_pass 47 = .ok (.iload_n 2, 1) := by decide +kernel
theorem dX8_pass_48 : decode cX8_pass 48 = .ok (.aload_n 0, 1) := by decide +kernel
theorem dX8_pass_49 : decode cX8_pass 49 = .ok (.invokevirtual 122, 3) := by decide +kernel
theorem dX8_pass_52 : decode cX8_pass 52 = .ok (.iadd, 1) := by decide +kernel
theorem dX8_pass_53 : decode cX8_pass 53 = .ok (.istore_n 2, 1) := by decide +kernel
theorem dX8_pass_54 : decode cX8_pass 54 = .ok (.iinc 3 1, 3) := by decide +kernel
theorem dX8_pass_57 : decode cX8_pass 57 = .ok (.goto (-15), 3) := by decide +kernel
theorem dX8_pass_60 : decode cX8_pass 60 = .ok (.iload_n 2, 1) := by decide +kernel
theorem dX8_pass_61 : decode cX8_pass 61 = .ok (.ireturn, 1) := by decide +kernel
theorem dX8_undo_0 : decode cX8_undo 0 = .ok (.aload_n 0, 1) := by decide +kernel
theorem dX8_undo_1 : decode cX8_undo 1 = .ok (.getfield 125, 3) := by decide +kernel
theorem dX8_undo_4 : decode cX8_undo 4 = .ok (.iconst 1, 1) := by decide +kernel
theorem dX8_undo_5 : decode cX8_undo 5 = .ok (.if_icmp .ge 7, 3) := by decide +kernel
theorem dX8_undo_8 : decode cX8_undo 8 = .ok (.sipush (-1005), 3) := by decide +kernel
theorem dX8_undo_11 : decode cX8_undo 11 = .ok (.ireturn, 1) := by decide +kernel
theorem dX8_undo_12 : decode cX8_undo 12 = .ok (.aload_n 0, 1) := by decide +kernel
theorem dX8_undo_13 : decode cX8_undo 13 = .ok (.getfield 128, 3) := by decide +kernel
theorem dX8_undo_16 : decode cX8_undo 16 = .ok (.iconst 1, 1) := by decide +kernel
theorem dX8_undo_17 : decode cX8_undo 17 = .ok (.aload_n 0, 1) := by decide +kernel
theorem dX8_undo_18 : decode cX8_undo 18 = .ok (.getfield 16, 3) := by decide +kernel
theorem dX8_undo_21 : decode cX8_undo 21 = .ok (.arraylength, 1) := by decide +kernel
theorem dX8_undo_22 : decode cX8_undo 22 = .ok (.invokestatic 58, 3) := by decide +kernel
theorem dX8_undo_25 : decode cX8_undo 25 = .ok (.ifCond .eq 12, 3) := by decide +kernel
theorem dX8_undo_28 : decode cX8_undo 28 = .ok (.aload_n 0, 1) := by decide +kernel
theorem dX8_undo_29 : decode cX8_undo 29 = .ok (.aload_n 0, 1) := by decide +kernel
theorem dX8_undo_30 : decode cX8_undo 30 = .ok (.getfield 16, 3) := by decide +kernel
theorem dX8_undo_33 : decode cX8_undo 33 = .ok (.arraylength, 1) := by decide +kernel
theorem dX8_undo_34 : decode cX8_undo 34 = .ok (.putfield 128, 3) := by decide +kernel
theorem dX8_undo_37 : decode cX8_undo 37 = .ok (.aload_n 0, 1) := by decide +kernel
theorem dX8_undo_38 : decode cX8_undo 38 = .ok (.dup, 1) := by decide +kernel
theorem dX8_undo_39 : decode cX8_undo 39 = .ok (.getfield 128, 3) := by decide +kernel
theorem dX8_undo_42 : decode cX8_undo 42 = .ok (.iconst 1, 1) := by decide +kernel
theorem dX8_undo_43 : decode cX8_undo 43 = .ok (.isub, 1) := by decide +kernel
theorem dX8_undo_44 : decode cX8_undo 44 = .ok (.putfield 128, 3) := by decide +kernel
theorem dX8_undo_47 : decode cX8_undo 47 = .ok (.aload_n 0, 1) := by decide +kernel
theorem dX8_undo_48 : decode cX8_undo 48 = .ok (.dup, 1) := by decide +kernel
theorem dX8_undo_49 : decode cX8_undo 49 = .ok (.getfield 125, 3) := by decide +kernel
theorem dX8_undo_52 : decode cX8_undo 52 = .ok (.iconst 1, 1) := by decide +kernel
theorem dX8_undo_53 : decode cX8_undo 53 = .ok (.isub, 1) := by decide +kernel
theorem dX8_undo_54 : decode cX8_undo 54 = .ok (.putfield 125, 3) := by decide +kernel
theorem dX8_undo_57 : decode cX8_undo 57 = .ok (.aload_n 0, 1) := by decide +kernel
theorem dX8_undo_58 : decode cX8_undo 58 = .ok (.getfield 16, 3) := by decide +kernel
theorem dX8_undo_61 : decode cX8_undo 61 = .ok (.aload_n 0, 1) := by decide +kernel
theorem dX8_undo_62 : decode cX8_undo 62 = .ok (.getfield 128, 3) := by decide +kernel
theorem dX8_undo_65 : decode cX8_undo 65 = .ok (.aaload, 1) := by decide +kernel
theorem dX8_undo_66 : decode cX8_undo 66 = .ok (.astore_n 1, 1) := by decide +kernel
theorem dX8_undo_67 : decode cX8_undo 67 = .ok (.aload_n 1, 1) := by decide +kernel
theorem dX8_undo_68 : decode cX8_undo 68 = .ok (.ifnull 11, 3) := by decide +kernel
theorem dX8_undo_71 : decode cX8_undo 71 = .ok (.aload_n 0, 1) := by decide +kernel
theorem dX8_undo_72 : decode cX8_undo 72 = .ok (.getfield 10, 3) := by decide +kernel
theorem dX8_undo_75 : decode cX8_undo 75 = .ok (.aload_n 1, 1) := by decide +kernel
theorem dX8_undo_76 : decode cX8_undo 76 = .ok (.invokevirtual 131, 3) := by decide +kernel
theorem dX8_undo_79 : decode cX8_undo 79 = .ok (.aload_n 0, 1) := by decide +kernel
theorem dX8_undo_80 : decode cX8_undo 80 = .ok (.getfield 125, 3) := by decide +kernel
theorem dX8_undo_83 : decode cX8_undo 83 = .ok (.ireturn, 1) := by decide +kernel
theorem dX8_type_0 : decode cX8_type 0 = .ok (.iload_n 1, 1) := by decide +kernel
theorem dX8_type_1 : decode cX8_type 1 = .ok (.bipush 33, 2) := by decide +kernel
theorem dX8_type_3 : decode cX8_type 3 = .ok (.bipush 126, 2) := by decide +kernel
theorem dX8_type_5 : decode cX8_type 5 = .ok (.invokestatic 58, 3) := by decide +kernel
theorem dX8_type_8 : decode cX8_type 8 = .ok (.ifCond .eq 7, 3) := by decide +kernel
theorem dX8_type_11 : decode cX8_type 11 = .ok (.sipush (-1002), 3) := by decide +kernel
theorem dX8_type_14 : decode cX8_type 14 = .ok (.ireturn, 1) := by decide +kernel
theorem dX8_type_15 : decode cX8_type 15 = .ok (.aload_n 0, 1) := by decide +kernel
theorem dX8_type_16 : decode cX8_type 16 = .ok (.getfield 27, 3) := by decide +kernel
theorem dX8_type_19 : decode cX8_type 19 = .ok (.getfield 135, 3) := by decide +kernel
theorem dX8_type_22 : decode cX8_type 22 = .ok (.iconst 0, 1) := by decide +kernel
theorem dX8_type_23 : decode cX8_type 23 = .ok (.aload_n 0, 1) := by decide +kernel
theorem dX8_type_24 : decode cX8_type 24 = .ok (.getfield 27, 3) := by decide +kernel
theorem dX8_type_27 : decode cX8_type 27 = .ok (.getfield 138, 3) := by decide +kernel
theorem dX8_type_30 : decode cX8_type 30 = .ok (.arraylength, 1) := by decide +kernel
theorem dX8_type_31 : decode cX8_type 31 = .ok (.iconst 1, 1) := by decide +kernel
theorem dX8_type_32 : decode cX8_type 32 = .ok (.isub, 1) := by decide +kernel
theorem dX8_type_33 : decode cX8_type 33 = .ok (.invokestatic 58, 3) := by decide +kernel
theorem dX8_type_36 : decode cX8_type 36 = .ok (.ifCond .eq 7, 3) := by decide +kernel
theorem dX8_type_39 : decode cX8_type 39 = .ok (.sipush (-1004), 3) := by decide +kernel
theorem dX8_type_42 : decode cX8_type 42 = .ok (.ireturn, 1) := by decide +kernel
theorem dX8_type_43 : decode cX8_type 43 = .ok (.aload_n 0, 1) := by decide +kernel
theorem dX8_type_44 : decode cX8_type 44 = .ok (.getfield 27, 3) := by decide +kernel
theorem dX8_type_47 : decode cX8_type 47 = .ok (.getfield 138, 3) := by decide +kernel
theorem dX8_type_50 : decode cX8_type 50 = .ok (.aload_n 0, 1) := by decide +kernel
theorem dX8_type_51 : decode cX8_type 51 = .ok (.getfield 27, 3) := by decide +kernel
theorem dX8_type_54 : decode cX8_type 54 = .ok (.getfield 135, 3) := by decide +kernel
theorem dX8_type_57 : decode cX8_type 57 = .ok (.iload_n 1, 1) := by decide +kernel
theorem dX8_type_58 : decode cX8_type 58 = .ok (.i2c, 1) := by decide +kernel
theorem dX8_type_59 : decode cX8_type 59 = .ok (.castore, 1) := by decide +kernel
theorem dX8_type_60 : decode cX8_type 60 = .ok (.aload_n 0, 1) := by decide +kernel
theorem dX8_type_61 : decode cX8_type 61 = .ok (.getfield 27, 3) := by decide +kernel
theorem dX8_type_64 : decode cX8_type 64 = .ok (.dup, 1) := by decide +kernel
theorem dX8_type_65 : decode cX8_type 65 = .ok (.getfield 135, 3) := by decide +kernel
theorem dX8_type_68 : decode cX8_type 68 = .ok (.iconst 1, 1) := by decide +kernel
theorem dX8_type_69 : decode cX8_type 69 = .ok (.iadd, 1) := by decide +kernel
theorem dX8_type_70 : decode cX8_type 70 = .ok (.putfield 135, 3) := by decide +kernel
theorem dX8_type_73 : decode cX8_type 73 = .ok (.aload_n 0, 1) := by decide +kernel
theorem dX8_type_74 : decode cX8_type 74 = .ok (.getfield 27, 3) := by decide +kernel
theorem dX8_type_77 : decode cX8_type 77 = .ok (.getfield 135, 3) := by decide +kernel
theorem dX8_type_80 : decode cX8_type 80 = .ok (.ireturn, 1) := by decide +kernel
theorem dX8_clearText_0 : decode cX8_clearText 0 = .ok (.aload_n 0, 1) := by decide +kernel
theorem dX8_clearText_1 : decode cX8_clearText 1 = .ok (.getfield 27, 3) := by decide +kernel
theorem dX8_clearText_4 : decode cX8_clearText 4 = .ok (.getfield 135, 3) := by decide +kernel
theorem dX8_clearText_7 : decode cX8_clearText 7 = .ok (.istore_n 1, 1) := by decide +kernel
theorem dX8_clearText_8 : decode cX8_clearText 8 = .ok (.aload_n 0, 1) := by decide +kernel
theorem dX8_clearText_9 : decode cX8_clearText 9 = .ok (.getfield 27, 3) := by decide +kernel
theorem dX8_clearText_12 : decode cX8_clearText 12 = .ok (.iconst 0, 1) := by decide +kernel
theorem dX8_clearText_13 : decode cX8_clearText 13 = .ok (.putfield 135, 3) := by decide +kernel
theorem dX8_clearText_16 : decode cX8_clearText 16 = .ok (.iload_n 1, 1) := by decide +kernel
theorem dX8_clearText_17 : decode cX8_clearText 17 = .ok (.ireturn, 1) := by decide +kernel
theorem dX8_syntaxError_0 : decode cX8_syntaxError 0 = .ok (.aload_n 0, 1) := by decide +kernel
theorem dX8_syntaxError_1 : decode cX8_syntaxError 1 = .ok (.getfield 27, 3) := by decide +kernel
theorem dX8_syntaxError_4 : decode cX8_syntaxError 4 = .ok (.invokevirtual 142, 3) := by decide +kernel
theorem dX8_syntaxError_7 : decode cX8_syntaxError 7 = .ok (.ireturn, 1) := by decide +kernel
theorem dX8_execute_0 : decode cX8_execute 0 = .ok (.aload_n 0, 1) := by decide +kernel
theorem dX8_execute_1 : decode cX8_execute 1 = .ok (.getfield 27, 3) := by decide +kernel
theorem dX8_execute_4 : decode cX8_execute 4 = .ok (.invokevirtual 142, 3) := by decide +kernel
theorem dX8_execute_7 : decode cX8_execute 7 = .ok (.istore_n 1, 1) := by decide +kernel
theorem dX8_execute_8 : decode cX8_execute 8 = .ok (.iload_n 1, 1) := by decide +kernel
theorem dX8_execute_9 : decode cX8_execute 9 = .ok (.sipush (-1005), 3) := by decide +kernel
theorem dX8_execute_12 : decode cX8_execute 12 = .ok (.if_icmp .eq 9, 3) := by decide +kernel
theorem dX8_execute_15 : decode cX8_execute 15 = .ok (.sipush (-2000), 3) := by decide +kernel
theorem dX8_execute_18 : decode cX8_execute 18 = .ok (.iload_n 1, 1) := by decide +kernel
theorem dX8_execute_19 : decode cX8_execute 19 = .ok (.isub, 1) := by decide +kernel
theorem dX8_execute_20 : decode cX8_execute 20 = .ok (.ireturn, 1) := by decide +kernel
theorem dX8_execute_21 : decode cX8_execute 21 = .ok (.aload_n 0, 1) := by decide +kernel
theorem dX8_execute_22 : decode cX8_execute 22 = .ok (.invokevirtual 69, 3) := by decide +kernel
theorem dX8_execute_25 : decode cX8_execute 25 = .ok (.aload_n 0, 1) := by decide +kernel
theorem dX8_execute_26 : decode cX8_execute 26 = .ok (.iconst 1, 1) := by decide +kernel
theorem dX8_execute_27 : decode cX8_execute 27 = .ok (.putfield 145, 3) := by decide +kernel
theorem dX8_execute_30 : decode cX8_execute 30 = .ok (.aload_n 0, 1) := by decide +kernel
theorem dX8_execute_31 : decode cX8_execute 31 = .ok (.iconst 0, 1) := by decide +kernel
theorem dX8_execute_32 : decode cX8_execute 32 = .ok (.putfield 20, 3) := by decide +kernel
theorem dX8_execute_35 : decode cX8_execute 35 = .ok (.iconst 0, 1) := by decide +kernel
theorem dX8_execute_36 : decode cX8_execute 36 = .ok (.istore_n 2, 1) := by decide +kernel
theorem dX8_execute_37 : decode cX8_execute 37 = .ok (.iconst 0, 1) := by decide +kernel
theorem dX8_execute_38 : decode cX8_execute 38 = .ok (.istore_n 3, 1) := by decide +kernel
theorem dX8_execute_39 : decode cX8_execute 39 = .ok (.iload_n 3, 1) := by decide +kernel
theorem dX8_execute_40 : decode cX8_execute 40 = .ok (.aload_n 0, 1) := by decide +kernel
theorem dX8_execute_41 : decode cX8_execute 41 = .ok (.getfield 27, 3) := by decide +kernel
theorem dX8_execute_44 : decode cX8_execute 44 = .ok (.getfield 135, 3) := by decide +kernel
theorem dX8_execute_47 : decode cX8_execute 47 = .ok (.if_icmp .ge 51, 3) := by decide +kernel
theorem dX8_execute_50 : decode cX8_execute 50 = .ok (.aload_n 0, 1) := by decide +kernel
theorem dX8_execute_51 : decode cX8_execute 51 = .ok (.getfield 20, 3) := by decide +kernel
theorem dX8_execute_54 : decode cX8_execute 54 = .ok (.ifCond .ne 44, 3) := by decide +kernel
theorem dX8_execute_57 : decode cX8_execute 57 = .ok (.aload_n 0, 1) := by decide +kernel
theorem dX8_execute_58 : decode cX8_execute 58 = .ok (.getfield 27, 3) := by decide +kernel
theorem dX8_execute_61 : decode cX8_execute 61 = .ok (.iload_n 3, 1) := by decide +kernel
theorem dX8_execute_62 : decode cX8_execute 62 = .ok (.invokevirtual 148, 3) := by decide +kernel
theorem dX8_execute_65 : decode cX8_execute 65 = .ok (.ifCond .eq 27, 3) := by decide +kernel
theorem dX8_execute_68 : decode cX8_execute 68 = .ok (.aload_n 0, 1) := by decide +kernel
theorem dX8_execute_69 : decode cX8_execute 69 = .ok (.iload_n 3, 1) := by decide +kernel
theorem dX8_execute_70 : decode cX8_execute 70 = .ok (.invokevirtual 152, 3) := by decide +kernel
theorem dX8_execute_73 : decode cX8_execute 73 = .ok (.istore 4, 2) := by decide +kernel
theorem dX8_execute_75 : decode cX8_execute 75 = .ok (.iload 4, 2) := by decide +kernel
theorem dX8_execute_77 : decode cX8_execute 77 = .ok (.ifCond .ge 12, 3) := by decide +kernel
theorem dX8_execute_80 : decode cX8_execute 80 = .ok (.aload_n 0, 1) := by decide +kernel
theorem dX8_execute_81 : decode cX8_execute 81 = .ok (.iload 4, 2) := by decide +kernel
theorem dX8_execute_83 : decode cX8_execute 83 = .ok (.putfield 20, 3) := by decide +kernel
theorem dX8_execute_86 : decode cX8_execute 86 = .ok (.goto 6, 3) := by decide +kernel
theorem dX8_execute_89 : decode cX8_execute 89 = .ok (.iinc 2 1, 3) := by decide +kernel
theorem dX8_execute_92 : decode cX8_execute 92 = .ok (.iinc 3 1, 3) := by decide +kernel
theorem dX8_execute_95 : decode cX8_execute 95 = .ok (.goto (-56), 3) := by decide +kernel
theorem dX8_execute_98 : decode cX8_execute 98 = .ok (.aload_n 0, 1) := by decide +kernel
theorem dX8_execute_99 : decode cX8_execute 99 = .ok (.iconst 0, 1) := by decide +kernel
theorem dX8_execute_100 : decode cX8_execute 100 = .ok (.putfield 145, 3) := by decide +kernel
theorem dX8_execute_103 : decode cX8_execute 103 = .ok (.iload_n 2, 1) := by decide +kernel
theorem dX8_execute_104 : decode cX8_execute 104 = .ok (.ireturn, 1) := by decide +kernel
theorem dX8_failure_0 : decode cX8_failure 0 = .ok (.aload_n 0, 1) := by decide +kernel
theorem dX8_failure_1 : decode cX8_failure 1 = .ok (.getfield 20, 3) := by decide +kernel
theorem dX8_failure_4 : decode cX8_failure 4 = .ok (.ireturn, 1) := by decide +kernel
theorem dX8_time_0 : decode cX8_time 0 = .ok (.aload_n 0, 1) := by decide +kernel
theorem dX8_time_1 : decode cX8_time 1 = .ok (.getfield 10, 3) := by decide +kernel
theorem dX8_time_4 : decode cX8_time 4 = .ok (.getfield 106, 3) := by decide +kernel
theorem dX8_time_7 : decode cX8_time 7 = .ok (.ireturn, 1) := by decide +kernel
theorem dX8_basin_0 : decode cX8_basin 0 = .ok (.aload_n 0, 1) := by decide +kernel
theorem dX8_basin_1 : decode cX8_basin 1 = .ok (.getfield 10, 3) := by decide +kernel
theorem dX8_basin_4 : decode cX8_basin 4 = .ok (.getfield 156, 3) := by decide +kernel
theorem dX8_basin_7 : decode cX8_basin 7 = .ok (.ireturn, 1) := by decide +kernel
theorem dX8_spilled_0 : decode cX8_spilled 0 = .ok (.aload_n 0, 1) := by decide +kernel
theorem dX8_spilled_1 : decode cX8_spilled 1 = .ok (.getfield 10, 3) := by decide +kernel
theorem dX8_spilled_4 : decode cX8_spilled 4 = .ok (.getfield 159, 3) := by decide +kernel
theorem dX8_spilled_7 : decode cX8_spilled 7 = .ok (.ireturn, 1) := by decide +kernel
theorem dX8_pumps_0 : decode cX8_pumps 0 = .ok (.aload_n 0, 1) := by decide +kernel
theorem dX8_pumps_1 : decode cX8_pumps 1 = .ok (.getfield 10, 3) := by decide +kernel
theorem dX8_pumps_4 : decode cX8_pumps 4 = .ok (.getfield 62, 3) := by decide +kernel
theorem dX8_pumps_7 : decode cX8_pumps 7 = .ok (.ireturn, 1) := by decide +kernel
theorem dX8_incidents_0 : decode cX8_incidents 0 = .ok (.aload_n 0, 1) := by decide +kernel
theorem dX8_incidents_1 : decode cX8_incidents 1 = .ok (.getfield 34, 3) := by decide +kernel
theorem dX8_incidents_4 : decode cX8_incidents 4 = .ok (.getfield 162, 3) := by decide +kernel
theorem dX8_incidents_7 : decode cX8_incidents 7 = .ok (.ireturn, 1) := by decide +kernel
theorem dX8_incidentKind_0 : decode cX8_incidentKind 0 = .ok (.iload_n 1, 1) := by decide +kernel
theorem dX8_incidentKind_1 : decode cX8_incidentKind 1 = .ok (.ifCond .ge 9, 3) := by decide +kernel
theorem dX8_incidentKind_4 : decode cX8_incidentKind 4 = .ok (.sipush (-1002), 3) := by decide +kernel
theorem dX8_incidentKind_7 : decode cX8_incidentKind 7 = .ok (.goto 14, 3) := by decide +kernel
theorem dX8_incidentKind_10 : decode cX8_incidentKind 10 = .ok (.aload_n 0, 1) := by decide +kernel
theorem dX8_incidentKind_11 : decode cX8_incidentKind 11 = .ok (.getfield 34, 3) := by decide +kernel
theorem dX8_incidentKind_14 : decode cX8_incidentKind 14 = .ok (.getfield 165, 3) := by decide +kernel
theorem dX8_incidentKind_17 : decode cX8_incidentKind 17 = .ok (.iload_n 1, 1) := by decide +kernel
theorem dX8_incidentKind_18 : decode cX8_incidentKind 18 = .ok (.invokevirtual 169, 3) := by decide +kernel
theorem dX8_incidentKind_21 : decode cX8_incidentKind 21 = .ok (.ireturn, 1) := by decide +kernel
theorem dX8_incidentPump_0 : decode cX8_incidentPump 0 = .ok (.iload_n 1, 1) := by decide +kernel
theorem dX8_incidentPump_1 : decode cX8_incidentPump 1 = .ok (.ifCond .ge 9, 3) := by decide +kernel
theorem dX8_incidentPump_4 : decode cX8_incidentPump 4 = .ok (.sipush (-1002), 3) := by decide +kernel
theorem dX8_incidentPump_7 : decode cX8_incidentPump 7 = .ok (.goto 14, 3) := by decide +kernel
theorem dX8_incidentPump_10 : decode cX8_incidentPump 10 = .ok (.aload_n 0, 1) := by decide +kernel
theorem dX8_incidentPump_11 : decode cX8_incidentPump 11 = .ok (.getfield 34, 3) := by decide +kernel
theorem dX8_incidentPump_14 : decode cX8_incidentPump 14 = .ok (.getfield 174, 3) := by decide +kernel
theorem dX8_incidentPump_17 : decode cX8_incidentPump 17 = .ok (.iload_n 1, 1) := by decide +kernel
theorem dX8_incidentPump_18 : decode cX8_incidentPump 18 = .ok (.invokevirtual 169, 3) := by decide +kernel
theorem dX8_incidentPump_21 : decode cX8_incidentPump 21 = .ok (.ireturn, 1) := by decide +kernel
theorem dX8_incidentTime_0 : decode cX8_incidentTime 0 = .ok (.iload_n 1, 1) := by decide +kernel
theorem dX8_incidentTime_1 : decode cX8_incidentTime 1 = .ok (.ifCond .ge 9, 3) := by decide +kernel
theorem dX8_incidentTime_4 : decode cX8_incidentTime 4 = .ok (.sipush (-1002), 3) := by decide +kernel
theorem dX8_incidentTime_7 : decode cX8_incidentTime 7 = .ok (.goto 14, 3) := by decide +kernel
theorem dX8_incidentTime_10 : decode cX8_incidentTime 10 = .ok (.aload_n 0, 1) := by decide +kernel
theorem dX8_incidentTime_11 : decode cX8_incidentTime 11 = .ok (.getfield 34, 3) := by decide +kernel
theorem dX8_incidentTime_14 : decode cX8_incidentTime 14 = .ok (.getfield 177, 3) := by decide +kernel
theorem dX8_incidentTime_17 : decode cX8_incidentTime 17 = .ok (.iload_n 1, 1) := by decide +kernel
theorem dX8_incidentTime_18 : decode cX8_incidentTime 18 = .ok (.invokevirtual 169, 3) := by decide +kernel
theorem dX8_incidentTime_21 : decode cX8_incidentTime 21 = .ok (.ireturn, 1) := by decide +kernel
theorem dX8_phase_0 : decode cX8_phase 0 = .ok (.aload_n 0, 1) := by decide +kernel
theorem dX8_phase_1 : decode cX8_phase 1 = .ok (.getfield 10, 3) := by decide +kernel
theorem dX8_phase_4 : decode cX8_phase 4 = .ok (.iload_n 1, 1) := by decide +kernel
theorem dX8_phase_5 : decode cX8_phase 5 = .ok (.invokevirtual 72, 3) := by decide +kernel
theorem dX8_phase_8 : decode cX8_phase 8 = .ok (.astore_n 2, 1) := by decide +kernel
theorem dX8_phase_9 : decode cX8_phase 9 = .ok (.aload_n 2, 1) := by decide +kernel
theorem dX8_phase_10 : decode cX8_phase 10 = .ok (.ifnonnull 7, 3) := by decide +kernel
theorem dX8_phase_13 : decode cX8_phase 13 = .ok (.sipush (-1001), 3) := by decide +kernel
theorem dX8_phase_16 : decode cX8_phase 16 = .ok (.ireturn, 1) := by decide +kernel
theorem dX8_phase_17 : decode cX8_phase 17 = .ok (.aload_n 2, 1) := by decide +kernel
theorem dX8_phase_18 : decode cX8_phase 18 = .ok (.getfield 76, 3) := by decide +kernel
theorem dX8_phase_21 : decode cX8_phase 21 = .ok (.ifCond .ne 5, 3) := by decide +kernel
theorem dX8_phase_24 : decode cX8_phase 24 = .ok (.iconst 0, 1) := by decide +kernel
theorem dX8_phase_25 : decode cX8_phase 25 = .ok (.ireturn, 1) := by decide +kernel
theorem dX8_phase_26 : decode cX8_phase 26 = .ok (.aload_n 2, 1) := by decide +kernel
theorem dX8_phase_27 : decode cX8_phase 27 = .ok (.getfield 180, 3) := by decide +kernel
theorem dX8_phase_30 : decode cX8_phase 30 = .ok (.ifCond .eq 7, 3) := by decide +kernel
theorem dX8_phase_33 : decode cX8_phase 33 = .ok (.iconst 2, 1) := by decide +kernel
theorem dX8_phase_34 : decode cX8_phase 34 = .ok (.goto 4, 3) := by decide +kernel
theorem dX8_phase_37 : decode cX8_phase 37 = .ok (.iconst 1, 1) := by decide +kernel
theorem dX8_phase_38 : decode cX8_phase 38 = .ok (.ireturn, 1) := by decide +kernel
theorem dX8_speed_0 : decode cX8_speed 0 = .ok (.aload_n 0, 1) := by decide +kernel
theorem dX8_speed_1 : decode cX8_speed 1 = .ok (.getfield 10, 3) := by decide +kernel
theorem dX8_speed_4 : decode cX8_speed 4 = .ok (.iload_n 1, 1) := by decide +kernel
theorem dX8_speed_5 : decode cX8_speed 5 = .ok (.invokevirtual 72, 3) := by decide +kernel
theorem dX8_speed_8 : decode cX8_speed 8 = .ok (.astore_n 2, 1) := by decide +kernel
theorem dX8_speed_9 : decode cX8_speed 9 = .ok (.aload_n 2, 1) := by decide +kernel
theorem dX8_speed_10 : decode cX8_speed 10 = .ok (.ifnonnull 9, 3) := by decide +kernel
theorem dX8_speed_13 : decode cX8_speed 13 = .ok (.sipush (-1001), 3) := by decide +kernel
theorem dX8_speed_16 : decode cX8_speed 16 = .ok (.goto 7, 3) := by decide +kernel
theorem dX8_speed_19 : decode cX8_speed 19 = .ok (.aload_n 2, 1) := by decide +kernel
theorem dX8_speed_20 : decode cX8_speed 20 = .ok (.getfield 183, 3) := by decide +kernel
theorem dX8_speed_23 : decode cX8_speed 23 = .ok (.ireturn, 1) := by decide +kernel
