theorem dX7_fillBasin_23 : decode cX7_fillBasin 23 = .ok (.aload_n 0, 1) := by decide +kernel
theorem dX7_fillBasin_24 : decode cX7_fillBasin 24 = .ok (.dup, 1) := by decide +kernel
theorem dX7_fillBasin_25 : decode cX7_fillBasin 25 = .ok (.getfield 48, 3) := by decide +kernel
theorem dX7_fillBasin_28 : decode cX7_fillBasin 28 = .ok (.iload_n 1, 1) := by decide +kernel
theorem dX7_fillBasin_29 : decode cX7_fillBasin 29 = .ok (.iload_n 2, 1) := by decide +kernel
theorem dX7_fillBasin_30 : decode cX7_fillBasin 30 = .ok (.isub, 1) := by decide +kernel
theorem dX7_fillBasin_31 : decode cX7_fillBasin 31 = .ok (.iadd, 1) := by decide +kernel
theorem dX7_fillBasin_32 : decode cX7_fillBasin 32 = .ok (.putfield 48, 3) := by decide +kernel
theorem dX7_fillBasin_35 : decode cX7_fillBasin 35 = .ok (.return_, 1) := by decide +kernel
theorem dX7_copyFrom_0 : decode cX7_copyFrom 0 = .ok (.aload_n 0, 1) := by decide +kernel
theorem dX7_copyFrom_1 : decode cX7_copyFrom 1 = .ok (.aload_n 1, 1) := by decide +kernel
theorem dX7_copyFrom_2 : decode cX7_copyFrom 2 = .ok (.getfield 51, 3) := by decide +kernel
theorem dX7_copyFrom_5 : decode cX7_copyFrom 5 = .ok (.putfield 51, 3) := by decide +kernel
theorem dX7_copyFrom_8 : decode cX7_copyFrom 8 = .ok (.aload_n 0, 1) := by decide +kernel
theorem dX7_copyFrom_9 : decode cX7_copyFrom 9 = .ok (.aload_n 1, 1) := by decide +kernel
theorem dX7_copyFrom_10 : decode cX7_copyFrom 10 = .ok (.getfield 9, 3) := by decide +kernel
theorem dX7_copyFrom_13 : decode cX7_copyFrom 13 = .ok (.putfield 9, 3) := by decide +kernel
theorem dX7_copyFrom_16 : decode cX7_copyFrom 16 = .ok (.aload_n 0, 1) := by decide +kernel
theorem dX7_copyFrom_17 : decode cX7_copyFrom 17 = .ok (.aload_n 1, 1) := by decide +kernel
theorem dX7_copyFrom_18 : decode cX7_copyFrom 18 = .ok (.getfield 48, 3) := by decide +kernel
theorem dX7_copyFrom_21 : decode cX7_copyFrom 21 = .ok (.putfield 48, 3) := by decide +kernel
theorem dX7_copyFrom_24 : decode cX7_copyFrom 24 = .ok (.aload_n 0, 1) := by decide +kernel
theorem dX7_copyFrom_25 : decode cX7_copyFrom 25 = .ok (.aload_n 1, 1) := by decide +kernel
theorem dX7_copyFrom_26 : decode cX7_copyFrom 26 = .ok (.getfield 15, 3) := by decide +kernel
theorem dX7_copyFrom_29 : decode cX7_copyFrom 29 = .ok (.putfield 15, 3) := by decide +kernel
theorem dX7_copyFrom_32 : decode cX7_copyFrom 32 = .ok (.aload_n 0, 1) := by decide +kernel
theorem dX7_copyFrom_33 : decode cX7_copyFrom 33 = .ok (.aload_n 1, 1) := by decide +kernel
theorem dX7_copyFrom_34 : decode cX7_copyFrom 34 = .ok (.getfield 27, 3) := by decide +kernel
theorem dX7_copyFrom_37 : decode cX7_copyFrom 37 = .ok (.putfield 27, 3) := by decide +kernel
theorem dX7_copyFrom_40 : decode cX7_copyFrom 40 = .ok (.iconst 0, 1) := by decide +kernel
theorem dX7_copyFrom_41 : decode cX7_copyFrom 41 = .ok (.istore_n 2, 1) := by decide +kernel
theorem dX7_copyFrom_42 : decode cX7_copyFrom 42 = .ok (.iload_n 2, 1) := by decide +kernel
theorem dX7_copyFrom_43 : decode cX7_copyFrom 43 = .ok (.aload_n 0, 1) := by decide +kernel
theorem dX7_copyFrom_44 : decode cX7_copyFrom 44 = .ok (.getfield 27, 3) := by decide +kernel
theorem dX7_copyFrom_47 : decode cX7_copyFrom 47 = .ok (.if_icmp .ge 37, 3) := by decide +kernel
theorem dX7_copyFrom_50 : decode cX7_copyFrom 50 = .ok (.aload_n 0, 1) := by decide +kernel
theorem dX7_copyFrom_51 : decode cX7_copyFrom 51 = .ok (.iload_n 2, 1) := by decide +kernel
theorem dX7_copyFrom_52 : decode cX7_copyFrom 52 = .ok (.invokevirtual 34, 3) := by decide +kernel
theorem dX7_copyFrom_55 : decode cX7_copyFrom 55 = .ok (.astore_n 3, 1) := by decide +kernel
theorem dX7_copyFrom_56 : decode cX7_copyFrom 56 = .ok (.aload_n 1, 1) := by decide +kernel
theorem dX7_copyFrom_57 : decode cX7_copyFrom 57 = .ok (.iload_n 2, 1) := by decide +kernel
theorem dX7_copyFrom_58 : decode cX7_copyFrom 58 = .ok (.invokevirtual 34, 3) := by decide +kernel
theorem dX7_copyFrom_61 : decode cX7_copyFrom 61 = .ok (.astore 4, 2) := by decide +kernel
theorem dX7_copyFrom_63 : decode cX7_copyFrom 63 = .ok (.aload_n 3, 1) := by decide +kernel
theorem dX7_copyFrom_64 : decode cX7_copyFrom 64 = .ok (.ifnull 14, 3) := by decide +kernel
theorem dX7_copyFrom_67 : decode cX7_copyFrom 67 = .ok (.aload 4, 2) := by decide +kernel
theorem dX7_copyFrom_69 : decode cX7_copyFrom 69 = .ok (.ifnull 9, 3) := by decide +kernel
theorem dX7_copyFrom_72 : decode cX7_copyFrom 72 = .ok (.aload_n 3, 1) := by decide +kernel
theorem dX7_copyFrom_73 : decode cX7_copyFrom 73 = .ok (.aload 4, 2) := by decide +kernel
theorem dX7_copyFrom_75 : decode cX7_copyFrom 75 = .ok (.invokevirtual 54, 3) := by decide +kernel
theorem dX7_copyFrom_78 : decode cX7_copyFrom 78 = .ok (.iinc 2 1, 3) := by decide +kernel
theorem dX7_copyFrom_81 : decode cX7_copyFrom 81 = .ok (.goto (-39), 3) := by decide +kernel
theorem dX7_copyFrom_84 : decode cX7_copyFrom 84 = .ok (.return_, 1) := by decide +kernel
theorem dX8_init_0 : decode cX8_init 0 = .ok (.aload_n 0, 1) := by decide +kernel
theorem dX8_init_1 : decode cX8_init 1 = .ok (.invokespecial 1, 3) := by decide +kernel
theorem dX8_init_4 : decode cX8_init 4 = .ok (.aload_n 0, 1) := by decide +kernel
theorem dX8_init_5 : decode cX8_init 5 = .ok (.new 7, 3) := by decide +kernel
theorem dX8_init_8 : decode cX8_init 8 = .ok (.dup, 1) := by decide +kernel
theorem dX8_init_9 : decode cX8_init 9 = .ok (.invokespecial 9, 3) := by decide +kernel
theorem dX8_init_12 : decode cX8_init 12 = .ok (.putfield 10, 3) := by decide +kernel
theorem dX8_init_15 : decode cX8_init 15 = .ok (.aload_n 0, 1) := by decide +kernel
theorem dX8_init_16 : decode cX8_init 16 = .ok (.bipush 8, 2) := by decide +kernel
theorem dX8_init_18 : decode cX8_init 18 = .ok (.anewarray 7, 3) := by decide +kernel
theorem dX8_init_21 : decode cX8_init 21 = .ok (.putfield 16, 3) := by decide +kernel
theorem dX8_init_24 : decode cX8_init 24 = .ok (.aload_n 0, 1) := by decide +kernel
theorem dX8_init_25 : decode cX8_init 25 = .ok (.sipush (-1005), 3) := by decide +kernel
theorem dX8_init_28 : decode cX8_init 28 = .ok (.putfield 20, 3) := by decide +kernel
theorem dX8_init_31 : decode cX8_init 31 = .ok (.aload_n 0, 1) := by decide +kernel
theorem dX8_init_32 : decode cX8_init 32 = .ok (.new 24, 3) := by decide +kernel
theorem dX8_init_35 : decode cX8_init 35 = .ok (.dup, 1) := by decide +kernel
theorem dX8_init_36 : decode cX8_init 36 = .ok (.invokespecial 26, 3) := by decide +kernel
theorem dX8_init_39 : decode cX8_init 39 = .ok (.putfield 27, 3) := by decide +kernel
theorem dX8_init_42 : decode cX8_init 42 = .ok (.aload_n 0, 1) := by decide +kernel
theorem dX8_init_43 : decode cX8_init 43 = .ok (.new 31, 3) := by decide +kernel
theorem dX8_init_46 : decode cX8_init 46 = .ok (.dup, 1) := by decide +kernel
theorem dX8_init_47 : decode cX8_init 47 = .ok (.invokespecial 33, 3) := by decide +kernel
theorem dX8_init_50 : decode cX8_init 50 = .ok (.putfield 34, 3) := by decide +kernel
theorem dX8_init_53 : decode cX8_init 53 = .ok (.aload_n 0, 1) := by decide +kernel
theorem dX8_init_54 : decode cX8_init 54 = .ok (.new 38, 3) := by decide +kernel
theorem dX8_init_57 : decode cX8_init 57 = .ok (.dup, 1) := by decide +kernel
theorem dX8_init_58 : decode cX8_init 58 = .ok (.invokespecial 40, 3) := by decide +kernel
theorem dX8_init_61 : decode cX8_init 61 = .ok (.putfield 41, 3) := by decide +kernel
theorem dX8_init_64 : decode cX8_init 64 = .ok (.aload_n 0, 1) := by decide +kernel
theorem dX8_init_65 : decode cX8_init 65 = .ok (.new 45, 3) := by decide +kernel
theorem dX8_init_68 : decode cX8_init 68 = .ok (.dup, 1) := by decide +kernel
theorem dX8_init_69 : decode cX8_init 69 = .ok (.iconst 0, 1) := by decide +kernel
theorem dX8_init_70 : decode cX8_init 70 = .ok (.iconst 1, 1) := by decide +kernel
theorem dX8_init_71 : decode cX8_init 71 = .ok (.iconst 0, 1) := by decide +kernel
theorem dX8_init_72 : decode cX8_init 72 = .ok (.iconst 0, 1) := by decide +kernel
theorem dX8_init_73 : decode cX8_init 73 = .ok (.iconst 0, 1) := by decide +kernel
theorem dX8_init_74 : decode cX8_init 74 = .ok (.invokespecial 47, 3) := by decide +kernel
theorem dX8_init_77 : decode cX8_init 77 = .ok (.putfield 50, 3) := by decide +kernel
theorem dX8_init_80 : decode cX8_init 80 = .ok (.aload_n 0, 1) := by decide +kernel
theorem dX8_init_81 : decode cX8_init 81 = .ok (.sipush 2000, 3) := by decide +kernel
theorem dX8_init_84 : decode cX8_init 84 = .ok (.newarray .long, 2) := by decide +kernel
theorem dX8_init_86 : decode cX8_init 86 = .ok (.putfield 54, 3) := by decide +kernel
theorem dX8_init_89 : decode cX8_init 89 = .ok (.iconst 0, 1) := by decide +kernel
theorem dX8_init_90 : decode cX8_init 90 = .ok (.istore_n 1, 1) := by decide +kernel
theorem dX8_init_91 : decode cX8_init 91 = .ok (.iload_n 1, 1) := by decide +kernel
theorem dX8_init_92 : decode cX8_init 92 = .ok (.aload_n 0, 1) := by decide +kernel
theorem dX8_init_93 : decode cX8_init 93 = .ok (.getfield 16, 3) := by decide +kernel
theorem dX8_init_96 : decode cX8_init 96 = .ok (.arraylength, 1) := by decide +kernel
theorem dX8_init_97 : decode cX8_init 97 = .ok (.if_icmp .ge 22, 3) := by decide +kernel
theorem dX8_init_100 : decode cX8_init 100 = .ok (.aload_n 0, 1) := by decide +kernel
theorem dX8_init_101 : decode cX8_init 101 = .ok (.getfield 16, 3) := by decide +kernel
theorem dX8_init_104 : decode cX8_init 104 = .ok (.iload_n 1, 1) := by decide +kernel
theorem dX8_init_105 : decode cX8_init 105 = .ok (.new 7, 3) := by decide +kernel
theorem dX8_init_108 : decode cX8_init 108 = .ok (.dup, 1) := by decide +kernel
theorem dX8_init_109 : decode cX8_init 109 = .ok (.invokespecial 9, 3) := by decide +kernel
theorem dX8_init_112 : decode cX8_init 112 = .ok (.aastore, 1) := by decide +kernel
theorem dX8_init_113 : decode cX8_init 113 = .ok (.iinc 1 1, 3) := by decide +kernel
theorem dX8_init_116 : decode cX8_init 116 = .ok (.goto (-25), 3) := by decide +kernel
theorem dX8_init_119 : decode cX8_init 119 = .ok (.return_, 1) := by decide +kernel
theorem dX8_addPump_0 : decode cX8_addPump 0 = .ok (.iload_n 1, 1) := by decide +kernel
theorem dX8_addPump_1 : decode cX8_addPump 1 = .ok (.bipush 10, 2) := by decide +kernel
theorem dX8_addPump_3 : decode cX8_addPump 3 = .ok (.bipush 99, 2) := by decide +kernel
theorem dX8_addPump_5 : decode cX8_addPump 5 = .ok (.invokestatic 58, 3) := by decide +kernel
theorem dX8_addPump_8 : decode cX8_addPump 8 = .ok (.ifCond .ne 50, 3) := by decide +kernel
theorem dX8_addPump_11 : decode cX8_addPump 11 = .ok (.iload_n 2, 1) := by decide +kernel
theorem dX8_addPump_12 : decode cX8_addPump 12 = .ok (.bipush 10, 2) := by decide +kernel
theorem dX8_addPump_14 : decode cX8_addPump 14 = .ok (.sipush 400, 3) := by decide +kernel
theorem dX8_addPump_17 : decode cX8_addPump 17 = .ok (.invokestatic 58, 3) := by decide +kernel
theorem dX8_addPump_20 : decode cX8_addPump 20 = .ok (.ifCond .ne 38, 3) := by decide +kernel
theorem dX8_addPump_23 : decode cX8_addPump 23 = .ok (.iload_n 3, 1) := by decide +kernel
theorem dX8_addPump_24 : decode cX8_addPump 24 = .ok (.iconst 1, 1) := by decide +kernel
theorem dX8_addPump_25 : decode cX8_addPump 25 = .ok (.bipush 20, 2) := by decide +kernel
theorem dX8_addPump_27 : decode cX8_addPump 27 = .ok (.invokestatic 58, 3) := by decide +kernel
theorem dX8_addPump_30 : decode cX8_addPump 30 = .ok (.ifCond .ne 28, 3) := by decide +kernel
theorem dX8_addPump_33 : decode cX8_addPump 33 = .ok (.iload 4, 2) := by decide +kernel
theorem dX8_addPump_35 : decode cX8_addPump 35 = .ok (.iconst 0, 1) := by decide +kernel
theorem dX8_addPump_36 : decode cX8_addPump 36 = .ok (.bipush 100, 2) := by decide +kernel
theorem dX8_addPump_38 : decode cX8_addPump 38 = .ok (.invokestatic 58, 3) := by decide +kernel
theorem dX8_addPump_41 : decode cX8_addPump 41 = .ok (.ifCond .ne 17, 3) := by decide +kernel
theorem dX8_addPump_44 : decode cX8_addPump 44 = .ok (.iload 5, 2) := by decide +kernel
theorem dX8_addPump_46 : decode cX8_addPump 46 = .ok (.iload_n 1, 1) := by decide +kernel
theorem dX8_addPump_47 : decode cX8_addPump 47 = .ok (.iconst 1, 1) := by decide +kernel
theorem dX8_addPump_48 : decode cX8_addPump 48 = .ok (.iadd, 1) := by decide +kernel
theorem dX8_addPump_49 : decode cX8_addPump 49 = .ok (.sipush 500, 3) := by decide +kernel
theorem dX8_addPump_52 : decode cX8_addPump 52 = .ok (.invokestatic 58, 3) := by decide +kernel
theorem dX8_addPump_55 : decode cX8_addPump 55 = .ok (.ifCond .eq 7, 3) := by decide +kernel
theorem dX8_addPump_58 : decode cX8_addPump 58 = .ok (.sipush (-1002), 3) := by decide +kernel
theorem dX8_addPump_61 : decode cX8_addPump 61 = .ok (.ireturn, 1) := by decide +kernel
theorem dX8_addPump_62 : decode cX8_addPump 62 = .ok (.aload_n 0, 1) := by decide +kernel
theorem dX8_addPump_63 : decode cX8_addPump 63 = .ok (.getfield 10, 3) := by decide +kernel
theorem dX8_addPump_66 : decode cX8_addPump 66 = .ok (.getfield 62, 3) := by decide +kernel
theorem dX8_addPump_69 : decode cX8_addPump 69 = .ok (.istore 6, 2) := by decide +kernel
theorem dX8_addPump_71 : decode cX8_addPump 71 = .ok (.iload 6, 2) := by decide +kernel
theorem dX8_addPump_73 : decode cX8_addPump 73 = .ok (.iconst 0, 1) := by decide +kernel
theorem dX8_addPump_74 : decode cX8_addPump 74 = .ok (.aload_n 0, 1) := by decide +kernel
theorem dX8_addPump_75 : decode cX8_addPump 75 = .ok (.getfield 10, 3) := by decide +kernel
theorem dX8_addPump_78 : decode cX8_addPump 78 = .ok (.getfield 65, 3) := by decide +kernel
theorem dX8_addPump_81 : decode cX8_addPump 81 = .ok (.arraylength, 1) := by decide +kernel
theorem dX8_addPump_82 : decode cX8_addPump 82 = .ok (.iconst 1, 1) := by decide +kernel
theorem dX8_addPump_83 : decode cX8_addPump 83 = .ok (.isub, 1) := by decide +kernel
theorem dX8_addPump_84 : decode cX8_addPump 84 = .ok (.invokestatic 58, 3) := by decide +kernel
theorem dX8_addPump_87 : decode cX8_addPump 87 = .ok (.ifCond .eq 7, 3) := by decide +kernel
theorem dX8_addPump_90 : decode cX8_addPump 90 = .ok (.sipush (-1004), 3) := by decide +kernel
theorem dX8_addPump_93 : decode cX8_addPump 93 = .ok (.ireturn, 1) := by decide +kernel
theorem dX8_addPump_94 : decode cX8_addPump 94 = .ok (.aload_n 0, 1) := by decide +kernel
theorem dX8_addPump_95 : decode cX8_addPump 95 = .ok (.invokevirtual 69, 3) := by decide +kernel
theorem dX8_addPump_98 : decode cX8_addPump 98 = .ok (.aload_n 0, 1) := by decide +kernel
theorem dX8_addPump_99 : decode cX8_addPump 99 = .ok (.getfield 10, 3) := by decide +kernel
theorem dX8_addPump_102 : decode cX8_addPump 102 = .ok (.getfield 65, 3) := by decide +kernel
theorem dX8_addPump_105 : decode cX8_addPump 105 = .ok (.iload 6, 2) := by decide +kernel
theorem dX8_addPump_107 : decode cX8_addPump 107 = .ok (.new 45, 3) := by decide +kernel
theorem dX8_addPump_110 : decode cX8_addPump 110 = .ok (.dup, 1) := by decide +kernel
theorem dX8_addPump_111 : decode cX8_addPump 111 = .ok (.iload_n 1, 1) := by decide +kernel
theorem dX8_addPump_112 : decode cX8_addPump 112 = .ok (.iload_n 2, 1) := by decide +kernel
theorem dX8_addPump_113 : decode cX8_addPump 113 = .ok (.iload_n 3, 1) := by decide +kernel
theorem dX8_addPump_114 : decode cX8_addPump 114 = .ok (.iload 4, 2) := by decide +kernel
theorem dX8_addPump_116 : decode cX8_addPump 116 = .ok (.iload 5, 2) := by decide +kernel
theorem dX8_addPump_118 : decode cX8_addPump 118 = .ok (.invokespecial 47, 3) := by decide +kernel
theorem dX8_addPump_121 : decode cX8_addPump 121 = .ok (.aastore, 1) := by decide +kernel
theorem dX8_addPump_122 : decode cX8_addPump 122 = .ok (.aload_n 0, 1) := by decide +kernel
theorem dX8_addPump_123 : decode cX8_addPump 123 = .ok (.getfield 10, 3) := by decide +kernel
theorem dX8_addPump_126 : decode cX8_addPump 126 = .ok (.iload 6, 2) := by decide +kernel
theorem dX8_addPump_128 : decode cX8_addPump 128 = .ok (.iconst 1, 1) := by decide +kernel
theorem dX8_addPump_129 : decode cX8_addPump 129 = .ok (.iadd, 1) := by decide +kernel
theorem dX8_addPump_130 : decode cX8_addPump 130 = .ok (.putfield 62, 3) := by decide +kernel
theorem dX8_addPump_133 : decode cX8_addPump 133 = .ok (.iload 6, 2) := by decide +kernel
theorem dX8_addPump_135 : decode cX8_addPump 135 = .ok (.ireturn, 1) := by decide +kernel
theorem dX8_setValve_0 : decode cX8_setValve 0 = .ok (.aload_n 0, 1) := by decide +kernel
theorem dX8_setValve_1 : decode cX8_setValve 1 = .ok (.getfield 10, 3) := by decide +kernel
theorem dX8_setValve_4 : decode cX8_setValve 4 = .ok (.iload_n 1, 1) := by decide +kernel
theorem dX8_setValve_5 : decode cX8_setValve 5 = .ok (.invokevirtual 72, 3) := by decide +kernel
theorem dX8_setValve_8 : decode cX8_setValve 8 = .ok (.astore 4, 2) := by decide +kernel
theorem dX8_setValve_10 : decode cX8_setValve 10 = .ok (.aload 4, 2) := by decide +kernel
theorem dX8_setValve_12 : decode cX8_setValve 12 = .ok (.ifnonnull 7, 3) := by decide +kernel
theorem dX8_setValve_15 : decode cX8_setValve 15 = .ok (.sipush (-1001), 3) := by decide +kernel
theorem dX8_setValve_18 : decode cX8_setValve 18 = .ok (.ireturn, 1) := by decide +kernel
theorem dX8_setValve_19 : decode cX8_setValve 19 = .ok (.iload_n 2, 1) := by decide +kernel
theorem dX8_setValve_20 : decode cX8_setValve 20 = .ok (.iconst 0, 1) := by decide +kernel
theorem dX8_setValve_21 : decode cX8_setValve 21 = .ok (.iconst 2, 1) := by decide +kernel
theorem dX8_setValve_22 : decode cX8_setValve 22 = .ok (.invokestatic 58, 3) := by decide +kernel
theorem dX8_setValve_25 : decode cX8_setValve 25 = .ok (.ifCond .ne 14, 3) := by decide +kernel
theorem dX8_setValve_28 : decode cX8_setValve 28 = .ok (.iload_n 3, 1) := by decide +kernel
theorem dX8_setValve_29 : decode cX8_setValve 29 = .ok (.iconst 1, 1) := by decide +kernel
theorem dX8_setValve_30 : decode cX8_setValve 30 = .ok (.sipush 500, 3) := by decide +kernel
theorem dX8_setValve_33 : decode cX8_setValve 33 = .ok (.invokestatic 58, 3) := by decide +kernel
theorem dX8_setValve_36 : decode cX8_setValve 36 = .ok (.ifCond .eq 7, 3) := by decide +kernel
theorem dX8_setValve_39 : decode cX8_setValve 39 = .ok (.sipush (-1002), 3) := by decide +kernel
theorem dX8_setValve_42 : decode cX8_setValve 42 = .ok (.ireturn, 1) := by decide +kernel
theorem dX8_setValve_43 : decode cX8_setValve 43 = .ok (.aload 4, 2) := by decide +kernel
theorem dX8_setValve_45 : decode cX8_setValve 45 = .ok (.getfield 76, 3) := by decide +kernel
theorem dX8_setValve_48 : decode cX8_setValve 48 = .ok (.ifCond .eq 7, 3) := by decide +kernel
theorem dX8_setValve_51 : decode cX8_setValve 51 = .ok (.sipush (-1003), 3) := by decide +kernel
theorem dX8_setValve_54 : decode cX8_setValve 54 = .ok (.ireturn, 1) := by decide +kernel
theorem dX8_setValve_55 : decode cX8_setValve 55 = .ok (.aload_n 0, 1) := by decide +kernel
theorem dX8_setValve_56 : decode cX8_setValve 56 = .ok (.invokevirtual 69, 3) := by decide +kernel
theorem dX8_setValve_59 : decode cX8_setValve 59 = .ok (.aload 4, 2) := by decide +kernel
theorem dX8_setValve_61 : decode cX8_setValve 61 = .ok (.getfield 80, 3) := by decide +kernel
theorem dX8_setValve_64 : decode cX8_setValve 64 = .ok (.istore 5, 2) := by decide +kernel
theorem dX8_setValve_66 : decode cX8_setValve 66 = .ok (.aload 4, 2) := by decide +kernel
theorem dX8_setValve_68 : decode cX8_setValve 68 = .ok (.iload_n 2, 1) := by decide +kernel
theorem dX8_setValve_69 : decode cX8_setValve 69 = .ok (.putfield 83, 3) := by decide +kernel
theorem dX8_setValve_72 : decode cX8_setValve 72 = .ok (.aload 4, 2) := by decide +kernel
theorem dX8_setValve_74 : decode cX8_setValve 74 = .ok (.iload_n 3, 1) := by decide +kernel
theorem dX8_setValve_75 : decode cX8_setValve 75 = .ok (.putfield 80, 3) := by decide +kernel
theorem dX8_setValve_78 : decode cX8_setValve 78 = .ok (.iload 5, 2) := by decide +kernel
theorem dX8_setValve_80 : decode cX8_setValve 80 = .ok (.ireturn, 1) := by decide +kernel
theorem dX8_setChamber_0 : decode cX8_setChamber 0 = .ok (.aload_n 0, 1) := by decide +kernel
theorem dX8_setChamber_1 : decode cX8_setChamber 1 = .ok (.getfield 10, 3) := by decide +kernel
theorem dX8_setChamber_4 : decode cX8_setChamber 4 = .ok (.iload_n 1, 1) := by decide +kernel
theorem dX8_setChamber_5 : decode cX8_setChamber 5 = .ok (.invokevirtual 72, 3) := by decide +kernel
theorem dX8_setChamber_8 : decode cX8_setChamber 8 = .ok (.astore 4, 2) := by decide +kernel
theorem dX8_setChamber_10 : decode cX8_setChamber 10 = .ok (.aload 4, 2) := by decide +kernel
theorem dX8_setChamber_12 : decode cX8_setChamber 12 = .ok (.ifnonnull 7, 3) := by decide +kernel
theorem dX8_setChamber_15 : decode cX8_setChamber 15 = .ok (.sipush (-1001), 3) := by decide +kernel
theorem dX8_setChamber_18 : decode cX8_setChamber 18 = .ok (.ireturn, 1) := by decide +kernel
theorem dX8_setChamber_19 : decode cX8_setChamber 19 = .ok (.iload_n 2, 1) := by decide +kernel
theorem dX8_setChamber_20 : decode cX8_setChamber 20 = .ok (.bipush 50, 2) := by decide +kernel
theorem dX8_setChamber_22 : decode cX8_setChamber 22 = .ok (.sipush 2000, 3) := by decide +kernel
theorem dX8_setChamber_25 : decode cX8_setChamber 25 = .ok (.invokestatic 58, 3) := by decide +kernel
theorem dX8_setChamber_28 : decode cX8_setChamber 28 = .ok (.ifCond .eq 7, 3) := by decide +kernel
theorem dX8_setChamber_31 : decode cX8_setChamber 31 = .ok (.sipush (-1002), 3) := by decide +kernel
theorem dX8_setChamber_34 : decode cX8_setChamber 34 = .ok (.ireturn, 1) := by decide +kernel
theorem dX8_setChamber_35 : decode cX8_setChamber 35 = .ok (.aload 4, 2) := by decide +kernel
theorem dX8_setChamber_37 : decode cX8_setChamber 37 = .ok (.getfield 76, 3) := by decide +kernel
theorem dX8_setChamber_40 : decode cX8_setChamber 40 = .ok (.ifCond .eq 7, 3) := by decide +kernel
theorem dX8_setChamber_43 : decode cX8_setChamber 43 = .ok (.sipush (-1003), 3) := by decide +kernel
theorem dX8_setChamber_46 : decode cX8_setChamber 46 = .ok (.ireturn, 1) := by decide +kernel
theorem dX8_setChamber_47 : decode cX8_setChamber 47 = .ok (.aload_n 0, 1) := by decide +kernel
theorem dX8_setChamber_48 : decode cX8_setChamber 48 = .ok (.invokevirtual 69, 3) := by decide +kernel
theorem dX8_setChamber_51 : decode cX8_setChamber 51 = .ok (.aload 4, 2) := by decide +kernel
theorem dX8_setChamber_53 : decode cX8_setChamber 53 = .ok (.getfield 86, 3) := by decide +kernel
theorem dX8_setChamber_56 : decode cX8_setChamber 56 = .ok (.getfield 90, 3) := by decide +kernel
theorem dX8_setChamber_59 : decode cX8_setChamber 59 = .ok (.istore 5, 2) := by decide +kernel
theorem dX8_setChamber_61 : decode cX8_setChamber 61 = .ok (.aload_n 0, 1) := by decide +kernel
theorem dX8_setChamber_62 : decode cX8_setChamber 62 = .ok (.getfield 10, 3) := by decide +kernel
theorem dX8_setChamber_65 : decode cX8_setChamber 65 = .ok (.iload 5, 2) := by decide +kernel
theorem dX8_setChamber_67 : decode cX8_setChamber 67 = .ok (.invokevirtual 95, 3) := by decide +kernel
theorem dX8_setChamber_70 : decode cX8_setChamber 70 = .ok (.aload 4, 2) := by decide +kernel
theorem dX8_setChamber_72 : decode cX8_setChamber 72 = .ok (.getfield 86, 3) := by decide +kernel
theorem dX8_setChamber_75 : decode cX8_setChamber 75 = .ok (.iload_n 2, 1) := by decide +kernel
theorem dX8_setChamber_76 : decode cX8_setChamber 76 = .ok (.iload_n 3, 1) := by decide +kernel
theorem dX8_setChamber_77 : decode cX8_setChamber 77 = .ok (.invokevirtual 99, 3) := by decide +kernel
theorem dX8_setChamber_80 : decode cX8_setChamber 80 = .ok (.iload 5, 2) := by decide +kernel
theorem dX8_setChamber_82 : decode cX8_setChamber 82 = .ok (.ireturn, 1) := by decide +kernel
theorem dX8_setInflow_0 : decode cX8_setInflow 0 = .ok (.iload_n 1, 1) := by decide +kernel
theorem dX8_setInflow_1 : decode cX8_setInflow 1 = .ok (.iconst 0, 1) := by decide +kernel
theorem dX8_setInflow_2 : decode cX8_setInflow 2 = .ok (.sipush 500, 3) := by decide +kernel
theorem dX8_setInflow_5 : decode cX8_setInflow 5 = .ok (.invokestatic 58, 3) := by decide +kernel
theorem dX8_setInflow_8 : decode cX8_setInflow 8 = .ok (.ifCond .eq 7, 3) := by decide +kernel
theorem dX8_setInflow_11 : decode cX8_setInflow 11 = .ok (.sipush (-1002), 3) := by decide +kernel
theorem dX8_setInflow_14 : decode cX8_setInflow 14 = .ok (.ireturn, 1) := by decide +kernel
theorem dX8_setInflow_15 : decode cX8_setInflow 15 = .ok (.aload_n 0, 1) := by decide +kernel
theorem dX8_setInflow_16 : decode cX8_setInflow 16 = .ok (.invokevirtual 69, 3) := by decide +kernel
theorem dX8_setInflow_19 : decode cX8_setInflow 19 = .ok (.aload_n 0, 1) := by decide +kernel
theorem dX8_setInflow_20 : decode cX8_setInflow 20 = .ok (.getfield 10, 3) := by decide +kernel
theorem dX8_setInflow_23 : decode cX8_setInflow 23 = .ok (.getfield 103, 3) := by decide +kernel
theorem dX8_setInflow_26 : decode cX8_setInflow 26 = .ok (.istore_n 2, 1) := by decide +kernel
theorem dX8_setInflow_27 : decode cX8_setInflow 27 = .ok (.aload_n 0, 1) := by decide +kernel
theorem dX8_setInflow_28 : decode cX8_setInflow 28 = .ok (.getfield 10, 3) := by decide +kernel
theorem dX8_setInflow_31 : decode cX8_setInflow 31 = .ok (.iload_n 1, 1) := by decide +kernel
theorem dX8_setInflow_32 : decode cX8_setInflow 32 = .ok (.putfield 103, 3) := by decide +kernel
theorem dX8_setInflow_35 : decode cX8_setInflow 35 = .ok (.iload_n 2, 1) := by decide +kernel
theorem dX8_setInflow_36 : decode cX8_setInflow 36 = .ok (.ireturn, 1) := by decide +kernel
theorem dX8_start_0 : decode cX8_start 0 = .ok (.aload_n 0, 1) := by decide +kernel
theorem dX8_start_1 : decode cX8_start 1 = .ok (.getfield 10, 3) := by decide +kernel
theorem dX8_start_4 : decode cX8_start 4 = .ok (.iload_n 1, 1) := by decide +kernel
theorem dX8_start_5 : decode cX8_start 5 = .ok (.invokevirtual 72, 3) := by decide +kernel
theorem dX8_start_8 : decode cX8_start 8 = .ok (.astore_n 2, 1) := by decide +kernel
theorem dX8_start_9 : decode cX8_start 9 = .ok (.aload_n 2, 1) := by decide +kernel
theorem dX8_start_10 : decode cX8_start 10 = .ok (.ifnonnull 7, 3) := by decide +kernel
theorem dX8_start_13 : decode cX8_start 13 = .ok (.sipush (-1001), 3) := by decide +kernel
theorem dX8_start_16 : decode cX8_start 16 = .ok (.ireturn, 1) := by decide +kernel
theorem dX8_start_17 : decode cX8_start 17 = .ok (.aload_n 2, 1) := by decide +kernel
theorem dX8_start_18 : decode cX8_start 18 = .ok (.getfield 76, 3) := by decide +kernel
theorem dX8_start_21 : decode cX8_start 21 = .ok (.ifCond .eq 7, 3) := by decide +kernel
theorem dX8_start_24 : decode cX8_start 24 = .ok (.sipush (-1003), 3) := by decide +kernel
theorem dX8_start_27 : decode cX8_start 27 = .ok (.ireturn, 1) := by decide +kernel
theorem dX8_start_28 : decode cX8_start 28 = .ok (.aload_n 0, 1) := by decide +kernel
theorem dX8_start_29 : decode cX8_start 29 = .ok (.invokevirtual 69, 3) := by decide +kernel
theorem dX8_start_32 : decode cX8_start 32 = .ok (.aload_n 2, 1) := by decide +kernel
theorem dX8_start_33 : decode cX8_start 33 = .ok (.iconst 1, 1) := by decide +kernel
theorem dX8_start_34 : decode cX8_start 34 = .ok (.putfield 76, 3) := by decide +kernel
theorem dX8_start_37 : decode cX8_start 37 = .ok (.aload_n 2, 1) := by decide +kernel
theorem dX8_start_38 : decode cX8_start 38 = .ok (.aload_n 0, 1) := by decide +kernel
theorem dX8_start_39 : decode cX8_start 39 = .ok (.getfield 10, 3) := by decide +kernel
theorem dX8_start_42 : decode cX8_start 42 = .ok (.getfield 106, 3) := by decide +kernel
theorem dX8_start_45 : decode cX8_start 45 = .ok (.putfield 109, 3) := by decide +kernel
theorem dX8_start_48 : decode cX8_start 48 = .ok (.aload_n 0, 1) := by decide +kernel
theorem dX8_start_49 : decode cX8_start 49 = .ok (.getfield 10, 3) := by decide +kernel
theorem dX8_start_52 : decode cX8_start 52 = .ok (.invokevirtual 112, 3) := by decide +kernel
theorem dX8_start_55 : decode cX8_start 55 = .ok (.ireturn, 1) := by decide +kernel
theorem dX8_stop_0 : decode cX8_stop 0 = .ok (.aload_n 0, 1) := by decide +kernel
theorem dX8_stop_1 : decode cX8_stop 1 = .ok (.getfield 10, 3) := by decide +kernel
theorem dX8_stop_4 : decode cX8_stop 4 = .ok (.iload_n 1, 1) := by decide +kernel
theorem dX8_stop_5 : decode cX8_stop 5 = .ok (.invokevirtual 72, 3) := by decide +kernel
theorem dX8_stop_8 : decode cX8_stop 8 = .ok (.astore_n 2, 1) := by decide +kernel
theorem dX8_stop_9 : decode cX8_stop 9 = .ok (.aload_n 2, 1) := by decide +kernel
theorem dX8_stop_10 : decode cX8_stop 10 = .ok (.ifnonnull 7, 3) := by decide +kernel
theorem dX8_stop_13 : decode cX8_stop 13 = .ok (.sipush (-1001), 3) := by decide +kernel
theorem dX8_stop_16 : decode cX8_stop 16 = .ok (.ireturn, 1) := by decide +kernel
theorem dX8_stop_17 : decode cX8_stop 17 = .ok (.aload_n 2, 1) := by decide +kernel
theorem dX8_stop_18 : decode cX8_stop 18 = .ok (.getfield 76, 3) := by decide +kernel
theorem dX8_stop_21 : decode cX8_stop 21 = .ok (.ifCond .ne 7, 3) := by decide +kernel
theorem dX8_stop_24 : decode cX8_stop 24 = .ok (.sipush (-1003), 3) := by decide +kernel
theorem dX8_stop_27 : decode cX8_stop 27 = .ok (.ireturn, 1) := by decide +kernel
theorem dX8_stop_28 : decode cX8_stop 28 = .ok (.aload_n 0, 1) := by decide +kernel
theorem dX8_stop_29 : decode cX8_stop 29 = .ok (.invokevirtual 69, 3) := by decide +kernel
theorem dX8_stop_32 : decode cX8_stop 32 = .ok (.aload_n 2, 1) := by decide +kernel
theorem dX8_stop_33 : decode cX8_stop 33 = .ok (.iconst 0, 1) := by decide +kernel
theorem dX8_stop_34 : decode cX8_stop 34 = .ok (.putfield 76, 3) := by decide +kernel
theorem dX8_stop_37 : decode cX8_stop 37 = .ok (.aload_n 2, 1) := by decide +kernel
theorem dX8_stop_38 : decode cX8_stop 38 = .ok (.invokevirtual 116, 3) := by decide +kernel
theorem dX8_stop_41 : decode cX8_stop 41 = .ok (.aload_n 0, 1) := by decide +kernel
theorem dX8_stop_42 : decode cX8_stop 42 = .ok (.getfield 10, 3) := by decide +kernel
theorem dX8_stop_45 : decode cX8_stop 45 = .ok (.invokevirtual 112, 3) := by decide +kernel
theorem dX8_stop_48 : decode cX8_stop 48 = .ok (.ireturn, 1) := by decide +kernel
theorem dX8_emptyTank_0 : decode cX8_emptyTank 0 = .ok (.aload_n 0, 1) := by decide +kernel
theorem dX8_emptyTank_1 : decode cX8_emptyTank 1 = .ok (.getfield 10, 3) := by decide +kernel
theorem dX8_emptyTank_4 : decode cX8_emptyTank 4 = .ok (.iload_n 1, 1) := by decide +kernel
theorem dX8_emptyTank_5 : decode cX8_emptyTank 5 = .ok (.invokevirtual 72, 3) := by decide +kernel
theorem dX8_emptyTank_8 : decode cX8_emptyTank 8 = .ok (.astore_n 2, 1) := by decide +kernel
theorem dX8_emptyTank_9 : decode cX8_emptyTank 9 = .ok (.aload_n 2, 1) := by decide +kernel
theorem dX8_emptyTank_10 : decode cX8_emptyTank 10 = .ok (.ifnonnull 7, 3) := by decide +kernel
theorem dX8_emptyTank_13 : decode cX8_emptyTank 13 = .ok (.sipush (-1001), 3) := by decide +kernel
theorem dX8_emptyTank_16 : decode cX8_emptyTank 16 = .ok (.ireturn, 1) := by decide +kernel
theorem dX8_emptyTank_17 : decode cX8_emptyTank 17 = .ok (.aload_n 2, 1) := by decide +kernel
theorem dX8_emptyTank_18 : decode cX8_emptyTank 18 = .ok (.getfield 119, 3) := by decide +kernel
theorem dX8_emptyTank_21 : decode cX8_emptyTank 21 = .ok (.ifCond .ne 7, 3) := by decide +kernel
theorem dX8_emptyTank_24 : decode cX8_emptyTank 24 = .ok (.sipush (-1003), 3) := by decide +kernel
theorem dX8_emptyTank_27 : decode cX8_emptyTank 27 = .ok (.ireturn, 1) := by decide +kernel
theorem dX8_emptyTank_28 : decode cX8_emptyTank 28 = .ok (.aload_n 0, 1) := by decide +kernel
theorem dX8_emptyTank_29 : decode cX8_emptyTank 29 = .ok (.invokevirtual 69, 3) := by decide +kernel
theorem dX8_emptyTank_32 : decode cX8_emptyTank 32 = .ok (.aload_n 2, 1) := by decide +kernel
theorem dX8_emptyTank_33 : decode cX8_emptyTank 33 = .ok (.getfield 119, 3) := by decide +kernel
theorem dX8_emptyTank_36 : decode cX8_emptyTank 36 = .ok (.istore_n 3, 1) := by decide +kernel
theorem dX8_emptyTank_37 : decode cX8_emptyTank 37 = .ok (.aload_n 2, 1) := by decide +kernel
theorem dX8_emptyTank_38 : decode cX8_emptyTank 38 = .ok (.iconst 0, 1) := by decide +kernel
theorem dX8_emptyTank_39 : decode cX8_emptyTank 39 = .ok (.putfield 119, 3) := by decide +kernel
theorem dX8_emptyTank_42 : decode cX8_emptyTank 42 = .ok (.iload_n 3, 1) := by decide +kernel
theorem dX8_emptyTank_43 : decode cX8_emptyTank 43 = .ok (.ireturn, 1) := by decide +kernel
theorem dX8_pass_0 : decode cX8_pass 0 = .ok (.iload_n 1, 1) := by decide +kernel
theorem dX8_pass_1 : decode cX8_pass 1 = .ok (.iconst 1, 1) := by decide +kernel
theorem dX8_pass_2 : decode cX8_pass 2 = .ok (.sipush 200, 3) := by decide +kernel
theorem dX8_pass_5 : decode cX8_pass 5 = .ok (.invokestatic 58, 3) := by decide +kernel
theorem dX8_pass_8 : decode cX8_pass 8 = .ok (.ifCond .eq 7, 3) := by decide +kernel
theorem dX8_pass_11 : decode cX8_pass 11 = .ok (.sipush (-1002), 3) := by decide +kernel
theorem dX8_pass_14 : decode cX8_pass 14 = .ok (.ireturn, 1) := by decide +kernel
theorem dX8_pass_15 : decode cX8_pass 15 = .ok (.aload_n 0, 1) := by decide +kernel
theorem dX8_pass_16 : decode cX8_pass 16 = .ok (.getfield 10, 3) := by decide +kernel
theorem dX8_pass_19 : decode cX8_pass 19 = .ok (.getfield 106, 3) := by decide +kernel
theorem dX8_pass_22 : decode cX8_pass 22 = .ok (.iload_n 1, 1) := by decide +kernel
theorem dX8_pass_23 : decode cX8_pass 23 = .ok (.iadd, 1) := by decide +kernel
theorem dX8_pass_24 : decode cX8_pass 24 = .ok (.sipush 20000, 3) := by decide +kernel
theorem dX8_pass_27 : decode cX8_pass 27 = .ok (.if_icmp .le 7, 3) := by decide +kernel
theorem dX8_pass_30 : decode cX8_pass 30 = .ok (.sipush (-1003), 3) := by decide +kernel
theorem dX8_pass_33 : decode cX8_pass 33 = .ok (.ireturn, 1) := by decide +kernel
theorem dX8_pass_34 : decode cX8_pass 34 = .ok (.aload_n 0, 1) := by decide +kernel
theorem dX8_pass_35 : decode cX8_pass 35 = .ok (.invokevirtual 69, 3) := by decide +kernel
theorem dX8_pass_38 : decode cX8_pass 38 = .ok (.iconst 0, 1) := by decide +kernel
theorem dX8_pass_39 : decode cX8_pass 39 = .ok (.istore_n 2, 1) := by decide +kernel
theorem dX8_pass_40 : decode cX8_pass 40 = .ok (.iconst 0, 1) := by decide +kernel
theorem dX8_pass_41 : decode cX8_pass 41 = .ok (.istore_n 3, 1) := by decide +kernel
theorem dX8_pass_42 : decode cX8_pass 42 = .ok (.iload_n 3, 1) := by decide +kernel
theorem dX8_pass_43 : decode cX8_pass 43 = .ok (.iload_n 1, 1) := by decide +kernel
theorem dX8_pass_44 : decode cX8_pass 44 = .ok (.if_icmp .ge 16, 3) := by decide +kernel
theorem dX8_pass_47 : decode cX8_pass 47 = .ok (.iload_n 2, 1) := by decide +kernel
theorem dX8_pass_48 : decode cX8_pass 48 = .ok (.aload_n 0, 1) := by decide +kernel
theorem dX8_pass_49 : decode cX8_pass 49 = .ok (.invokevirtual 122, 3) := by decide +kernel
theorem dX8_pass_52 : decode cX8_pass 52 = .ok (.iadd, 1) := by decide +kernel
theorem dX8_pass_53 : decode cX8_pass 53 = .ok (.istore_n 2, 1) := by decide +kernel
theorem dX8_pass_54 : decode cX8_pass 54 = .ok (.iinc 3 1, 3) := by decide +kernel
theorem dX8_pass_57 : decode cX8_pass 57 = .ok (.goto (-15), 3) := by decide +kernel
theorem dX8_pass_60 : decode cX8_pass 60 = .ok (.iload_n 2, 1) := by decide +kernel
theorem dX8_pass_61 : decode cX8_pass 61 = .ok (.ireturn, 1) := by decide +kernel
theorem dX8_undo_0 : decode cX8_undo 0 = .ok (.aload_n 0, 1) := by decide +kernel
theorem dX8_undo_1 : decode cX8_undo 1 = .ok (.getfield 125, 3) := by decide +kernel
theorem dX8_undo_4 : decode cX8_undo 4 = .ok (.iconst 1, 1) := by decide +kernel
theorem dX8_undo_5 : decode cX8_undo 5 = .ok (.if_icmp .ge 7, 3) := by decide +kernel
theorem dX8_undo_8 : decode cX8_undo 8 = .ok (.sipush (-1005), 3) := by decide +kernel
theorem dX8_undo_11 : decode cX8_undo 11 = .ok (.ireturn, 1) := by decide +kernel
theorem dX8_undo_12 : decode cX8_undo 12 = .ok (.aload_n 0, 1) := by decide +kernel
theorem dX8_undo_13 : decode cX8_undo 13 = .ok (.getfield 128, 3) := by decide +kernel
theorem dX8_undo_16 : decode cX8_undo 16 = .ok (.iconst 1, 1) := by decide +kernel
theorem dX8_undo_17 : decode cX8_undo 17 = .ok (.aload_n 0, 1) := by decide +kernel
theorem dX8_undo_18 : decode cX8_undo 18 = .ok (.getfield 16, 3) := by decide +kernel
theorem dX8_undo_21 : decode cX8_undo 21 = .ok (.arraylength, 1) := by decide +kernel
theorem dX8_undo_22 : decode cX8_undo 22 = .ok (.invokestatic 58, 3) := by decide +kernel
theorem dX8_undo_25 : decode cX8_undo 25 = .ok (.ifCond .eq 12, 3) := by decide +kernel
theorem dX8_undo_28 : decode cX8_undo 28 = .ok (.aload_n 0, 1) := by decide +kernel
theorem dX8_undo_29 : decode cX8_undo 29 = .ok (.aload_n 0, 1) := by decide +kernel
theorem dX8_undo_30 : decode cX8_undo 30 = .ok (.getfield 16, 3) := by decide +kernel
theorem dX8_undo_33 : decode cX8_undo 33 = .ok (.arraylength, 1) := by decide +kernel
theorem dX8_undo_34 : decode cX8_undo 34 = .ok (.putfield 128, 3) := by decide +kernel
theorem dX8_undo_37 : decode cX8_undo 37 = .ok (.aload_n 0, 1) := by decide +kernel
theorem dX8_undo_38 : decode cX8_undo 38 = .ok (.dup, 1) := by decide +kernel
theorem dX8_undo_39 : decode cX8_undo 39 = .ok (.getfield 128, 3) := by decide +kernel
theorem dX8_undo_42 : decode cX8_undo 42 = .ok (.iconst 1, 1) := by decide +kernel
theorem dX8_undo_43 : decode cX8_undo 43 = .ok (.isub, 1) := by decide +kernel
theorem dX8_undo_44 : decode cX8_undo 44 = .ok (.putfield 128, 3) := by decide +kernel
theorem dX8_undo_47 : decode cX8_undo 47 = .ok (.aload_n 0, 1) := by decide +kernel
theorem dX8_undo_48 : decode cX8_undo 48 = .ok (.dup, 1) := by decide +kernel
theorem dX8_undo_49 : decode cX8_undo 49 = .ok (.getfield 125, 3) := by decide +kernel
theorem dX8_undo_52 : decode cX8_undo 52 = .ok (.iconst 1, 1) := by decide +kernel
theorem dX8_undo_53 : decode cX8_undo 53 = .ok (.isub, 1) := by decide +kernel
theorem dX8_undo_54 : decode cX8_undo 54 = .ok (.putfield 125, 3) := by decide +kernel
theorem dX8_undo_57 : decode cX8_undo 57 = .ok (.aload_n 0, 1) := by decide +kernel
theorem dX8_undo_58 : decode cX8_undo 58 = .ok (.getfield 16, 3) := by decide +kernel
theorem dX8_undo_61 : decode cX8_undo 61 = .ok (.aload_n 0, 1) := by decide +kernel
theorem dX8_undo_62 : decode cX8_undo 62 = .ok (.getfield 128, 3) := by decide +kernel
theorem dX8_undo_65 : decode cX8_undo 65 = .ok (.aaload, 1) := by decide +kernel
theorem dX8_undo_66 : decode cX8_undo 66 = .ok (.astore_n 1, 1) := by decide +kernel
theorem dX8_undo_67 : decode cX8_undo 67 = .ok (.aload_n 1, 1) := by decide +kernel
theorem dX8_undo_68 : decode cX8_undo 68 = .ok (.ifnull 11, 3) := by decide +kernel
theorem dX8_undo_71 : decode cX8_undo 71 = .ok (.aload_n 0, 1) := by decide +kernel
theorem dX8_undo_72 : decode cX8_undo 72 = .ok (.getfield 10, 3) := by decide +kernel
theorem dX8_undo_75 : decode cX8_undo 75 = .ok (.aload_n 1, 1) := by decide +kernel
theorem dX8_undo_76 : decode cX8_undo 76 = .ok (.invokevirtual 131, 3) := by decide +kernel
theorem dX8_undo_79 : decode cX8_undo 79 = .ok (.aload_n 0, 1) := by decide +kernel
theorem dX8_undo_80 : decode cX8_undo 80 = .ok (.getfield 125, 3) := by decide +kernel
theorem dX8_undo_83 : decode cX8_undo 83 = .ok (.ireturn, 1) := by decide +kernel
theorem dX8_time_0 : decode cX8_time 0 = .ok (.aload_n 0, 1) := by decide +kernel
theorem dX8_time_1 : decode cX8_time 1 = .ok (.getfield 10, 3) := by decide +kernel
theorem dX8_time_4 : decode cX8_time 4 = .ok (.getfield 106, 3) := by decide +kernel
theorem dX8_time_7 : decode cX8_time 7 = .ok (.ireturn, 1) := by decide +kernel
theorem dX8_basin_0 : decode cX8_basin 0 = .ok (.aload_n 0, 1) := by decide +kernel
theorem dX8_basin_1 : decode cX8_basin 1 = .ok (.getfield 10, 3) := by decide +kernel
theorem dX8_basin_4 : decode cX8_basin 4 = .ok (.getfield 156, 3) := by decide +kernel
theorem dX8_basin_7 : decode cX8_basin 7 = .ok (.ireturn, 1) := by decide +kernel
theorem dX8_spilled_0 : decode cX8_spilled 0 = .ok (.aload_n 0, 1) := by decide +kernel
theorem dX8_spilled_1 : decode cX8_spilled 1 = .ok (.getfield 10, 3) := by decide +kernel
theorem dX8_spilled_4 : decode cX8_spilled 4 = .ok (.getfield 159, 3) := by decide +kernel
theorem dX8_spilled_7 : decode cX8_spilled 7 = .ok (.ireturn, 1) := by decide +kernel
theorem dX8_pumps_0 : decode cX8_pumps 0 = .ok (.aload_n 0, 1) := by decide +kernel
theorem dX8_pumps_1 : decode cX8_pumps 1 = .ok (.getfield 10, 3) := by decide +kernel
theorem dX8_pumps_4 : decode cX8_pumps 4 = .ok (.getfield 62, 3) := by decide +kernel
theorem dX8_pumps_7 : decode cX8_pumps 7 = .ok (.ireturn, 1) := by decide +kernel
theorem dX8_incidents_0 : decode cX8_incidents 0 = .ok (.aload_n 0, 1) := by decide +kernel
theorem dX8_incidents_1 : decode cX8_incidents 1 = .ok (.getfield 34, 3) := by decide +kernel
theorem dX8_incidents_4 : decode cX8_incidents 4 = .ok (.getfield 162, 3) := by decide +kernel
theorem dX8_incidents_7 : decode cX8_incidents 7 = .ok (.ireturn, 1) := by decide +kernel
theorem dX8_incidentKind_0 : decode cX8_incidentKind 0 = .ok (.iload_n 1, 1) := by decide +kernel
theorem dX8_incidentKind_1 : decode cX8_incidentKind 1 = .ok (.ifCond .ge 9, 3) := by decide +kernel
theorem dX8_incidentKind_4 : decode cX8_incidentKind 4 = .ok (.sipush (-1002), 3) := by decide +kernel
theorem dX8_incidentKind_7 : decode cX8_incidentKind 7 = .ok (.goto 14, 3) := by decide +kernel
theorem dX8_incidentKind_10 : decode cX8_incidentKind 10 = .ok (.aload_n 0, 1) := by decide +kernel
theorem dX8_incidentKind_11 : decode cX8_incidentKind 11 = .ok (.getfield 34, 3) := by decide +kernel
theorem dX8_incidentKind_14 : decode cX8_incidentKind 14 = .ok (.getfield 165, 3) := by decide +kernel
theorem dX8_incidentKind_17 : decode cX8_incidentKind 17 = .ok (.iload_n 1, 1) := by decide +kernel
theorem dX8_incidentKind_18 : decode cX8_incidentKind 18 = .ok (.invokevirtual 169, 3) := by decide +kernel
theorem dX8_incidentKind_21 : decode cX8_incidentKind 21 = .ok (.ireturn, 1) := by decide +kernel
theorem dX8_incidentPump_0 : decode cX8_incidentPump 0 = .ok (.iload_n 1, 1) := by decide +kernel
theorem dX8_incidentPump_1 : decode cX8_incidentPump 1 = .ok (.ifCond .ge 9, 3) := by decide +kernel
theorem dX8_incidentPump_4 : decode cX8_incidentPump 4 = .ok (.sipush (-1002), 3) := by decide +kernel
theorem dX8_incidentPump_7 : decode cX8_incidentPump 7 = .ok (.goto 14, 3) := by decide +kernel
theorem dX8_incidentPump_10 : decode cX8_incidentPump 10 = .ok (.aload_n 0, 1) := by decide +kernel
theorem dX8_incidentPump_11 : decode cX8_incidentPump 11 = .ok (.getfield 34, 3) := by decide +kernel
theorem dX8_incidentPump_14 : decode cX8_incidentPump 14 = .ok (.getfield 174, 3) := by decide +kernel
theorem dX8_incidentPump_17 : decode cX8_incidentPump 17 = .ok (.iload_n 1, 1) := by decide +kernel
theorem dX8_incidentPump_18 : decode cX8_incidentPump 18 = .ok (.invokevirtual 169, 3) := by decide +kernel
theorem dX8_incidentPump_21 : decode cX8_incidentPump 21 = .ok (.ireturn, 1) := by decide +kernel
theorem dX8_incidentTime_0 : decode cX8_incidentTime 0 = .ok (.iload_n 1, 1) := by decide +kernel
theorem dX8_incidentTime_1 : decode cX8_incidentTime 1 = .ok (.ifCond .ge 9, 3) := by decide +kernel
theorem dX8_incidentTime_4 : decode cX8_incidentTime 4 = .ok (.sipush (-1002), 3) := by decide +kernel
theorem dX8_incidentTime_7 : decode cX8_incidentTime 7 = .ok (.goto 14, 3) := by decide +kernel
theorem dX8_incidentTime_10 : decode cX8_incidentTime 10 = .ok (.aload_n 0, 1) := by decide +kernel
theorem dX8_incidentTime_11 : decode cX8_incidentTime 11 = .ok (.getfield 34, 3) := by decide +kernel
theorem dX8_incidentTime_14 : decode cX8_incidentTime 14 = .ok (.getfield 177, 3) := by decide +kernel
theorem dX8_incidentTime_17 : decode cX8_incidentTime 17 = .ok (.iload_n 1, 1) := by decide +kernel
theorem dX8_incidentTime_18 : decode cX8_incidentTime 18 = .ok (.invokevirtual 169, 3) := by decide +kernel
theorem dX8_incidentTime_21 : decode cX8_incidentTime 21 = .ok (.ireturn, 1) := by decide +kernel
theorem dX8_phase_0 : decode cX8_phase 0 = .ok (.aload_n 0, 1) := by decide +kernel
theorem dX8_phase_1 : decode cX8_phase 1 = .ok (.getfield 10, 3) := by decide +kernel
theorem dX8_phase_4 : decode cX8_phase 4 = .ok (.iload_n 1, 1) := by decide +kernel
theorem dX8_phase_5 : decode cX8_phase 5 = .ok (.invokevirtual 72, 3) := by decide +kernel
theorem dX8_phase_8 : decode cX8_phase 8 = .ok (.astore_n 2, 1) := by decide +kernel
theorem dX8_phase_9 : decode cX8_phase 9 = .ok (.aload_n 2, 1) := by decide +kernel
theorem dX8_phase_10 : decode cX8_phase 10 = .ok (.ifnonnull 7, 3) := by decide +kernel
theorem dX8_phase_13 : decode cX8_phase 13 = .ok (.sipush (-1001), 3) := by decide +kernel
theorem dX8_phase_16 : decode cX8_phase 16 = .ok (.ireturn, 1) := by decide +kernel
theorem dX8_phase_17 : decode cX8_phase 17 = .ok (.aload_n 2, 1) := by decide +kernel
theorem dX8_phase_18 : decode cX8_phase 18 = .ok (.getfield 76, 3) := by decide +kernel
theorem dX8_phase_21 : decode cX8_phase 21 = .ok (.ifCond .ne 5, 3) := by decide +kernel
theorem dX8_phase_24 : decode cX8_phase 24 = .ok (.iconst 0, 1) := by decide +kernel
theorem dX8_phase_25 : decode cX8_phase 25 = .ok (.ireturn, 1) := by decide +kernel
theorem dX8_phase_26 : decode cX8_phase 26 = .ok (.aload_n 2, 1) := by decide +kernel
theorem dX8_phase_27 : decode cX8_phase 27 = .ok (.getfield 180, 3) := by decide +kernel
theorem dX8_phase_30 : decode cX8_phase 30 = .ok (.ifCond .eq 7, 3) := by decide +kernel
theorem dX8_phase_33 : decode cX8_phase 33 = .ok (.iconst 2, 1) := by decide +kernel
theorem dX8_phase_34 : decode cX8_phase 34 = .ok (.goto 4, 3) := by decide +kernel
theorem dX8_phase_37 : decode cX8_phase 37 = .ok (.iconst 1, 1) := by decide +kernel
theorem dX8_phase_38 : decode cX8_phase 38 = .ok (.ireturn, 1) := by decide +kernel
theorem dX8_speed_0 : decode cX8_speed 0 = .ok (.aload_n 0, 1) := by decide +kernel
theorem dX8_speed_1 : decode cX8_speed 1 = .ok (.getfield 10, 3) := by decide +kernel
theorem dX8_speed_4 : decode cX8_speed 4 = .ok (.iload_n 1, 1) := by decide +kernel
theorem dX8_speed_5 : decode cX8_speed 5 = .ok (.invokevirtual 72, 3) := by decide +kernel
theorem dX8_speed_8 : decode cX8_speed 8 = .ok (.astore_n 2, 1) := by decide +kernel
theorem dX8_speed_9 : decode cX8_speed 9 = .ok (.aload_n 2, 1) := by decide +kernel
theorem dX8_speed_10 : decode cX8_speed 10 = .ok (.ifnonnull 9, 3) := by decide +kernel
theorem dX8_speed_13 : decode cX8_speed 13 = .ok (.sipush (-1001), 3) := by decide +kernel
theorem dX8_speed_16 : decode cX8_speed 16 = .ok (.goto 7, 3) := by decide +kernel
theorem dX8_speed_19 : decode cX8_speed 19 = .ok (.aload_n 2, 1) := by decide +kernel
theorem dX8_speed_20 : decode cX8_speed 20 = .ok (.getfield 183, 3) := by decide +kernel
theorem dX8_speed_23 : decode cX8_speed 23 = .ok (.ireturn, 1) := by decide +kernel
theorem dX8_openTicks_0 : decode cX8_openTicks 0 = .ok (.aload_n 0, 1) := by decide +kernel
theorem dX8_openTicks_1 : decode cX8_openTicks 1 = .ok (.getfield 10, 3) := by decide +kernel
theorem dX8_openTicks_4 : decode cX8_openTicks 4 = .ok (.iload_n 1, 1) := by decide +kernel
theorem dX8_openTicks_5 : decode cX8_openTicks 5 = .ok (.invokevirtual 72, 3) := by decide +kernel
theorem dX8_openTicks_8 : decode cX8_openTicks 8 = .ok (.astore_n 2, 1) := by decide +kernel
theorem dX8_openTicks_9 : decode cX8_openTicks 9 = .ok (.aload_n 2, 1) := by decide +kernel
theorem dX8_openTicks_10 : decode cX8_openTicks 10 = .ok (.ifnonnull 9, 3) := by decide +kernel
theorem dX8_openTicks_13 : decode cX8_openTicks 13 = .ok (.sipush (-1001), 3) := by decide +kernel
theorem dX8_openTicks_16 : decode cX8_openTicks 16 = .ok (.goto 7, 3) := by decide +kernel
theorem dX8_openTicks_19 : decode cX8_openTicks 19 = .ok (.aload_n 2, 1) := by decide +kernel
theorem dX8_openTicks_20 : decode cX8_openTicks 20 = .ok (.getfield 186, 3) := by decide +kernel
theorem dX8_openTicks_23 : decode cX8_openTicks 23 = .ok (.ireturn, 1) := by decide +kernel
theorem dX8_chamberWater_0 : decode cX8_chamberWater 0 = .ok (.aload_n 0, 1) := by decide +kernel
theorem dX8_chamberWater_1 : decode cX8_chamberWater 1 = .ok (.getfield 10, 3) := by decide +kernel
theorem dX8_chamberWater_4 : decode cX8_chamberWater 4 = .ok (.iload_n 1, 1) := by decide +kernel
theorem dX8_chamberWater_5 : decode cX8_chamberWater 5 = .ok (.invokevirtual 72, 3) := by decide +kernel
theorem dX8_chamberWater_8 : decode cX8_chamberWater 8 = .ok (.astore_n 2, 1) := by decide +kernel
theorem dX8_chamberWater_9 : decode cX8_chamberWater 9 = .ok (.aload_n 2, 1) := by decide +kernel
theorem dX8_chamberWater_10 : decode cX8_chamberWater 10 = .ok (.ifnonnull 9, 3) := by decide +kernel
theorem dX8_chamberWater_13 : decode cX8_chamberWater 13 = .ok (.sipush (-1001), 3) := by decide +kernel
theorem dX8_chamberWater_16 : decode cX8_chamberWater 16 = .ok (.goto 10, 3) := by decide +kernel
theorem dX8_chamberWater_19 : decode cX8_chamberWater 19 = .ok (.aload_n 2, 1) := by decide +kernel
theorem dX8_chamberWater_20 : decode cX8_chamberWater 20 = .ok (.getfield 86, 3) := by decide +kernel
theorem dX8_chamberWater_23 : decode cX8_chamberWater 23 = .ok (.getfield 90, 3) := by decide +kernel
theorem dX8_chamberWater_26 : decode cX8_chamberWater 26 = .ok (.ireturn, 1) := by decide +kernel
theorem dX8_chamberHead_0 : decode cX8_chamberHead 0 = .ok (.aload_n 0, 1) := by decide +kernel
theorem dX8_chamberHead_1 : decode cX8_chamberHead 1 = .ok (.getfield 10, 3) := by decide +kernel
theorem dX8_chamberHead_4 : decode cX8_chamberHead 4 = .ok (.iload_n 1, 1) := by decide +kernel
theorem dX8_chamberHead_5 : decode cX8_chamberHead 5 = .ok (.invokevirtual 72, 3) := by decide +kernel
theorem dX8_chamberHead_8 : decode cX8_chamberHead 8 = .ok (.astore_n 2, 1) := by decide +kernel
theorem dX8_chamberHead_9 : decode cX8_chamberHead 9 = .ok (.aload_n 2, 1) := by decide +kernel
theorem dX8_chamberHead_10 : decode cX8_chamberHead 10 = .ok (.ifnonnull 9, 3) := by decide +kernel
theorem dX8_chamberHead_13 : decode cX8_chamberHead 13 = .ok (.sipush (-1001), 3) := by decide +kernel
theorem dX8_chamberHead_16 : decode cX8_chamberHead 16 = .ok (.goto 10, 3) := by decide +kernel
theorem dX8_chamberHead_19 : decode cX8_chamberHead 19 = .ok (.aload_n 2, 1) := by decide +kernel
theorem dX8_chamberHead_20 : decode cX8_chamberHead 20 = .ok (.getfield 86, 3) := by decide +kernel
theorem dX8_chamberHead_23 : decode cX8_chamberHead 23 = .ok (.invokevirtual 192, 3) := by decide +kernel
theorem dX8_chamberHead_26 : decode cX8_chamberHead 26 = .ok (.ireturn, 1) := by decide +kernel
theorem dX8_beats_0 : decode cX8_beats 0 = .ok (.aload_n 0, 1) := by decide +kernel
theorem dX8_beats_1 : decode cX8_beats 1 = .ok (.getfield 10, 3) := by decide +kernel
theorem dX8_beats_4 : decode cX8_beats 4 = .ok (.iload_n 1, 1) := by decide +kernel
theorem dX8_beats_5 : decode cX8_beats 5 = .ok (.invokevirtual 72, 3) := by decide +kernel
theorem dX8_beats_8 : decode cX8_beats 8 = .ok (.astore_n 2, 1) := by decide +kernel
theorem dX8_beats_9 : decode cX8_beats 9 = .ok (.aload_n 2, 1) := by decide +kernel
theorem dX8_beats_10 : decode cX8_beats 10 = .ok (.ifnonnull 9, 3) := by decide +kernel
theorem dX8_beats_13 : decode cX8_beats 13 = .ok (.sipush (-1001), 3) := by decide +kernel
theorem dX8_beats_16 : decode cX8_beats 16 = .ok (.goto 10, 3) := by decide +kernel
theorem dX8_beats_19 : decode cX8_beats 19 = .ok (.aload_n 2, 1) := by decide +kernel
theorem dX8_beats_20 : decode cX8_beats 20 = .ok (.getfield 195, 3) := by decide +kernel
theorem dX8_beats_23 : decode cX8_beats 23 = .ok (.getfield 199, 3) := by decide +kernel
theorem dX8_beats_26 : decode cX8_beats 26 = .ok (.ireturn, 1) := by decide +kernel
theorem dX8_wasted_0 : decode cX8_wasted 0 = .ok (.aload_n 0, 1) := by decide +kernel
theorem dX8_wasted_1 : decode cX8_wasted 1 = .ok (.getfield 10, 3) := by decide +kernel
theorem dX8_wasted_4 : decode cX8_wasted 4 = .ok (.iload_n 1, 1) := by decide +kernel
theorem dX8_wasted_5 : decode cX8_wasted 5 = .ok (.invokevirtual 72, 3) := by decide +kernel
theorem dX8_wasted_8 : decode cX8_wasted 8 = .ok (.astore_n 2, 1) := by decide +kernel
theorem dX8_wasted_9 : decode cX8_wasted 9 = .ok (.aload_n 2, 1) := by decide +kernel
theorem dX8_wasted_10 : decode cX8_wasted 10 = .ok (.ifnonnull 9, 3) := by decide +kernel
theorem dX8_wasted_13 : decode cX8_wasted 13 = .ok (.sipush (-1001), 3) := by decide +kernel
theorem dX8_wasted_16 : decode cX8_wasted 16 = .ok (.goto 10, 3) := by decide +kernel
theorem dX8_wasted_19 : decode cX8_wasted 19 = .ok (.aload_n 2, 1) := by decide +kernel
theorem dX8_wasted_20 : decode cX8_wasted 20 = .ok (.getfield 195, 3) := by decide +kernel
theorem dX8_wasted_23 : decode cX8_wasted 23 = .ok (.getfield 204, 3) := by decide +kernel
theorem dX8_wasted_26 : decode cX8_wasted 26 = .ok (.ireturn, 1) := by decide +kernel
theorem dX8_relieved_0 : decode cX8_relieved 0 = .ok (.aload_n 0, 1) := by decide +kernel
theorem dX8_relieved_1 : decode cX8_relieved 1 = .ok (.getfield 10, 3) := by decide +kernel
theorem dX8_relieved_4 : decode cX8_relieved 4 = .ok (.iload_n 1, 1) := by decide +kernel
theorem dX8_relieved_5 : decode cX8_relieved 5 = .ok (.invokevirtual 72, 3) := by decide +kernel
theorem dX8_relieved_8 : decode cX8_relieved 8 = .ok (.astore_n 2, 1) := by decide +kernel
theorem dX8_relieved_9 : decode cX8_relieved 9 = .ok (.aload_n 2, 1) := by decide +kernel
theorem dX8_relieved_10 : decode cX8_relieved 10 = .ok (.ifnonnull 9, 3) := by decide +kernel
theorem dX8_relieved_13 : decode cX8_relieved 13 = .ok (.sipush (-1001), 3) := by decide +kernel
theorem dX8_relieved_16 : decode cX8_relieved 16 = .ok (.goto 10, 3) := by decide +kernel
theorem dX8_relieved_19 : decode cX8_relieved 19 = .ok (.aload_n 2, 1) := by decide +kernel
theorem dX8_relieved_20 : decode cX8_relieved 20 = .ok (.getfield 195, 3) := by decide +kernel
theorem dX8_relieved_23 : decode cX8_relieved 23 = .ok (.getfield 207, 3) := by decide +kernel
theorem dX8_relieved_26 : decode cX8_relieved 26 = .ok (.ireturn, 1) := by decide +kernel
theorem dX8_lifted_0 : decode cX8_lifted 0 = .ok (.aload_n 0, 1) := by decide +kernel
theorem dX8_lifted_1 : decode cX8_lifted 1 = .ok (.getfield 10, 3) := by decide +kernel
theorem dX8_lifted_4 : decode cX8_lifted 4 = .ok (.iload_n 1, 1) := by decide +kernel
theorem dX8_lifted_5 : decode cX8_lifted 5 = .ok (.invokevirtual 72, 3) := by decide +kernel
theorem dX8_lifted_8 : decode cX8_lifted 8 = .ok (.astore_n 2, 1) := by decide +kernel
theorem dX8_lifted_9 : decode cX8_lifted 9 = .ok (.aload_n 2, 1) := by decide +kernel
theorem dX8_lifted_10 : decode cX8_lifted 10 = .ok (.ifnonnull 9, 3) := by decide +kernel
theorem dX8_lifted_13 : decode cX8_lifted 13 = .ok (.sipush (-1001), 3) := by decide +kernel
theorem dX8_lifted_16 : decode cX8_lifted 16 = .ok (.goto 10, 3) := by decide +kernel
theorem dX8_lifted_19 : decode cX8_lifted 19 = .ok (.aload_n 2, 1) := by decide +kernel
theorem dX8_lifted_20 : decode cX8_lifted 20 = .ok (.getfield 195, 3) := by decide +kernel
theorem dX8_lifted_23 : decode cX8_lifted 23 = .ok (.getfield 210, 3) := by decide +kernel
theorem dX8_lifted_26 : decode cX8_lifted 26 = .ok (.ireturn, 1) := by decide +kernel
theorem dX8_overflowed_0 : decode cX8_overflowed 0 = .ok (.aload_n 0, 1) := by decide +kernel
theorem dX8_overflowed_1 : decode cX8_overflowed 1 = .ok (.getfield 10, 3) := by decide +kernel
theorem dX8_overflowed_4 : decode cX8_overflowed 4 = .ok (.iload_n 1, 1) := by decide +kernel
theorem dX8_overflowed_5 : decode cX8_overflowed 5 = .ok (.invokevirtual 72, 3) := by decide +kernel
theorem dX8_overflowed_8 : decode cX8_overflowed 8 = .ok (.astore_n 2, 1) := by decide +kernel
theorem dX8_overflowed_9 : decode cX8_overflowed 9 = .ok (.aload_n 2, 1) := by decide +kernel
theorem dX8_overflowed_10 : decode cX8_overflowed 10 = .ok (.ifnonnull 9, 3) := by decide +kernel
theorem dX8_overflowed_13 : decode cX8_overflowed 13 = .ok (.sipush (-1001), 3) := by decide +kernel
theorem dX8_overflowed_16 : decode cX8_overflowed 16 = .ok (.goto 10, 3) := by decide +kernel
theorem dX8_overflowed_19 : decode cX8_overflowed 19 = .ok (.aload_n 2, 1) := by decide +kernel
theorem dX8_overflowed_20 : decode cX8_overflowed 20 = .ok (.getfield 195, 3) := by decide +kernel
theorem dX8_overflowed_23 : decode cX8_overflowed 23 = .ok (.getfield 213, 3) := by decide +kernel
theorem dX8_overflowed_26 : decode cX8_overflowed 26 = .ok (.ireturn, 1) := by decide +kernel
theorem dX8_starved_0 : decode cX8_starved 0 = .ok (.aload_n 0, 1) := by decide +kernel
theorem dX8_starved_1 : decode cX8_starved 1 = .ok (.getfield 10, 3) := by decide +kernel
theorem dX8_starved_4 : decode cX8_starved 4 = .ok (.iload_n 1, 1) := by decide +kernel
theorem dX8_starved_5 : decode cX8_starved 5 = .ok (.invokevirtual 72, 3) := by decide +kernel
theorem dX8_starved_8 : decode cX8_starved 8 = .ok (.astore_n 2, 1) := by decide +kernel
theorem dX8_starved_9 : decode cX8_starved 9 = .ok (.aload_n 2, 1) := by decide +kernel
theorem dX8_starved_10 : decode cX8_starved 10 = .ok (.ifnonnull 9, 3) := by decide +kernel
theorem dX8_starved_13 : decode cX8_starved 13 = .ok (.sipush (-1001), 3) := by decide +kernel
theorem dX8_starved_16 : decode cX8_starved 16 = .ok (.goto 10, 3) := by decide +kernel
theorem dX8_starved_19 : decode cX8_starved 19 = .ok (.aload_n 2, 1) := by decide +kernel
theorem dX8_starved_20 : decode cX8_starved 20 = .ok (.getfield 195, 3) := by decide +kernel
theorem dX8_starved_23 : decode cX8_starved 23 = .ok (.getfield 216, 3) := by decide +kernel
theorem dX8_starved_26 : decode cX8_starved 26 = .ok (.ireturn, 1) := by decide +kernel
theorem dX8_tank_0 : decode cX8_tank 0 = .ok (.aload_n 0, 1) := by decide +kernel
theorem dX8_tank_1 : decode cX8_tank 1 = .ok (.getfield 10, 3) := by decide +kernel
theorem dX8_tank_4 : decode cX8_tank 4 = .ok (.iload_n 1, 1) := by decide +kernel
theorem dX8_tank_5 : decode cX8_tank 5 = .ok (.invokevirtual 72, 3) := by decide +kernel
theorem dX8_tank_8 : decode cX8_tank 8 = .ok (.astore_n 2, 1) := by decide +kernel
theorem dX8_tank_9 : decode cX8_tank 9 = .ok (.aload_n 2, 1) := by decide +kernel
theorem dX8_tank_10 : decode cX8_tank 10 = .ok (.ifnonnull 9, 3) := by decide +kernel
theorem dX8_tank_13 : decode cX8_tank 13 = .ok (.sipush (-1001), 3) := by decide +kernel
theorem dX8_tank_16 : decode cX8_tank 16 = .ok (.goto 7, 3) := by decide +kernel
theorem dX8_tank_19 : decode cX8_tank 19 = .ok (.aload_n 2, 1) := by decide +kernel
theorem dX8_tank_20 : decode cX8_tank 20 = .ok (.getfield 119, 3) := by decide +kernel
theorem dX8_tank_23 : decode cX8_tank 23 = .ok (.ireturn, 1) := by decide +kernel
theorem dX8_interval_0 : decode cX8_interval 0 = .ok (.aload_n 0, 1) := by decide +kernel
theorem dX8_interval_1 : decode cX8_interval 1 = .ok (.getfield 10, 3) := by decide +kernel
theorem dX8_interval_4 : decode cX8_interval 4 = .ok (.iload_n 1, 1) := by decide +kernel
theorem dX8_interval_5 : decode cX8_interval 5 = .ok (.invokevirtual 72, 3) := by decide +kernel
theorem dX8_interval_8 : decode cX8_interval 8 = .ok (.astore_n 3, 1) := by decide +kernel
theorem dX8_interval_9 : decode cX8_interval 9 = .ok (.aload_n 3, 1) := by decide +kernel
theorem dX8_interval_10 : decode cX8_interval 10 = .ok (.ifnonnull 7, 3) := by decide +kernel
theorem dX8_interval_13 : decode cX8_interval 13 = .ok (.sipush (-1001), 3) := by decide +kernel
theorem dX8_interval_16 : decode cX8_interval 16 = .ok (.ireturn, 1) := by decide +kernel
theorem dX8_interval_17 : decode cX8_interval 17 = .ok (.iload_n 2, 1) := by decide +kernel
theorem dX8_interval_18 : decode cX8_interval 18 = .ok (.ifCond .ge 9, 3) := by decide +kernel
theorem dX8_interval_21 : decode cX8_interval 21 = .ok (.sipush (-1002), 3) := by decide +kernel
theorem dX8_interval_24 : decode cX8_interval 24 = .ok (.goto 11, 3) := by decide +kernel
theorem dX8_interval_27 : decode cX8_interval 27 = .ok (.aload_n 3, 1) := by decide +kernel
theorem dX8_interval_28 : decode cX8_interval 28 = .ok (.getfield 219, 3) := by decide +kernel
theorem dX8_interval_31 : decode cX8_interval 31 = .ok (.iload_n 2, 1) := by decide +kernel
theorem dX8_interval_32 : decode cX8_interval 32 = .ok (.invokevirtual 169, 3) := by decide +kernel
theorem dX8_interval_35 : decode cX8_interval 35 = .ok (.ireturn, 1) := by decide +kernel
theorem dX8_trace_0 : decode cX8_trace 0 = .ok (.aload_n 0, 1) := by decide +kernel
theorem dX8_trace_1 : decode cX8_trace 1 = .ok (.getfield 10, 3) := by decide +kernel
theorem dX8_trace_4 : decode cX8_trace 4 = .ok (.iload_n 1, 1) := by decide +kernel
theorem dX8_trace_5 : decode cX8_trace 5 = .ok (.invokevirtual 72, 3) := by decide +kernel
theorem dX8_trace_8 : decode cX8_trace 8 = .ok (.astore_n 3, 1) := by decide +kernel
theorem dX8_trace_9 : decode cX8_trace 9 = .ok (.aload_n 3, 1) := by decide +kernel
theorem dX8_trace_10 : decode cX8_trace 10 = .ok (.ifnonnull 7, 3) := by decide +kernel
theorem dX8_trace_13 : decode cX8_trace 13 = .ok (.sipush (-1001), 3) := by decide +kernel
theorem dX8_trace_16 : decode cX8_trace 16 = .ok (.ireturn, 1) := by decide +kernel
theorem dX8_trace_17 : decode cX8_trace 17 = .ok (.iload_n 2, 1) := by decide +kernel
theorem dX8_trace_18 : decode cX8_trace 18 = .ok (.ifCond .ge 9, 3) := by decide +kernel
theorem dX8_trace_21 : decode cX8_trace 21 = .ok (.sipush (-1002), 3) := by decide +kernel
theorem dX8_trace_24 : decode cX8_trace 24 = .ok (.goto 11, 3) := by decide +kernel
theorem dX8_trace_27 : decode cX8_trace 27 = .ok (.aload_n 3, 1) := by decide +kernel
theorem dX8_trace_28 : decode cX8_trace 28 = .ok (.getfield 222, 3) := by decide +kernel
theorem dX8_trace_31 : decode cX8_trace 31 = .ok (.iload_n 2, 1) := by decide +kernel
theorem dX8_trace_32 : decode cX8_trace 32 = .ok (.invokevirtual 169, 3) := by decide +kernel
theorem dX8_trace_35 : decode cX8_trace 35 = .ok (.ireturn, 1) := by decide +kernel
theorem dX8_efficiency_0 : decode cX8_efficiency 0 = .ok (.aload_n 0, 1) := by decide +kernel
theorem dX8_efficiency_1 : decode cX8_efficiency 1 = .ok (.getfield 10, 3) := by decide +kernel
theorem dX8_efficiency_4 : decode cX8_efficiency 4 = .ok (.iload_n 1, 1) := by decide +kernel
theorem dX8_efficiency_5 : decode cX8_efficiency 5 = .ok (.invokevirtual 72, 3) := by decide +kernel
theorem dX8_efficiency_8 : decode cX8_efficiency 8 = .ok (.astore_n 2, 1) := by decide +kernel
theorem dX8_efficiency_9 : decode cX8_efficiency 9 = .ok (.aload_n 2, 1) := by decide +kernel
theorem dX8_efficiency_10 : decode cX8_efficiency 10 = .ok (.ifnonnull 9, 3) := by decide +kernel
theorem dX8_efficiency_13 : decode cX8_efficiency 13 = .ok (.sipush (-1001), 3) := by decide +kernel
theorem dX8_efficiency_16 : decode cX8_efficiency 16 = .ok (.goto 7, 3) := by decide +kernel
theorem dX8_efficiency_19 : decode cX8_efficiency 19 = .ok (.aload_n 2, 1) := by decide +kernel
theorem dX8_efficiency_20 : decode cX8_efficiency 20 = .ok (.invokevirtual 225, 3) := by decide +kernel
theorem dX8_efficiency_23 : decode cX8_efficiency 23 = .ok (.ireturn, 1) := by decide +kernel
theorem dX8_bestPump_0 : decode cX8_bestPump 0 = .ok (.sipush (-1005), 3) := by decide +kernel
theorem dX8_bestPump_3 : decode cX8_bestPump 3 = .ok (.istore_n 1, 1) := by decide +kernel
theorem dX8_bestPump_4 : decode cX8_bestPump 4 = .ok (.iconst (-1), 1) := by decide +kernel
theorem dX8_bestPump_5 : decode cX8_bestPump 5 = .ok (.istore_n 2, 1) := by decide +kernel
theorem dX8_bestPump_6 : decode cX8_bestPump 6 = .ok (.iconst 0, 1) := by decide +kernel
theorem dX8_bestPump_7 : decode cX8_bestPump 7 = .ok (.istore_n 3, 1) := by decide +kernel
theorem dX8_bestPump_8 : decode cX8_bestPump 8 = .ok (.iload_n 3, 1) := by decide +kernel
theorem dX8_bestPump_9 : decode cX8_bestPump 9 = .ok (.aload_n 0, 1) := by decide +kernel
theorem dX8_bestPump_10 : decode cX8_bestPump 10 = .ok (.getfield 10, 3) := by decide +kernel
theorem dX8_bestPump_13 : decode cX8_bestPump 13 = .ok (.getfield 62, 3) := by decide +kernel
theorem dX8_bestPump_16 : decode cX8_bestPump 16 = .ok (.if_icmp .ge 27, 3) := by decide +kernel
theorem dX8_bestPump_19 : decode cX8_bestPump 19 = .ok (.aload_n 0, 1) := by decide +kernel
theorem dX8_bestPump_20 : decode cX8_bestPump 20 = .ok (.iload_n 3, 1) := by decide +kernel
theorem dX8_bestPump_21 : decode cX8_bestPump 21 = .ok (.invokevirtual 228, 3) := by decide +kernel
theorem dX8_bestPump_24 : decode cX8_bestPump 24 = .ok (.istore 4, 2) := by decide +kernel
theorem dX8_bestPump_26 : decode cX8_bestPump 26 = .ok (.iload 4, 2) := by decide +kernel
theorem dX8_bestPump_28 : decode cX8_bestPump 28 = .ok (.iload_n 2, 1) := by decide +kernel
theorem dX8_bestPump_29 : decode cX8_bestPump 29 = .ok (.if_icmp .le 8, 3) := by decide +kernel
theorem dX8_bestPump_32 : decode cX8_bestPump 32 = .ok (.iload 4, 2) := by decide +kernel
theorem dX8_bestPump_34 : decode cX8_bestPump 34 = .ok (.istore_n 2, 1) := by decide +kernel
theorem dX8_bestPump_35 : decode cX8_bestPump 35 = .ok (.iload_n 3, 1) := by decide +kernel
theorem dX8_bestPump_36 : decode cX8_bestPump 36 = .ok (.istore_n 1, 1) := by decide +kernel
theorem dX8_bestPump_37 : decode cX8_bestPump 37 = .ok (.iinc 3 1, 3) := by decide +kernel
theorem dX8_bestPump_40 : decode cX8_bestPump 40 = .ok (.goto (-32), 3) := by decide +kernel
theorem dX8_bestPump_43 : decode cX8_bestPump 43 = .ok (.iload_n 1, 1) := by decide +kernel
theorem dX8_bestPump_44 : decode cX8_bestPump 44 = .ok (.ireturn, 1) := by decide +kernel
theorem dX8_ticksToSlam_0 : decode cX8_ticksToSlam 0 = .ok (.aload_n 0, 1) := by decide +kernel
theorem dX8_ticksToSlam_1 : decode cX8_ticksToSlam 1 = .ok (.getfield 10, 3) := by decide +kernel
theorem dX8_ticksToSlam_4 : decode cX8_ticksToSlam 4 = .ok (.iload_n 1, 1) := by decide +kernel
theorem dX8_ticksToSlam_5 : decode cX8_ticksToSlam 5 = .ok (.invokevirtual 72, 3) := by decide +kernel
theorem dX8_ticksToSlam_8 : decode cX8_ticksToSlam 8 = .ok (.astore_n 2, 1) := by decide +kernel
theorem dX8_ticksToSlam_9 : decode cX8_ticksToSlam 9 = .ok (.aload_n 2, 1) := by decide +kernel
theorem dX8_ticksToSlam_10 : decode cX8_ticksToSlam 10 = .ok (.ifnonnull 7, 3) := by decide +kernel
theorem dX8_ticksToSlam_13 : decode cX8_ticksToSlam 13 = .ok (.sipush (-1001), 3) := by decide +kernel
theorem dX8_ticksToSlam_16 : decode cX8_ticksToSlam 16 = .ok (.ireturn, 1) := by decide +kernel
theorem dX8_ticksToSlam_17 : decode cX8_ticksToSlam 17 = .ok (.aload_n 0, 1) := by decide +kernel
theorem dX8_ticksToSlam_18 : decode cX8_ticksToSlam 18 = .ok (.getfield 50, 3) := by decide +kernel
theorem dX8_ticksToSlam_21 : decode cX8_ticksToSlam 21 = .ok (.aload_n 2, 1) := by decide +kernel
theorem dX8_ticksToSlam_22 : decode cX8_ticksToSlam 22 = .ok (.invokevirtual 231, 3) := by decide +kernel
theorem dX8_ticksToSlam_25 : decode cX8_ticksToSlam 25 = .ok (.iconst 1, 1) := by decide +kernel
theorem dX8_ticksToSlam_26 : decode cX8_ticksToSlam 26 = .ok (.istore_n 3, 1) := by decide +kernel
theorem dX8_ticksToSlam_27 : decode cX8_ticksToSlam 27 = .ok (.iload_n 3, 1) := by decide +kernel
theorem dX8_ticksToSlam_28 : decode cX8_ticksToSlam 28 = .ok (.sipush 2000, 3) := by decide +kernel
theorem dX8_ticksToSlam_31 : decode cX8_ticksToSlam 31 = .ok (.if_icmp .gt 25, 3) := by decide +kernel
theorem dX8_ticksToSlam_34 : decode cX8_ticksToSlam 34 = .ok (.aload_n 0, 1) := by decide +kernel
theorem dX8_ticksToSlam_35 : decode cX8_ticksToSlam 35 = .ok (.invokevirtual 234, 3) := by decide +kernel
theorem dX8_ticksToSlam_38 : decode cX8_ticksToSlam 38 = .ok (.aload_n 0, 1) := by decide +kernel
theorem dX8_ticksToSlam_39 : decode cX8_ticksToSlam 39 = .ok (.getfield 41, 3) := by decide +kernel
theorem dX8_ticksToSlam_42 : decode cX8_ticksToSlam 42 = .ok (.getfield 237, 3) := by decide +kernel
theorem dX8_ticksToSlam_45 : decode cX8_ticksToSlam 45 = .ok (.ifCond .eq 5, 3) := by decide +kernel
theorem dX8_ticksToSlam_48 : decode cX8_ticksToSlam 48 = .ok (.iload_n 3, 1) := by decide +kernel
theorem dX8_ticksToSlam_49 : decode cX8_ticksToSlam 49 = .ok (.ireturn, 1) := by decide +kernel
theorem dX8_ticksToSlam_50 : decode cX8_ticksToSlam 50 = .ok (.iinc 3 1, 3) := by decide +kernel
theorem dX8_ticksToSlam_53 : decode cX8_ticksToSlam 53 = .ok (.goto (-26), 3) := by decide +kernel
theorem dX8_ticksToSlam_56 : decode cX8_ticksToSlam 56 = .ok (.sipush (-1005), 3) := by decide +kernel
theorem dX8_ticksToSlam_59 : decode cX8_ticksToSlam 59 = .ok (.ireturn, 1) := by decide +kernel
theorem dX8_deliveredIn_0 : decode cX8_deliveredIn 0 = .ok (.aload_n 0, 1) := by decide +kernel
theorem dX8_deliveredIn_1 : decode cX8_deliveredIn 1 = .ok (.getfield 10, 3) := by decide +kernel
theorem dX8_deliveredIn_4 : decode cX8_deliveredIn 4 = .ok (.iload_n 1, 1) := by decide +kernel
theorem dX8_deliveredIn_5 : decode cX8_deliveredIn 5 = .ok (.invokevirtual 72, 3) := by decide +kernel
theorem dX8_deliveredIn_8 : decode cX8_deliveredIn 8 = .ok (.astore_n 3, 1) := by decide +kernel
theorem dX8_deliveredIn_9 : decode cX8_deliveredIn 9 = .ok (.aload_n 3, 1) := by decide +kernel
theorem dX8_deliveredIn_10 : decode cX8_deliveredIn 10 = .ok (.ifnonnull 7, 3) := by decide +kernel
theorem dX8_deliveredIn_13 : decode cX8_deliveredIn 13 = .ok (.sipush (-1001), 3) := by decide +kernel
theorem dX8_deliveredIn_16 : decode cX8_deliveredIn 16 = .ok (.ireturn, 1) := by decide +kernel
theorem dX8_deliveredIn_17 : decode cX8_deliveredIn 17 = .ok (.iload_n 2, 1) := by decide +kernel
theorem dX8_deliveredIn_18 : decode cX8_deliveredIn 18 = .ok (.iconst 1, 1) := by decide +kernel
theorem dX8_deliveredIn_19 : decode cX8_deliveredIn 19 = .ok (.sipush 500, 3) := by decide +kernel
theorem dX8_deliveredIn_22 : decode cX8_deliveredIn 22 = .ok (.invokestatic 58, 3) := by decide +kernel
theorem dX8_deliveredIn_25 : decode cX8_deliveredIn 25 = .ok (.ifCond .eq 7, 3) := by decide +kernel
theorem dX8_deliveredIn_28 : decode cX8_deliveredIn 28 = .ok (.sipush (-1002), 3) := by decide +kernel
theorem dX8_deliveredIn_31 : decode cX8_deliveredIn 31 = .ok (.ireturn, 1) := by decide +kernel
theorem dX8_deliveredIn_32 : decode cX8_deliveredIn 32 = .ok (.aload_n 0, 1) := by decide +kernel
theorem dX8_deliveredIn_33 : decode cX8_deliveredIn 33 = .ok (.getfield 50, 3) := by decide +kernel
theorem dX8_deliveredIn_36 : decode cX8_deliveredIn 36 = .ok (.aload_n 3, 1) := by decide +kernel
theorem dX8_deliveredIn_37 : decode cX8_deliveredIn 37 = .ok (.invokevirtual 231, 3) := by decide +kernel
theorem dX8_deliveredIn_40 : decode cX8_deliveredIn 40 = .ok (.aload_n 0, 1) := by decide +kernel
theorem dX8_deliveredIn_41 : decode cX8_deliveredIn 41 = .ok (.iload_n 2, 1) := by decide +kernel
theorem dX8_deliveredIn_42 : decode cX8_deliveredIn 42 = .ok (.invokevirtual 240, 3) := by decide +kernel
theorem dX8_deliveredIn_45 : decode cX8_deliveredIn 45 = .ok (.ireturn, 1) := by decide +kernel
theorem dX8_drawnIn_0 : decode cX8_drawnIn 0 = .ok (.aload_n 0, 1) := by decide +kernel
theorem dX8_drawnIn_1 : decode cX8_drawnIn 1 = .ok (.getfield 10, 3) := by decide +kernel
theorem dX8_drawnIn_4 : decode cX8_drawnIn 4 = .ok (.iload_n 1, 1) := by decide +kernel
theorem dX8_drawnIn_5 : decode cX8_drawnIn 5 = .ok (.invokevirtual 72, 3) := by decide +kernel
theorem dX8_drawnIn_8 : decode cX8_drawnIn 8 = .ok (.astore_n 3, 1) := by decide +kernel
theorem dX8_drawnIn_9 : decode cX8_drawnIn 9 = .ok (.aload_n 3, 1) := by decide +kernel
theorem dX8_drawnIn_10 : decode cX8_drawnIn 10 = .ok (.ifnonnull 7, 3) := by decide +kernel
theorem dX8_drawnIn_13 : decode cX8_drawnIn 13 = .ok (.sipush (-1001), 3) := by decide +kernel
theorem dX8_drawnIn_16 : decode cX8_drawnIn 16 = .ok (.ireturn, 1) := by decide +kernel
theorem dX8_drawnIn_17 : decode cX8_drawnIn 17 = .ok (.iload_n 2, 1) := by decide +kernel
theorem dX8_drawnIn_18 : decode cX8_drawnIn 18 = .ok (.iconst 1, 1) := by decide +kernel
theorem dX8_drawnIn_19 : decode cX8_drawnIn 19 = .ok (.sipush 500, 3) := by decide +kernel
theorem dX8_drawnIn_22 : decode cX8_drawnIn 22 = .ok (.invokestatic 58, 3) := by decide +kernel
theorem dX8_drawnIn_25 : decode cX8_drawnIn 25 = .ok (.ifCond .eq 7, 3) := by decide +kernel
theorem dX8_drawnIn_28 : decode cX8_drawnIn 28 = .ok (.sipush (-1002), 3) := by decide +kernel
theorem dX8_drawnIn_31 : decode cX8_drawnIn 31 = .ok (.ireturn, 1) := by decide +kernel
theorem dX8_drawnIn_32 : decode cX8_drawnIn 32 = .ok (.aload_n 0, 1) := by decide +kernel
theorem dX8_drawnIn_33 : decode cX8_drawnIn 33 = .ok (.getfield 50, 3) := by decide +kernel
theorem dX8_drawnIn_36 : decode cX8_drawnIn 36 = .ok (.aload_n 3, 1) := by decide +kernel
theorem dX8_drawnIn_37 : decode cX8_drawnIn 37 = .ok (.invokevirtual 231, 3) := by decide +kernel
theorem dX8_drawnIn_40 : decode cX8_drawnIn 40 = .ok (.iconst 0, 1) := by decide +kernel
theorem dX8_drawnIn_41 : decode cX8_drawnIn 41 = .ok (.istore 4, 2) := by decide +kernel
theorem dX8_drawnIn_43 : decode cX8_drawnIn 43 = .ok (.iconst 0, 1) := by decide +kernel
theorem dX8_drawnIn_44 : decode cX8_drawnIn 44 = .ok (.istore 5, 2) := by decide +kernel
theorem dX8_drawnIn_46 : decode cX8_drawnIn 46 = .ok (.iload 5, 2) := by decide +kernel
theorem dX8_drawnIn_48 : decode cX8_drawnIn 48 = .ok (.iload_n 2, 1) := by decide +kernel
theorem dX8_drawnIn_49 : decode cX8_drawnIn 49 = .ok (.if_icmp .ge 25, 3) := by decide +kernel
theorem dX8_drawnIn_52 : decode cX8_drawnIn 52 = .ok (.aload_n 0, 1) := by decide +kernel
theorem dX8_drawnIn_53 : decode cX8_drawnIn 53 = .ok (.invokevirtual 234, 3) := by decide +kernel
theorem dX8_drawnIn_56 : decode cX8_drawnIn 56 = .ok (.iload 4, 2) := by decide +kernel
theorem dX8_drawnIn_58 : decode cX8_drawnIn 58 = .ok (.aload_n 0, 1) := by decide +kernel
theorem dX8_drawnIn_59 : decode cX8_drawnIn 59 = .ok (.getfield 41, 3) := by decide +kernel
theorem dX8_drawnIn_62 : decode cX8_drawnIn 62 = .ok (.getfield 243, 3) := by decide +kernel
theorem dX8_drawnIn_65 : decode cX8_drawnIn 65 = .ok (.iadd, 1) := by decide +kernel
theorem dX8_drawnIn_66 : decode cX8_drawnIn 66 = .ok (.istore 4, 2) := by decide +kernel
theorem dX8_drawnIn_68 : decode cX8_drawnIn 68 = .ok (.iinc 5 1, 3) := by decide +kernel
theorem dX8_drawnIn_71 : decode cX8_drawnIn 71 = .ok (.goto (-25), 3) := by decide +kernel
theorem dX8_drawnIn_74 : decode cX8_drawnIn 74 = .ok (.iload 4, 2) := by decide +kernel
theorem dX8_drawnIn_76 : decode cX8_drawnIn 76 = .ok (.ireturn, 1) := by decide +kernel
theorem dX8_outside_0 : decode cX8_outside 0 = .ok (.iload_n 0, 1) := by decide +kernel
theorem dX8_outside_1 : decode cX8_outside 1 = .ok (.iload_n 1, 1) := by decide +kernel
theorem dX8_outside_2 : decode cX8_outside 2 = .ok (.if_icmp .lt 8, 3) := by decide +kernel
theorem dX8_outside_5 : decode cX8_outside 5 = .ok (.iload_n 0, 1) := by decide +kernel
theorem dX8_outside_6 : decode cX8_outside 6 = .ok (.iload_n 2, 1) := by decide +kernel
theorem dX8_outside_7 : decode cX8_outside 7 = .ok (.if_icmp .le 7, 3) := by decide +kernel
theorem dX8_outside_10 : decode cX8_outside 10 = .ok (.iconst 1, 1) := by decide +kernel
theorem dX8_outside_11 : decode cX8_outside 11 = .ok (.goto 4, 3) := by decide +kernel
theorem dX8_outside_14 : decode cX8_outside 14 = .ok (.iconst 0, 1) := by decide +kernel
theorem dX8_outside_15 : decode cX8_outside 15 = .ok (.ireturn, 1) := by decide +kernel
theorem dX8_keepState_0 : decode cX8_keepState 0 = .ok (.aload_n 0, 1) := by decide +kernel
theorem dX8_keepState_1 : decode cX8_keepState 1 = .ok (.getfield 145, 3) := by decide +kernel
theorem dX8_keepState_4 : decode cX8_keepState 4 = .ok (.ifCond .eq 4, 3) := by decide +kernel
theorem dX8_keepState_7 : decode cX8_keepState 7 = .ok (.return_, 1) := by decide +kernel
theorem dX8_keepState_8 : decode cX8_keepState 8 = .ok (.aload_n 0, 1) := by decide +kernel
theorem dX8_keepState_9 : decode cX8_keepState 9 = .ok (.getfield 128, 3) := by decide +kernel
theorem dX8_keepState_12 : decode cX8_keepState 12 = .ok (.iconst 0, 1) := by decide +kernel
theorem dX8_keepState_13 : decode cX8_keepState 13 = .ok (.aload_n 0, 1) := by decide +kernel
theorem dX8_keepState_14 : decode cX8_keepState 14 = .ok (.getfield 16, 3) := by decide +kernel
theorem dX8_keepState_17 : decode cX8_keepState 17 = .ok (.arraylength, 1) := by decide +kernel
theorem dX8_keepState_18 : decode cX8_keepState 18 = .ok (.iconst 1, 1) := by decide +kernel
theorem dX8_keepState_19 : decode cX8_keepState 19 = .ok (.isub, 1) := by decide +kernel
theorem dX8_keepState_20 : decode cX8_keepState 20 = .ok (.invokestatic 58, 3) := by decide +kernel
theorem dX8_keepState_23 : decode cX8_keepState 23 = .ok (.ifCond .eq 8, 3) := by decide +kernel
theorem dX8_keepState_26 : decode cX8_keepState 26 = .ok (.aload_n 0, 1) := by decide +kernel
theorem dX8_keepState_27 : decode cX8_keepState 27 = .ok (.iconst 0, 1) := by decide +kernel
theorem dX8_keepState_28 : decode cX8_keepState 28 = .ok (.putfield 128, 3) := by decide +kernel
theorem dX8_keepState_31 : decode cX8_keepState 31 = .ok (.aload_n 0, 1) := by decide +kernel
theorem dX8_keepState_32 : decode cX8_keepState 32 = .ok (.getfield 16, 3) := by decide +kernel
theorem dX8_keepState_35 : decode cX8_keepState 35 = .ok (.aload_n 0, 1) := by decide +kernel
theorem dX8_keepState_36 : decode cX8_keepState 36 = .ok (.getfield 128, 3) := by decide +kernel
theorem dX8_keepState_39 : decode cX8_keepState 39 = .ok (.aaload, 1) := by decide +kernel
theorem dX8_keepState_40 : decode cX8_keepState 40 = .ok (.astore_n 1, 1) := by decide +kernel
theorem dX8_keepState_41 : decode cX8_keepState 41 = .ok (.aload_n 1, 1) := by decide +kernel
theorem dX8_keepState_42 : decode cX8_keepState 42 = .ok (.ifnull 11, 3) := by decide +kernel
theorem dX8_keepState_45 : decode cX8_keepState 45 = .ok (.aload_n 1, 1) := by decide +kernel
theorem dX8_keepState_46 : decode cX8_keepState 46 = .ok (.aload_n 0, 1) := by decide +kernel
theorem dX8_keepState_47 : decode cX8_keepState 47 = .ok (.getfield 10, 3) := by decide +kernel
theorem dX8_keepState_50 : decode cX8_keepState 50 = .ok (.invokevirtual 131, 3) := by decide +kernel
theorem dX8_keepState_53 : decode cX8_keepState 53 = .ok (.aload_n 0, 1) := by decide +kernel
theorem dX8_keepState_54 : decode cX8_keepState 54 = .ok (.dup, 1) := by decide +kernel
theorem dX8_keepState_55 : decode cX8_keepState 55 = .ok (.getfield 128, 3) := by decide +kernel
theorem dX8_keepState_58 : decode cX8_keepState 58 = .ok (.iconst 1, 1) := by decide +kernel
theorem dX8_keepState_59 : decode cX8_keepState 59 = .ok (.iadd, 1) := by decide +kernel
theorem dX8_keepState_60 : decode cX8_keepState 60 = .ok (.putfield 128, 3) := by decide +kernel
theorem dX8_keepState_63 : decode cX8_keepState 63 = .ok (.aload_n 0, 1) := by decide +kernel
theorem dX8_keepState_64 : decode cX8_keepState 64 = .ok (.getfield 125, 3) := by decide +kernel
theorem dX8_keepState_67 : decode cX8_keepState 67 = .ok (.aload_n 0, 1) := by decide +kernel
theorem dX8_keepState_68 : decode cX8_keepState 68 = .ok (.getfield 16, 3) := by decide +kernel
theorem dX8_keepState_71 : decode cX8_keepState 71 = .ok (.arraylength, 1) := by decide +kernel
theorem dX8_keepState_72 : decode cX8_keepState 72 = .ok (.if_icmp .ge 13, 3) := by decide +kernel
theorem dX8_keepState_75 : decode cX8_keepState 75 = .ok (.aload_n 0, 1) := by decide +kernel
theorem dX8_keepState_76 : decode cX8_keepState 76 = .ok (.dup, 1) := by decide +kernel
theorem dX8_keepState_77 : decode cX8_keepState 77 = .ok (.getfield 125, 3) := by decide +kernel
theorem dX8_keepState_80 : decode cX8_keepState 80 = .ok (.iconst 1, 1) := by decide +kernel
theorem dX8_keepState_81 : decode cX8_keepState 81 = .ok (.iadd, 1) := by decide +kernel
theorem dX8_keepState_82 : decode cX8_keepState 82 = .ok (.putfield 125, 3) := by decide +kernel
theorem dX8_keepState_85 : decode cX8_keepState 85 = .ok (.return_, 1) := by decide +kernel
theorem dX8_tickStation_0 : decode cX8_tickStation 0 = .ok (.aload_n 0, 1) := by decide +kernel
theorem dX8_tickStation_1 : decode cX8_tickStation 1 = .ok (.getfield 10, 3) := by decide +kernel
theorem dX8_tickStation_4 : decode cX8_tickStation 4 = .ok (.aload_n 0, 1) := by decide +kernel
theorem dX8_tickStation_5 : decode cX8_tickStation 5 = .ok (.getfield 10, 3) := by decide +kernel
theorem dX8_tickStation_8 : decode cX8_tickStation 8 = .ok (.getfield 103, 3) := by decide +kernel
theorem dX8_tickStation_11 : decode cX8_tickStation 11 = .ok (.invokevirtual 95, 3) := by decide +kernel
theorem dX8_tickStation_14 : decode cX8_tickStation 14 = .ok (.iconst 0, 1) := by decide +kernel
theorem dX8_tickStation_15 : decode cX8_tickStation 15 = .ok (.istore_n 1, 1) := by decide +kernel
theorem dX8_tickStation_16 : decode cX8_tickStation 16 = .ok (.iconst 0, 1) := by decide +kernel
theorem dX8_tickStation_17 : decode cX8_tickStation 17 = .ok (.istore_n 2, 1) := by decide +kernel
theorem dX8_tickStation_18 : decode cX8_tickStation 18 = .ok (.iload_n 2, 1) := by decide +kernel
theorem dX8_tickStation_19 : decode cX8_tickStation 19 = .ok (.aload_n 0, 1) := by decide +kernel
theorem dX8_tickStation_20 : decode cX8_tickStation 20 = .ok (.getfield 10, 3) := by decide +kernel
theorem dX8_tickStation_23 : decode cX8_tickStation 23 = .ok (.getfield 62, 3) := by decide +kernel
theorem dX8_tickStation_26 : decode cX8_tickStation 26 = .ok (.if_icmp .ge 85, 3) := by decide +kernel
