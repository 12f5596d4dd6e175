theorem dX8_tickStation_29 : decode cX8_tickStation 29 = .ok (.aload_n 0, 1) := by decide +kernel
theorem dX8_tickStation_30 : decode cX8_tickStation 30 = .ok (.getfield 10, 3) := by decide +kernel
theorem dX8_tickStation_33 : decode cX8_tickStation 33 = .ok (.iload_n 2, 1) := by decide +kernel
theorem dX8_tickStation_34 : decode cX8_tickStation 34 = .ok (.invokevirtual 72, 3) := by decide +kernel
theorem dX8_tickStation_37 : decode cX8_tickStation 37 = .ok (.astore_n 3, 1) := by decide +kernel
theorem dX8_tickStation_38 : decode cX8_tickStation 38 = .ok (.aload_n 3, 1) := by decide +kernel
theorem dX8_tickStation_39 : decode cX8_tickStation 39 = .ok (.ifnull 66, 3) := by decide +kernel
theorem dX8_tickStation_42 : decode cX8_tickStation 42 = .ok (.aload_n 3, 1) := by decide +kernel
theorem dX8_tickStation_43 : decode cX8_tickStation 43 = .ok (.getfield 76, 3) := by decide +kernel
theorem dX8_tickStation_46 : decode cX8_tickStation 46 = .ok (.ifCond .eq 59, 3) := by decide +kernel
theorem dX8_tickStation_49 : decode cX8_tickStation 49 = .ok (.aload_n 3, 1) := by decide +kernel
theorem dX8_tickStation_50 : decode cX8_tickStation 50 = .ok (.aload_n 0, 1) := by decide +kernel
theorem dX8_tickStation_51 : decode cX8_tickStation 51 = .ok (.getfield 10, 3) := by decide +kernel
theorem dX8_tickStation_54 : decode cX8_tickStation 54 = .ok (.getfield 156, 3) := by decide +kernel
theorem dX8_tickStation_57 : decode cX8_tickStation 57 = .ok (.aload_n 0, 1) := by decide +kernel
theorem dX8_tickStation_58 : decode cX8_tickStation 58 = .ok (.getfield 10, 3) := by decide +kernel
theorem dX8_tickStation_61 : decode cX8_tickStation 61 = .ok (.getfield 106, 3) := by decide +kernel
theorem dX8_tickStation_64 : decode cX8_tickStation 64 = .ok (.aload_n 0, 1) := by decide +kernel
theorem dX8_tickStation_65 : decode cX8_tickStation 65 = .ok (.getfield 41, 3) := by decide +kernel
theorem dX8_tickStation_68 : decode cX8_tickStation 68 = .ok (.invokevirtual 262, 3) := by decide +kernel
theorem dX8_tickStation_71 : decode cX8_tickStation 71 = .ok (.aload_n 0, 1) := by decide +kernel
theorem dX8_tickStation_72 : decode cX8_tickStation 72 = .ok (.getfield 10, 3) := by decide +kernel
theorem dX8_tickStation_75 : decode cX8_tickStation 75 = .ok (.dup, 1) := by decide +kernel
theorem dX8_tickStation_76 : decode cX8_tickStation 76 = .ok (.getfield 156, 3) := by decide +kernel
theorem dX8_tickStation_79 : decode cX8_tickStation 79 = .ok (.aload_n 0, 1) := by decide +kernel
theorem dX8_tickStation_80 : decode cX8_tickStation 80 = .ok (.getfield 41, 3) := by decide +kernel
theorem dX8_tickStation_83 : decode cX8_tickStation 83 = .ok (.getfield 243, 3) := by decide +kernel
theorem dX8_tickStation_86 : decode cX8_tickStation 86 = .ok (.isub, 1) := by decide +kernel
theorem dX8_tickStation_87 : decode cX8_tickStation 87 = .ok (.putfield 156, 3) := by decide +kernel
theorem dX8_tickStation_90 : decode cX8_tickStation 90 = .ok (.iload_n 1, 1) := by decide +kernel
theorem dX8_tickStation_91 : decode cX8_tickStation 91 = .ok (.aload_n 0, 1) := by decide +kernel
theorem dX8_tickStation_92 : decode cX8_tickStation 92 = .ok (.getfield 41, 3) := by decide +kernel
theorem dX8_tickStation_95 : decode cX8_tickStation 95 = .ok (.getfield 266, 3) := by decide +kernel
theorem dX8_tickStation_98 : decode cX8_tickStation 98 = .ok (.iadd, 1) := by decide +kernel
theorem dX8_tickStation_99 : decode cX8_tickStation 99 = .ok (.istore_n 1, 1) := by decide +kernel
theorem dX8_tickStation_100 : decode cX8_tickStation 100 = .ok (.aload_n 0, 1) := by decide +kernel
theorem dX8_tickStation_101 : decode cX8_tickStation 101 = .ok (.iload_n 2, 1) := by decide +kernel
theorem dX8_tickStation_102 : decode cX8_tickStation 102 = .ok (.invokevirtual 269, 3) := by decide +kernel
theorem dX8_tickStation_105 : decode cX8_tickStation 105 = .ok (.iinc 2 1, 3) := by decide +kernel
theorem dX8_tickStation_108 : decode cX8_tickStation 108 = .ok (.goto (-90), 3) := by decide +kernel
theorem dX8_tickStation_111 : decode cX8_tickStation 111 = .ok (.aload_n 0, 1) := by decide +kernel
theorem dX8_tickStation_112 : decode cX8_tickStation 112 = .ok (.getfield 10, 3) := by decide +kernel
theorem dX8_tickStation_115 : decode cX8_tickStation 115 = .ok (.dup, 1) := by decide +kernel
theorem dX8_tickStation_116 : decode cX8_tickStation 116 = .ok (.getfield 106, 3) := by decide +kernel
theorem dX8_tickStation_119 : decode cX8_tickStation 119 = .ok (.iconst 1, 1) := by decide +kernel
theorem dX8_tickStation_120 : decode cX8_tickStation 120 = .ok (.iadd, 1) := by decide +kernel
theorem dX8_tickStation_121 : decode cX8_tickStation 121 = .ok (.putfield 106, 3) := by decide +kernel
theorem dX8_tickStation_124 : decode cX8_tickStation 124 = .ok (.iload_n 1, 1) := by decide +kernel
theorem dX8_tickStation_125 : decode cX8_tickStation 125 = .ok (.ireturn, 1) := by decide +kernel
theorem dX8_noteIncidents_0 : decode cX8_noteIncidents 0 = .ok (.aload_n 0, 1) := by decide +kernel
theorem dX8_noteIncidents_1 : decode cX8_noteIncidents 1 = .ok (.getfield 41, 3) := by decide +kernel
theorem dX8_noteIncidents_4 : decode cX8_noteIncidents 4 = .ok (.getfield 272, 3) := by decide +kernel
theorem dX8_noteIncidents_7 : decode cX8_noteIncidents 7 = .ok (.ifCond .eq 25, 3) := by decide +kernel
theorem dX8_noteIncidents_10 : decode cX8_noteIncidents 10 = .ok (.aload_n 0, 1) := by decide +kernel
theorem dX8_noteIncidents_11 : decode cX8_noteIncidents 11 = .ok (.getfield 34, 3) := by decide +kernel
theorem dX8_noteIncidents_14 : decode cX8_noteIncidents 14 = .ok (.aload_n 0, 1) := by decide +kernel
theorem dX8_noteIncidents_15 : decode cX8_noteIncidents 15 = .ok (.getfield 41, 3) := by decide +kernel
theorem dX8_noteIncidents_18 : decode cX8_noteIncidents 18 = .ok (.getfield 272, 3) := by decide +kernel
theorem dX8_noteIncidents_21 : decode cX8_noteIncidents 21 = .ok (.iload_n 1, 1) := by decide +kernel
theorem dX8_noteIncidents_22 : decode cX8_noteIncidents 22 = .ok (.aload_n 0, 1) := by decide +kernel
theorem dX8_noteIncidents_23 : decode cX8_noteIncidents 23 = .ok (.getfield 10, 3) := by decide +kernel
theorem dX8_noteIncidents_26 : decode cX8_noteIncidents 26 = .ok (.getfield 106, 3) := by decide +kernel
theorem dX8_noteIncidents_29 : decode cX8_noteIncidents 29 = .ok (.invokevirtual 275, 3) := by decide +kernel
theorem dX8_noteIncidents_32 : decode cX8_noteIncidents 32 = .ok (.aload_n 0, 1) := by decide +kernel
theorem dX8_noteIncidents_33 : decode cX8_noteIncidents 33 = .ok (.getfield 41, 3) := by decide +kernel
theorem dX8_noteIncidents_36 : decode cX8_noteIncidents 36 = .ok (.getfield 279, 3) := by decide +kernel
theorem dX8_noteIncidents_39 : decode cX8_noteIncidents 39 = .ok (.ifCond .eq 19, 3) := by decide +kernel
theorem dX8_noteIncidents_42 : decode cX8_noteIncidents 42 = .ok (.aload_n 0, 1) := by decide +kernel
theorem dX8_noteIncidents_43 : decode cX8_noteIncidents 43 = .ok (.getfield 34, 3) := by decide +kernel
theorem dX8_noteIncidents_46 : decode cX8_noteIncidents 46 = .ok (.iconst 3, 1) := by decide +kernel
theorem dX8_noteIncidents_47 : decode cX8_noteIncidents 47 = .ok (.iload_n 1, 1) := by decide +kernel
theorem dX8_noteIncidents_48 : decode cX8_noteIncidents 48 = .ok (.aload_n 0, 1) := by decide +kernel
theorem dX8_noteIncidents_49 : decode cX8_noteIncidents 49 = .ok (.getfield 10, 3) := by decide +kernel
theorem dX8_noteIncidents_52 : decode cX8_noteIncidents 52 = .ok (.getfield 106, 3) := by decide +kernel
theorem dX8_noteIncidents_55 : decode cX8_noteIncidents 55 = .ok (.invokevirtual 275, 3) := by decide +kernel
theorem dX8_noteIncidents_58 : decode cX8_noteIncidents 58 = .ok (.return_, 1) := by decide +kernel
theorem dX8_tickTrial_0 : decode cX8_tickTrial 0 = .ok (.aload_n 0, 1) := by decide +kernel
theorem dX8_tickTrial_1 : decode cX8_tickTrial 1 = .ok (.getfield 50, 3) := by decide +kernel
theorem dX8_tickTrial_4 : decode cX8_tickTrial 4 = .ok (.ldc_w 311, 3) := by decide +kernel
theorem dX8_tickTrial_7 : decode cX8_tickTrial 7 = .ok (.aload_n 0, 1) := by decide +kernel
theorem dX8_tickTrial_8 : decode cX8_tickTrial 8 = .ok (.getfield 10, 3) := by decide +kernel
theorem dX8_tickTrial_11 : decode cX8_tickTrial 11 = .ok (.getfield 106, 3) := by decide +kernel
theorem dX8_tickTrial_14 : decode cX8_tickTrial 14 = .ok (.aload_n 0, 1) := by decide +kernel
theorem dX8_tickTrial_15 : decode cX8_tickTrial 15 = .ok (.getfield 41, 3) := by decide +kernel
theorem dX8_tickTrial_18 : decode cX8_tickTrial 18 = .ok (.invokevirtual 262, 3) := by decide +kernel
theorem dX8_tickTrial_21 : decode cX8_tickTrial 21 = .ok (.return_, 1) := by decide +kernel
theorem dX8_trialDelivery_0 : decode cX8_trialDelivery 0 = .ok (.iconst 0, 1) := by decide +kernel
theorem dX8_trialDelivery_1 : decode cX8_trialDelivery 1 = .ok (.istore_n 2, 1) := by decide +kernel
theorem dX8_trialDelivery_2 : decode cX8_trialDelivery 2 = .ok (.iconst 0, 1) := by decide +kernel
theorem dX8_trialDelivery_3 : decode cX8_trialDelivery 3 = .ok (.istore_n 3, 1) := by decide +kernel
theorem dX8_trialDelivery_4 : decode cX8_trialDelivery 4 = .ok (.iload_n 3, 1) := by decide +kernel
theorem dX8_trialDelivery_5 : decode cX8_trialDelivery 5 = .ok (.iload_n 1, 1) := by decide +kernel
theorem dX8_trialDelivery_6 : decode cX8_trialDelivery 6 = .ok (.if_icmp .ge 23, 3) := by decide +kernel
theorem dX8_trialDelivery_9 : decode cX8_trialDelivery 9 = .ok (.aload_n 0, 1) := by decide +kernel
theorem dX8_trialDelivery_10 : decode cX8_trialDelivery 10 = .ok (.invokevirtual 234, 3) := by decide +kernel
theorem dX8_trialDelivery_13 : decode cX8_trialDelivery 13 = .ok (.iload_n 2, 1) := by decide +kernel
theorem dX8_trialDelivery_14 : decode cX8_trialDelivery 14 = .ok (.aload_n 0, 1) := by decide +kernel
theorem dX8_trialDelivery_15 : decode cX8_trialDelivery 15 = .ok (.getfield 41, 3) := by decide +kernel
theorem dX8_trialDelivery_18 : decode cX8_trialDelivery 18 = .ok (.getfield 266, 3) := by decide +kernel
theorem dX8_trialDelivery_21 : decode cX8_trialDelivery 21 = .ok (.iadd, 1) := by decide +kernel
theorem dX8_trialDelivery_22 : decode cX8_trialDelivery 22 = .ok (.istore_n 2, 1) := by decide +kernel
theorem dX8_trialDelivery_23 : decode cX8_trialDelivery 23 = .ok (.iinc 3 1, 3) := by decide +kernel
theorem dX8_trialDelivery_26 : decode cX8_trialDelivery 26 = .ok (.goto (-22), 3) := by decide +kernel
theorem dX8_trialDelivery_29 : decode cX8_trialDelivery 29 = .ok (.iload_n 2, 1) := by decide +kernel
theorem dX8_trialDelivery_30 : decode cX8_trialDelivery 30 = .ok (.ireturn, 1) := by decide +kernel
theorem dL_cell_0 : decode cL_cell 0 = .ok (.iload_n 1, 1) := by decide +kernel
theorem dL_cell_1 : decode cL_cell 1 = .ok (.aload_n 0, 1) := by decide +kernel
theorem dL_cell_2 : decode cL_cell 2 = .ok (.arraylength, 1) := by decide +kernel
theorem dL_cell_3 : decode cL_cell 3 = .ok (.if_icmp .ge 9, 3) := by decide +kernel
theorem dL_cell_6 : decode cL_cell 6 = .ok (.aload_n 0, 1) := by decide +kernel
theorem dL_cell_7 : decode cL_cell 7 = .ok (.iload_n 1, 1) := by decide +kernel
theorem dL_cell_8 : decode cL_cell 8 = .ok (.iaload, 1) := by decide +kernel
theorem dL_cell_9 : decode cL_cell 9 = .ok (.goto 9, 3) := by decide +kernel
theorem dL_cell_12 : decode cL_cell 12 = .ok (.ldc 7, 2) := by decide +kernel
theorem dL_cell_14 : decode cL_cell 14 = .ok (.iload_n 1, 1) := by decide +kernel
theorem dL_cell_15 : decode cL_cell 15 = .ok (.iconst 1, 1) := by decide +kernel
theorem dL_cell_16 : decode cL_cell 16 = .ok (.iadd, 1) := by decide +kernel
theorem dL_cell_17 : decode cL_cell 17 = .ok (.imul, 1) := by decide +kernel
theorem dL_cell_18 : decode cL_cell 18 = .ok (.ireturn, 1) := by decide +kernel
theorem dL_low_0 : decode cL_low 0 = .ok (.iload_n 0, 1) := by decide +kernel
theorem dL_low_1 : decode cL_low 1 = .ok (.ldc 8, 2) := by decide +kernel
theorem dL_low_3 : decode cL_low 3 = .ok (.iand, 1) := by decide +kernel
theorem dL_low_4 : decode cL_low 4 = .ok (.iload_n 1, 1) := by decide +kernel
theorem dL_low_5 : decode cL_low 5 = .ok (.irem, 1) := by decide +kernel
theorem dL_low_6 : decode cL_low 6 = .ok (.ireturn, 1) := by decide +kernel
theorem dL_many_0 : decode cL_many 0 = .ok (.iconst 0, 1) := by decide +kernel
theorem dL_many_1 : decode cL_many 1 = .ok (.istore_n 2, 1) := by decide +kernel
theorem dL_many_2 : decode cL_many 2 = .ok (.iconst 0, 1) := by decide +kernel
theorem dL_many_3 : decode cL_many 3 = .ok (.istore_n 3, 1) := by decide +kernel
theorem dL_many_4 : decode cL_many 4 = .ok (.iload_n 3, 1) := by decide +kernel
theorem dL_many_5 : decode cL_many 5 = .ok (.aload_n 0, 1) := by decide +kernel
theorem dL_many_6 : decode cL_many 6 = .ok (.invokevirtual 9, 3) := by decide +kernel
theorem dL_many_9 : decode cL_many 9 = .ok (.if_icmp .ge 26, 3) := by decide +kernel
theorem dL_many_12 : decode cL_many 12 = .ok (.aload_n 0, 1) := by decide +kernel
theorem dL_many_13 : decode cL_many 13 = .ok (.iload_n 3, 1) := by decide +kernel
theorem dL_many_14 : decode cL_many 14 = .ok (.invokevirtual 15, 3) := by decide +kernel
theorem dL_many_17 : decode cL_many 17 = .ok (.iload_n 1, 1) := by decide +kernel
theorem dL_many_18 : decode cL_many 18 = .ok (.if_icmp .lt 9, 3) := by decide +kernel
theorem dL_many_21 : decode cL_many 21 = .ok (.iload_n 2, 1) := by decide +kernel
theorem dL_many_22 : decode cL_many 22 = .ok (.iconst 1, 1) := by decide +kernel
theorem dL_many_23 : decode cL_many 23 = .ok (.iadd, 1) := by decide +kernel
theorem dL_many_24 : decode cL_many 24 = .ok (.goto 4, 3) := by decide +kernel
theorem dL_many_27 : decode cL_many 27 = .ok (.iload_n 2, 1) := by decide +kernel
theorem dL_many_28 : decode cL_many 28 = .ok (.istore_n 2, 1) := by decide +kernel
theorem dL_many_29 : decode cL_many 29 = .ok (.iinc 3 1, 3) := by decide +kernel
theorem dL_many_32 : decode cL_many 32 = .ok (.goto (-28), 3) := by decide +kernel
theorem dL_many_35 : decode cL_many 35 = .ok (.iload_n 2, 1) := by decide +kernel
theorem dL_many_36 : decode cL_many 36 = .ok (.ireturn, 1) := by decide +kernel
theorem dL_change_0 : decode cL_change 0 = .ok (.aload_n 0, 1) := by decide +kernel
theorem dL_change_1 : decode cL_change 1 = .ok (.invokevirtual 9, 3) := by decide +kernel
theorem dL_change_4 : decode cL_change 4 = .ok (.istore 4, 2) := by decide +kernel
theorem dL_change_6 : decode cL_change 6 = .ok (.iload 4, 2) := by decide +kernel
theorem dL_change_8 : decode cL_change 8 = .ok (.ifCond .ne 7, 3) := by decide +kernel
theorem dL_change_11 : decode cL_change 11 = .ok (.iconst 0, 1) := by decide +kernel
theorem dL_change_12 : decode cL_change 12 = .ok (.goto 11, 3) := by decide +kernel
theorem dL_change_15 : decode cL_change 15 = .ok (.iload_n 2, 1) := by decide +kernel
theorem dL_change_16 : decode cL_change 16 = .ok (.iconst 5, 1) := by decide +kernel
theorem dL_change_17 : decode cL_change 17 = .ok (.ishr, 1) := by decide +kernel
theorem dL_change_18 : decode cL_change 18 = .ok (.iload 4, 2) := by decide +kernel
theorem dL_change_20 : decode cL_change 20 = .ok (.invokestatic 19, 3) := by decide +kernel
theorem dL_change_23 : decode cL_change 23 = .ok (.istore 5, 2) := by decide +kernel
theorem dL_change_25 : decode cL_change 25 = .ok (.iload_n 2, 1) := by decide +kernel
theorem dL_change_26 : decode cL_change 26 = .ok (.bipush 12, 2) := by decide +kernel
theorem dL_change_28 : decode cL_change 28 = .ok (.invokestatic 19, 3) := by decide +kernel
theorem dL_change_31 : decode cL_change 31 = .ok (.tableswitch 612 0 8 #[49, 49, 155, 240, 341, 374, 464, 538, 538], 49) := by decide +kernel
theorem dL_change_80 : decode cL_change 80 = .ok (.bipush 10, 2) := by decide +kernel
theorem dL_change_82 : decode cL_change 82 = .ok (.iload_n 3, 1) := by decide +kernel
theorem dL_change_83 : decode cL_change 83 = .ok (.bipush 90, 2) := by decide +kernel
theorem dL_change_85 : decode cL_change 85 = .ok (.invokestatic 19, 3) := by decide +kernel
theorem dL_change_88 : decode cL_change 88 = .ok (.iadd, 1) := by decide +kernel
theorem dL_change_89 : decode cL_change 89 = .ok (.istore 6, 2) := by decide +kernel
theorem dL_change_91 : decode cL_change 91 = .ok (.iload 6, 2) := by decide +kernel
theorem dL_change_93 : decode cL_change 93 = .ok (.iconst 1, 1) := by decide +kernel
theorem dL_change_94 : decode cL_change 94 = .ok (.iadd, 1) := by decide +kernel
theorem dL_change_95 : decode cL_change 95 = .ok (.iload_n 3, 1) := by decide +kernel
theorem dL_change_96 : decode cL_change 96 = .ok (.bipush 17, 2) := by decide +kernel
theorem dL_change_98 : decode cL_change 98 = .ok (.ishr, 1) := by decide +kernel
theorem dL_change_99 : decode cL_change 99 = .ok (.iload_n 3, 1) := by decide +kernel
theorem dL_change_100 : decode cL_change 100 = .ok (.iconst 3, 1) := by decide +kernel
theorem dL_change_101 : decode cL_change 101 = .ok (.invokestatic 19, 3) := by decide +kernel
theorem dL_change_104 : decode cL_change 104 = .ok (.ifCond .ne 12, 3) := by decide +kernel
theorem dL_change_107 : decode cL_change 107 = .ok (.sipush 500, 3) := by decide +kernel
theorem dL_change_110 : decode cL_change 110 = .ok (.iload 6, 2) := by decide +kernel
theorem dL_change_112 : decode cL_change 112 = .ok (.isub, 1) := by decide +kernel
theorem dL_change_113 : decode cL_change 113 = .ok (.goto 5, 3) := by decide +kernel
theorem dL_change_116 : decode cL_change 116 = .ok (.bipush 60, 2) := by decide +kernel
theorem dL_change_118 : decode cL_change 118 = .ok (.invokestatic 19, 3) := by decide +kernel
theorem dL_change_121 : decode cL_change 121 = .ok (.iadd, 1) := by decide +kernel
theorem dL_change_122 : decode cL_change 122 = .ok (.istore 7, 2) := by decide +kernel
theorem dL_change_124 : decode cL_change 124 = .ok (.aload_n 0, 1) := by decide +kernel
theorem dL_change_125 : decode cL_change 125 = .ok (.iload 6, 2) := by decide +kernel
theorem dL_change_127 : decode cL_change 127 = .ok (.bipush 10, 2) := by decide +kernel
theorem dL_change_129 : decode cL_change 129 = .ok (.iload_n 3, 1) := by decide +kernel
theorem dL_change_130 : decode cL_change 130 = .ok (.bipush 7, 2) := by decide +kernel
theorem dL_change_132 : decode cL_change 132 = .ok (.ishr, 1) := by decide +kernel
theorem dL_change_133 : decode cL_change 133 = .ok (.bipush 91, 2) := by decide +kernel
theorem dL_change_135 : decode cL_change 135 = .ok (.invokestatic 19, 3) := by decide +kernel
theorem dL_change_138 : decode cL_change 138 = .ok (.iadd, 1) := by decide +kernel
theorem dL_change_139 : decode cL_change 139 = .ok (.iconst 1, 1) := by decide +kernel
theorem dL_change_140 : decode cL_change 140 = .ok (.iload_n 3, 1) := by decide +kernel
theorem dL_change_141 : decode cL_change 141 = .ok (.bipush 14, 2) := by decide +kernel
theorem dL_change_143 : decode cL_change 143 = .ok (.ishr, 1) := by decide +kernel
theorem dL_change_144 : decode cL_change 144 = .ok (.bipush 20, 2) := by decide +kernel
theorem dL_change_146 : decode cL_change 146 = .ok (.invokestatic 19, 3) := by decide +kernel
theorem dL_change_149 : decode cL_change 149 = .ok (.iadd, 1) := by decide +kernel
theorem dL_change_150 : decode cL_change 150 = .ok (.iload_n 3, 1) := by decide +kernel
theorem dL_change_151 : decode cL_change 151 = .ok (.iconst 4, 1) := by decide +kernel
theorem dL_change_152 : decode cL_change 152 = .ok (.ishr, 1) := by decide +kernel
theorem dL_change_153 : decode cL_change 153 = .ok (.bipush 101, 2) := by decide +kernel
theorem dL_change_155 : decode cL_change 155 = .ok (.invokestatic 19, 3) := by decide +kernel
theorem dL_change_158 : decode cL_change 158 = .ok (.iload 7, 2) := by decide +kernel
theorem dL_change_160 : decode cL_change 160 = .ok (.invokevirtual 25, 3) := by decide +kernel
theorem dL_change_163 : decode cL_change 163 = .ok (.iload 4, 2) := by decide +kernel
theorem dL_change_165 : decode cL_change 165 = .ok (.iconst 4, 1) := by decide +kernel
theorem dL_change_166 : decode cL_change 166 = .ok (.if_icmp .ne 9, 3) := by decide +kernel
theorem dL_change_169 : decode cL_change 169 = .ok (.sipush (-1004), 3) := by decide +kernel
theorem dL_change_172 : decode cL_change 172 = .ok (.goto 5, 3) := by decide +kernel
theorem dL_change_175 : decode cL_change 175 = .ok (.iload 4, 2) := by decide +kernel
theorem dL_change_177 : decode cL_change 177 = .ok (.if_icmp .ne 7, 3) := by decide +kernel
theorem dL_change_180 : decode cL_change 180 = .ok (.iconst 1, 1) := by decide +kernel
theorem dL_change_181 : decode cL_change 181 = .ok (.goto 4, 3) := by decide +kernel
theorem dL_change_184 : decode cL_change 184 = .ok (.iconst 0, 1) := by decide +kernel
theorem dL_change_185 : decode cL_change 185 = .ok (.ireturn, 1) := by decide +kernel
theorem dL_change_186 : decode cL_change 186 = .ok (.aload_n 0, 1) := by decide +kernel
theorem dL_change_187 : decode cL_change 187 = .ok (.iload 5, 2) := by decide +kernel
theorem dL_change_189 : decode cL_change 189 = .ok (.invokevirtual 15, 3) := by decide +kernel
theorem dL_change_192 : decode cL_change 192 = .ok (.istore 6, 2) := by decide +kernel
theorem dL_change_194 : decode cL_change 194 = .ok (.aload_n 0, 1) := by decide +kernel
theorem dL_change_195 : decode cL_change 195 = .ok (.iload 5, 2) := by decide +kernel
theorem dL_change_197 : decode cL_change 197 = .ok (.iload_n 3, 1) := by decide +kernel
theorem dL_change_198 : decode cL_change 198 = .ok (.iconst 3, 1) := by decide +kernel
theorem dL_change_199 : decode cL_change 199 = .ok (.invokestatic 19, 3) := by decide +kernel
theorem dL_change_202 : decode cL_change 202 = .ok (.iconst 1, 1) := by decide +kernel
theorem dL_change_203 : decode cL_change 203 = .ok (.iload_n 3, 1) := by decide +kernel
theorem dL_change_204 : decode cL_change 204 = .ok (.iconst 2, 1) := by decide +kernel
theorem dL_change_205 : decode cL_change 205 = .ok (.ishr, 1) := by decide +kernel
theorem dL_change_206 : decode cL_change 206 = .ok (.sipush 200, 3) := by decide +kernel
theorem dL_change_209 : decode cL_change 209 = .ok (.invokestatic 19, 3) := by decide +kernel
theorem dL_change_212 : decode cL_change 212 = .ok (.iadd, 1) := by decide +kernel
theorem dL_change_213 : decode cL_change 213 = .ok (.invokevirtual 29, 3) := by decide +kernel
theorem dL_change_216 : decode cL_change 216 = .ok (.istore 7, 2) := by decide +kernel
theorem dL_change_218 : decode cL_change 218 = .ok (.iload 6, 2) := by decide +kernel
theorem dL_change_220 : decode cL_change 220 = .ok (.ifCond .ge 19, 3) := by decide +kernel
theorem dL_change_223 : decode cL_change 223 = .ok (.iload 7, 2) := by decide +kernel
theorem dL_change_225 : decode cL_change 225 = .ok (.sipush (-1001), 3) := by decide +kernel
theorem dL_change_228 : decode cL_change 228 = .ok (.if_icmp .ne 7, 3) := by decide +kernel
theorem dL_change_231 : decode cL_change 231 = .ok (.iconst 1, 1) := by decide +kernel
theorem dL_change_232 : decode cL_change 232 = .ok (.goto 38, 3) := by decide +kernel
theorem dL_change_235 : decode cL_change 235 = .ok (.iconst 0, 1) := by decide +kernel
theorem dL_change_236 : decode cL_change 236 = .ok (.goto 34, 3) := by decide +kernel
theorem dL_change_239 : decode cL_change 239 = .ok (.iload 6, 2) := by decide +kernel
theorem dL_change_241 : decode cL_change 241 = .ok (.ifCond .le 19, 3) := by decide +kernel
theorem dL_change_244 : decode cL_change 244 = .ok (.iload 7, 2) := by decide +kernel
theorem dL_change_246 : decode cL_change 246 = .ok (.sipush (-1003), 3) := by decide +kernel
theorem dL_change_249 : decode cL_change 249 = .ok (.if_icmp .ne 7, 3) := by decide +kernel
theorem dL_change_252 : decode cL_change 252 = .ok (.iconst 1, 1) := by decide +kernel
theorem dL_change_253 : decode cL_change 253 = .ok (.goto 17, 3) := by decide +kernel
theorem dL_change_256 : decode cL_change 256 = .ok (.iconst 0, 1) := by decide +kernel
theorem dL_change_257 : decode cL_change 257 = .ok (.goto 13, 3) := by decide +kernel
theorem dL_change_260 : decode cL_change 260 = .ok (.iload 7, 2) := by decide +kernel
theorem dL_change_262 : decode cL_change 262 = .ok (.ifCond .le 7, 3) := by decide +kernel
theorem dL_change_265 : decode cL_change 265 = .ok (.iconst 1, 1) := by decide +kernel
theorem dL_change_266 : decode cL_change 266 = .ok (.goto 4, 3) := by decide +kernel
theorem dL_change_269 : decode cL_change 269 = .ok (.iconst 0, 1) := by decide +kernel
theorem dL_change_270 : decode cL_change 270 = .ok (.ireturn, 1) := by decide +kernel
theorem dL_change_271 : decode cL_change 271 = .ok (.aload_n 0, 1) := by decide +kernel
theorem dL_change_272 : decode cL_change 272 = .ok (.iload 5, 2) := by decide +kernel
theorem dL_change_274 : decode cL_change 274 = .ok (.invokevirtual 33, 3) := by decide +kernel
theorem dL_change_277 : decode cL_change 277 = .ok (.istore 6, 2) := by decide +kernel
theorem dL_change_279 : decode cL_change 279 = .ok (.aload_n 0, 1) := by decide +kernel
theorem dL_change_280 : decode cL_change 280 = .ok (.iload 5, 2) := by decide +kernel
theorem dL_change_282 : decode cL_change 282 = .ok (.invokevirtual 15, 3) := by decide +kernel
theorem dL_change_285 : decode cL_change 285 = .ok (.istore 7, 2) := by decide +kernel
theorem dL_change_287 : decode cL_change 287 = .ok (.aload_n 0, 1) := by decide +kernel
theorem dL_change_288 : decode cL_change 288 = .ok (.iload 5, 2) := by decide +kernel
theorem dL_change_290 : decode cL_change 290 = .ok (.bipush 50, 2) := by decide +kernel
theorem dL_change_292 : decode cL_change 292 = .ok (.iload_n 3, 1) := by decide +kernel
theorem dL_change_293 : decode cL_change 293 = .ok (.iload_n 3, 1) := by decide +kernel
theorem dL_change_294 : decode cL_change 294 = .ok (.bipush 12, 2) := by decide +kernel
theorem dL_change_296 : decode cL_change 296 = .ok (.ishr, 1) := by decide +kernel
theorem dL_change_297 : decode cL_change 297 = .ok (.iconst 2, 1) := by decide +kernel
theorem dL_change_298 : decode cL_change 298 = .ok (.invokestatic 19, 3) := by decide +kernel
theorem dL_change_301 : decode cL_change 301 = .ok (.ifCond .ne 9, 3) := by decide +kernel
theorem dL_change_304 : decode cL_change 304 = .ok (.sipush 200, 3) := by decide +kernel
theorem dL_change_307 : decode cL_change 307 = .ok (.goto 6, 3) := by decide +kernel
theorem dL_change_310 : decode cL_change 310 = .ok (.sipush 1951, 3) := by decide +kernel
theorem dL_change_313 : decode cL_change 313 = .ok (.invokestatic 19, 3) := by decide +kernel
theorem dL_change_316 : decode cL_change 316 = .ok (.iadd, 1) := by decide +kernel
theorem dL_change_317 : decode cL_change 317 = .ok (.iload_n 3, 1) := by decide +kernel
theorem dL_change_318 : decode cL_change 318 = .ok (.bipush 11, 2) := by decide +kernel
theorem dL_change_320 : decode cL_change 320 = .ok (.ishr, 1) := by decide +kernel
theorem dL_change_321 : decode cL_change 321 = .ok (.iconst 2, 1) := by decide +kernel
theorem dL_change_322 : decode cL_change 322 = .ok (.invokestatic 19, 3) := by decide +kernel
theorem dL_change_325 : decode cL_change 325 = .ok (.ifCond .ne 7, 3) := by decide +kernel
theorem dL_change_328 : decode cL_change 328 = .ok (.iconst 1, 1) := by decide +kernel
theorem dL_change_329 : decode cL_change 329 = .ok (.goto 4, 3) := by decide +kernel
theorem dL_change_332 : decode cL_change 332 = .ok (.iconst 0, 1) := by decide +kernel
theorem dL_change_333 : decode cL_change 333 = .ok (.invokevirtual 36, 3) := by decide +kernel
theorem dL_change_336 : decode cL_change 336 = .ok (.istore 8, 2) := by decide +kernel
theorem dL_change_338 : decode cL_change 338 = .ok (.iload 7, 2) := by decide +kernel
theorem dL_change_340 : decode cL_change 340 = .ok (.ifCond .le 19, 3) := by decide +kernel
theorem dL_change_343 : decode cL_change 343 = .ok (.iload 8, 2) := by decide +kernel
theorem dL_change_345 : decode cL_change 345 = .ok (.sipush (-1003), 3) := by decide +kernel
theorem dL_change_348 : decode cL_change 348 = .ok (.if_icmp .ne 7, 3) := by decide +kernel
theorem dL_change_351 : decode cL_change 351 = .ok (.iconst 1, 1) := by decide +kernel
theorem dL_change_352 : decode cL_change 352 = .ok (.goto 19, 3) := by decide +kernel
theorem dL_change_355 : decode cL_change 355 = .ok (.iconst 0, 1) := by decide +kernel
theorem dL_change_356 : decode cL_change 356 = .ok (.goto 15, 3) := by decide +kernel
theorem dL_change_359 : decode cL_change 359 = .ok (.iload 8, 2) := by decide +kernel
theorem dL_change_361 : decode cL_change 361 = .ok (.iload 6, 2) := by decide +kernel
theorem dL_change_363 : decode cL_change 363 = .ok (.if_icmp .ne 7, 3) := by decide +kernel
theorem dL_change_366 : decode cL_change 366 = .ok (.iconst 1, 1) := by decide +kernel
theorem dL_change_367 : decode cL_change 367 = .ok (.goto 4, 3) := by decide +kernel
theorem dL_change_370 : decode cL_change 370 = .ok (.iconst 0, 1) := by decide +kernel
theorem dL_change_371 : decode cL_change 371 = .ok (.ireturn, 1) := by decide +kernel
theorem dL_change_372 : decode cL_change 372 = .ok (.aload_n 1, 1) := by decide +kernel
theorem dL_change_373 : decode cL_change 373 = .ok (.iconst 0, 1) := by decide +kernel
theorem dL_change_374 : decode cL_change 374 = .ok (.iaload, 1) := by decide +kernel
theorem dL_change_375 : decode cL_change 375 = .ok (.istore 6, 2) := by decide +kernel
theorem dL_change_377 : decode cL_change 377 = .ok (.aload_n 1, 1) := by decide +kernel
theorem dL_change_378 : decode cL_change 378 = .ok (.iconst 0, 1) := by decide +kernel
theorem dL_change_379 : decode cL_change 379 = .ok (.iload_n 3, 1) := by decide +kernel
theorem dL_change_380 : decode cL_change 380 = .ok (.sipush 501, 3) := by decide +kernel
theorem dL_change_383 : decode cL_change 383 = .ok (.invokestatic 19, 3) := by decide +kernel
theorem dL_change_386 : decode cL_change 386 = .ok (.iastore, 1) := by decide +kernel
theorem dL_change_387 : decode cL_change 387 = .ok (.aload_n 0, 1) := by decide +kernel
theorem dL_change_388 : decode cL_change 388 = .ok (.aload_n 1, 1) := by decide +kernel
theorem dL_change_389 : decode cL_change 389 = .ok (.iconst 0, 1) := by decide +kernel
theorem dL_change_390 : decode cL_change 390 = .ok (.iaload, 1) := by decide +kernel
theorem dL_change_391 : decode cL_change 391 = .ok (.invokevirtual 40, 3) := by decide +kernel
theorem dL_change_394 : decode cL_change 394 = .ok (.iload 6, 2) := by decide +kernel
theorem dL_change_396 : decode cL_change 396 = .ok (.if_icmp .ne 7, 3) := by decide +kernel
theorem dL_change_399 : decode cL_change 399 = .ok (.iconst 1, 1) := by decide +kernel
theorem dL_change_400 : decode cL_change 400 = .ok (.goto 4, 3) := by decide +kernel
theorem dL_change_403 : decode cL_change 403 = .ok (.iconst 0, 1) := by decide +kernel
theorem dL_change_404 : decode cL_change 404 = .ok (.ireturn, 1) := by decide +kernel
theorem dL_change_405 : decode cL_change 405 = .ok (.aload_n 0, 1) := by decide +kernel
theorem dL_change_406 : decode cL_change 406 = .ok (.iload 5, 2) := by decide +kernel
theorem dL_change_408 : decode cL_change 408 = .ok (.invokevirtual 43, 3) := by decide +kernel
theorem dL_change_411 : decode cL_change 411 = .ok (.istore 6, 2) := by decide +kernel
theorem dL_change_413 : decode cL_change 413 = .ok (.aload_n 0, 1) := by decide +kernel
theorem dL_change_414 : decode cL_change 414 = .ok (.iload 5, 2) := by decide +kernel
theorem dL_change_416 : decode cL_change 416 = .ok (.invokevirtual 46, 3) := by decide +kernel
theorem dL_change_419 : decode cL_change 419 = .ok (.istore 7, 2) := by decide +kernel
theorem dL_change_421 : decode cL_change 421 = .ok (.aload_n 1, 1) := by decide +kernel
theorem dL_change_422 : decode cL_change 422 = .ok (.iconst 2, 1) := by decide +kernel
theorem dL_change_423 : decode cL_change 423 = .ok (.iload 5, 2) := by decide +kernel
theorem dL_change_425 : decode cL_change 425 = .ok (.iadd, 1) := by decide +kernel
theorem dL_change_426 : decode cL_change 426 = .ok (.iload 6, 2) := by decide +kernel
theorem dL_change_428 : decode cL_change 428 = .ok (.ifCond .le 15, 3) := by decide +kernel
theorem dL_change_431 : decode cL_change 431 = .ok (.aload_n 1, 1) := by decide +kernel
theorem dL_change_432 : decode cL_change 432 = .ok (.iconst 2, 1) := by decide +kernel
theorem dL_change_433 : decode cL_change 433 = .ok (.iload 5, 2) := by decide +kernel
theorem dL_change_435 : decode cL_change 435 = .ok (.iadd, 1) := by decide +kernel
theorem dL_change_436 : decode cL_change 436 = .ok (.iaload, 1) := by decide +kernel
theorem dL_change_437 : decode cL_change 437 = .ok (.iload 6, 2) := by decide +kernel
theorem dL_change_439 : decode cL_change 439 = .ok (.iadd, 1) := by decide +kernel
theorem dL_change_440 : decode cL_change 440 = .ok (.goto 9, 3) := by decide +kernel
theorem dL_change_443 : decode cL_change 443 = .ok (.aload_n 1, 1) := by decide +kernel
theorem dL_change_444 : decode cL_change 444 = .ok (.iconst 2, 1) := by decide +kernel
theorem dL_change_445 : decode cL_change 445 = .ok (.iload 5, 2) := by decide +kernel
theorem dL_change_447 : decode cL_change 447 = .ok (.iadd, 1) := by decide +kernel
theorem dL_change_448 : decode cL_change 448 = .ok (.iaload, 1) := by decide +kernel
theorem dL_change_449 : decode cL_change 449 = .ok (.iastore, 1) := by decide +kernel
theorem dL_change_450 : decode cL_change 450 = .ok (.iload 6, 2) := by decide +kernel
theorem dL_change_452 : decode cL_change 452 = .ok (.ifCond .ge 19, 3) := by decide +kernel
theorem dL_change_455 : decode cL_change 455 = .ok (.iload 7, 2) := by decide +kernel
theorem dL_change_457 : decode cL_change 457 = .ok (.sipush (-1001), 3) := by decide +kernel
theorem dL_change_460 : decode cL_change 460 = .ok (.if_icmp .ne 7, 3) := by decide +kernel
theorem dL_change_463 : decode cL_change 463 = .ok (.iconst 1, 1) := by decide +kernel
theorem dL_change_464 : decode cL_change 464 = .ok (.goto 30, 3) := by decide +kernel
theorem dL_change_467 : decode cL_change 467 = .ok (.iconst 0, 1) := by decide +kernel
theorem dL_change_468 : decode cL_change 468 = .ok (.goto 26, 3) := by decide +kernel
theorem dL_change_471 : decode cL_change 471 = .ok (.iload 7, 2) := by decide +kernel
theorem dL_change_473 : decode cL_change 473 = .ok (.iload 6, 2) := by decide +kernel
theorem dL_change_475 : decode cL_change 475 = .ok (.ifCond .ne 9, 3) := by decide +kernel
theorem dL_change_478 : decode cL_change 478 = .ok (.sipush (-1003), 3) := by decide +kernel
theorem dL_change_481 : decode cL_change 481 = .ok (.goto 5, 3) := by decide +kernel
theorem dL_change_484 : decode cL_change 484 = .ok (.iload 6, 2) := by decide +kernel
theorem dL_change_486 : decode cL_change 486 = .ok (.if_icmp .ne 7, 3) := by decide +kernel
theorem dL_change_489 : decode cL_change 489 = .ok (.iconst 1, 1) := by decide +kernel
theorem dL_change_490 : decode cL_change 490 = .ok (.goto 4, 3) := by decide +kernel
theorem dL_change_493 : decode cL_change 493 = .ok (.iconst 0, 1) := by decide +kernel
theorem dL_change_494 : decode cL_change 494 = .ok (.ireturn, 1) := by decide +kernel
theorem dL_change_495 : decode cL_change 495 = .ok (.aload_n 0, 1) := by decide +kernel
theorem dL_change_496 : decode cL_change 496 = .ok (.iload 5, 2) := by decide +kernel
theorem dL_change_498 : decode cL_change 498 = .ok (.invokevirtual 15, 3) := by decide +kernel
theorem dL_change_501 : decode cL_change 501 = .ok (.istore 6, 2) := by decide +kernel
theorem dL_change_503 : decode cL_change 503 = .ok (.aload_n 0, 1) := by decide +kernel
theorem dL_change_504 : decode cL_change 504 = .ok (.iload 5, 2) := by decide +kernel
theorem dL_change_506 : decode cL_change 506 = .ok (.invokevirtual 49, 3) := by decide +kernel
theorem dL_change_509 : decode cL_change 509 = .ok (.istore 7, 2) := by decide +kernel
theorem dL_change_511 : decode cL_change 511 = .ok (.iload 6, 2) := by decide +kernel
theorem dL_change_513 : decode cL_change 513 = .ok (.ifCond .ge 19, 3) := by decide +kernel
theorem dL_change_516 : decode cL_change 516 = .ok (.iload 7, 2) := by decide +kernel
theorem dL_change_518 : decode cL_change 518 = .ok (.sipush (-1001), 3) := by decide +kernel
theorem dL_change_521 : decode cL_change 521 = .ok (.if_icmp .ne 7, 3) := by decide +kernel
theorem dL_change_524 : decode cL_change 524 = .ok (.iconst 1, 1) := by decide +kernel
theorem dL_change_525 : decode cL_change 525 = .ok (.goto 43, 3) := by decide +kernel
theorem dL_change_528 : decode cL_change 528 = .ok (.iconst 0, 1) := by decide +kernel
theorem dL_change_529 : decode cL_change 529 = .ok (.goto 39, 3) := by decide +kernel
theorem dL_change_532 : decode cL_change 532 = .ok (.iload 6, 2) := by decide +kernel
theorem dL_change_534 : decode cL_change 534 = .ok (.ifCond .ne 19, 3) := by decide +kernel
theorem dL_change_537 : decode cL_change 537 = .ok (.iload 7, 2) := by decide +kernel
theorem dL_change_539 : decode cL_change 539 = .ok (.sipush (-1003), 3) := by decide +kernel
theorem dL_change_542 : decode cL_change 542 = .ok (.if_icmp .ne 7, 3) := by decide +kernel
theorem dL_change_545 : decode cL_change 545 = .ok (.iconst 1, 1) := by decide +kernel
theorem dL_change_546 : decode cL_change 546 = .ok (.goto 22, 3) := by decide +kernel
theorem dL_change_549 : decode cL_change 549 = .ok (.iconst 0, 1) := by decide +kernel
theorem dL_change_550 : decode cL_change 550 = .ok (.goto 18, 3) := by decide +kernel
theorem dL_change_553 : decode cL_change 553 = .ok (.iload 7, 2) := by decide +kernel
theorem dL_change_555 : decode cL_change 555 = .ok (.aload_n 0, 1) := by decide +kernel
theorem dL_change_556 : decode cL_change 556 = .ok (.iconst 1, 1) := by decide +kernel
theorem dL_change_557 : decode cL_change 557 = .ok (.invokestatic 52, 3) := by decide +kernel
theorem dL_change_560 : decode cL_change 560 = .ok (.if_icmp .ne 7, 3) := by decide +kernel
theorem dL_change_563 : decode cL_change 563 = .ok (.iconst 1, 1) := by decide +kernel
theorem dL_change_564 : decode cL_change 564 = .ok (.goto 4, 3) := by decide +kernel
theorem dL_change_567 : decode cL_change 567 = .ok (.iconst 0, 1) := by decide +kernel
theorem dL_change_568 : decode cL_change 568 = .ok (.ireturn, 1) := by decide +kernel
theorem dL_change_569 : decode cL_change 569 = .ok (.aload_n 0, 1) := by decide +kernel
theorem dL_change_570 : decode cL_change 570 = .ok (.iload 5, 2) := by decide +kernel
theorem dL_change_572 : decode cL_change 572 = .ok (.invokevirtual 15, 3) := by decide +kernel
theorem dL_change_575 : decode cL_change 575 = .ok (.istore 6, 2) := by decide +kernel
theorem dL_change_577 : decode cL_change 577 = .ok (.aload_n 0, 1) := by decide +kernel
theorem dL_change_578 : decode cL_change 578 = .ok (.iload 5, 2) := by decide +kernel
theorem dL_change_580 : decode cL_change 580 = .ok (.invokevirtual 56, 3) := by decide +kernel
theorem dL_change_583 : decode cL_change 583 = .ok (.istore 7, 2) := by decide +kernel
theorem dL_change_585 : decode cL_change 585 = .ok (.iload 6, 2) := by decide +kernel
theorem dL_change_587 : decode cL_change 587 = .ok (.ifCond .ge 19, 3) := by decide +kernel
theorem dL_change_590 : decode cL_change 590 = .ok (.iload 7, 2) := by decide +kernel
theorem dL_change_592 : decode cL_change 592 = .ok (.sipush (-1001), 3) := by decide +kernel
theorem dL_change_595 : decode cL_change 595 = .ok (.if_icmp .ne 7, 3) := by decide +kernel
theorem dL_change_598 : decode cL_change 598 = .ok (.iconst 1, 1) := by decide +kernel
theorem dL_change_599 : decode cL_change 599 = .ok (.goto 43, 3) := by decide +kernel
theorem dL_change_602 : decode cL_change 602 = .ok (.iconst 0, 1) := by decide +kernel
theorem dL_change_603 : decode cL_change 603 = .ok (.goto 39, 3) := by decide +kernel
theorem dL_change_606 : decode cL_change 606 = .ok (.iload 6, 2) := by decide +kernel
theorem dL_change_608 : decode cL_change 608 = .ok (.ifCond .le 19, 3) := by decide +kernel
theorem dL_change_611 : decode cL_change 611 = .ok (.iload 7, 2) := by decide +kernel
theorem dL_change_613 : decode cL_change 613 = .ok (.sipush (-1003), 3) := by decide +kernel
theorem dL_change_616 : decode cL_change 616 = .ok (.if_icmp .ne 7, 3) := by decide +kernel
theorem dL_change_619 : decode cL_change 619 = .ok (.iconst 1, 1) := by decide +kernel
theorem dL_change_620 : decode cL_change 620 = .ok (.goto 22, 3) := by decide +kernel
theorem dL_change_623 : decode cL_change 623 = .ok (.iconst 0, 1) := by decide +kernel
theorem dL_change_624 : decode cL_change 624 = .ok (.goto 18, 3) := by decide +kernel
theorem dL_change_627 : decode cL_change 627 = .ok (.iload 7, 2) := by decide +kernel
theorem dL_change_629 : decode cL_change 629 = .ok (.aload_n 0, 1) := by decide +kernel
theorem dL_change_630 : decode cL_change 630 = .ok (.iconst 1, 1) := by decide +kernel
theorem dL_change_631 : decode cL_change 631 = .ok (.invokestatic 52, 3) := by decide +kernel
theorem dL_change_634 : decode cL_change 634 = .ok (.if_icmp .ne 7, 3) := by decide +kernel
theorem dL_change_637 : decode cL_change 637 = .ok (.iconst 1, 1) := by decide +kernel
theorem dL_change_638 : decode cL_change 638 = .ok (.goto 4, 3) := by decide +kernel
theorem dL_change_641 : decode cL_change 641 = .ok (.iconst 0, 1) := by decide +kernel
theorem dL_change_642 : decode cL_change 642 = .ok (.ireturn, 1) := by decide +kernel
theorem dL_change_643 : decode cL_change 643 = .ok (.iconst 1, 1) := by decide +kernel
theorem dL_change_644 : decode cL_change 644 = .ok (.iload_n 3, 1) := by decide +kernel
theorem dL_change_645 : decode cL_change 645 = .ok (.bipush 70, 2) := by decide +kernel
theorem dL_change_647 : decode cL_change 647 = .ok (.invokestatic 19, 3) := by decide +kernel
theorem dL_change_650 : decode cL_change 650 = .ok (.iadd, 1) := by decide +kernel
theorem dL_change_651 : decode cL_change 651 = .ok (.istore 6, 2) := by decide +kernel
theorem dL_change_653 : decode cL_change 653 = .ok (.aload_n 0, 1) := by decide +kernel
theorem dL_change_654 : decode cL_change 654 = .ok (.invokevirtual 59, 3) := by decide +kernel
theorem dL_change_657 : decode cL_change 657 = .ok (.istore 7, 2) := by decide +kernel
theorem dL_change_659 : decode cL_change 659 = .ok (.aload_n 0, 1) := by decide +kernel
theorem dL_change_660 : decode cL_change 660 = .ok (.invokestatic 62, 3) := by decide +kernel
theorem dL_change_663 : decode cL_change 663 = .ok (.istore 8, 2) := by decide +kernel
theorem dL_change_665 : decode cL_change 665 = .ok (.aload_n 1, 1) := by decide +kernel
theorem dL_change_666 : decode cL_change 666 = .ok (.iconst 1, 1) := by decide +kernel
theorem dL_change_667 : decode cL_change 667 = .ok (.aload_n 1, 1) := by decide +kernel
theorem dL_change_668 : decode cL_change 668 = .ok (.iconst 1, 1) := by decide +kernel
theorem dL_change_669 : decode cL_change 669 = .ok (.iaload, 1) := by decide +kernel
theorem dL_change_670 : decode cL_change 670 = .ok (.aload_n 1, 1) := by decide +kernel
theorem dL_change_671 : decode cL_change 671 = .ok (.iconst 0, 1) := by decide +kernel
theorem dL_change_672 : decode cL_change 672 = .ok (.iaload, 1) := by decide +kernel
theorem dL_change_673 : decode cL_change 673 = .ok (.iload 6, 2) := by decide +kernel
theorem dL_change_675 : decode cL_change 675 = .ok (.imul, 1) := by decide +kernel
theorem dL_change_676 : decode cL_change 676 = .ok (.iadd, 1) := by decide +kernel
theorem dL_change_677 : decode cL_change 677 = .ok (.iastore, 1) := by decide +kernel
theorem dL_change_678 : decode cL_change 678 = .ok (.aload_n 0, 1) := by decide +kernel
theorem dL_change_679 : decode cL_change 679 = .ok (.iload 6, 2) := by decide +kernel
theorem dL_change_681 : decode cL_change 681 = .ok (.invokevirtual 66, 3) := by decide +kernel
theorem dL_change_684 : decode cL_change 684 = .ok (.aload_n 0, 1) := by decide +kernel
theorem dL_change_685 : decode cL_change 685 = .ok (.invokestatic 62, 3) := by decide +kernel
theorem dL_change_688 : decode cL_change 688 = .ok (.iload 8, 2) := by decide +kernel
theorem dL_change_690 : decode cL_change 690 = .ok (.isub, 1) := by decide +kernel
theorem dL_change_691 : decode cL_change 691 = .ok (.if_icmp .ne 19, 3) := by decide +kernel
theorem dL_change_694 : decode cL_change 694 = .ok (.aload_n 0, 1) := by decide +kernel
theorem dL_change_695 : decode cL_change 695 = .ok (.invokevirtual 59, 3) := by decide +kernel
theorem dL_change_698 : decode cL_change 698 = .ok (.iload 7, 2) := by decide +kernel
theorem dL_change_700 : decode cL_change 700 = .ok (.iload 6, 2) := by decide +kernel
theorem dL_change_702 : decode cL_change 702 = .ok (.iadd, 1) := by decide +kernel
theorem dL_change_703 : decode cL_change 703 = .ok (.if_icmp .ne 7, 3) := by decide +kernel
theorem dL_change_706 : decode cL_change 706 = .ok (.iconst 1, 1) := by decide +kernel
theorem dL_change_707 : decode cL_change 707 = .ok (.goto 4, 3) := by decide +kernel
theorem dL_change_710 : decode cL_change 710 = .ok (.iconst 0, 1) := by decide +kernel
theorem dL_change_711 : decode cL_change 711 = .ok (.ireturn, 1) := by decide +kernel
theorem dL_lifted_0 : decode cL_lifted 0 = .ok (.iconst 0, 1) := by decide +kernel
theorem dL_lifted_1 : decode cL_lifted 1 = .ok (.istore_n 1, 1) := by decide +kernel
theorem dL_lifted_2 : decode cL_lifted 2 = .ok (.iconst 0, 1) := by decide +kernel
theorem dL_lifted_3 : decode cL_lifted 3 = .ok (.istore_n 2, 1) := by decide +kernel
theorem dL_lifted_4 : decode cL_lifted 4 = .ok (.iload_n 2, 1) := by decide +kernel
theorem dL_lifted_5 : decode cL_lifted 5 = .ok (.aload_n 0, 1) := by decide +kernel
theorem dL_lifted_6 : decode cL_lifted 6 = .ok (.invokevirtual 9, 3) := by decide +kernel
theorem dL_lifted_9 : decode cL_lifted 9 = .ok (.if_icmp .ge 17, 3) := by decide +kernel
theorem dL_lifted_12 : decode cL_lifted 12 = .ok (.iload_n 1, 1) := by decide +kernel
theorem dL_lifted_13 : decode cL_lifted 13 = .ok (.aload_n 0, 1) := by decide +kernel
theorem dL_lifted_14 : decode cL_lifted 14 = .ok (.iload_n 2, 1) := by decide +kernel
theorem dL_lifted_15 : decode cL_lifted 15 = .ok (.invokevirtual 69, 3) := by decide +kernel
theorem dL_lifted_18 : decode cL_lifted 18 = .ok (.iadd, 1) := by decide +kernel
theorem dL_lifted_19 : decode cL_lifted 19 = .ok (.istore_n 1, 1) := by decide +kernel
theorem dL_lifted_20 : decode cL_lifted 20 = .ok (.iinc 2 1, 3) := by decide +kernel
theorem dL_lifted_23 : decode cL_lifted 23 = .ok (.goto (-19), 3) := by decide +kernel
theorem dL_lifted_26 : decode cL_lifted 26 = .ok (.iload_n 1, 1) := by decide +kernel
theorem dL_lifted_27 : decode cL_lifted 27 = .ok (.ireturn, 1) := by decide +kernel
theorem dL_through_0 : decode cL_through 0 = .ok (.aload_n 0, 1) := by decide +kernel
theorem dL_through_1 : decode cL_through 1 = .ok (.iload_n 1, 1) := by decide +kernel
theorem dL_through_2 : decode cL_through 2 = .ok (.invokevirtual 71, 3) := by decide +kernel
theorem dL_through_5 : decode cL_through 5 = .ok (.aload_n 0, 1) := by decide +kernel
theorem dL_through_6 : decode cL_through 6 = .ok (.iload_n 1, 1) := by decide +kernel
theorem dL_through_7 : decode cL_through 7 = .ok (.invokevirtual 74, 3) := by decide +kernel
theorem dL_through_10 : decode cL_through 10 = .ok (.iadd, 1) := by decide +kernel
theorem dL_through_11 : decode cL_through 11 = .ok (.aload_n 0, 1) := by decide +kernel
theorem dL_through_12 : decode cL_through 12 = .ok (.iload_n 1, 1) := by decide +kernel
theorem dL_through_13 : decode cL_through 13 = .ok (.invokevirtual 69, 3) := by decide +kernel
theorem dL_through_16 : decode cL_through 16 = .ok (.iadd, 1) := by decide +kernel
theorem dL_through_17 : decode cL_through 17 = .ok (.aload_n 0, 1) := by decide +kernel
theorem dL_through_18 : decode cL_through 18 = .ok (.iload_n 1, 1) := by decide +kernel
theorem dL_through_19 : decode cL_through 19 = .ok (.invokevirtual 33, 3) := by decide +kernel
theorem dL_through_22 : decode cL_through 22 = .ok (.iadd, 1) := by decide +kernel
theorem dL_through_23 : decode cL_through 23 = .ok (.ireturn, 1) := by decide +kernel
theorem dL_isBalanced_0 : decode cL_isBalanced 0 = .ok (.aload_n 0, 1) := by decide +kernel
theorem dL_isBalanced_1 : decode cL_isBalanced 1 = .ok (.invokevirtual 77, 3) := by decide +kernel
theorem dL_isBalanced_4 : decode cL_isBalanced 4 = .ok (.aload_n 0, 1) := by decide +kernel
theorem dL_isBalanced_5 : decode cL_isBalanced 5 = .ok (.invokevirtual 80, 3) := by decide +kernel
theorem dL_isBalanced_8 : decode cL_isBalanced 8 = .ok (.iadd, 1) := by decide +kernel
theorem dL_isBalanced_9 : decode cL_isBalanced 9 = .ok (.istore_n 2, 1) := by decide +kernel
theorem dL_isBalanced_10 : decode cL_isBalanced 10 = .ok (.aload_n 0, 1) := by decide +kernel
theorem dL_isBalanced_11 : decode cL_isBalanced 11 = .ok (.invokevirtual 77, 3) := by decide +kernel
theorem dL_isBalanced_14 : decode cL_isBalanced 14 = .ok (.sipush 20000, 3) := by decide +kernel
theorem dL_isBalanced_17 : decode cL_isBalanced 17 = .ok (.if_icmp .gt 7, 3) := by decide +kernel
theorem dL_isBalanced_20 : decode cL_isBalanced 20 = .ok (.iconst 1, 1) := by decide +kernel
theorem dL_isBalanced_21 : decode cL_isBalanced 21 = .ok (.goto 4, 3) := by decide +kernel
theorem dL_isBalanced_24 : decode cL_isBalanced 24 = .ok (.iconst 0, 1) := by decide +kernel
theorem dL_isBalanced_25 : decode cL_isBalanced 25 = .ok (.istore_n 3, 1) := by decide +kernel
theorem dL_isBalanced_26 : decode cL_isBalanced 26 = .ok (.iconst 0, 1) := by decide +kernel
theorem dL_isBalanced_27 : decode cL_isBalanced 27 = .ok (.istore 4, 2) := by decide +kernel
theorem dL_isBalanced_29 : decode cL_isBalanced 29 = .ok (.iload 4, 2) := by decide +kernel
theorem dL_isBalanced_31 : decode cL_isBalanced 31 = .ok (.aload_n 0, 1) := by decide +kernel
theorem dL_isBalanced_32 : decode cL_isBalanced 32 = .ok (.invokevirtual 9, 3) := by decide +kernel
theorem dL_isBalanced_35 : decode cL_isBalanced 35 = .ok (.if_icmp .ge 69, 3) := by decide +kernel
theorem dL_isBalanced_38 : decode cL_isBalanced 38 = .ok (.iload_n 2, 1) := by decide +kernel
theorem dL_isBalanced_39 : decode cL_isBalanced 39 = .ok (.aload_n 0, 1) := by decide +kernel
theorem dL_isBalanced_40 : decode cL_isBalanced 40 = .ok (.iload 4, 2) := by decide +kernel
theorem dL_isBalanced_42 : decode cL_isBalanced 42 = .ok (.invokestatic 83, 3) := by decide +kernel
theorem dL_isBalanced_45 : decode cL_isBalanced 45 = .ok (.iadd, 1) := by decide +kernel
theorem dL_isBalanced_46 : decode cL_isBalanced 46 = .ok (.istore_n 2, 1) := by decide +kernel
theorem dL_isBalanced_47 : decode cL_isBalanced 47 = .ok (.iload_n 3, 1) := by decide +kernel
theorem dL_isBalanced_48 : decode cL_isBalanced 48 = .ok (.ifCond .eq 48, 3) := by decide +kernel
theorem dL_isBalanced_51 : decode cL_isBalanced 51 = .ok (.aload_n 0, 1) := by decide +kernel
theorem dL_isBalanced_52 : decode cL_isBalanced 52 = .ok (.iload 4, 2) := by decide +kernel
theorem dL_isBalanced_54 : decode cL_isBalanced 54 = .ok (.invokevirtual 69, 3) := by decide +kernel
theorem dL_isBalanced_57 : decode cL_isBalanced 57 = .ok (.aload_n 0, 1) := by decide +kernel
theorem dL_isBalanced_58 : decode cL_isBalanced 58 = .ok (.iload 4, 2) := by decide +kernel
theorem dL_isBalanced_60 : decode cL_isBalanced 60 = .ok (.invokevirtual 43, 3) := by decide +kernel
theorem dL_isBalanced_63 : decode cL_isBalanced 63 = .ok (.aload_n 0, 1) := by decide +kernel
theorem dL_isBalanced_64 : decode cL_isBalanced 64 = .ok (.iload 4, 2) := by decide +kernel
theorem dL_isBalanced_66 : decode cL_isBalanced 66 = .ok (.invokevirtual 86, 3) := by decide +kernel
theorem dL_isBalanced_69 : decode cL_isBalanced 69 = .ok (.iadd, 1) := by decide +kernel
theorem dL_isBalanced_70 : decode cL_isBalanced 70 = .ok (.aload_n 1, 1) := by decide +kernel
theorem dL_isBalanced_71 : decode cL_isBalanced 71 = .ok (.iconst 2, 1) := by decide +kernel
theorem dL_isBalanced_72 : decode cL_isBalanced 72 = .ok (.iload 4, 2) := by decide +kernel
theorem dL_isBalanced_74 : decode cL_isBalanced 74 = .ok (.iadd, 1) := by decide +kernel
theorem dL_isBalanced_75 : decode cL_isBalanced 75 = .ok (.iaload, 1) := by decide +kernel
theorem dL_isBalanced_76 : decode cL_isBalanced 76 = .ok (.iadd, 1) := by decide +kernel
theorem dL_isBalanced_77 : decode cL_isBalanced 77 = .ok (.if_icmp .ne 19, 3) := by decide +kernel
theorem dL_isBalanced_80 : decode cL_isBalanced 80 = .ok (.aload_n 0, 1) := by decide +kernel
theorem dL_isBalanced_81 : decode cL_isBalanced 81 = .ok (.iload 4, 2) := by decide +kernel
theorem dL_isBalanced_83 : decode cL_isBalanced 83 = .ok (.invokevirtual 43, 3) := by decide +kernel
theorem dL_isBalanced_86 : decode cL_isBalanced 86 = .ok (.sipush 30000, 3) := by decide +kernel
theorem dL_isBalanced_89 : decode cL_isBalanced 89 = .ok (.if_icmp .gt 7, 3) := by decide +kernel
theorem dL_isBalanced_92 : decode cL_isBalanced 92 = .ok (.iconst 1, 1) := by decide +kernel
theorem dL_isBalanced_93 : decode cL_isBalanced 93 = .ok (.goto 4, 3) := by decide +kernel
theorem dL_isBalanced_96 : decode cL_isBalanced 96 = .ok (.iconst 0, 1) := by decide +kernel
theorem dL_isBalanced_97 : decode cL_isBalanced 97 = .ok (.istore_n 3, 1) := by decide +kernel
theorem dL_isBalanced_98 : decode cL_isBalanced 98 = .ok (.iinc 4 1, 3) := by decide +kernel
theorem dL_isBalanced_101 : decode cL_isBalanced 101 = .ok (.goto (-72), 3) := by decide +kernel
theorem dL_isBalanced_104 : decode cL_isBalanced 104 = .ok (.iload_n 3, 1) := by decide +kernel
theorem dL_isBalanced_105 : decode cL_isBalanced 105 = .ok (.ifCond .eq 14, 3) := by decide +kernel
theorem dL_isBalanced_108 : decode cL_isBalanced 108 = .ok (.iload_n 2, 1) := by decide +kernel
theorem dL_isBalanced_109 : decode cL_isBalanced 109 = .ok (.aload_n 1, 1) := by decide +kernel
theorem dL_isBalanced_110 : decode cL_isBalanced 110 = .ok (.iconst 1, 1) := by decide +kernel
theorem dL_isBalanced_111 : decode cL_isBalanced 111 = .ok (.iaload, 1) := by decide +kernel
theorem dL_isBalanced_112 : decode cL_isBalanced 112 = .ok (.if_icmp .ne 7, 3) := by decide +kernel
theorem dL_isBalanced_115 : decode cL_isBalanced 115 = .ok (.iconst 1, 1) := by decide +kernel
theorem dL_isBalanced_116 : decode cL_isBalanced 116 = .ok (.goto 4, 3) := by decide +kernel
theorem dL_isBalanced_119 : decode cL_isBalanced 119 = .ok (.iconst 0, 1) := by decide +kernel
theorem dL_isBalanced_120 : decode cL_isBalanced 120 = .ok (.ireturn, 1) := by decide +kernel
theorem dL_isPump_0 : decode cL_isPump 0 = .ok (.aload_n 0, 1) := by decide +kernel
theorem dL_isPump_1 : decode cL_isPump 1 = .ok (.iload_n 1, 1) := by decide +kernel
theorem dL_isPump_2 : decode cL_isPump 2 = .ok (.invokevirtual 15, 3) := by decide +kernel
theorem dL_isPump_5 : decode cL_isPump 5 = .ok (.istore_n 2, 1) := by decide +kernel
theorem dL_isPump_6 : decode cL_isPump 6 = .ok (.aload_n 0, 1) := by decide +kernel
theorem dL_isPump_7 : decode cL_isPump 7 = .ok (.iload_n 1, 1) := by decide +kernel
theorem dL_isPump_8 : decode cL_isPump 8 = .ok (.invokevirtual 89, 3) := by decide +kernel
theorem dL_isPump_11 : decode cL_isPump 11 = .ok (.istore_n 3, 1) := by decide +kernel
theorem dL_isPump_12 : decode cL_isPump 12 = .ok (.iload_n 3, 1) := by decide +kernel
theorem dL_isPump_13 : decode cL_isPump 13 = .ok (.ifCond .lt 46, 3) := by decide +kernel
theorem dL_isPump_16 : decode cL_isPump 16 = .ok (.iload_n 3, 1) := by decide +kernel
theorem dL_isPump_17 : decode cL_isPump 17 = .ok (.sipush 2000, 3) := by decide +kernel
theorem dL_isPump_20 : decode cL_isPump 20 = .ok (.if_icmp .gt 39, 3) := by decide +kernel
theorem dL_isPump_23 : decode cL_isPump 23 = .ok (.iload_n 2, 1) := by decide +kernel
theorem dL_isPump_24 : decode cL_isPump 24 = .ok (.ifCond .gt 15, 3) := by decide +kernel
theorem dL_isPump_27 : decode cL_isPump 27 = .ok (.iload_n 3, 1) := by decide +kernel
theorem dL_isPump_28 : decode cL_isPump 28 = .ok (.ifCond .ne 31, 3) := by decide +kernel
theorem dL_isPump_31 : decode cL_isPump 31 = .ok (.aload_n 0, 1) := by decide +kernel
theorem dL_isPump_32 : decode cL_isPump 32 = .ok (.iload_n 1, 1) := by decide +kernel
theorem dL_isPump_33 : decode cL_isPump 33 = .ok (.invokevirtual 92, 3) := by decide +kernel
theorem dL_isPump_36 : decode cL_isPump 36 = .ok (.ifCond .ne 23, 3) := by decide +kernel
theorem dL_isPump_39 : decode cL_isPump 39 = .ok (.aload_n 0, 1) := by decide +kernel
theorem dL_isPump_40 : decode cL_isPump 40 = .ok (.iload_n 1, 1) := by decide +kernel
theorem dL_isPump_41 : decode cL_isPump 41 = .ok (.invokevirtual 33, 3) := by decide +kernel
theorem dL_isPump_44 : decode cL_isPump 44 = .ok (.ifCond .lt 15, 3) := by decide +kernel
theorem dL_isPump_47 : decode cL_isPump 47 = .ok (.aload_n 0, 1) := by decide +kernel
theorem dL_isPump_48 : decode cL_isPump 48 = .ok (.iload_n 1, 1) := by decide +kernel
theorem dL_isPump_49 : decode cL_isPump 49 = .ok (.invokevirtual 95, 3) := by decide +kernel
theorem dL_isPump_52 : decode cL_isPump 52 = .ok (.ifCond .lt 7, 3) := by decide +kernel
theorem dL_isPump_55 : decode cL_isPump 55 = .ok (.iconst 1, 1) := by decide +kernel
theorem dL_isPump_56 : decode cL_isPump 56 = .ok (.goto 4, 3) := by decide +kernel
theorem dL_isPump_59 : decode cL_isPump 59 = .ok (.iconst 0, 1) := by decide +kernel
theorem dL_isPump_60 : decode cL_isPump 60 = .ok (.istore 4, 2) := by decide +kernel
theorem dL_isPump_62 : decode cL_isPump 62 = .ok (.iconst 0, 1) := by decide +kernel
theorem dL_isPump_63 : decode cL_isPump 63 = .ok (.istore 5, 2) := by decide +kernel
theorem dL_isPump_65 : decode cL_isPump 65 = .ok (.aload_n 0, 1) := by decide +kernel
theorem dL_isPump_66 : decode cL_isPump 66 = .ok (.iload_n 1, 1) := by decide +kernel
theorem dL_isPump_67 : decode cL_isPump 67 = .ok (.iload 5, 2) := by decide +kernel
theorem dL_isPump_69 : decode cL_isPump 69 = .ok (.invokevirtual 98, 3) := by decide +kernel
theorem dL_isPump_72 : decode cL_isPump 72 = .ok (.sipush (-1005), 3) := by decide +kernel
theorem dL_isPump_75 : decode cL_isPump 75 = .ok (.if_icmp .eq 48, 3) := by decide +kernel
theorem dL_isPump_78 : decode cL_isPump 78 = .ok (.iload 4, 2) := by decide +kernel
theorem dL_isPump_80 : decode cL_isPump 80 = .ok (.ifCond .eq 31, 3) := by decide +kernel
theorem dL_isPump_83 : decode cL_isPump 83 = .ok (.aload_n 0, 1) := by decide +kernel
theorem dL_isPump_84 : decode cL_isPump 84 = .ok (.iload_n 1, 1) := by decide +kernel
theorem dL_isPump_85 : decode cL_isPump 85 = .ok (.iload 5, 2) := by decide +kernel
theorem dL_isPump_87 : decode cL_isPump 87 = .ok (.invokevirtual 98, 3) := by decide +kernel
theorem dL_isPump_90 : decode cL_isPump 90 = .ok (.bipush (-128), 2) := by decide +kernel
theorem dL_isPump_92 : decode cL_isPump 92 = .ok (.if_icmp .lt 19, 3) := by decide +kernel
theorem dL_isPump_95 : decode cL_isPump 95 = .ok (.aload_n 0, 1) := by decide +kernel
theorem dL_isPump_96 : decode cL_isPump 96 = .ok (.iload_n 1, 1) := by decide +kernel
theorem dL_isPump_97 : decode cL_isPump 97 = .ok (.iload 5, 2) := by decide +kernel
theorem dL_isPump_99 : decode cL_isPump 99 = .ok (.invokevirtual 98, 3) := by decide +kernel
theorem dL_isPump_102 : decode cL_isPump 102 = .ok (.bipush 127, 2) := by decide +kernel
theorem dL_isPump_104 : decode cL_isPump 104 = .ok (.if_icmp .gt 7, 3) := by decide +kernel
theorem dL_isPump_107 : decode cL_isPump 107 = .ok (.iconst 1, 1) := by decide +kernel
theorem dL_isPump_108 : decode cL_isPump 108 = .ok (.goto 4, 3) := by decide +kernel
theorem dL_isPump_111 : decode cL_isPump 111 = .ok (.iconst 0, 1) := by decide +kernel
theorem dL_isPump_112 : decode cL_isPump 112 = .ok (.istore 4, 2) := by decide +kernel
theorem dL_isPump_114 : decode cL_isPump 114 = .ok (.iload 5, 2) := by decide +kernel
theorem dL_isPump_116 : decode cL_isPump 116 = .ok (.iconst 1, 1) := by decide +kernel
theorem dL_isPump_117 : decode cL_isPump 117 = .ok (.iadd, 1) := by decide +kernel
theorem dL_isPump_118 : decode cL_isPump 118 = .ok (.istore 5, 2) := by decide +kernel
theorem dL_isPump_120 : decode cL_isPump 120 = .ok (.goto (-55), 3) := by decide +kernel
theorem dL_isPump_123 : decode cL_isPump 123 = .ok (.iconst 0, 1) := by decide +kernel
theorem dL_isPump_124 : decode cL_isPump 124 = .ok (.istore 6, 2) := by decide +kernel
theorem dL_isPump_126 : decode cL_isPump 126 = .ok (.aload_n 0, 1) := by decide +kernel
theorem dL_isPump_127 : decode cL_isPump 127 = .ok (.iload_n 1, 1) := by decide +kernel
theorem dL_isPump_128 : decode cL_isPump 128 = .ok (.iload 6, 2) := by decide +kernel
theorem dL_isPump_130 : decode cL_isPump 130 = .ok (.invokevirtual 101, 3) := by decide +kernel
theorem dL_isPump_133 : decode cL_isPump 133 = .ok (.sipush (-1005), 3) := by decide +kernel
theorem dL_isPump_136 : decode cL_isPump 136 = .ok (.if_icmp .eq 34, 3) := by decide +kernel
theorem dL_isPump_139 : decode cL_isPump 139 = .ok (.iload 4, 2) := by decide +kernel
theorem dL_isPump_141 : decode cL_isPump 141 = .ok (.ifCond .eq 17, 3) := by decide +kernel
theorem dL_isPump_144 : decode cL_isPump 144 = .ok (.aload_n 0, 1) := by decide +kernel
theorem dL_isPump_145 : decode cL_isPump 145 = .ok (.iload_n 1, 1) := by decide +kernel
theorem dL_isPump_146 : decode cL_isPump 146 = .ok (.iload 6, 2) := by decide +kernel
theorem dL_isPump_148 : decode cL_isPump 148 = .ok (.invokevirtual 101, 3) := by decide +kernel
theorem dL_isPump_151 : decode cL_isPump 151 = .ok (.ifCond .lt 7, 3) := by decide +kernel
theorem dL_isPump_154 : decode cL_isPump 154 = .ok (.iconst 1, 1) := by decide +kernel
theorem dL_isPump_155 : decode cL_isPump 155 = .ok (.goto 4, 3) := by decide +kernel
theorem dL_isPump_158 : decode cL_isPump 158 = .ok (.iconst 0, 1) := by decide +kernel
theorem dL_isPump_159 : decode cL_isPump 159 = .ok (.istore 4, 2) := by decide +kernel
theorem dL_isPump_161 : decode cL_isPump 161 = .ok (.iload 6, 2) := by decide +kernel
theorem dL_isPump_163 : decode cL_isPump 163 = .ok (.iconst 1, 1) := by decide +kernel
theorem dL_isPump_164 : decode cL_isPump 164 = .ok (.iadd, 1) := by decide +kernel
theorem dL_isPump_165 : decode cL_isPump 165 = .ok (.istore 6, 2) := by decide +kernel
theorem dL_isPump_167 : decode cL_isPump 167 = .ok (.goto (-41), 3) := by decide +kernel
theorem dL_isPump_170 : decode cL_isPump 170 = .ok (.aload_n 0, 1) := by decide +kernel
theorem dL_isPump_171 : decode cL_isPump 171 = .ok (.iload_n 1, 1) := by decide +kernel
theorem dL_isPump_172 : decode cL_isPump 172 = .ok (.invokevirtual 71, 3) := by decide +kernel
theorem dL_isPump_175 : decode cL_isPump 175 = .ok (.aload_n 0, 1) := by decide +kernel
theorem dL_isPump_176 : decode cL_isPump 176 = .ok (.iload_n 1, 1) := by decide +kernel
theorem dL_isPump_177 : decode cL_isPump 177 = .ok (.invokevirtual 74, 3) := by decide +kernel
theorem dL_isPump_180 : decode cL_isPump 180 = .ok (.iadd, 1) := by decide +kernel
theorem dL_isPump_181 : decode cL_isPump 181 = .ok (.aload_n 0, 1) := by decide +kernel
theorem dL_isPump_182 : decode cL_isPump 182 = .ok (.iload_n 1, 1) := by decide +kernel
theorem dL_isPump_183 : decode cL_isPump 183 = .ok (.invokevirtual 69, 3) := by decide +kernel
theorem dL_isPump_186 : decode cL_isPump 186 = .ok (.iadd, 1) := by decide +kernel
theorem dL_isPump_187 : decode cL_isPump 187 = .ok (.istore 7, 2) := by decide +kernel
theorem dL_isPump_189 : decode cL_isPump 189 = .ok (.iload 4, 2) := by decide +kernel
theorem dL_isPump_191 : decode cL_isPump 191 = .ok (.ifCond .eq 66, 3) := by decide +kernel
theorem dL_isPump_194 : decode cL_isPump 194 = .ok (.iload 5, 2) := by decide +kernel
theorem dL_isPump_196 : decode cL_isPump 196 = .ok (.bipush 32, 2) := by decide +kernel
theorem dL_isPump_198 : decode cL_isPump 198 = .ok (.if_icmp .gt 59, 3) := by decide +kernel
theorem dL_isPump_201 : decode cL_isPump 201 = .ok (.iload 6, 2) := by decide +kernel
theorem dL_isPump_203 : decode cL_isPump 203 = .ok (.aload_n 0, 1) := by decide +kernel
theorem dL_isPump_204 : decode cL_isPump 204 = .ok (.iload_n 1, 1) := by decide +kernel
theorem dL_isPump_205 : decode cL_isPump 205 = .ok (.invokevirtual 104, 3) := by decide +kernel
theorem dL_isPump_208 : decode cL_isPump 208 = .ok (.bipush 16, 2) := by decide +kernel
theorem dL_isPump_210 : decode cL_isPump 210 = .ok (.if_icmp .ge 11, 3) := by decide +kernel
theorem dL_isPump_213 : decode cL_isPump 213 = .ok (.aload_n 0, 1) := by decide +kernel
theorem dL_isPump_214 : decode cL_isPump 214 = .ok (.iload_n 1, 1) := by decide +kernel
theorem dL_isPump_215 : decode cL_isPump 215 = .ok (.invokevirtual 104, 3) := by decide +kernel
theorem dL_isPump_218 : decode cL_isPump 218 = .ok (.goto 5, 3) := by decide +kernel
theorem dL_isPump_221 : decode cL_isPump 221 = .ok (.bipush 16, 2) := by decide +kernel
theorem dL_isPump_223 : decode cL_isPump 223 = .ok (.if_icmp .ne 34, 3) := by decide +kernel
theorem dL_isPump_226 : decode cL_isPump 226 = .ok (.iload 7, 2) := by decide +kernel
theorem dL_isPump_228 : decode cL_isPump 228 = .ok (.ifCond .ne 17, 3) := by decide +kernel
theorem dL_isPump_231 : decode cL_isPump 231 = .ok (.aload_n 0, 1) := by decide +kernel
theorem dL_isPump_232 : decode cL_isPump 232 = .ok (.iload_n 1, 1) := by decide +kernel
theorem dL_isPump_233 : decode cL_isPump 233 = .ok (.invokevirtual 107, 3) := by decide +kernel
theorem dL_isPump_236 : decode cL_isPump 236 = .ok (.sipush (-1005), 3) := by decide +kernel
theorem dL_isPump_239 : decode cL_isPump 239 = .ok (.if_icmp .ne 18, 3) := by decide +kernel
theorem dL_isPump_242 : decode cL_isPump 242 = .ok (.goto 11, 3) := by decide +kernel
theorem dL_isPump_245 : decode cL_isPump 245 = .ok (.aload_n 0, 1) := by decide +kernel
theorem dL_isPump_246 : decode cL_isPump 246 = .ok (.iload_n 1, 1) := by decide +kernel
theorem dL_isPump_247 : decode cL_isPump 247 = .ok (.invokevirtual 107, 3) := by decide +kernel
theorem dL_isPump_250 : decode cL_isPump 250 = .ok (.ifCond .lt 7, 3) := by decide +kernel
theorem dL_isPump_253 : decode cL_isPump 253 = .ok (.iconst 1, 1) := by decide +kernel
theorem dL_isPump_254 : decode cL_isPump 254 = .ok (.goto 4, 3) := by decide +kernel
theorem dL_isPump_257 : decode cL_isPump 257 = .ok (.iconst 0, 1) := by decide +kernel
theorem dL_isPump_258 : decode cL_isPump 258 = .ok (.ireturn, 1) := by decide +kernel
theorem dL_isForetold_0 : decode cL_isForetold 0 = .ok (.aload_n 0, 1) := by decide +kernel
theorem dL_isForetold_1 : decode cL_isForetold 1 = .ok (.invokevirtual 59, 3) := by decide +kernel
theorem dL_isForetold_4 : decode cL_isForetold 4 = .ok (.istore_n 3, 1) := by decide +kernel
theorem dL_isForetold_5 : decode cL_isForetold 5 = .ok (.aload_n 0, 1) := by decide +kernel
theorem dL_isForetold_6 : decode cL_isForetold 6 = .ok (.invokevirtual 77, 3) := by decide +kernel
theorem dL_isForetold_9 : decode cL_isForetold 9 = .ok (.istore 4, 2) := by decide +kernel
theorem dL_isForetold_11 : decode cL_isForetold 11 = .ok (.aload_n 0, 1) := by decide +kernel
theorem dL_isForetold_12 : decode cL_isForetold 12 = .ok (.iload_n 1, 1) := by decide +kernel
theorem dL_isForetold_13 : decode cL_isForetold 13 = .ok (.invokevirtual 69, 3) := by decide +kernel
theorem dL_isForetold_16 : decode cL_isForetold 16 = .ok (.istore 5, 2) := by decide +kernel
theorem dL_isForetold_18 : decode cL_isForetold 18 = .ok (.aload_n 0, 1) := by decide +kernel
theorem dL_isForetold_19 : decode cL_isForetold 19 = .ok (.iload_n 1, 1) := by decide +kernel
theorem dL_isForetold_20 : decode cL_isForetold 20 = .ok (.invokevirtual 104, 3) := by decide +kernel
theorem dL_isForetold_23 : decode cL_isForetold 23 = .ok (.istore 6, 2) := by decide +kernel
theorem dL_isForetold_25 : decode cL_isForetold 25 = .ok (.aload_n 0, 1) := by decide +kernel
theorem dL_isForetold_26 : decode cL_isForetold 26 = .ok (.iload_n 1, 1) := by decide +kernel
theorem dL_isForetold_27 : decode cL_isForetold 27 = .ok (.invokevirtual 110, 3) := by decide +kernel
theorem dL_isForetold_30 : decode cL_isForetold 30 = .ok (.istore 7, 2) := by decide +kernel
theorem dL_isForetold_32 : decode cL_isForetold 32 = .ok (.aload_n 0, 1) := by decide +kernel
theorem dL_isForetold_33 : decode cL_isForetold 33 = .ok (.iload_n 1, 1) := by decide +kernel
theorem dL_isForetold_34 : decode cL_isForetold 34 = .ok (.invokestatic 83, 3) := by decide +kernel
theorem dL_isForetold_37 : decode cL_isForetold 37 = .ok (.istore 8, 2) := by decide +kernel
theorem dL_isForetold_39 : decode cL_isForetold 39 = .ok (.aload_n 0, 1) := by decide +kernel
theorem dL_isForetold_40 : decode cL_isForetold 40 = .ok (.iload_n 1, 1) := by decide +kernel
theorem dL_isForetold_41 : decode cL_isForetold 41 = .ok (.invokevirtual 113, 3) := by decide +kernel
theorem dL_isForetold_44 : decode cL_isForetold 44 = .ok (.istore 9, 2) := by decide +kernel
theorem dL_isForetold_46 : decode cL_isForetold 46 = .ok (.aload_n 0, 1) := by decide +kernel
theorem dL_isForetold_47 : decode cL_isForetold 47 = .ok (.iload_n 1, 1) := by decide +kernel
theorem dL_isForetold_48 : decode cL_isForetold 48 = .ok (.iload_n 2, 1) := by decide +kernel
theorem dL_isForetold_49 : decode cL_isForetold 49 = .ok (.invokevirtual 116, 3) := by decide +kernel
theorem dL_isForetold_52 : decode cL_isForetold 52 = .ok (.istore 10, 2) := by decide +kernel
theorem dL_isForetold_54 : decode cL_isForetold 54 = .ok (.aload_n 0, 1) := by decide +kernel
theorem dL_isForetold_55 : decode cL_isForetold 55 = .ok (.iload_n 1, 1) := by decide +kernel
theorem dL_isForetold_56 : decode cL_isForetold 56 = .ok (.iload_n 2, 1) := by decide +kernel
theorem dL_isForetold_57 : decode cL_isForetold 57 = .ok (.invokevirtual 119, 3) := by decide +kernel
theorem dL_isForetold_60 : decode cL_isForetold 60 = .ok (.istore 11, 2) := by decide +kernel
theorem dL_isForetold_62 : decode cL_isForetold 62 = .ok (.aload_n 0, 1) := by decide +kernel
theorem dL_isForetold_63 : decode cL_isForetold 63 = .ok (.iload_n 2, 1) := by decide +kernel
theorem dL_isForetold_64 : decode cL_isForetold 64 = .ok (.invokevirtual 66, 3) := by decide +kernel
theorem dL_isForetold_67 : decode cL_isForetold 67 = .ok (.istore 12, 2) := by decide +kernel
theorem dL_isForetold_69 : decode cL_isForetold 69 = .ok (.iload 12, 2) := by decide +kernel
theorem dL_isForetold_71 : decode cL_isForetold 71 = .ok (.aload_n 0, 1) := by decide +kernel
theorem dL_isForetold_72 : decode cL_isForetold 72 = .ok (.iload_n 1, 1) := by decide +kernel
theorem dL_isForetold_73 : decode cL_isForetold 73 = .ok (.invokevirtual 69, 3) := by decide +kernel
theorem dL_isForetold_76 : decode cL_isForetold 76 = .ok (.iload 5, 2) := by decide +kernel
theorem dL_isForetold_78 : decode cL_isForetold 78 = .ok (.isub, 1) := by decide +kernel
theorem dL_isForetold_79 : decode cL_isForetold 79 = .ok (.if_icmp .ne 7, 3) := by decide +kernel
theorem dL_isForetold_82 : decode cL_isForetold 82 = .ok (.iconst 1, 1) := by decide +kernel
theorem dL_isForetold_83 : decode cL_isForetold 83 = .ok (.goto 4, 3) := by decide +kernel
theorem dL_isForetold_86 : decode cL_isForetold 86 = .ok (.iconst 0, 1) := by decide +kernel
theorem dL_isForetold_87 : decode cL_isForetold 87 = .ok (.istore 13, 2) := by decide +kernel
theorem dL_isForetold_89 : decode cL_isForetold 89 = .ok (.aload_n 0, 1) := by decide +kernel
theorem dL_isForetold_90 : decode cL_isForetold 90 = .ok (.iload_n 1, 1) := by decide +kernel
theorem dL_isForetold_91 : decode cL_isForetold 91 = .ok (.invokevirtual 110, 3) := by decide +kernel
theorem dL_isForetold_94 : decode cL_isForetold 94 = .ok (.iload 7, 2) := by decide +kernel
theorem dL_isForetold_96 : decode cL_isForetold 96 = .ok (.if_icmp .ne 69, 3) := by decide +kernel
theorem dL_isForetold_99 : decode cL_isForetold 99 = .ok (.iload 13, 2) := by decide +kernel
theorem dL_isForetold_101 : decode cL_isForetold 101 = .ok (.ifCond .eq 61, 3) := by decide +kernel
theorem dL_isForetold_104 : decode cL_isForetold 104 = .ok (.iload 12, 2) := by decide +kernel
theorem dL_isForetold_106 : decode cL_isForetold 106 = .ok (.iload 10, 2) := by decide +kernel
theorem dL_isForetold_108 : decode cL_isForetold 108 = .ok (.if_icmp .ne 54, 3) := by decide +kernel
theorem dL_isForetold_111 : decode cL_isForetold 111 = .ok (.aload_n 0, 1) := by decide +kernel
theorem dL_isForetold_112 : decode cL_isForetold 112 = .ok (.iload_n 1, 1) := by decide +kernel
theorem dL_isForetold_113 : decode cL_isForetold 113 = .ok (.invokestatic 83, 3) := by decide +kernel
theorem dL_isForetold_116 : decode cL_isForetold 116 = .ok (.iload 8, 2) := by decide +kernel
theorem dL_isForetold_118 : decode cL_isForetold 118 = .ok (.isub, 1) := by decide +kernel
theorem dL_isForetold_119 : decode cL_isForetold 119 = .ok (.iload 11, 2) := by decide +kernel
theorem dL_isForetold_121 : decode cL_isForetold 121 = .ok (.if_icmp .ne 41, 3) := by decide +kernel
theorem dL_isForetold_124 : decode cL_isForetold 124 = .ok (.aload_n 0, 1) := by decide +kernel
theorem dL_isForetold_125 : decode cL_isForetold 125 = .ok (.iload_n 1, 1) := by decide +kernel
theorem dL_isForetold_126 : decode cL_isForetold 126 = .ok (.invokevirtual 104, 3) := by decide +kernel
theorem dL_isForetold_129 : decode cL_isForetold 129 = .ok (.iload 6, 2) := by decide +kernel
theorem dL_isForetold_131 : decode cL_isForetold 131 = .ok (.if_icmp .le 7, 3) := by decide +kernel
theorem dL_isForetold_134 : decode cL_isForetold 134 = .ok (.iconst 1, 1) := by decide +kernel
theorem dL_isForetold_135 : decode cL_isForetold 135 = .ok (.goto 4, 3) := by decide +kernel
theorem dL_isForetold_138 : decode cL_isForetold 138 = .ok (.iconst 0, 1) := by decide +kernel
theorem dL_isForetold_139 : decode cL_isForetold 139 = .ok (.iload 9, 2) := by decide +kernel
theorem dL_isForetold_141 : decode cL_isForetold 141 = .ok (.ifCond .le 13, 3) := by decide +kernel
theorem dL_isForetold_144 : decode cL_isForetold 144 = .ok (.iload 9, 2) := by decide +kernel
theorem dL_isForetold_146 : decode cL_isForetold 146 = .ok (.iload_n 2, 1) := by decide +kernel
theorem dL_isForetold_147 : decode cL_isForetold 147 = .ok (.if_icmp .gt 7, 3) := by decide +kernel
theorem dL_isForetold_150 : decode cL_isForetold 150 = .ok (.iconst 1, 1) := by decide +kernel
theorem dL_isForetold_151 : decode cL_isForetold 151 = .ok (.goto 4, 3) := by decide +kernel
theorem dL_isForetold_154 : decode cL_isForetold 154 = .ok (.iconst 0, 1) := by decide +kernel
theorem dL_isForetold_155 : decode cL_isForetold 155 = .ok (.if_icmp .ne 7, 3) := by decide +kernel
theorem dL_isForetold_158 : decode cL_isForetold 158 = .ok (.iconst 1, 1) := by decide +kernel
theorem dL_isForetold_159 : decode cL_isForetold 159 = .ok (.goto 4, 3) := by decide +kernel
theorem dL_isForetold_162 : decode cL_isForetold 162 = .ok (.iconst 0, 1) := by decide +kernel
theorem dL_isForetold_163 : decode cL_isForetold 163 = .ok (.istore 13, 2) := by decide +kernel
theorem dL_isForetold_165 : decode cL_isForetold 165 = .ok (.aload_n 0, 1) := by decide +kernel
theorem dL_isForetold_166 : decode cL_isForetold 166 = .ok (.invokevirtual 122, 3) := by decide +kernel
theorem dL_isForetold_169 : decode cL_isForetold 169 = .ok (.ifCond .lt 49, 3) := by decide +kernel
theorem dL_isForetold_172 : decode cL_isForetold 172 = .ok (.iload 13, 2) := by decide +kernel
theorem dL_isForetold_174 : decode cL_isForetold 174 = .ok (.ifCond .eq 44, 3) := by decide +kernel
theorem dL_isForetold_177 : decode cL_isForetold 177 = .ok (.aload_n 0, 1) := by decide +kernel
theorem dL_isForetold_178 : decode cL_isForetold 178 = .ok (.invokevirtual 59, 3) := by decide +kernel
theorem dL_isForetold_181 : decode cL_isForetold 181 = .ok (.iload_n 3, 1) := by decide +kernel
theorem dL_isForetold_182 : decode cL_isForetold 182 = .ok (.if_icmp .ne 36, 3) := by decide +kernel
theorem dL_isForetold_185 : decode cL_isForetold 185 = .ok (.aload_n 0, 1) := by decide +kernel
theorem dL_isForetold_186 : decode cL_isForetold 186 = .ok (.invokevirtual 77, 3) := by decide +kernel
theorem dL_isForetold_189 : decode cL_isForetold 189 = .ok (.iload 4, 2) := by decide +kernel
theorem dL_isForetold_191 : decode cL_isForetold 191 = .ok (.if_icmp .ne 27, 3) := by decide +kernel
theorem dL_isForetold_194 : decode cL_isForetold 194 = .ok (.aload_n 0, 1) := by decide +kernel
theorem dL_isForetold_195 : decode cL_isForetold 195 = .ok (.iload_n 1, 1) := by decide +kernel
theorem dL_isForetold_196 : decode cL_isForetold 196 = .ok (.invokevirtual 69, 3) := by decide +kernel
theorem dL_isForetold_199 : decode cL_isForetold 199 = .ok (.iload 5, 2) := by decide +kernel
theorem dL_isForetold_201 : decode cL_isForetold 201 = .ok (.if_icmp .ne 17, 3) := by decide +kernel
theorem dL_isForetold_204 : decode cL_isForetold 204 = .ok (.aload_n 0, 1) := by decide +kernel
theorem dL_isForetold_205 : decode cL_isForetold 205 = .ok (.iload_n 1, 1) := by decide +kernel
theorem dL_isForetold_206 : decode cL_isForetold 206 = .ok (.invokevirtual 104, 3) := by decide +kernel
theorem dL_isForetold_209 : decode cL_isForetold 209 = .ok (.iload 6, 2) := by decide +kernel
theorem dL_isForetold_211 : decode cL_isForetold 211 = .ok (.if_icmp .ne 7, 3) := by decide +kernel
theorem dL_isForetold_214 : decode cL_isForetold 214 = .ok (.iconst 1, 1) := by decide +kernel
theorem dL_isForetold_215 : decode cL_isForetold 215 = .ok (.goto 4, 3) := by decide +kernel
theorem dL_isForetold_218 : decode cL_isForetold 218 = .ok (.iconst 0, 1) := by decide +kernel
theorem dL_isForetold_219 : decode cL_isForetold 219 = .ok (.ireturn, 1) := by decide +kernel
theorem dL_isBest_0 : decode cL_isBest 0 = .ok (.sipush (-1005), 3) := by decide +kernel
theorem dL_isBest_3 : decode cL_isBest 3 = .ok (.istore_n 1, 1) := by decide +kernel
theorem dL_isBest_4 : decode cL_isBest 4 = .ok (.aload_n 0, 1) := by decide +kernel
theorem dL_isBest_5 : decode cL_isBest 5 = .ok (.invokevirtual 9, 3) := by decide +kernel
theorem dL_isBest_8 : decode cL_isBest 8 = .ok (.iconst 1, 1) := by decide +kernel
theorem dL_isBest_9 : decode cL_isBest 9 = .ok (.isub, 1) := by decide +kernel
theorem dL_isBest_10 : decode cL_isBest 10 = .ok (.istore_n 2, 1) := by decide +kernel
theorem dL_isBest_11 : decode cL_isBest 11 = .ok (.iload_n 2, 1) := by decide +kernel
theorem dL_isBest_12 : decode cL_isBest 12 = .ok (.ifCond .lt 46, 3) := by decide +kernel
theorem dL_isBest_15 : decode cL_isBest 15 = .ok (.aload_n 0, 1) := by decide +kernel
theorem dL_isBest_16 : decode cL_isBest 16 = .ok (.iload_n 2, 1) := by decide +kernel
theorem dL_isBest_17 : decode cL_isBest 17 = .ok (.invokevirtual 107, 3) := by decide +kernel
theorem dL_isBest_20 : decode cL_isBest 20 = .ok (.sipush (-1005), 3) := by decide +kernel
theorem dL_isBest_23 : decode cL_isBest 23 = .ok (.if_icmp .eq 27, 3) := by decide +kernel
theorem dL_isBest_26 : decode cL_isBest 26 = .ok (.iload_n 1, 1) := by decide +kernel
theorem dL_isBest_27 : decode cL_isBest 27 = .ok (.sipush (-1005), 3) := by decide +kernel
theorem dL_isBest_30 : decode cL_isBest 30 = .ok (.if_icmp .eq 16, 3) := by decide +kernel
theorem dL_isBest_33 : decode cL_isBest 33 = .ok (.aload_n 0, 1) := by decide +kernel
theorem dL_isBest_34 : decode cL_isBest 34 = .ok (.iload_n 2, 1) := by decide +kernel
theorem dL_isBest_35 : decode cL_isBest 35 = .ok (.invokevirtual 107, 3) := by decide +kernel
theorem dL_isBest_38 : decode cL_isBest 38 = .ok (.aload_n 0, 1) := by decide +kernel
theorem dL_isBest_39 : decode cL_isBest 39 = .ok (.iload_n 1, 1) := by decide +kernel
theorem dL_isBest_40 : decode cL_isBest 40 = .ok (.invokevirtual 107, 3) := by decide +kernel
theorem dL_isBest_43 : decode cL_isBest 43 = .ok (.if_icmp .lt 7, 3) := by decide +kernel
theorem dL_isBest_46 : decode cL_isBest 46 = .ok (.iload_n 2, 1) := by decide +kernel
theorem dL_isBest_47 : decode cL_isBest 47 = .ok (.goto 4, 3) := by decide +kernel
theorem dL_isBest_50 : decode cL_isBest 50 = .ok (.iload_n 1, 1) := by decide +kernel
theorem dL_isBest_51 : decode cL_isBest 51 = .ok (.istore_n 1, 1) := by decide +kernel
theorem dL_isBest_52 : decode cL_isBest 52 = .ok (.iinc 2 (-1), 3) := by decide +kernel
theorem dL_isBest_55 : decode cL_isBest 55 = .ok (.goto (-44), 3) := by decide +kernel
theorem dL_isBest_58 : decode cL_isBest 58 = .ok (.aload_n 0, 1) := by decide +kernel
theorem dL_isBest_59 : decode cL_isBest 59 = .ok (.invokevirtual 125, 3) := by decide +kernel
theorem dL_isBest_62 : decode cL_isBest 62 = .ok (.iload_n 1, 1) := by decide +kernel
theorem dL_isBest_63 : decode cL_isBest 63 = .ok (.if_icmp .ne 7, 3) := by decide +kernel
theorem dL_isBest_66 : decode cL_isBest 66 = .ok (.iconst 1, 1) := by decide +kernel
theorem dL_isBest_67 : decode cL_isBest 67 = .ok (.goto 4, 3) := by decide +kernel
theorem dL_isBest_70 : decode cL_isBest 70 = .ok (.iconst 0, 1) := by decide +kernel
theorem dL_isBest_71 : decode cL_isBest 71 = .ok (.ireturn, 1) := by decide +kernel
