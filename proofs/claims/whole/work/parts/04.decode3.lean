theorem dX9_tick_116 : decode cX9_tick 116 = .ok (.iload_n 3, 1) := by decide +kernel
theorem dX9_tick_117 : decode cX9_tick 117 = .ok (.invokevirtual 88, 3) := by decide +kernel
theorem dX9_tick_120 : decode cX9_tick 120 = .ok (.aload_n 0, 1) := by decide +kernel
theorem dX9_tick_121 : decode cX9_tick 121 = .ok (.iload_n 1, 1) := by decide +kernel
theorem dX9_tick_122 : decode cX9_tick 122 = .ok (.iload_n 2, 1) := by decide +kernel
theorem dX9_tick_123 : decode cX9_tick 123 = .ok (.invokevirtual 91, 3) := by decide +kernel
theorem dX9_tick_126 : decode cX9_tick 126 = .ok (.iload_n 2, 1) := by decide +kernel
theorem dX9_tick_127 : decode cX9_tick 127 = .ok (.ifCond .lt 8, 3) := by decide +kernel
theorem dX9_tick_130 : decode cX9_tick 130 = .ok (.aload_n 0, 1) := by decide +kernel
theorem dX9_tick_131 : decode cX9_tick 131 = .ok (.iload_n 1, 1) := by decide +kernel
theorem dX9_tick_132 : decode cX9_tick 132 = .ok (.invokevirtual 94, 3) := by decide +kernel
theorem dX9_tick_135 : decode cX9_tick 135 = .ok (.return_, 1) := by decide +kernel
theorem dX9_fill_0 : decode cX9_fill 0 = .ok (.aload_n 0, 1) := by decide +kernel
theorem dX9_fill_1 : decode cX9_fill 1 = .ok (.getfield 7, 3) := by decide +kernel
theorem dX9_fill_4 : decode cX9_fill 4 = .ok (.iconst 0, 1) := by decide +kernel
theorem dX9_fill_5 : decode cX9_fill 5 = .ok (.dup2, 1) := by decide +kernel
theorem dX9_fill_6 : decode cX9_fill 6 = .ok (.iaload, 1) := by decide +kernel
theorem dX9_fill_7 : decode cX9_fill 7 = .ok (.iload_n 1, 1) := by decide +kernel
theorem dX9_fill_8 : decode cX9_fill 8 = .ok (.iadd, 1) := by decide +kernel
theorem dX9_fill_9 : decode cX9_fill 9 = .ok (.iastore, 1) := by decide +kernel
theorem dX9_fill_10 : decode cX9_fill 10 = .ok (.aload_n 0, 1) := by decide +kernel
theorem dX9_fill_11 : decode cX9_fill 11 = .ok (.getfield 7, 3) := by decide +kernel
theorem dX9_fill_14 : decode cX9_fill 14 = .ok (.iconst 0, 1) := by decide +kernel
theorem dX9_fill_15 : decode cX9_fill 15 = .ok (.iaload, 1) := by decide +kernel
theorem dX9_fill_16 : decode cX9_fill 16 = .ok (.sipush 20000, 3) := by decide +kernel
theorem dX9_fill_19 : decode cX9_fill 19 = .ok (.if_icmp .le 31, 3) := by decide +kernel
theorem dX9_fill_22 : decode cX9_fill 22 = .ok (.aload_n 0, 1) := by decide +kernel
theorem dX9_fill_23 : decode cX9_fill 23 = .ok (.getfield 7, 3) := by decide +kernel
theorem dX9_fill_26 : decode cX9_fill 26 = .ok (.iconst 3, 1) := by decide +kernel
theorem dX9_fill_27 : decode cX9_fill 27 = .ok (.dup2, 1) := by decide +kernel
theorem dX9_fill_28 : decode cX9_fill 28 = .ok (.iaload, 1) := by decide +kernel
theorem dX9_fill_29 : decode cX9_fill 29 = .ok (.aload_n 0, 1) := by decide +kernel
theorem dX9_fill_30 : decode cX9_fill 30 = .ok (.getfield 7, 3) := by decide +kernel
theorem dX9_fill_33 : decode cX9_fill 33 = .ok (.iconst 0, 1) := by decide +kernel
theorem dX9_fill_34 : decode cX9_fill 34 = .ok (.iaload, 1) := by decide +kernel
theorem dX9_fill_35 : decode cX9_fill 35 = .ok (.sipush 20000, 3) := by decide +kernel
theorem dX9_fill_38 : decode cX9_fill 38 = .ok (.isub, 1) := by decide +kernel
theorem dX9_fill_39 : decode cX9_fill 39 = .ok (.iadd, 1) := by decide +kernel
theorem dX9_fill_40 : decode cX9_fill 40 = .ok (.iastore, 1) := by decide +kernel
theorem dX9_fill_41 : decode cX9_fill 41 = .ok (.aload_n 0, 1) := by decide +kernel
theorem dX9_fill_42 : decode cX9_fill 42 = .ok (.getfield 7, 3) := by decide +kernel
theorem dX9_fill_45 : decode cX9_fill 45 = .ok (.iconst 0, 1) := by decide +kernel
theorem dX9_fill_46 : decode cX9_fill 46 = .ok (.sipush 20000, 3) := by decide +kernel
theorem dX9_fill_49 : decode cX9_fill 49 = .ok (.iastore, 1) := by decide +kernel
theorem dX9_fill_50 : decode cX9_fill 50 = .ok (.return_, 1) := by decide +kernel
theorem dX9_passNow_0 : decode cX9_passNow 0 = .ok (.aload_n 0, 1) := by decide +kernel
theorem dX9_passNow_1 : decode cX9_passNow 1 = .ok (.iconst 0, 1) := by decide +kernel
theorem dX9_passNow_2 : decode cX9_passNow 2 = .ok (.putfield 78, 3) := by decide +kernel
theorem dX9_passNow_5 : decode cX9_passNow 5 = .ok (.iconst 0, 1) := by decide +kernel
theorem dX9_passNow_6 : decode cX9_passNow 6 = .ok (.istore_n 2, 1) := by decide +kernel
theorem dX9_passNow_7 : decode cX9_passNow 7 = .ok (.iload_n 2, 1) := by decide +kernel
theorem dX9_passNow_8 : decode cX9_passNow 8 = .ok (.iload_n 1, 1) := by decide +kernel
theorem dX9_passNow_9 : decode cX9_passNow 9 = .ok (.if_icmp .ge 71, 3) := by decide +kernel
theorem dX9_passNow_12 : decode cX9_passNow 12 = .ok (.aload_n 0, 1) := by decide +kernel
theorem dX9_passNow_13 : decode cX9_passNow 13 = .ok (.aload_n 0, 1) := by decide +kernel
theorem dX9_passNow_14 : decode cX9_passNow 14 = .ok (.getfield 7, 3) := by decide +kernel
theorem dX9_passNow_17 : decode cX9_passNow 17 = .ok (.iconst 1, 1) := by decide +kernel
theorem dX9_passNow_18 : decode cX9_passNow 18 = .ok (.iaload, 1) := by decide +kernel
theorem dX9_passNow_19 : decode cX9_passNow 19 = .ok (.invokevirtual 97, 3) := by decide +kernel
theorem dX9_passNow_22 : decode cX9_passNow 22 = .ok (.iconst 0, 1) := by decide +kernel
theorem dX9_passNow_23 : decode cX9_passNow 23 = .ok (.istore_n 3, 1) := by decide +kernel
theorem dX9_passNow_24 : decode cX9_passNow 24 = .ok (.iload_n 3, 1) := by decide +kernel
theorem dX9_passNow_25 : decode cX9_passNow 25 = .ok (.aload_n 0, 1) := by decide +kernel
theorem dX9_passNow_26 : decode cX9_passNow 26 = .ok (.getfield 7, 3) := by decide +kernel
theorem dX9_passNow_29 : decode cX9_passNow 29 = .ok (.iconst 4, 1) := by decide +kernel
theorem dX9_passNow_30 : decode cX9_passNow 30 = .ok (.iaload, 1) := by decide +kernel
theorem dX9_passNow_31 : decode cX9_passNow 31 = .ok (.if_icmp .ge 33, 3) := by decide +kernel
theorem dX9_passNow_34 : decode cX9_passNow 34 = .ok (.aload_n 0, 1) := by decide +kernel
theorem dX9_passNow_35 : decode cX9_passNow 35 = .ok (.getfield 7, 3) := by decide +kernel
theorem dX9_passNow_38 : decode cX9_passNow 38 = .ok (.iload_n 3, 1) := by decide +kernel
theorem dX9_passNow_39 : decode cX9_passNow 39 = .ok (.invokestatic 39, 3) := by decide +kernel
theorem dX9_passNow_42 : decode cX9_passNow 42 = .ok (.iconst 5, 1) := by decide +kernel
theorem dX9_passNow_43 : decode cX9_passNow 43 = .ok (.iadd, 1) := by decide +kernel
theorem dX9_passNow_44 : decode cX9_passNow 44 = .ok (.iaload, 1) := by decide +kernel
theorem dX9_passNow_45 : decode cX9_passNow 45 = .ok (.iconst 1, 1) := by decide +kernel
theorem dX9_passNow_46 : decode cX9_passNow 46 = .ok (.if_icmp .ne 12, 3) := by decide +kernel
theorem dX9_passNow_49 : decode cX9_passNow 49 = .ok (.aload_n 0, 1) := by decide +kernel
theorem dX9_passNow_50 : decode cX9_passNow 50 = .ok (.iload_n 3, 1) := by decide +kernel
theorem dX9_passNow_51 : decode cX9_passNow 51 = .ok (.invokestatic 39, 3) := by decide +kernel
theorem dX9_passNow_54 : decode cX9_passNow 54 = .ok (.iload_n 3, 1) := by decide +kernel
theorem dX9_passNow_55 : decode cX9_passNow 55 = .ok (.invokevirtual 100, 3) := by decide +kernel
theorem dX9_passNow_58 : decode cX9_passNow 58 = .ok (.iinc 3 1, 3) := by decide +kernel
theorem dX9_passNow_61 : decode cX9_passNow 61 = .ok (.goto (-37), 3) := by decide +kernel
theorem dX9_passNow_64 : decode cX9_passNow 64 = .ok (.aload_n 0, 1) := by decide +kernel
theorem dX9_passNow_65 : decode cX9_passNow 65 = .ok (.getfield 7, 3) := by decide +kernel
theorem dX9_passNow_68 : decode cX9_passNow 68 = .ok (.iconst 2, 1) := by decide +kernel
theorem dX9_passNow_69 : decode cX9_passNow 69 = .ok (.dup2, 1) := by decide +kernel
theorem dX9_passNow_70 : decode cX9_passNow 70 = .ok (.iaload, 1) := by decide +kernel
theorem dX9_passNow_71 : decode cX9_passNow 71 = .ok (.iconst 1, 1) := by decide +kernel
theorem dX9_passNow_72 : decode cX9_passNow 72 = .ok (.iadd, 1) := by decide +kernel
theorem dX9_passNow_73 : decode cX9_passNow 73 = .ok (.iastore, 1) := by decide +kernel
theorem dX9_passNow_74 : decode cX9_passNow 74 = .ok (.iinc 2 1, 3) := by decide +kernel
theorem dX9_passNow_77 : decode cX9_passNow 77 = .ok (.goto (-70), 3) := by decide +kernel
theorem dX9_passNow_80 : decode cX9_passNow 80 = .ok (.aload_n 0, 1) := by decide +kernel
theorem dX9_passNow_81 : decode cX9_passNow 81 = .ok (.getfield 78, 3) := by decide +kernel
theorem dX9_passNow_84 : decode cX9_passNow 84 = .ok (.ireturn, 1) := by decide +kernel
theorem dX9_addPump_0 : decode cX9_addPump 0 = .ok (.iload_n 1, 1) := by decide +kernel
theorem dX9_addPump_1 : decode cX9_addPump 1 = .ok (.bipush 10, 2) := by decide +kernel
theorem dX9_addPump_3 : decode cX9_addPump 3 = .ok (.bipush 99, 2) := by decide +kernel
theorem dX9_addPump_5 : decode cX9_addPump 5 = .ok (.invokestatic 35, 3) := by decide +kernel
theorem dX9_addPump_8 : decode cX9_addPump 8 = .ok (.ifCond .eq 54, 3) := by decide +kernel
theorem dX9_addPump_11 : decode cX9_addPump 11 = .ok (.iload_n 2, 1) := by decide +kernel
theorem dX9_addPump_12 : decode cX9_addPump 12 = .ok (.bipush 10, 2) := by decide +kernel
theorem dX9_addPump_14 : decode cX9_addPump 14 = .ok (.sipush 400, 3) := by decide +kernel
theorem dX9_addPump_17 : decode cX9_addPump 17 = .ok (.invokestatic 35, 3) := by decide +kernel
theorem dX9_addPump_20 : decode cX9_addPump 20 = .ok (.ifCond .eq 42, 3) := by decide +kernel
theorem dX9_addPump_23 : decode cX9_addPump 23 = .ok (.iload_n 3, 1) := by decide +kernel
theorem dX9_addPump_24 : decode cX9_addPump 24 = .ok (.iconst 1, 1) := by decide +kernel
theorem dX9_addPump_25 : decode cX9_addPump 25 = .ok (.bipush 20, 2) := by decide +kernel
theorem dX9_addPump_27 : decode cX9_addPump 27 = .ok (.invokestatic 35, 3) := by decide +kernel
theorem dX9_addPump_30 : decode cX9_addPump 30 = .ok (.ifCond .eq 32, 3) := by decide +kernel
theorem dX9_addPump_33 : decode cX9_addPump 33 = .ok (.iload 4, 2) := by decide +kernel
theorem dX9_addPump_35 : decode cX9_addPump 35 = .ok (.iconst 0, 1) := by decide +kernel
theorem dX9_addPump_36 : decode cX9_addPump 36 = .ok (.bipush 100, 2) := by decide +kernel
theorem dX9_addPump_38 : decode cX9_addPump 38 = .ok (.invokestatic 35, 3) := by decide +kernel
theorem dX9_addPump_41 : decode cX9_addPump 41 = .ok (.ifCond .eq 21, 3) := by decide +kernel
theorem dX9_addPump_44 : decode cX9_addPump 44 = .ok (.iload 5, 2) := by decide +kernel
theorem dX9_addPump_46 : decode cX9_addPump 46 = .ok (.iload_n 1, 1) := by decide +kernel
theorem dX9_addPump_47 : decode cX9_addPump 47 = .ok (.iconst 1, 1) := by decide +kernel
theorem dX9_addPump_48 : decode cX9_addPump 48 = .ok (.iadd, 1) := by decide +kernel
theorem dX9_addPump_49 : decode cX9_addPump 49 = .ok (.sipush 500, 3) := by decide +kernel
theorem dX9_addPump_52 : decode cX9_addPump 52 = .ok (.invokestatic 35, 3) := by decide +kernel
theorem dX9_addPump_55 : decode cX9_addPump 55 = .ok (.ifCond .eq 7, 3) := by decide +kernel
theorem dX9_addPump_58 : decode cX9_addPump 58 = .ok (.iconst 1, 1) := by decide +kernel
theorem dX9_addPump_59 : decode cX9_addPump 59 = .ok (.goto 4, 3) := by decide +kernel
theorem dX9_addPump_62 : decode cX9_addPump 62 = .ok (.iconst 0, 1) := by decide +kernel
theorem dX9_addPump_63 : decode cX9_addPump 63 = .ok (.istore 6, 2) := by decide +kernel
theorem dX9_addPump_65 : decode cX9_addPump 65 = .ok (.iload 6, 2) := by decide +kernel
theorem dX9_addPump_67 : decode cX9_addPump 67 = .ok (.ifCond .ne 7, 3) := by decide +kernel
theorem dX9_addPump_70 : decode cX9_addPump 70 = .ok (.sipush (-1002), 3) := by decide +kernel
theorem dX9_addPump_73 : decode cX9_addPump 73 = .ok (.ireturn, 1) := by decide +kernel
theorem dX9_addPump_74 : decode cX9_addPump 74 = .ok (.aload_n 0, 1) := by decide +kernel
theorem dX9_addPump_75 : decode cX9_addPump 75 = .ok (.getfield 7, 3) := by decide +kernel
theorem dX9_addPump_78 : decode cX9_addPump 78 = .ok (.iconst 4, 1) := by decide +kernel
theorem dX9_addPump_79 : decode cX9_addPump 79 = .ok (.iaload, 1) := by decide +kernel
theorem dX9_addPump_80 : decode cX9_addPump 80 = .ok (.iconst 4, 1) := by decide +kernel
theorem dX9_addPump_81 : decode cX9_addPump 81 = .ok (.if_icmp .ne 7, 3) := by decide +kernel
theorem dX9_addPump_84 : decode cX9_addPump 84 = .ok (.sipush (-1004), 3) := by decide +kernel
theorem dX9_addPump_87 : decode cX9_addPump 87 = .ok (.ireturn, 1) := by decide +kernel
theorem dX9_addPump_88 : decode cX9_addPump 88 = .ok (.aload_n 0, 1) := by decide +kernel
theorem dX9_addPump_89 : decode cX9_addPump 89 = .ok (.invokevirtual 103, 3) := by decide +kernel
theorem dX9_addPump_92 : decode cX9_addPump 92 = .ok (.aload_n 0, 1) := by decide +kernel
theorem dX9_addPump_93 : decode cX9_addPump 93 = .ok (.getfield 7, 3) := by decide +kernel
theorem dX9_addPump_96 : decode cX9_addPump 96 = .ok (.iconst 4, 1) := by decide +kernel
theorem dX9_addPump_97 : decode cX9_addPump 97 = .ok (.iaload, 1) := by decide +kernel
theorem dX9_addPump_98 : decode cX9_addPump 98 = .ok (.invokestatic 39, 3) := by decide +kernel
theorem dX9_addPump_101 : decode cX9_addPump 101 = .ok (.istore 7, 2) := by decide +kernel
theorem dX9_addPump_103 : decode cX9_addPump 103 = .ok (.iconst 0, 1) := by decide +kernel
theorem dX9_addPump_104 : decode cX9_addPump 104 = .ok (.istore 8, 2) := by decide +kernel
theorem dX9_addPump_106 : decode cX9_addPump 106 = .ok (.iload 8, 2) := by decide +kernel
theorem dX9_addPump_108 : decode cX9_addPump 108 = .ok (.bipush 73, 2) := by decide +kernel
theorem dX9_addPump_110 : decode cX9_addPump 110 = .ok (.if_icmp .ge 20, 3) := by decide +kernel
theorem dX9_addPump_113 : decode cX9_addPump 113 = .ok (.aload_n 0, 1) := by decide +kernel
theorem dX9_addPump_114 : decode cX9_addPump 114 = .ok (.getfield 7, 3) := by decide +kernel
theorem dX9_addPump_117 : decode cX9_addPump 117 = .ok (.iload 7, 2) := by decide +kernel
theorem dX9_addPump_119 : decode cX9_addPump 119 = .ok (.iload 8, 2) := by decide +kernel
theorem dX9_addPump_121 : decode cX9_addPump 121 = .ok (.iadd, 1) := by decide +kernel
theorem dX9_addPump_122 : decode cX9_addPump 122 = .ok (.iconst 0, 1) := by decide +kernel
theorem dX9_addPump_123 : decode cX9_addPump 123 = .ok (.iastore, 1) := by decide +kernel
theorem dX9_addPump_124 : decode cX9_addPump 124 = .ok (.iinc 8 1, 3) := by decide +kernel
theorem dX9_addPump_127 : decode cX9_addPump 127 = .ok (.goto (-21), 3) := by decide +kernel
theorem dX9_addPump_130 : decode cX9_addPump 130 = .ok (.aload_n 0, 1) := by decide +kernel
theorem dX9_addPump_131 : decode cX9_addPump 131 = .ok (.getfield 7, 3) := by decide +kernel
theorem dX9_addPump_134 : decode cX9_addPump 134 = .ok (.iload 7, 2) := by decide +kernel
theorem dX9_addPump_136 : decode cX9_addPump 136 = .ok (.iconst 0, 1) := by decide +kernel
theorem dX9_addPump_137 : decode cX9_addPump 137 = .ok (.iadd, 1) := by decide +kernel
theorem dX9_addPump_138 : decode cX9_addPump 138 = .ok (.iload_n 1, 1) := by decide +kernel
theorem dX9_addPump_139 : decode cX9_addPump 139 = .ok (.iastore, 1) := by decide +kernel
theorem dX9_addPump_140 : decode cX9_addPump 140 = .ok (.aload_n 0, 1) := by decide +kernel
theorem dX9_addPump_141 : decode cX9_addPump 141 = .ok (.getfield 7, 3) := by decide +kernel
theorem dX9_addPump_144 : decode cX9_addPump 144 = .ok (.iload 7, 2) := by decide +kernel
theorem dX9_addPump_146 : decode cX9_addPump 146 = .ok (.iconst 1, 1) := by decide +kernel
theorem dX9_addPump_147 : decode cX9_addPump 147 = .ok (.iadd, 1) := by decide +kernel
theorem dX9_addPump_148 : decode cX9_addPump 148 = .ok (.iload_n 2, 1) := by decide +kernel
theorem dX9_addPump_149 : decode cX9_addPump 149 = .ok (.iastore, 1) := by decide +kernel
theorem dX9_addPump_150 : decode cX9_addPump 150 = .ok (.aload_n 0, 1) := by decide +kernel
theorem dX9_addPump_151 : decode cX9_addPump 151 = .ok (.getfield 7, 3) := by decide +kernel
theorem dX9_addPump_154 : decode cX9_addPump 154 = .ok (.iload 7, 2) := by decide +kernel
theorem dX9_addPump_156 : decode cX9_addPump 156 = .ok (.iconst 2, 1) := by decide +kernel
theorem dX9_addPump_157 : decode cX9_addPump 157 = .ok (.iadd, 1) := by decide +kernel
theorem dX9_addPump_158 : decode cX9_addPump 158 = .ok (.iload_n 3, 1) := by decide +kernel
theorem dX9_addPump_159 : decode cX9_addPump 159 = .ok (.iastore, 1) := by decide +kernel
theorem dX9_addPump_160 : decode cX9_addPump 160 = .ok (.aload_n 0, 1) := by decide +kernel
theorem dX9_addPump_161 : decode cX9_addPump 161 = .ok (.getfield 7, 3) := by decide +kernel
theorem dX9_addPump_164 : decode cX9_addPump 164 = .ok (.iload 7, 2) := by decide +kernel
theorem dX9_addPump_166 : decode cX9_addPump 166 = .ok (.iconst 3, 1) := by decide +kernel
theorem dX9_addPump_167 : decode cX9_addPump 167 = .ok (.iadd, 1) := by decide +kernel
theorem dX9_addPump_168 : decode cX9_addPump 168 = .ok (.iload 4, 2) := by decide +kernel
theorem dX9_addPump_170 : decode cX9_addPump 170 = .ok (.iastore, 1) := by decide +kernel
theorem dX9_addPump_171 : decode cX9_addPump 171 = .ok (.aload_n 0, 1) := by decide +kernel
theorem dX9_addPump_172 : decode cX9_addPump 172 = .ok (.getfield 7, 3) := by decide +kernel
theorem dX9_addPump_175 : decode cX9_addPump 175 = .ok (.iload 7, 2) := by decide +kernel
theorem dX9_addPump_177 : decode cX9_addPump 177 = .ok (.iconst 4, 1) := by decide +kernel
theorem dX9_addPump_178 : decode cX9_addPump 178 = .ok (.iadd, 1) := by decide +kernel
theorem dX9_addPump_179 : decode cX9_addPump 179 = .ok (.iload 5, 2) := by decide +kernel
theorem dX9_addPump_181 : decode cX9_addPump 181 = .ok (.iastore, 1) := by decide +kernel
theorem dX9_addPump_182 : decode cX9_addPump 182 = .ok (.aload_n 0, 1) := by decide +kernel
theorem dX9_addPump_183 : decode cX9_addPump 183 = .ok (.getfield 7, 3) := by decide +kernel
theorem dX9_addPump_186 : decode cX9_addPump 186 = .ok (.iload 7, 2) := by decide +kernel
theorem dX9_addPump_188 : decode cX9_addPump 188 = .ok (.bipush 10, 2) := by decide +kernel
theorem dX9_addPump_190 : decode cX9_addPump 190 = .ok (.iadd, 1) := by decide +kernel
theorem dX9_addPump_191 : decode cX9_addPump 191 = .ok (.bipush 60, 2) := by decide +kernel
theorem dX9_addPump_193 : decode cX9_addPump 193 = .ok (.iastore, 1) := by decide +kernel
theorem dX9_addPump_194 : decode cX9_addPump 194 = .ok (.aload_n 0, 1) := by decide +kernel
theorem dX9_addPump_195 : decode cX9_addPump 195 = .ok (.getfield 7, 3) := by decide +kernel
theorem dX9_addPump_198 : decode cX9_addPump 198 = .ok (.iload 7, 2) := by decide +kernel
theorem dX9_addPump_200 : decode cX9_addPump 200 = .ok (.bipush 11, 2) := by decide +kernel
theorem dX9_addPump_202 : decode cX9_addPump 202 = .ok (.iadd, 1) := by decide +kernel
theorem dX9_addPump_203 : decode cX9_addPump 203 = .ok (.sipush 400, 3) := by decide +kernel
theorem dX9_addPump_206 : decode cX9_addPump 206 = .ok (.iastore, 1) := by decide +kernel
theorem dX9_addPump_207 : decode cX9_addPump 207 = .ok (.aload_n 0, 1) := by decide +kernel
theorem dX9_addPump_208 : decode cX9_addPump 208 = .ok (.getfield 7, 3) := by decide +kernel
theorem dX9_addPump_211 : decode cX9_addPump 211 = .ok (.iload 7, 2) := by decide +kernel
theorem dX9_addPump_213 : decode cX9_addPump 213 = .ok (.bipush 14, 2) := by decide +kernel
theorem dX9_addPump_215 : decode cX9_addPump 215 = .ok (.iadd, 1) := by decide +kernel
theorem dX9_addPump_216 : decode cX9_addPump 216 = .ok (.sipush 400, 3) := by decide +kernel
theorem dX9_addPump_219 : decode cX9_addPump 219 = .ok (.iastore, 1) := by decide +kernel
theorem dX9_addPump_220 : decode cX9_addPump 220 = .ok (.aload_n 0, 1) := by decide +kernel
theorem dX9_addPump_221 : decode cX9_addPump 221 = .ok (.getfield 7, 3) := by decide +kernel
theorem dX9_addPump_224 : decode cX9_addPump 224 = .ok (.iconst 4, 1) := by decide +kernel
theorem dX9_addPump_225 : decode cX9_addPump 225 = .ok (.dup2, 1) := by decide +kernel
theorem dX9_addPump_226 : decode cX9_addPump 226 = .ok (.iaload, 1) := by decide +kernel
theorem dX9_addPump_227 : decode cX9_addPump 227 = .ok (.iconst 1, 1) := by decide +kernel
theorem dX9_addPump_228 : decode cX9_addPump 228 = .ok (.iadd, 1) := by decide +kernel
theorem dX9_addPump_229 : decode cX9_addPump 229 = .ok (.iastore, 1) := by decide +kernel
theorem dX9_addPump_230 : decode cX9_addPump 230 = .ok (.aload_n 0, 1) := by decide +kernel
theorem dX9_addPump_231 : decode cX9_addPump 231 = .ok (.getfield 7, 3) := by decide +kernel
theorem dX9_addPump_234 : decode cX9_addPump 234 = .ok (.iconst 4, 1) := by decide +kernel
theorem dX9_addPump_235 : decode cX9_addPump 235 = .ok (.iaload, 1) := by decide +kernel
theorem dX9_addPump_236 : decode cX9_addPump 236 = .ok (.iconst 1, 1) := by decide +kernel
theorem dX9_addPump_237 : decode cX9_addPump 237 = .ok (.isub, 1) := by decide +kernel
theorem dX9_addPump_238 : decode cX9_addPump 238 = .ok (.ireturn, 1) := by decide +kernel
theorem dX9_valveRefused_0 : decode cX9_valveRefused 0 = .ok (.aload_n 0, 1) := by decide +kernel
theorem dX9_valveRefused_1 : decode cX9_valveRefused 1 = .ok (.iload_n 1, 1) := by decide +kernel
theorem dX9_valveRefused_2 : decode cX9_valveRefused 2 = .ok (.invokevirtual 106, 3) := by decide +kernel
theorem dX9_valveRefused_5 : decode cX9_valveRefused 5 = .ok (.ifCond .ne 7, 3) := by decide +kernel
theorem dX9_valveRefused_8 : decode cX9_valveRefused 8 = .ok (.sipush (-1001), 3) := by decide +kernel
theorem dX9_valveRefused_11 : decode cX9_valveRefused 11 = .ok (.ireturn, 1) := by decide +kernel
theorem dX9_valveRefused_12 : decode cX9_valveRefused 12 = .ok (.iload_n 2, 1) := by decide +kernel
theorem dX9_valveRefused_13 : decode cX9_valveRefused 13 = .ok (.iconst 0, 1) := by decide +kernel
theorem dX9_valveRefused_14 : decode cX9_valveRefused 14 = .ok (.iconst 2, 1) := by decide +kernel
theorem dX9_valveRefused_15 : decode cX9_valveRefused 15 = .ok (.invokestatic 35, 3) := by decide +kernel
theorem dX9_valveRefused_18 : decode cX9_valveRefused 18 = .ok (.ifCond .eq 14, 3) := by decide +kernel
theorem dX9_valveRefused_21 : decode cX9_valveRefused 21 = .ok (.iload_n 3, 1) := by decide +kernel
theorem dX9_valveRefused_22 : decode cX9_valveRefused 22 = .ok (.iconst 1, 1) := by decide +kernel
theorem dX9_valveRefused_23 : decode cX9_valveRefused 23 = .ok (.sipush 500, 3) := by decide +kernel
theorem dX9_valveRefused_26 : decode cX9_valveRefused 26 = .ok (.invokestatic 35, 3) := by decide +kernel
theorem dX9_valveRefused_29 : decode cX9_valveRefused 29 = .ok (.ifCond .ne 7, 3) := by decide +kernel
theorem dX9_valveRefused_32 : decode cX9_valveRefused 32 = .ok (.sipush (-1002), 3) := by decide +kernel
theorem dX9_valveRefused_35 : decode cX9_valveRefused 35 = .ok (.ireturn, 1) := by decide +kernel
theorem dX9_valveRefused_36 : decode cX9_valveRefused 36 = .ok (.aload_n 0, 1) := by decide +kernel
theorem dX9_valveRefused_37 : decode cX9_valveRefused 37 = .ok (.getfield 7, 3) := by decide +kernel
theorem dX9_valveRefused_40 : decode cX9_valveRefused 40 = .ok (.iload_n 1, 1) := by decide +kernel
theorem dX9_valveRefused_41 : decode cX9_valveRefused 41 = .ok (.invokestatic 39, 3) := by decide +kernel
theorem dX9_valveRefused_44 : decode cX9_valveRefused 44 = .ok (.iconst 5, 1) := by decide +kernel
theorem dX9_valveRefused_45 : decode cX9_valveRefused 45 = .ok (.iadd, 1) := by decide +kernel
theorem dX9_valveRefused_46 : decode cX9_valveRefused 46 = .ok (.iaload, 1) := by decide +kernel
theorem dX9_valveRefused_47 : decode cX9_valveRefused 47 = .ok (.iconst 1, 1) := by decide +kernel
theorem dX9_valveRefused_48 : decode cX9_valveRefused 48 = .ok (.if_icmp .ne 9, 3) := by decide +kernel
theorem dX9_valveRefused_51 : decode cX9_valveRefused 51 = .ok (.sipush (-1003), 3) := by decide +kernel
theorem dX9_valveRefused_54 : decode cX9_valveRefused 54 = .ok (.goto 4, 3) := by decide +kernel
theorem dX9_valveRefused_57 : decode cX9_valveRefused 57 = .ok (.iconst 0, 1) := by decide +kernel
theorem dX9_valveRefused_58 : decode cX9_valveRefused 58 = .ok (.ireturn, 1) := by decide +kernel
theorem dX9_valveNow_0 : decode cX9_valveNow 0 = .ok (.iload_n 1, 1) := by decide +kernel
theorem dX9_valveNow_1 : decode cX9_valveNow 1 = .ok (.invokestatic 39, 3) := by decide +kernel
theorem dX9_valveNow_4 : decode cX9_valveNow 4 = .ok (.istore 4, 2) := by decide +kernel
theorem dX9_valveNow_6 : decode cX9_valveNow 6 = .ok (.aload_n 0, 1) := by decide +kernel
theorem dX9_valveNow_7 : decode cX9_valveNow 7 = .ok (.getfield 7, 3) := by decide +kernel
theorem dX9_valveNow_10 : decode cX9_valveNow 10 = .ok (.iload 4, 2) := by decide +kernel
theorem dX9_valveNow_12 : decode cX9_valveNow 12 = .ok (.bipush 10, 2) := by decide +kernel
theorem dX9_valveNow_14 : decode cX9_valveNow 14 = .ok (.iadd, 1) := by decide +kernel
theorem dX9_valveNow_15 : decode cX9_valveNow 15 = .ok (.iaload, 1) := by decide +kernel
theorem dX9_valveNow_16 : decode cX9_valveNow 16 = .ok (.istore 5, 2) := by decide +kernel
theorem dX9_valveNow_18 : decode cX9_valveNow 18 = .ok (.aload_n 0, 1) := by decide +kernel
theorem dX9_valveNow_19 : decode cX9_valveNow 19 = .ok (.getfield 7, 3) := by decide +kernel
theorem dX9_valveNow_22 : decode cX9_valveNow 22 = .ok (.iload 4, 2) := by decide +kernel
theorem dX9_valveNow_24 : decode cX9_valveNow 24 = .ok (.bipush 9, 2) := by decide +kernel
theorem dX9_valveNow_26 : decode cX9_valveNow 26 = .ok (.iadd, 1) := by decide +kernel
theorem dX9_valveNow_27 : decode cX9_valveNow 27 = .ok (.iload_n 2, 1) := by decide +kernel
theorem dX9_valveNow_28 : decode cX9_valveNow 28 = .ok (.iastore, 1) := by decide +kernel
theorem dX9_valveNow_29 : decode cX9_valveNow 29 = .ok (.aload_n 0, 1) := by decide +kernel
theorem dX9_valveNow_30 : decode cX9_valveNow 30 = .ok (.getfield 7, 3) := by decide +kernel
theorem dX9_valveNow_33 : decode cX9_valveNow 33 = .ok (.iload 4, 2) := by decide +kernel
theorem dX9_valveNow_35 : decode cX9_valveNow 35 = .ok (.bipush 10, 2) := by decide +kernel
theorem dX9_valveNow_37 : decode cX9_valveNow 37 = .ok (.iadd, 1) := by decide +kernel
theorem dX9_valveNow_38 : decode cX9_valveNow 38 = .ok (.iload_n 3, 1) := by decide +kernel
theorem dX9_valveNow_39 : decode cX9_valveNow 39 = .ok (.iastore, 1) := by decide +kernel
theorem dX9_valveNow_40 : decode cX9_valveNow 40 = .ok (.iload 5, 2) := by decide +kernel
theorem dX9_valveNow_42 : decode cX9_valveNow 42 = .ok (.ireturn, 1) := by decide +kernel
theorem dX9_setValve_0 : decode cX9_setValve 0 = .ok (.aload_n 0, 1) := by decide +kernel
theorem dX9_setValve_1 : decode cX9_setValve 1 = .ok (.iload_n 1, 1) := by decide +kernel
theorem dX9_setValve_2 : decode cX9_setValve 2 = .ok (.iload_n 2, 1) := by decide +kernel
theorem dX9_setValve_3 : decode cX9_setValve 3 = .ok (.iload_n 3, 1) := by decide +kernel
theorem dX9_setValve_4 : decode cX9_setValve 4 = .ok (.invokevirtual 109, 3) := by decide +kernel
theorem dX9_setValve_7 : decode cX9_setValve 7 = .ok (.istore 4, 2) := by decide +kernel
theorem dX9_setValve_9 : decode cX9_setValve 9 = .ok (.iload 4, 2) := by decide +kernel
theorem dX9_setValve_11 : decode cX9_setValve 11 = .ok (.ifCond .eq 6, 3) := by decide +kernel
theorem dX9_setValve_14 : decode cX9_setValve 14 = .ok (.iload 4, 2) := by decide +kernel
theorem dX9_setValve_16 : decode cX9_setValve 16 = .ok (.ireturn, 1) := by decide +kernel
theorem dX9_setValve_17 : decode cX9_setValve 17 = .ok (.aload_n 0, 1) := by decide +kernel
theorem dX9_setValve_18 : decode cX9_setValve 18 = .ok (.invokevirtual 103, 3) := by decide +kernel
theorem dX9_setValve_21 : decode cX9_setValve 21 = .ok (.aload_n 0, 1) := by decide +kernel
theorem dX9_setValve_22 : decode cX9_setValve 22 = .ok (.iload_n 1, 1) := by decide +kernel
theorem dX9_setValve_23 : decode cX9_setValve 23 = .ok (.iload_n 2, 1) := by decide +kernel
theorem dX9_setValve_24 : decode cX9_setValve 24 = .ok (.iload_n 3, 1) := by decide +kernel
theorem dX9_setValve_25 : decode cX9_setValve 25 = .ok (.invokevirtual 113, 3) := by decide +kernel
theorem dX9_setValve_28 : decode cX9_setValve 28 = .ok (.ireturn, 1) := by decide +kernel
theorem dX9_setChamber_0 : decode cX9_setChamber 0 = .ok (.aload_n 0, 1) := by decide +kernel
theorem dX9_setChamber_1 : decode cX9_setChamber 1 = .ok (.iload_n 1, 1) := by decide +kernel
theorem dX9_setChamber_2 : decode cX9_setChamber 2 = .ok (.invokevirtual 106, 3) := by decide +kernel
theorem dX9_setChamber_5 : decode cX9_setChamber 5 = .ok (.ifCond .ne 7, 3) := by decide +kernel
theorem dX9_setChamber_8 : decode cX9_setChamber 8 = .ok (.sipush (-1001), 3) := by decide +kernel
theorem dX9_setChamber_11 : decode cX9_setChamber 11 = .ok (.ireturn, 1) := by decide +kernel
theorem dX9_setChamber_12 : decode cX9_setChamber 12 = .ok (.iload_n 2, 1) := by decide +kernel
theorem dX9_setChamber_13 : decode cX9_setChamber 13 = .ok (.bipush 50, 2) := by decide +kernel
theorem dX9_setChamber_15 : decode cX9_setChamber 15 = .ok (.sipush 2000, 3) := by decide +kernel
theorem dX9_setChamber_18 : decode cX9_setChamber 18 = .ok (.invokestatic 35, 3) := by decide +kernel
theorem dX9_setChamber_21 : decode cX9_setChamber 21 = .ok (.ifCond .ne 7, 3) := by decide +kernel
theorem dX9_setChamber_24 : decode cX9_setChamber 24 = .ok (.sipush (-1002), 3) := by decide +kernel
theorem dX9_setChamber_27 : decode cX9_setChamber 27 = .ok (.ireturn, 1) := by decide +kernel
theorem dX9_setChamber_28 : decode cX9_setChamber 28 = .ok (.iload_n 1, 1) := by decide +kernel
theorem dX9_setChamber_29 : decode cX9_setChamber 29 = .ok (.invokestatic 39, 3) := by decide +kernel
theorem dX9_setChamber_32 : decode cX9_setChamber 32 = .ok (.istore 4, 2) := by decide +kernel
theorem dX9_setChamber_34 : decode cX9_setChamber 34 = .ok (.aload_n 0, 1) := by decide +kernel
theorem dX9_setChamber_35 : decode cX9_setChamber 35 = .ok (.getfield 7, 3) := by decide +kernel
theorem dX9_setChamber_38 : decode cX9_setChamber 38 = .ok (.iload 4, 2) := by decide +kernel
theorem dX9_setChamber_40 : decode cX9_setChamber 40 = .ok (.iconst 5, 1) := by decide +kernel
theorem dX9_setChamber_41 : decode cX9_setChamber 41 = .ok (.iadd, 1) := by decide +kernel
theorem dX9_setChamber_42 : decode cX9_setChamber 42 = .ok (.iaload, 1) := by decide +kernel
theorem dX9_setChamber_43 : decode cX9_setChamber 43 = .ok (.iconst 1, 1) := by decide +kernel
theorem dX9_setChamber_44 : decode cX9_setChamber 44 = .ok (.if_icmp .ne 7, 3) := by decide +kernel
theorem dX9_setChamber_47 : decode cX9_setChamber 47 = .ok (.sipush (-1003), 3) := by decide +kernel
theorem dX9_setChamber_50 : decode cX9_setChamber 50 = .ok (.ireturn, 1) := by decide +kernel
theorem dX9_setChamber_51 : decode cX9_setChamber 51 = .ok (.aload_n 0, 1) := by decide +kernel
theorem dX9_setChamber_52 : decode cX9_setChamber 52 = .ok (.invokevirtual 103, 3) := by decide +kernel
theorem dX9_setChamber_55 : decode cX9_setChamber 55 = .ok (.aload_n 0, 1) := by decide +kernel
theorem dX9_setChamber_56 : decode cX9_setChamber 56 = .ok (.getfield 7, 3) := by decide +kernel
theorem dX9_setChamber_59 : decode cX9_setChamber 59 = .ok (.iload 4, 2) := by decide +kernel
theorem dX9_setChamber_61 : decode cX9_setChamber 61 = .ok (.bipush 13, 2) := by decide +kernel
theorem dX9_setChamber_63 : decode cX9_setChamber 63 = .ok (.iadd, 1) := by decide +kernel
theorem dX9_setChamber_64 : decode cX9_setChamber 64 = .ok (.iaload, 1) := by decide +kernel
theorem dX9_setChamber_65 : decode cX9_setChamber 65 = .ok (.istore 5, 2) := by decide +kernel
theorem dX9_setChamber_67 : decode cX9_setChamber 67 = .ok (.aload_n 0, 1) := by decide +kernel
theorem dX9_setChamber_68 : decode cX9_setChamber 68 = .ok (.iload 5, 2) := by decide +kernel
theorem dX9_setChamber_70 : decode cX9_setChamber 70 = .ok (.invokevirtual 97, 3) := by decide +kernel
theorem dX9_setChamber_73 : decode cX9_setChamber 73 = .ok (.aload_n 0, 1) := by decide +kernel
theorem dX9_setChamber_74 : decode cX9_setChamber 74 = .ok (.getfield 7, 3) := by decide +kernel
theorem dX9_setChamber_77 : decode cX9_setChamber 77 = .ok (.iload 4, 2) := by decide +kernel
theorem dX9_setChamber_79 : decode cX9_setChamber 79 = .ok (.bipush 11, 2) := by decide +kernel
theorem dX9_setChamber_81 : decode cX9_setChamber 81 = .ok (.iadd, 1) := by decide +kernel
theorem dX9_setChamber_82 : decode cX9_setChamber 82 = .ok (.iload_n 2, 1) := by decide +kernel
theorem dX9_setChamber_83 : decode cX9_setChamber 83 = .ok (.iastore, 1) := by decide +kernel
theorem dX9_setChamber_84 : decode cX9_setChamber 84 = .ok (.aload_n 0, 1) := by decide +kernel
theorem dX9_setChamber_85 : decode cX9_setChamber 85 = .ok (.getfield 7, 3) := by decide +kernel
theorem dX9_setChamber_88 : decode cX9_setChamber 88 = .ok (.iload 4, 2) := by decide +kernel
theorem dX9_setChamber_90 : decode cX9_setChamber 90 = .ok (.bipush 12, 2) := by decide +kernel
theorem dX9_setChamber_92 : decode cX9_setChamber 92 = .ok (.iadd, 1) := by decide +kernel
theorem dX9_setChamber_93 : decode cX9_setChamber 93 = .ok (.iload_n 3, 1) := by decide +kernel
theorem dX9_setChamber_94 : decode cX9_setChamber 94 = .ok (.ifCond .eq 7, 3) := by decide +kernel
theorem dX9_setChamber_97 : decode cX9_setChamber 97 = .ok (.iconst 1, 1) := by decide +kernel
theorem dX9_setChamber_98 : decode cX9_setChamber 98 = .ok (.goto 4, 3) := by decide +kernel
theorem dX9_setChamber_101 : decode cX9_setChamber 101 = .ok (.iconst 0, 1) := by decide +kernel
theorem dX9_setChamber_102 : decode cX9_setChamber 102 = .ok (.iastore, 1) := by decide +kernel
theorem dX9_setChamber_103 : decode cX9_setChamber 103 = .ok (.aload_n 0, 1) := by decide +kernel
theorem dX9_setChamber_104 : decode cX9_setChamber 104 = .ok (.getfield 7, 3) := by decide +kernel
theorem dX9_setChamber_107 : decode cX9_setChamber 107 = .ok (.iload 4, 2) := by decide +kernel
theorem dX9_setChamber_109 : decode cX9_setChamber 109 = .ok (.bipush 13, 2) := by decide +kernel
theorem dX9_setChamber_111 : decode cX9_setChamber 111 = .ok (.iadd, 1) := by decide +kernel
theorem dX9_setChamber_112 : decode cX9_setChamber 112 = .ok (.iconst 0, 1) := by decide +kernel
theorem dX9_setChamber_113 : decode cX9_setChamber 113 = .ok (.iastore, 1) := by decide +kernel
theorem dX9_setChamber_114 : decode cX9_setChamber 114 = .ok (.aload_n 0, 1) := by decide +kernel
theorem dX9_setChamber_115 : decode cX9_setChamber 115 = .ok (.getfield 7, 3) := by decide +kernel
theorem dX9_setChamber_118 : decode cX9_setChamber 118 = .ok (.iload 4, 2) := by decide +kernel
theorem dX9_setChamber_120 : decode cX9_setChamber 120 = .ok (.bipush 14, 2) := by decide +kernel
theorem dX9_setChamber_122 : decode cX9_setChamber 122 = .ok (.iadd, 1) := by decide +kernel
theorem dX9_setChamber_123 : decode cX9_setChamber 123 = .ok (.iload_n 2, 1) := by decide +kernel
theorem dX9_setChamber_124 : decode cX9_setChamber 124 = .ok (.iastore, 1) := by decide +kernel
theorem dX9_setChamber_125 : decode cX9_setChamber 125 = .ok (.iload 5, 2) := by decide +kernel
theorem dX9_setChamber_127 : decode cX9_setChamber 127 = .ok (.ireturn, 1) := by decide +kernel
theorem dX9_inflowNow_0 : decode cX9_inflowNow 0 = .ok (.aload_n 0, 1) := by decide +kernel
theorem dX9_inflowNow_1 : decode cX9_inflowNow 1 = .ok (.getfield 7, 3) := by decide +kernel
theorem dX9_inflowNow_4 : decode cX9_inflowNow 4 = .ok (.iconst 1, 1) := by decide +kernel
theorem dX9_inflowNow_5 : decode cX9_inflowNow 5 = .ok (.iaload, 1) := by decide +kernel
theorem dX9_inflowNow_6 : decode cX9_inflowNow 6 = .ok (.istore_n 2, 1) := by decide +kernel
theorem dX9_inflowNow_7 : decode cX9_inflowNow 7 = .ok (.aload_n 0, 1) := by decide +kernel
theorem dX9_inflowNow_8 : decode cX9_inflowNow 8 = .ok (.getfield 7, 3) := by decide +kernel
theorem dX9_inflowNow_11 : decode cX9_inflowNow 11 = .ok (.iconst 1, 1) := by decide +kernel
theorem dX9_inflowNow_12 : decode cX9_inflowNow 12 = .ok (.iload_n 1, 1) := by decide +kernel
theorem dX9_inflowNow_13 : decode cX9_inflowNow 13 = .ok (.iastore, 1) := by decide +kernel
theorem dX9_inflowNow_14 : decode cX9_inflowNow 14 = .ok (.iload_n 2, 1) := by decide +kernel
theorem dX9_inflowNow_15 : decode cX9_inflowNow 15 = .ok (.ireturn, 1) := by decide +kernel
theorem dX9_setInflow_0 : decode cX9_setInflow 0 = .ok (.iload_n 1, 1) := by decide +kernel
theorem dX9_setInflow_1 : decode cX9_setInflow 1 = .ok (.iconst 0, 1) := by decide +kernel
theorem dX9_setInflow_2 : decode cX9_setInflow 2 = .ok (.sipush 500, 3) := by decide +kernel
theorem dX9_setInflow_5 : decode cX9_setInflow 5 = .ok (.invokestatic 35, 3) := by decide +kernel
theorem dX9_setInflow_8 : decode cX9_setInflow 8 = .ok (.ifCond .ne 7, 3) := by decide +kernel
theorem dX9_setInflow_11 : decode cX9_setInflow 11 = .ok (.sipush (-1002), 3) := by decide +kernel
theorem dX9_setInflow_14 : decode cX9_setInflow 14 = .ok (.ireturn, 1) := by decide +kernel
theorem dX9_setInflow_15 : decode cX9_setInflow 15 = .ok (.aload_n 0, 1) := by decide +kernel
theorem dX9_setInflow_16 : decode cX9_setInflow 16 = .ok (.invokevirtual 103, 3) := by decide +kernel
theorem dX9_setInflow_19 : decode cX9_setInflow 19 = .ok (.aload_n 0, 1) := by decide +kernel
theorem dX9_setInflow_20 : decode cX9_setInflow 20 = .ok (.iload_n 1, 1) := by decide +kernel
theorem dX9_setInflow_21 : decode cX9_setInflow 21 = .ok (.invokevirtual 116, 3) := by decide +kernel
theorem dX9_setInflow_24 : decode cX9_setInflow 24 = .ok (.ireturn, 1) := by decide +kernel
theorem dX9_runRefused_0 : decode cX9_runRefused 0 = .ok (.aload_n 0, 1) := by decide +kernel
theorem dX9_runRefused_1 : decode cX9_runRefused 1 = .ok (.iload_n 1, 1) := by decide +kernel
theorem dX9_runRefused_2 : decode cX9_runRefused 2 = .ok (.invokevirtual 106, 3) := by decide +kernel
theorem dX9_runRefused_5 : decode cX9_runRefused 5 = .ok (.ifCond .ne 9, 3) := by decide +kernel
theorem dX9_runRefused_8 : decode cX9_runRefused 8 = .ok (.sipush (-1001), 3) := by decide +kernel
theorem dX9_runRefused_11 : decode cX9_runRefused 11 = .ok (.goto 25, 3) := by decide +kernel
theorem dX9_runRefused_14 : decode cX9_runRefused 14 = .ok (.aload_n 0, 1) := by decide +kernel
theorem dX9_runRefused_15 : decode cX9_runRefused 15 = .ok (.getfield 7, 3) := by decide +kernel
theorem dX9_runRefused_18 : decode cX9_runRefused 18 = .ok (.iload_n 1, 1) := by decide +kernel
theorem dX9_runRefused_19 : decode cX9_runRefused 19 = .ok (.invokestatic 39, 3) := by decide +kernel
theorem dX9_runRefused_22 : decode cX9_runRefused 22 = .ok (.iconst 5, 1) := by decide +kernel
theorem dX9_runRefused_23 : decode cX9_runRefused 23 = .ok (.iadd, 1) := by decide +kernel
theorem dX9_runRefused_24 : decode cX9_runRefused 24 = .ok (.iaload, 1) := by decide +kernel
theorem dX9_runRefused_25 : decode cX9_runRefused 25 = .ok (.iload_n 2, 1) := by decide +kernel
theorem dX9_runRefused_26 : decode cX9_runRefused 26 = .ok (.if_icmp .ne 9, 3) := by decide +kernel
theorem dX9_runRefused_29 : decode cX9_runRefused 29 = .ok (.sipush (-1003), 3) := by decide +kernel
theorem dX9_runRefused_32 : decode cX9_runRefused 32 = .ok (.goto 4, 3) := by decide +kernel
theorem dX9_runRefused_35 : decode cX9_runRefused 35 = .ok (.iconst 0, 1) := by decide +kernel
theorem dX9_runRefused_36 : decode cX9_runRefused 36 = .ok (.ireturn, 1) := by decide +kernel
theorem dX9_startNow_0 : decode cX9_startNow 0 = .ok (.aload_n 0, 1) := by decide +kernel
theorem dX9_startNow_1 : decode cX9_startNow 1 = .ok (.getfield 7, 3) := by decide +kernel
theorem dX9_startNow_4 : decode cX9_startNow 4 = .ok (.iload_n 1, 1) := by decide +kernel
theorem dX9_startNow_5 : decode cX9_startNow 5 = .ok (.invokestatic 39, 3) := by decide +kernel
theorem dX9_startNow_8 : decode cX9_startNow 8 = .ok (.iconst 5, 1) := by decide +kernel
theorem dX9_startNow_9 : decode cX9_startNow 9 = .ok (.iadd, 1) := by decide +kernel
theorem dX9_startNow_10 : decode cX9_startNow 10 = .ok (.iconst 1, 1) := by decide +kernel
theorem dX9_startNow_11 : decode cX9_startNow 11 = .ok (.iastore, 1) := by decide +kernel
theorem dX9_startNow_12 : decode cX9_startNow 12 = .ok (.aload_n 0, 1) := by decide +kernel
theorem dX9_startNow_13 : decode cX9_startNow 13 = .ok (.getfield 7, 3) := by decide +kernel
theorem dX9_startNow_16 : decode cX9_startNow 16 = .ok (.iload_n 1, 1) := by decide +kernel
theorem dX9_startNow_17 : decode cX9_startNow 17 = .ok (.invokestatic 39, 3) := by decide +kernel
theorem dX9_startNow_20 : decode cX9_startNow 20 = .ok (.bipush 22, 2) := by decide +kernel
theorem dX9_startNow_22 : decode cX9_startNow 22 = .ok (.iadd, 1) := by decide +kernel
theorem dX9_startNow_23 : decode cX9_startNow 23 = .ok (.aload_n 0, 1) := by decide +kernel
theorem dX9_startNow_24 : decode cX9_startNow 24 = .ok (.getfield 7, 3) := by decide +kernel
theorem dX9_startNow_27 : decode cX9_startNow 27 = .ok (.iconst 2, 1) := by decide +kernel
theorem dX9_startNow_28 : decode cX9_startNow 28 = .ok (.iaload, 1) := by decide +kernel
theorem dX9_startNow_29 : decode cX9_startNow 29 = .ok (.iastore, 1) := by decide +kernel
theorem dX9_startNow_30 : decode cX9_startNow 30 = .ok (.aload_n 0, 1) := by decide +kernel
theorem dX9_startNow_31 : decode cX9_startNow 31 = .ok (.invokevirtual 119, 3) := by decide +kernel
theorem dX9_startNow_34 : decode cX9_startNow 34 = .ok (.ireturn, 1) := by decide +kernel
theorem dX9_start_0 : decode cX9_start 0 = .ok (.aload_n 0, 1) := by decide +kernel
theorem dX9_start_1 : decode cX9_start 1 = .ok (.iload_n 1, 1) := by decide +kernel
theorem dX9_start_2 : decode cX9_start 2 = .ok (.iconst 1, 1) := by decide +kernel
theorem dX9_start_3 : decode cX9_start 3 = .ok (.invokevirtual 123, 3) := by decide +kernel
theorem dX9_start_6 : decode cX9_start 6 = .ok (.istore_n 2, 1) := by decide +kernel
theorem dX9_start_7 : decode cX9_start 7 = .ok (.iload_n 2, 1) := by decide +kernel
theorem dX9_start_8 : decode cX9_start 8 = .ok (.ifCond .eq 5, 3) := by decide +kernel
theorem dX9_start_11 : decode cX9_start 11 = .ok (.iload_n 2, 1) := by decide +kernel
theorem dX9_start_12 : decode cX9_start 12 = .ok (.ireturn, 1) := by decide +kernel
theorem dX9_start_13 : decode cX9_start 13 = .ok (.aload_n 0, 1) := by decide +kernel
theorem dX9_start_14 : decode cX9_start 14 = .ok (.invokevirtual 103, 3) := by decide +kernel
theorem dX9_start_17 : decode cX9_start 17 = .ok (.aload_n 0, 1) := by decide +kernel
theorem dX9_start_18 : decode cX9_start 18 = .ok (.iload_n 1, 1) := by decide +kernel
theorem dX9_start_19 : decode cX9_start 19 = .ok (.invokevirtual 127, 3) := by decide +kernel
theorem dX9_start_22 : decode cX9_start 22 = .ok (.ireturn, 1) := by decide +kernel
theorem dX9_stopNow_0 : decode cX9_stopNow 0 = .ok (.aload_n 0, 1) := by decide +kernel
theorem dX9_stopNow_1 : decode cX9_stopNow 1 = .ok (.getfield 7, 3) := by decide +kernel
theorem dX9_stopNow_4 : decode cX9_stopNow 4 = .ok (.iload_n 1, 1) := by decide +kernel
theorem dX9_stopNow_5 : decode cX9_stopNow 5 = .ok (.invokestatic 39, 3) := by decide +kernel
theorem dX9_stopNow_8 : decode cX9_stopNow 8 = .ok (.iconst 5, 1) := by decide +kernel
theorem dX9_stopNow_9 : decode cX9_stopNow 9 = .ok (.iadd, 1) := by decide +kernel
theorem dX9_stopNow_10 : decode cX9_stopNow 10 = .ok (.iconst 0, 1) := by decide +kernel
theorem dX9_stopNow_11 : decode cX9_stopNow 11 = .ok (.iastore, 1) := by decide +kernel
theorem dX9_stopNow_12 : decode cX9_stopNow 12 = .ok (.aload_n 0, 1) := by decide +kernel
theorem dX9_stopNow_13 : decode cX9_stopNow 13 = .ok (.iload_n 1, 1) := by decide +kernel
theorem dX9_stopNow_14 : decode cX9_stopNow 14 = .ok (.invokestatic 39, 3) := by decide +kernel
theorem dX9_stopNow_17 : decode cX9_stopNow 17 = .ok (.invokevirtual 75, 3) := by decide +kernel
theorem dX9_stopNow_20 : decode cX9_stopNow 20 = .ok (.aload_n 0, 1) := by decide +kernel
theorem dX9_stopNow_21 : decode cX9_stopNow 21 = .ok (.invokevirtual 119, 3) := by decide +kernel
theorem dX9_stopNow_24 : decode cX9_stopNow 24 = .ok (.ireturn, 1) := by decide +kernel
theorem dX9_stop_0 : decode cX9_stop 0 = .ok (.aload_n 0, 1) := by decide +kernel
theorem dX9_stop_1 : decode cX9_stop 1 = .ok (.iload_n 1, 1) := by decide +kernel
theorem dX9_stop_2 : decode cX9_stop 2 = .ok (.iconst 0, 1) := by decide +kernel
theorem dX9_stop_3 : decode cX9_stop 3 = .ok (.invokevirtual 123, 3) := by decide +kernel
theorem dX9_stop_6 : decode cX9_stop 6 = .ok (.istore_n 2, 1) := by decide +kernel
theorem dX9_stop_7 : decode cX9_stop 7 = .ok (.iload_n 2, 1) := by decide +kernel
theorem dX9_stop_8 : decode cX9_stop 8 = .ok (.ifCond .eq 5, 3) := by decide +kernel
theorem dX9_stop_11 : decode cX9_stop 11 = .ok (.iload_n 2, 1) := by decide +kernel
theorem dX9_stop_12 : decode cX9_stop 12 = .ok (.ireturn, 1) := by decide +kernel
theorem dX9_stop_13 : decode cX9_stop 13 = .ok (.aload_n 0, 1) := by decide +kernel
theorem dX9_stop_14 : decode cX9_stop 14 = .ok (.invokevirtual 103, 3) := by decide +kernel
theorem dX9_stop_17 : decode cX9_stop 17 = .ok (.aload_n 0, 1) := by decide +kernel
theorem dX9_stop_18 : decode cX9_stop 18 = .ok (.iload_n 1, 1) := by decide +kernel
theorem dX9_stop_19 : decode cX9_stop 19 = .ok (.invokevirtual 130, 3) := by decide +kernel
theorem dX9_stop_22 : decode cX9_stop 22 = .ok (.ireturn, 1) := by decide +kernel
theorem dX9_tankRefused_0 : decode cX9_tankRefused 0 = .ok (.aload_n 0, 1) := by decide +kernel
theorem dX9_tankRefused_1 : decode cX9_tankRefused 1 = .ok (.iload_n 1, 1) := by decide +kernel
theorem dX9_tankRefused_2 : decode cX9_tankRefused 2 = .ok (.invokevirtual 106, 3) := by decide +kernel
theorem dX9_tankRefused_5 : decode cX9_tankRefused 5 = .ok (.ifCond .ne 9, 3) := by decide +kernel
theorem dX9_tankRefused_8 : decode cX9_tankRefused 8 = .ok (.sipush (-1001), 3) := by decide +kernel
theorem dX9_tankRefused_11 : decode cX9_tankRefused 11 = .ok (.goto 25, 3) := by decide +kernel
theorem dX9_tankRefused_14 : decode cX9_tankRefused 14 = .ok (.aload_n 0, 1) := by decide +kernel
theorem dX9_tankRefused_15 : decode cX9_tankRefused 15 = .ok (.getfield 7, 3) := by decide +kernel
theorem dX9_tankRefused_18 : decode cX9_tankRefused 18 = .ok (.iload_n 1, 1) := by decide +kernel
theorem dX9_tankRefused_19 : decode cX9_tankRefused 19 = .ok (.invokestatic 39, 3) := by decide +kernel
theorem dX9_tankRefused_22 : decode cX9_tankRefused 22 = .ok (.bipush 15, 2) := by decide +kernel
theorem dX9_tankRefused_24 : decode cX9_tankRefused 24 = .ok (.iadd, 1) := by decide +kernel
theorem dX9_tankRefused_25 : decode cX9_tankRefused 25 = .ok (.iaload, 1) := by decide +kernel
theorem dX9_tankRefused_26 : decode cX9_tankRefused 26 = .ok (.ifCond .ne 9, 3) := by decide +kernel
theorem dX9_tankRefused_29 : decode cX9_tankRefused 29 = .ok (.sipush (-1003), 3) := by decide +kernel
theorem dX9_tankRefused_32 : decode cX9_tankRefused 32 = .ok (.goto 4, 3) := by decide +kernel
theorem dX9_tankRefused_35 : decode cX9_tankRefused 35 = .ok (.iconst 0, 1) := by decide +kernel
theorem dX9_tankRefused_36 : decode cX9_tankRefused 36 = .ok (.ireturn, 1) := by decide +kernel
theorem dX9_tankNow_0 : decode cX9_tankNow 0 = .ok (.aload_n 0, 1) := by decide +kernel
theorem dX9_tankNow_1 : decode cX9_tankNow 1 = .ok (.getfield 7, 3) := by decide +kernel
theorem dX9_tankNow_4 : decode cX9_tankNow 4 = .ok (.iload_n 1, 1) := by decide +kernel
theorem dX9_tankNow_5 : decode cX9_tankNow 5 = .ok (.invokestatic 39, 3) := by decide +kernel
theorem dX9_tankNow_8 : decode cX9_tankNow 8 = .ok (.bipush 15, 2) := by decide +kernel
theorem dX9_tankNow_10 : decode cX9_tankNow 10 = .ok (.iadd, 1) := by decide +kernel
theorem dX9_tankNow_11 : decode cX9_tankNow 11 = .ok (.iaload, 1) := by decide +kernel
theorem dX9_tankNow_12 : decode cX9_tankNow 12 = .ok (.istore_n 2, 1) := by decide +kernel
theorem dX9_tankNow_13 : decode cX9_tankNow 13 = .ok (.aload_n 0, 1) := by decide +kernel
theorem dX9_tankNow_14 : decode cX9_tankNow 14 = .ok (.getfield 7, 3) := by decide +kernel
theorem dX9_tankNow_17 : decode cX9_tankNow 17 = .ok (.iload_n 1, 1) := by decide +kernel
theorem dX9_tankNow_18 : decode cX9_tankNow 18 = .ok (.invokestatic 39, 3) := by decide +kernel
theorem dX9_tankNow_21 : decode cX9_tankNow 21 = .ok (.bipush 15, 2) := by decide +kernel
theorem dX9_tankNow_23 : decode cX9_tankNow 23 = .ok (.iadd, 1) := by decide +kernel
theorem dX9_tankNow_24 : decode cX9_tankNow 24 = .ok (.iconst 0, 1) := by decide +kernel
theorem dX9_tankNow_25 : decode cX9_tankNow 25 = .ok (.iastore, 1) := by decide +kernel
theorem dX9_tankNow_26 : decode cX9_tankNow 26 = .ok (.iload_n 2, 1) := by decide +kernel
theorem dX9_tankNow_27 : decode cX9_tankNow 27 = .ok (.ireturn, 1) := by decide +kernel
theorem dX9_emptyTank_0 : decode cX9_emptyTank 0 = .ok (.aload_n 0, 1) := by decide +kernel
theorem dX9_emptyTank_1 : decode cX9_emptyTank 1 = .ok (.iload_n 1, 1) := by decide +kernel
theorem dX9_emptyTank_2 : decode cX9_emptyTank 2 = .ok (.invokevirtual 133, 3) := by decide +kernel
theorem dX9_emptyTank_5 : decode cX9_emptyTank 5 = .ok (.istore_n 2, 1) := by decide +kernel
theorem dX9_emptyTank_6 : decode cX9_emptyTank 6 = .ok (.iload_n 2, 1) := by decide +kernel
theorem dX9_emptyTank_7 : decode cX9_emptyTank 7 = .ok (.ifCond .eq 5, 3) := by decide +kernel
theorem dX9_emptyTank_10 : decode cX9_emptyTank 10 = .ok (.iload_n 2, 1) := by decide +kernel
theorem dX9_emptyTank_11 : decode cX9_emptyTank 11 = .ok (.ireturn, 1) := by decide +kernel
theorem dX9_emptyTank_12 : decode cX9_emptyTank 12 = .ok (.aload_n 0, 1) := by decide +kernel
theorem dX9_emptyTank_13 : decode cX9_emptyTank 13 = .ok (.invokevirtual 103, 3) := by decide +kernel
theorem dX9_emptyTank_16 : decode cX9_emptyTank 16 = .ok (.aload_n 0, 1) := by decide +kernel
theorem dX9_emptyTank_17 : decode cX9_emptyTank 17 = .ok (.iload_n 1, 1) := by decide +kernel
theorem dX9_emptyTank_18 : decode cX9_emptyTank 18 = .ok (.invokevirtual 136, 3) := by decide +kernel
theorem dX9_emptyTank_21 : decode cX9_emptyTank 21 = .ok (.ireturn, 1) := by decide +kernel
theorem dX9_passRefused_0 : decode cX9_passRefused 0 = .ok (.iload_n 1, 1) := by decide +kernel
theorem dX9_passRefused_1 : decode cX9_passRefused 1 = .ok (.iconst 1, 1) := by decide +kernel
theorem dX9_passRefused_2 : decode cX9_passRefused 2 = .ok (.sipush 200, 3) := by decide +kernel
theorem dX9_passRefused_5 : decode cX9_passRefused 5 = .ok (.invokestatic 35, 3) := by decide +kernel
theorem dX9_passRefused_8 : decode cX9_passRefused 8 = .ok (.ifCond .ne 9, 3) := by decide +kernel
theorem dX9_passRefused_11 : decode cX9_passRefused 11 = .ok (.sipush (-1002), 3) := by decide +kernel
theorem dX9_passRefused_14 : decode cX9_passRefused 14 = .ok (.goto 24, 3) := by decide +kernel
theorem dX9_passRefused_17 : decode cX9_passRefused 17 = .ok (.aload_n 0, 1) := by decide +kernel
theorem dX9_passRefused_18 : decode cX9_passRefused 18 = .ok (.getfield 7, 3) := by decide +kernel
theorem dX9_passRefused_21 : decode cX9_passRefused 21 = .ok (.iconst 2, 1) := by decide +kernel
theorem dX9_passRefused_22 : decode cX9_passRefused 22 = .ok (.iaload, 1) := by decide +kernel
theorem dX9_passRefused_23 : decode cX9_passRefused 23 = .ok (.iload_n 1, 1) := by decide +kernel
theorem dX9_passRefused_24 : decode cX9_passRefused 24 = .ok (.iadd, 1) := by decide +kernel
theorem dX9_passRefused_25 : decode cX9_passRefused 25 = .ok (.sipush 20000, 3) := by decide +kernel
theorem dX9_passRefused_28 : decode cX9_passRefused 28 = .ok (.if_icmp .le 9, 3) := by decide +kernel
theorem dX9_passRefused_31 : decode cX9_passRefused 31 = .ok (.sipush (-1003), 3) := by decide +kernel
theorem dX9_passRefused_34 : decode cX9_passRefused 34 = .ok (.goto 4, 3) := by decide +kernel
theorem dX9_passRefused_37 : decode cX9_passRefused 37 = .ok (.iconst 0, 1) := by decide +kernel
theorem dX9_passRefused_38 : decode cX9_passRefused 38 = .ok (.ireturn, 1) := by decide +kernel
theorem dX9_pass_0 : decode cX9_pass 0 = .ok (.aload_n 0, 1) := by decide +kernel
theorem dX9_pass_1 : decode cX9_pass 1 = .ok (.iload_n 1, 1) := by decide +kernel
theorem dX9_pass_2 : decode cX9_pass 2 = .ok (.invokevirtual 139, 3) := by decide +kernel
theorem dX9_pass_5 : decode cX9_pass 5 = .ok (.istore_n 2, 1) := by decide +kernel
theorem dX9_pass_6 : decode cX9_pass 6 = .ok (.iload_n 2, 1) := by decide +kernel
theorem dX9_pass_7 : decode cX9_pass 7 = .ok (.ifCond .eq 5, 3) := by decide +kernel
theorem dX9_pass_10 : decode cX9_pass 10 = .ok (.iload_n 2, 1) := by decide +kernel
theorem dX9_pass_11 : decode cX9_pass 11 = .ok (.ireturn, 1) := by decide +kernel
theorem dX9_pass_12 : decode cX9_pass 12 = .ok (.aload_n 0, 1) := by decide +kernel
theorem dX9_pass_13 : decode cX9_pass 13 = .ok (.invokevirtual 103, 3) := by decide +kernel
theorem dX9_pass_16 : decode cX9_pass 16 = .ok (.aload_n 0, 1) := by decide +kernel
theorem dX9_pass_17 : decode cX9_pass 17 = .ok (.iload_n 1, 1) := by decide +kernel
theorem dX9_pass_18 : decode cX9_pass 18 = .ok (.invokevirtual 142, 3) := by decide +kernel
theorem dX9_pass_21 : decode cX9_pass 21 = .ok (.ireturn, 1) := by decide +kernel
theorem dX9_type_0 : decode cX9_type 0 = .ok (.iload_n 1, 1) := by decide +kernel
theorem dX9_type_1 : decode cX9_type 1 = .ok (.bipush 33, 2) := by decide +kernel
theorem dX9_type_3 : decode cX9_type 3 = .ok (.bipush 126, 2) := by decide +kernel
theorem dX9_type_5 : decode cX9_type 5 = .ok (.invokestatic 35, 3) := by decide +kernel
theorem dX9_type_8 : decode cX9_type 8 = .ok (.ifCond .ne 7, 3) := by decide +kernel
theorem dX9_type_11 : decode cX9_type 11 = .ok (.sipush (-1002), 3) := by decide +kernel
theorem dX9_type_14 : decode cX9_type 14 = .ok (.ireturn, 1) := by decide +kernel
theorem dX9_type_15 : decode cX9_type 15 = .ok (.aload_n 0, 1) := by decide +kernel
theorem dX9_type_16 : decode cX9_type 16 = .ok (.getfield 145, 3) := by decide +kernel
theorem dX9_type_19 : decode cX9_type 19 = .ok (.bipush 40, 2) := by decide +kernel
theorem dX9_type_21 : decode cX9_type 21 = .ok (.if_icmp .ne 7, 3) := by decide +kernel
theorem dX9_type_24 : decode cX9_type 24 = .ok (.sipush (-1004), 3) := by decide +kernel
theorem dX9_type_27 : decode cX9_type 27 = .ok (.ireturn, 1) := by decide +kernel
theorem dX9_type_28 : decode cX9_type 28 = .ok (.aload_n 0, 1) := by decide +kernel
theorem dX9_type_29 : decode cX9_type 29 = .ok (.getfield 25, 3) := by decide +kernel
theorem dX9_type_32 : decode cX9_type 32 = .ok (.aload_n 0, 1) := by decide +kernel
theorem dX9_type_33 : decode cX9_type 33 = .ok (.getfield 145, 3) := by decide +kernel
theorem dX9_type_36 : decode cX9_type 36 = .ok (.iload_n 1, 1) := by decide +kernel
theorem dX9_type_37 : decode cX9_type 37 = .ok (.iastore, 1) := by decide +kernel
theorem dX9_type_38 : decode cX9_type 38 = .ok (.aload_n 0, 1) := by decide +kernel
theorem dX9_type_39 : decode cX9_type 39 = .ok (.dup, 1) := by decide +kernel
theorem dX9_type_40 : decode cX9_type 40 = .ok (.getfield 145, 3) := by decide +kernel
theorem dX9_type_43 : decode cX9_type 43 = .ok (.iconst 1, 1) := by decide +kernel
theorem dX9_type_44 : decode cX9_type 44 = .ok (.iadd, 1) := by decide +kernel
theorem dX9_type_45 : decode cX9_type 45 = .ok (.putfield 145, 3) := by decide +kernel
theorem dX9_type_48 : decode cX9_type 48 = .ok (.aload_n 0, 1) := by decide +kernel
theorem dX9_type_49 : decode cX9_type 49 = .ok (.getfield 145, 3) := by decide +kernel
theorem dX9_type_52 : decode cX9_type 52 = .ok (.ireturn, 1) := by decide +kernel
theorem dX9_clearText_0 : decode cX9_clearText 0 = .ok (.aload_n 0, 1) := by decide +kernel
theorem dX9_clearText_1 : decode cX9_clearText 1 = .ok (.getfield 145, 3) := by decide +kernel
theorem dX9_clearText_4 : decode cX9_clearText 4 = .ok (.istore_n 1, 1) := by decide +kernel
theorem dX9_clearText_5 : decode cX9_clearText 5 = .ok (.aload_n 0, 1) := by decide +kernel
theorem dX9_clearText_6 : decode cX9_clearText 6 = .ok (.iconst 0, 1) := by decide +kernel
theorem dX9_clearText_7 : decode cX9_clearText 7 = .ok (.putfield 145, 3) := by decide +kernel
theorem dX9_clearText_10 : decode cX9_clearText 10 = .ok (.iload_n 1, 1) := by decide +kernel
theorem dX9_clearText_11 : decode cX9_clearText 11 = .ok (.ireturn, 1) := by decide +kernel
theorem dX9_isDigit_0 : decode cX9_isDigit 0 = .ok (.aload_n 0, 1) := by decide +kernel
theorem dX9_isDigit_1 : decode cX9_isDigit 1 = .ok (.getfield 148, 3) := by decide +kernel
theorem dX9_isDigit_4 : decode cX9_isDigit 4 = .ok (.aload_n 0, 1) := by decide +kernel
theorem dX9_isDigit_5 : decode cX9_isDigit 5 = .ok (.getfield 145, 3) := by decide +kernel
theorem dX9_isDigit_8 : decode cX9_isDigit 8 = .ok (.if_icmp .ge 26, 3) := by decide +kernel
theorem dX9_isDigit_11 : decode cX9_isDigit 11 = .ok (.aload_n 0, 1) := by decide +kernel
theorem dX9_isDigit_12 : decode cX9_isDigit 12 = .ok (.getfield 25, 3) := by decide +kernel
theorem dX9_isDigit_15 : decode cX9_isDigit 15 = .ok (.aload_n 0, 1) := by decide +kernel
theorem dX9_isDigit_16 : decode cX9_isDigit 16 = .ok (.getfield 148, 3) := by decide +kernel
theorem dX9_isDigit_19 : decode cX9_isDigit 19 = .ok (.iaload, 1) := by decide +kernel
theorem dX9_isDigit_20 : decode cX9_isDigit 20 = .ok (.bipush 48, 2) := by decide +kernel
theorem dX9_isDigit_22 : decode cX9_isDigit 22 = .ok (.bipush 57, 2) := by decide +kernel
theorem dX9_isDigit_24 : decode cX9_isDigit 24 = .ok (.invokestatic 35, 3) := by decide +kernel
theorem dX9_isDigit_27 : decode cX9_isDigit 27 = .ok (.ifCond .eq 7, 3) := by decide +kernel
theorem dX9_isDigit_30 : decode cX9_isDigit 30 = .ok (.iconst 1, 1) := by decide +kernel
theorem dX9_isDigit_31 : decode cX9_isDigit 31 = .ok (.goto 4, 3) := by decide +kernel
theorem dX9_isDigit_34 : decode cX9_isDigit 34 = .ok (.iconst 0, 1) := by decide +kernel
theorem dX9_isDigit_35 : decode cX9_isDigit 35 = .ok (.ireturn, 1) := by decide +kernel
theorem dX9_digit_0 : decode cX9_digit 0 = .ok (.aload_n 0, 1) := by decide +kernel
theorem dX9_digit_1 : decode cX9_digit 1 = .ok (.aload_n 0, 1) := by decide +kernel
theorem dX9_digit_2 : decode cX9_digit 2 = .ok (.getfield 151, 3) := by decide +kernel
theorem dX9_digit_5 : decode cX9_digit 5 = .ok (.ifCond .ne 10, 3) := by decide +kernel
theorem dX9_digit_8 : decode cX9_digit 8 = .ok (.aload_n 0, 1) := by decide +kernel
theorem dX9_digit_9 : decode cX9_digit 9 = .ok (.invokevirtual 154, 3) := by decide +kernel
theorem dX9_digit_12 : decode cX9_digit 12 = .ok (.ifCond .ne 7, 3) := by decide +kernel
theorem dX9_digit_15 : decode cX9_digit 15 = .ok (.iconst 1, 1) := by decide +kernel
theorem dX9_digit_16 : decode cX9_digit 16 = .ok (.goto 4, 3) := by decide +kernel
theorem dX9_digit_19 : decode cX9_digit 19 = .ok (.iconst 0, 1) := by decide +kernel
theorem dX9_digit_20 : decode cX9_digit 20 = .ok (.putfield 151, 3) := by decide +kernel
theorem dX9_digit_23 : decode cX9_digit 23 = .ok (.aload_n 0, 1) := by decide +kernel
theorem dX9_digit_24 : decode cX9_digit 24 = .ok (.getfield 151, 3) := by decide +kernel
theorem dX9_digit_27 : decode cX9_digit 27 = .ok (.ifCond .eq 7, 3) := by decide +kernel
theorem dX9_digit_30 : decode cX9_digit 30 = .ok (.iconst 0, 1) := by decide +kernel
theorem dX9_digit_31 : decode cX9_digit 31 = .ok (.goto 15, 3) := by decide +kernel
theorem dX9_digit_34 : decode cX9_digit 34 = .ok (.aload_n 0, 1) := by decide +kernel
theorem dX9_digit_35 : decode cX9_digit 35 = .ok (.getfield 25, 3) := by decide +kernel
theorem dX9_digit_38 : decode cX9_digit 38 = .ok (.aload_n 0, 1) := by decide +kernel
theorem dX9_digit_39 : decode cX9_digit 39 = .ok (.getfield 148, 3) := by decide +kernel
theorem dX9_digit_42 : decode cX9_digit 42 = .ok (.iaload, 1) := by decide +kernel
theorem dX9_digit_43 : decode cX9_digit 43 = .ok (.bipush 48, 2) := by decide +kernel
theorem dX9_digit_45 : decode cX9_digit 45 = .ok (.isub, 1) := by decide +kernel
theorem dX9_digit_46 : decode cX9_digit 46 = .ok (.istore_n 1, 1) := by decide +kernel
theorem dX9_digit_47 : decode cX9_digit 47 = .ok (.aload_n 0, 1) := by decide +kernel
theorem dX9_digit_48 : decode cX9_digit 48 = .ok (.dup, 1) := by decide +kernel
theorem dX9_digit_49 : decode cX9_digit 49 = .ok (.getfield 148, 3) := by decide +kernel
theorem dX9_digit_52 : decode cX9_digit 52 = .ok (.aload_n 0, 1) := by decide +kernel
theorem dX9_digit_53 : decode cX9_digit 53 = .ok (.getfield 151, 3) := by decide +kernel
theorem dX9_digit_56 : decode cX9_digit 56 = .ok (.ifCond .eq 7, 3) := by decide +kernel
theorem dX9_digit_59 : decode cX9_digit 59 = .ok (.iconst 0, 1) := by decide +kernel
theorem dX9_digit_60 : decode cX9_digit 60 = .ok (.goto 4, 3) := by decide +kernel
theorem dX9_digit_63 : decode cX9_digit 63 = .ok (.iconst 1, 1) := by decide +kernel
theorem dX9_digit_64 : decode cX9_digit 64 = .ok (.iadd, 1) := by decide +kernel
theorem dX9_digit_65 : decode cX9_digit 65 = .ok (.putfield 148, 3) := by decide +kernel
theorem dX9_digit_68 : decode cX9_digit 68 = .ok (.iload_n 1, 1) := by decide +kernel
theorem dX9_digit_69 : decode cX9_digit 69 = .ok (.ireturn, 1) := by decide +kernel
theorem dX9_number_0 : decode cX9_number 0 = .ok (.aload_n 0, 1) := by decide +kernel
theorem dX9_number_1 : decode cX9_number 1 = .ok (.invokevirtual 158, 3) := by decide +kernel
theorem dX9_number_4 : decode cX9_number 4 = .ok (.istore_n 1, 1) := by decide +kernel
theorem dX9_number_5 : decode cX9_number 5 = .ok (.iconst 1, 1) := by decide +kernel
theorem dX9_number_6 : decode cX9_number 6 = .ok (.istore_n 2, 1) := by decide +kernel
theorem dX9_number_7 : decode cX9_number 7 = .ok (.iload_n 2, 1) := by decide +kernel
theorem dX9_number_8 : decode cX9_number 8 = .ok (.iconst 3, 1) := by decide +kernel
theorem dX9_number_9 : decode cX9_number 9 = .ok (.if_icmp .ge 51, 3) := by decide +kernel
theorem dX9_number_12 : decode cX9_number 12 = .ok (.aload_n 0, 1) := by decide +kernel
theorem dX9_number_13 : decode cX9_number 13 = .ok (.getfield 151, 3) := by decide +kernel
theorem dX9_number_16 : decode cX9_number 16 = .ok (.ifCond .ne 44, 3) := by decide +kernel
theorem dX9_number_19 : decode cX9_number 19 = .ok (.aload_n 0, 1) := by decide +kernel
theorem dX9_number_20 : decode cX9_number 20 = .ok (.invokevirtual 154, 3) := by decide +kernel
theorem dX9_number_23 : decode cX9_number 23 = .ok (.ifCond .eq 37, 3) := by decide +kernel
theorem dX9_number_26 : decode cX9_number 26 = .ok (.bipush 10, 2) := by decide +kernel
theorem dX9_number_28 : decode cX9_number 28 = .ok (.iload_n 1, 1) := by decide +kernel
theorem dX9_number_29 : decode cX9_number 29 = .ok (.imul, 1) := by decide +kernel
theorem dX9_number_30 : decode cX9_number 30 = .ok (.aload_n 0, 1) := by decide +kernel
theorem dX9_number_31 : decode cX9_number 31 = .ok (.getfield 25, 3) := by decide +kernel
theorem dX9_number_34 : decode cX9_number 34 = .ok (.aload_n 0, 1) := by decide +kernel
theorem dX9_number_35 : decode cX9_number 35 = .ok (.getfield 148, 3) := by decide +kernel
theorem dX9_number_38 : decode cX9_number 38 = .ok (.iaload, 1) := by decide +kernel
theorem dX9_number_39 : decode cX9_number 39 = .ok (.iadd, 1) := by decide +kernel
theorem dX9_number_40 : decode cX9_number 40 = .ok (.bipush 48, 2) := by decide +kernel
theorem dX9_number_42 : decode cX9_number 42 = .ok (.isub, 1) := by decide +kernel
theorem dX9_number_43 : decode cX9_number 43 = .ok (.istore_n 1, 1) := by decide +kernel
theorem dX9_number_44 : decode cX9_number 44 = .ok (.aload_n 0, 1) := by decide +kernel
theorem dX9_number_45 : decode cX9_number 45 = .ok (.dup, 1) := by decide +kernel
theorem dX9_number_46 : decode cX9_number 46 = .ok (.getfield 148, 3) := by decide +kernel
theorem dX9_number_49 : decode cX9_number 49 = .ok (.iconst 1, 1) := by decide +kernel
theorem dX9_number_50 : decode cX9_number 50 = .ok (.iadd, 1) := by decide +kernel
theorem dX9_number_51 : decode cX9_number 51 = .ok (.putfield 148, 3) := by decide +kernel
theorem dX9_number_54 : decode cX9_number 54 = .ok (.iinc 2 1, 3) := by decide +kernel
theorem dX9_number_57 : decode cX9_number 57 = .ok (.goto (-50), 3) := by decide +kernel
theorem dX9_number_60 : decode cX9_number 60 = .ok (.iload_n 1, 1) := by decide +kernel
theorem dX9_number_61 : decode cX9_number 61 = .ok (.ireturn, 1) := by decide +kernel
theorem dX9_sign_0 : decode cX9_sign 0 = .ok (.aload_n 0, 1) := by decide +kernel
theorem dX9_sign_1 : decode cX9_sign 1 = .ok (.aload_n 0, 1) := by decide +kernel
theorem dX9_sign_2 : decode cX9_sign 2 = .ok (.getfield 151, 3) := by decide +kernel
theorem dX9_sign_5 : decode cX9_sign 5 = .ok (.ifCond .ne 27, 3) := by decide +kernel
theorem dX9_sign_8 : decode cX9_sign 8 = .ok (.aload_n 0, 1) := by decide +kernel
theorem dX9_sign_9 : decode cX9_sign 9 = .ok (.getfield 148, 3) := by decide +kernel
theorem dX9_sign_12 : decode cX9_sign 12 = .ok (.aload_n 0, 1) := by decide +kernel
theorem dX9_sign_13 : decode cX9_sign 13 = .ok (.getfield 145, 3) := by decide +kernel
theorem dX9_sign_16 : decode cX9_sign 16 = .ok (.if_icmp .eq 16, 3) := by decide +kernel
theorem dX9_sign_19 : decode cX9_sign 19 = .ok (.aload_n 0, 1) := by decide +kernel
theorem dX9_sign_20 : decode cX9_sign 20 = .ok (.getfield 25, 3) := by decide +kernel
theorem dX9_sign_23 : decode cX9_sign 23 = .ok (.aload_n 0, 1) := by decide +kernel
theorem dX9_sign_24 : decode cX9_sign 24 = .ok (.getfield 148, 3) := by decide +kernel
theorem dX9_sign_27 : decode cX9_sign 27 = .ok (.iaload, 1) := by decide +kernel
theorem dX9_sign_28 : decode cX9_sign 28 = .ok (.iload_n 1, 1) := by decide +kernel
theorem dX9_sign_29 : decode cX9_sign 29 = .ok (.if_icmp .eq 7, 3) := by decide +kernel
theorem dX9_sign_32 : decode cX9_sign 32 = .ok (.iconst 1, 1) := by decide +kernel
theorem dX9_sign_33 : decode cX9_sign 33 = .ok (.goto 4, 3) := by decide +kernel
theorem dX9_sign_36 : decode cX9_sign 36 = .ok (.iconst 0, 1) := by decide +kernel
theorem dX9_sign_37 : decode cX9_sign 37 = .ok (.putfield 151, 3) := by decide +kernel
theorem dX9_sign_40 : decode cX9_sign 40 = .ok (.aload_n 0, 1) := by decide +kernel
theorem dX9_sign_41 : decode cX9_sign 41 = .ok (.dup, 1) := by decide +kernel
theorem dX9_sign_42 : decode cX9_sign 42 = .ok (.getfield 148, 3) := by decide +kernel
theorem dX9_sign_45 : decode cX9_sign 45 = .ok (.aload_n 0, 1) := by decide +kernel
theorem dX9_sign_46 : decode cX9_sign 46 = .ok (.getfield 151, 3) := by decide +kernel
theorem dX9_sign_49 : decode cX9_sign 49 = .ok (.ifCond .eq 7, 3) := by decide +kernel
theorem dX9_sign_52 : decode cX9_sign 52 = .ok (.iconst 0, 1) := by decide +kernel
theorem dX9_sign_53 : decode cX9_sign 53 = .ok (.goto 4, 3) := by decide +kernel
theorem dX9_sign_56 : decode cX9_sign 56 = .ok (.iconst 1, 1) := by decide +kernel
theorem dX9_sign_57 : decode cX9_sign 57 = .ok (.iadd, 1) := by decide +kernel
theorem dX9_sign_58 : decode cX9_sign 58 = .ok (.putfield 148, 3) := by decide +kernel
theorem dX9_sign_61 : decode cX9_sign 61 = .ok (.return_, 1) := by decide +kernel
theorem dX9_readCommand_0 : decode cX9_readCommand 0 = .ok (.aload_n 0, 1) := by decide +kernel
theorem dX9_readCommand_1 : decode cX9_readCommand 1 = .ok (.aload_n 0, 1) := by decide +kernel
theorem dX9_readCommand_2 : decode cX9_readCommand 2 = .ok (.getfield 148, 3) := by decide +kernel
theorem dX9_readCommand_5 : decode cX9_readCommand 5 = .ok (.aload_n 0, 1) := by decide +kernel
theorem dX9_readCommand_6 : decode cX9_readCommand 6 = .ok (.getfield 145, 3) := by decide +kernel
theorem dX9_readCommand_9 : decode cX9_readCommand 9 = .ok (.if_icmp .ge 15, 3) := by decide +kernel
theorem dX9_readCommand_12 : decode cX9_readCommand 12 = .ok (.aload_n 0, 1) := by decide +kernel
theorem dX9_readCommand_13 : decode cX9_readCommand 13 = .ok (.getfield 25, 3) := by decide +kernel
theorem dX9_readCommand_16 : decode cX9_readCommand 16 = .ok (.aload_n 0, 1) := by decide +kernel
theorem dX9_readCommand_17 : decode cX9_readCommand 17 = .ok (.getfield 148, 3) := by decide +kernel
theorem dX9_readCommand_20 : decode cX9_readCommand 20 = .ok (.iaload, 1) := by decide +kernel
theorem dX9_readCommand_21 : decode cX9_readCommand 21 = .ok (.goto 4, 3) := by decide +kernel
theorem dX9_readCommand_24 : decode cX9_readCommand 24 = .ok (.iconst 0, 1) := by decide +kernel
theorem dX9_readCommand_25 : decode cX9_readCommand 25 = .ok (.putfield 161, 3) := by decide +kernel
theorem dX9_readCommand_28 : decode cX9_readCommand 28 = .ok (.aload_n 0, 1) := by decide +kernel
theorem dX9_readCommand_29 : decode cX9_readCommand 29 = .ok (.getfield 161, 3) := by decide +kernel
theorem dX9_readCommand_32 : decode cX9_readCommand 32 = .ok (.bipush 114, 2) := by decide +kernel
theorem dX9_readCommand_34 : decode cX9_readCommand 34 = .ok (.if_icmp .eq 30, 3) := by decide +kernel
theorem dX9_readCommand_37 : decode cX9_readCommand 37 = .ok (.aload_n 0, 1) := by decide +kernel
theorem dX9_readCommand_38 : decode cX9_readCommand 38 = .ok (.getfield 161, 3) := by decide +kernel
theorem dX9_readCommand_41 : decode cX9_readCommand 41 = .ok (.bipush 104, 2) := by decide +kernel
theorem dX9_readCommand_43 : decode cX9_readCommand 43 = .ok (.if_icmp .eq 21, 3) := by decide +kernel
theorem dX9_readCommand_46 : decode cX9_readCommand 46 = .ok (.aload_n 0, 1) := by decide +kernel
theorem dX9_readCommand_47 : decode cX9_readCommand 47 = .ok (.getfield 161, 3) := by decide +kernel
theorem dX9_readCommand_50 : decode cX9_readCommand 50 = .ok (.bipush 101, 2) := by decide +kernel
theorem dX9_readCommand_52 : decode cX9_readCommand 52 = .ok (.if_icmp .eq 12, 3) := by decide +kernel
theorem dX9_readCommand_55 : decode cX9_readCommand 55 = .ok (.aload_n 0, 1) := by decide +kernel
theorem dX9_readCommand_56 : decode cX9_readCommand 56 = .ok (.getfield 161, 3) := by decide +kernel
theorem dX9_readCommand_59 : decode cX9_readCommand 59 = .ok (.bipush 115, 2) := by decide +kernel
theorem dX9_readCommand_61 : decode cX9_readCommand 61 = .ok (.if_icmp .ne 7, 3) := by decide +kernel
theorem dX9_readCommand_64 : decode cX9_readCommand 64 = .ok (.iconst 1, 1) := by decide +kernel
theorem dX9_readCommand_65 : decode cX9_readCommand 65 = .ok (.goto 4, 3) := by decide +kernel
theorem dX9_readCommand_68 : decode cX9_readCommand 68 = .ok (.iconst 0, 1) := by decide +kernel
theorem dX9_readCommand_69 : decode cX9_readCommand 69 = .ok (.istore_n 1, 1) := by decide +kernel
theorem dX9_readCommand_70 : decode cX9_readCommand 70 = .ok (.aload_n 0, 1) := by decide +kernel
theorem dX9_readCommand_71 : decode cX9_readCommand 71 = .ok (.iload_n 1, 1) := by decide +kernel
theorem dX9_readCommand_72 : decode cX9_readCommand 72 = .ok (.ifCond .ne 25, 3) := by decide +kernel
theorem dX9_readCommand_75 : decode cX9_readCommand 75 = .ok (.aload_n 0, 1) := by decide +kernel
theorem dX9_readCommand_76 : decode cX9_readCommand 76 = .ok (.getfield 161, 3) := by decide +kernel
theorem dX9_readCommand_79 : decode cX9_readCommand 79 = .ok (.bipush 105, 2) := by decide +kernel
theorem dX9_readCommand_81 : decode cX9_readCommand 81 = .ok (.if_icmp .eq 16, 3) := by decide +kernel
theorem dX9_readCommand_84 : decode cX9_readCommand 84 = .ok (.aload_n 0, 1) := by decide +kernel
theorem dX9_readCommand_85 : decode cX9_readCommand 85 = .ok (.getfield 161, 3) := by decide +kernel
theorem dX9_readCommand_88 : decode cX9_readCommand 88 = .ok (.bipush 119, 2) := by decide +kernel
theorem dX9_readCommand_90 : decode cX9_readCommand 90 = .ok (.if_icmp .eq 7, 3) := by decide +kernel
theorem dX9_readCommand_93 : decode cX9_readCommand 93 = .ok (.iconst 1, 1) := by decide +kernel
theorem dX9_readCommand_94 : decode cX9_readCommand 94 = .ok (.goto 4, 3) := by decide +kernel
theorem dX9_readCommand_97 : decode cX9_readCommand 97 = .ok (.iconst 0, 1) := by decide +kernel
theorem dX9_readCommand_98 : decode cX9_readCommand 98 = .ok (.putfield 151, 3) := by decide +kernel
theorem dX9_readCommand_101 : decode cX9_readCommand 101 = .ok (.aload_n 0, 1) := by decide +kernel
theorem dX9_readCommand_102 : decode cX9_readCommand 102 = .ok (.dup, 1) := by decide +kernel
theorem dX9_readCommand_103 : decode cX9_readCommand 103 = .ok (.getfield 148, 3) := by decide +kernel
theorem dX9_readCommand_106 : decode cX9_readCommand 106 = .ok (.aload_n 0, 1) := by decide +kernel
theorem dX9_readCommand_107 : decode cX9_readCommand 107 = .ok (.getfield 151, 3) := by decide +kernel
theorem dX9_readCommand_110 : decode cX9_readCommand 110 = .ok (.ifCond .eq 7, 3) := by decide +kernel
theorem dX9_readCommand_113 : decode cX9_readCommand 113 = .ok (.iconst 0, 1) := by decide +kernel
theorem dX9_readCommand_114 : decode cX9_readCommand 114 = .ok (.goto 4, 3) := by decide +kernel
theorem dX9_readCommand_117 : decode cX9_readCommand 117 = .ok (.iconst 1, 1) := by decide +kernel
theorem dX9_readCommand_118 : decode cX9_readCommand 118 = .ok (.iadd, 1) := by decide +kernel
theorem dX9_readCommand_119 : decode cX9_readCommand 119 = .ok (.putfield 148, 3) := by decide +kernel
theorem dX9_readCommand_122 : decode cX9_readCommand 122 = .ok (.aload_n 0, 1) := by decide +kernel
theorem dX9_readCommand_123 : decode cX9_readCommand 123 = .ok (.iload_n 1, 1) := by decide +kernel
theorem dX9_readCommand_124 : decode cX9_readCommand 124 = .ok (.ifCond .eq 10, 3) := by decide +kernel
theorem dX9_readCommand_127 : decode cX9_readCommand 127 = .ok (.aload_n 0, 1) := by decide +kernel
theorem dX9_readCommand_128 : decode cX9_readCommand 128 = .ok (.invokevirtual 158, 3) := by decide +kernel
theorem dX9_readCommand_131 : decode cX9_readCommand 131 = .ok (.goto 4, 3) := by decide +kernel
theorem dX9_readCommand_134 : decode cX9_readCommand 134 = .ok (.iconst 0, 1) := by decide +kernel
theorem dX9_readCommand_135 : decode cX9_readCommand 135 = .ok (.putfield 164, 3) := by decide +kernel
theorem dX9_readCommand_138 : decode cX9_readCommand 138 = .ok (.aload_n 0, 1) := by decide +kernel
theorem dX9_readCommand_139 : decode cX9_readCommand 139 = .ok (.getfield 161, 3) := by decide +kernel
theorem dX9_readCommand_142 : decode cX9_readCommand 142 = .ok (.bipush 115, 2) := by decide +kernel
theorem dX9_readCommand_144 : decode cX9_readCommand 144 = .ok (.if_icmp .ne 9, 3) := by decide +kernel
theorem dX9_readCommand_147 : decode cX9_readCommand 147 = .ok (.aload_n 0, 1) := by decide +kernel
theorem dX9_readCommand_148 : decode cX9_readCommand 148 = .ok (.bipush 61, 2) := by decide +kernel
theorem dX9_readCommand_150 : decode cX9_readCommand 150 = .ok (.invokevirtual 167, 3) := by decide +kernel
theorem dX9_readCommand_153 : decode cX9_readCommand 153 = .ok (.aload_n 0, 1) := by decide +kernel
theorem dX9_readCommand_154 : decode cX9_readCommand 154 = .ok (.aload_n 0, 1) := by decide +kernel
theorem dX9_readCommand_155 : decode cX9_readCommand 155 = .ok (.getfield 161, 3) := by decide +kernel
theorem dX9_readCommand_158 : decode cX9_readCommand 158 = .ok (.bipush 115, 2) := by decide +kernel
theorem dX9_readCommand_160 : decode cX9_readCommand 160 = .ok (.if_icmp .eq 21, 3) := by decide +kernel
theorem dX9_readCommand_163 : decode cX9_readCommand 163 = .ok (.aload_n 0, 1) := by decide +kernel
theorem dX9_readCommand_164 : decode cX9_readCommand 164 = .ok (.getfield 161, 3) := by decide +kernel
theorem dX9_readCommand_167 : decode cX9_readCommand 167 = .ok (.bipush 105, 2) := by decide +kernel
theorem dX9_readCommand_169 : decode cX9_readCommand 169 = .ok (.if_icmp .eq 12, 3) := by decide +kernel
theorem dX9_readCommand_172 : decode cX9_readCommand 172 = .ok (.aload_n 0, 1) := by decide +kernel
theorem dX9_readCommand_173 : decode cX9_readCommand 173 = .ok (.getfield 161, 3) := by decide +kernel
theorem dX9_readCommand_176 : decode cX9_readCommand 176 = .ok (.bipush 119, 2) := by decide +kernel
theorem dX9_readCommand_178 : decode cX9_readCommand 178 = .ok (.if_icmp .ne 10, 3) := by decide +kernel
theorem dX9_readCommand_181 : decode cX9_readCommand 181 = .ok (.aload_n 0, 1) := by decide +kernel
theorem dX9_readCommand_182 : decode cX9_readCommand 182 = .ok (.invokevirtual 170, 3) := by decide +kernel
theorem dX9_readCommand_185 : decode cX9_readCommand 185 = .ok (.goto 4, 3) := by decide +kernel
theorem dX9_readCommand_188 : decode cX9_readCommand 188 = .ok (.iconst 0, 1) := by decide +kernel
theorem dX9_readCommand_189 : decode cX9_readCommand 189 = .ok (.putfield 173, 3) := by decide +kernel
theorem dX9_readCommand_192 : decode cX9_readCommand 192 = .ok (.return_, 1) := by decide +kernel
theorem dX9_check_0 : decode cX9_check 0 = .ok (.aload_n 0, 1) := by decide +kernel
theorem dX9_check_1 : decode cX9_check 1 = .ok (.iconst 0, 1) := by decide +kernel
theorem dX9_check_2 : decode cX9_check 2 = .ok (.putfield 148, 3) := by decide +kernel
theorem dX9_check_5 : decode cX9_check 5 = .ok (.aload_n 0, 1) := by decide +kernel
theorem dX9_check_6 : decode cX9_check 6 = .ok (.iconst 0, 1) := by decide +kernel
theorem dX9_check_7 : decode cX9_check 7 = .ok (.putfield 151, 3) := by decide +kernel
theorem dX9_check_10 : decode cX9_check 10 = .ok (.aload_n 0, 1) := by decide +kernel
theorem dX9_check_11 : decode cX9_check 11 = .ok (.invokevirtual 176, 3) := by decide +kernel
theorem dX9_check_14 : decode cX9_check 14 = .ok (.aload_n 0, 1) := by decide +kernel
theorem dX9_check_15 : decode cX9_check 15 = .ok (.getfield 151, 3) := by decide +kernel
theorem dX9_check_18 : decode cX9_check 18 = .ok (.ifCond .ne 34, 3) := by decide +kernel
theorem dX9_check_21 : decode cX9_check 21 = .ok (.aload_n 0, 1) := by decide +kernel
theorem dX9_check_22 : decode cX9_check 22 = .ok (.getfield 148, 3) := by decide +kernel
theorem dX9_check_25 : decode cX9_check 25 = .ok (.aload_n 0, 1) := by decide +kernel
theorem dX9_check_26 : decode cX9_check 26 = .ok (.getfield 145, 3) := by decide +kernel
theorem dX9_check_29 : decode cX9_check 29 = .ok (.if_icmp .ge 23, 3) := by decide +kernel
theorem dX9_check_32 : decode cX9_check 32 = .ok (.aload_n 0, 1) := by decide +kernel
theorem dX9_check_33 : decode cX9_check 33 = .ok (.bipush 59, 2) := by decide +kernel
theorem dX9_check_35 : decode cX9_check 35 = .ok (.invokevirtual 167, 3) := by decide +kernel
theorem dX9_check_38 : decode cX9_check 38 = .ok (.aload_n 0, 1) := by decide +kernel
theorem dX9_check_39 : decode cX9_check 39 = .ok (.getfield 151, 3) := by decide +kernel
theorem dX9_check_42 : decode cX9_check 42 = .ok (.ifCond .ne (-28), 3) := by decide +kernel
theorem dX9_check_45 : decode cX9_check 45 = .ok (.aload_n 0, 1) := by decide +kernel
theorem dX9_check_46 : decode cX9_check 46 = .ok (.invokevirtual 176, 3) := by decide +kernel
theorem dX9_check_49 : decode cX9_check 49 = .ok (.goto (-35), 3) := by decide +kernel
theorem dX9_check_52 : decode cX9_check 52 = .ok (.aload_n 0, 1) := by decide +kernel
theorem dX9_check_53 : decode cX9_check 53 = .ok (.getfield 151, 3) := by decide +kernel
theorem dX9_check_56 : decode cX9_check 56 = .ok (.ifCond .eq 10, 3) := by decide +kernel
theorem dX9_check_59 : decode cX9_check 59 = .ok (.aload_n 0, 1) := by decide +kernel
theorem dX9_check_60 : decode cX9_check 60 = .ok (.getfield 148, 3) := by decide +kernel
theorem dX9_check_63 : decode cX9_check 63 = .ok (.goto 6, 3) := by decide +kernel
theorem dX9_check_66 : decode cX9_check 66 = .ok (.sipush (-1005), 3) := by decide +kernel
theorem dX9_check_69 : decode cX9_check 69 = .ok (.ireturn, 1) := by decide +kernel
theorem dX9_syntaxError_0 : decode cX9_syntaxError 0 = .ok (.aload_n 0, 1) := by decide +kernel
theorem dX9_syntaxError_1 : decode cX9_syntaxError 1 = .ok (.invokevirtual 179, 3) := by decide +kernel
theorem dX9_syntaxError_4 : decode cX9_syntaxError 4 = .ok (.ireturn, 1) := by decide +kernel
theorem dX9_perform_0 : decode cX9_perform 0 = .ok (.aload_n 0, 1) := by decide +kernel
theorem dX9_perform_1 : decode cX9_perform 1 = .ok (.aload_n 0, 1) := by decide +kernel
theorem dX9_perform_2 : decode cX9_perform 2 = .ok (.getfield 164, 3) := by decide +kernel
theorem dX9_perform_5 : decode cX9_perform 5 = .ok (.invokevirtual 106, 3) := by decide +kernel
theorem dX9_perform_8 : decode cX9_perform 8 = .ok (.ifCond .eq 21, 3) := by decide +kernel
theorem dX9_perform_11 : decode cX9_perform 11 = .ok (.aload_n 0, 1) := by decide +kernel
theorem dX9_perform_12 : decode cX9_perform 12 = .ok (.getfield 7, 3) := by decide +kernel
theorem dX9_perform_15 : decode cX9_perform 15 = .ok (.aload_n 0, 1) := by decide +kernel
theorem dX9_perform_16 : decode cX9_perform 16 = .ok (.getfield 164, 3) := by decide +kernel
theorem dX9_perform_19 : decode cX9_perform 19 = .ok (.invokestatic 39, 3) := by decide +kernel
theorem dX9_perform_22 : decode cX9_perform 22 = .ok (.bipush 9, 2) := by decide +kernel
theorem dX9_perform_24 : decode cX9_perform 24 = .ok (.iadd, 1) := by decide +kernel
theorem dX9_perform_25 : decode cX9_perform 25 = .ok (.iaload, 1) := by decide +kernel
theorem dX9_perform_26 : decode cX9_perform 26 = .ok (.goto 4, 3) := by decide +kernel
theorem dX9_perform_29 : decode cX9_perform 29 = .ok (.iconst 0, 1) := by decide +kernel
theorem dX9_perform_30 : decode cX9_perform 30 = .ok (.istore_n 1, 1) := by decide +kernel
theorem dX9_perform_31 : decode cX9_perform 31 = .ok (.aload_n 0, 1) := by decide +kernel
theorem dX9_perform_32 : decode cX9_perform 32 = .ok (.getfield 161, 3) := by decide +kernel
theorem dX9_perform_35 : decode cX9_perform 35 = .ok (.bipush 114, 2) := by decide +kernel
theorem dX9_perform_37 : decode cX9_perform 37 = .ok (.if_icmp .ne 15, 3) := by decide +kernel
theorem dX9_perform_40 : decode cX9_perform 40 = .ok (.aload_n 0, 1) := by decide +kernel
theorem dX9_perform_41 : decode cX9_perform 41 = .ok (.aload_n 0, 1) := by decide +kernel
theorem dX9_perform_42 : decode cX9_perform 42 = .ok (.getfield 164, 3) := by decide +kernel
theorem dX9_perform_45 : decode cX9_perform 45 = .ok (.iconst 1, 1) := by decide +kernel
theorem dX9_perform_46 : decode cX9_perform 46 = .ok (.invokevirtual 123, 3) := by decide +kernel
theorem dX9_perform_49 : decode cX9_perform 49 = .ok (.goto 110, 3) := by decide +kernel
theorem dX9_perform_52 : decode cX9_perform 52 = .ok (.aload_n 0, 1) := by decide +kernel
theorem dX9_perform_53 : decode cX9_perform 53 = .ok (.getfield 161, 3) := by decide +kernel
theorem dX9_perform_56 : decode cX9_perform 56 = .ok (.bipush 104, 2) := by decide +kernel
theorem dX9_perform_58 : decode cX9_perform 58 = .ok (.if_icmp .ne 15, 3) := by decide +kernel
theorem dX9_perform_61 : decode cX9_perform 61 = .ok (.aload_n 0, 1) := by decide +kernel
theorem dX9_perform_62 : decode cX9_perform 62 = .ok (.aload_n 0, 1) := by decide +kernel
theorem dX9_perform_63 : decode cX9_perform 63 = .ok (.getfield 164, 3) := by decide +kernel
theorem dX9_perform_66 : decode cX9_perform 66 = .ok (.iconst 0, 1) := by decide +kernel
theorem dX9_perform_67 : decode cX9_perform 67 = .ok (.invokevirtual 123, 3) := by decide +kernel
theorem dX9_perform_70 : decode cX9_perform 70 = .ok (.goto 89, 3) := by decide +kernel
theorem dX9_perform_73 : decode cX9_perform 73 = .ok (.aload_n 0, 1) := by decide +kernel
theorem dX9_perform_74 : decode cX9_perform 74 = .ok (.getfield 161, 3) := by decide +kernel
theorem dX9_perform_77 : decode cX9_perform 77 = .ok (.bipush 101, 2) := by decide +kernel
theorem dX9_perform_79 : decode cX9_perform 79 = .ok (.if_icmp .ne 14, 3) := by decide +kernel
theorem dX9_perform_82 : decode cX9_perform 82 = .ok (.aload_n 0, 1) := by decide +kernel
theorem dX9_perform_83 : decode cX9_perform 83 = .ok (.aload_n 0, 1) := by decide +kernel
theorem dX9_perform_84 : decode cX9_perform 84 = .ok (.getfield 164, 3) := by decide +kernel
theorem dX9_perform_87 : decode cX9_perform 87 = .ok (.invokevirtual 133, 3) := by decide +kernel
theorem dX9_perform_90 : decode cX9_perform 90 = .ok (.goto 69, 3) := by decide +kernel
theorem dX9_perform_93 : decode cX9_perform 93 = .ok (.aload_n 0, 1) := by decide +kernel
theorem dX9_perform_94 : decode cX9_perform 94 = .ok (.getfield 161, 3) := by decide +kernel
theorem dX9_perform_97 : decode cX9_perform 97 = .ok (.bipush 115, 2) := by decide +kernel
theorem dX9_perform_99 : decode cX9_perform 99 = .ok (.if_icmp .ne 19, 3) := by decide +kernel
theorem dX9_perform_102 : decode cX9_perform 102 = .ok (.aload_n 0, 1) := by decide +kernel
theorem dX9_perform_103 : decode cX9_perform 103 = .ok (.aload_n 0, 1) := by decide +kernel
theorem dX9_perform_104 : decode cX9_perform 104 = .ok (.getfield 164, 3) := by decide +kernel
theorem dX9_perform_107 : decode cX9_perform 107 = .ok (.iload_n 1, 1) := by decide +kernel
theorem dX9_perform_108 : decode cX9_perform 108 = .ok (.aload_n 0, 1) := by decide +kernel
theorem dX9_perform_109 : decode cX9_perform 109 = .ok (.getfield 173, 3) := by decide +kernel
theorem dX9_perform_112 : decode cX9_perform 112 = .ok (.invokevirtual 109, 3) := by decide +kernel
theorem dX9_perform_115 : decode cX9_perform 115 = .ok (.goto 44, 3) := by decide +kernel
theorem dX9_perform_118 : decode cX9_perform 118 = .ok (.aload_n 0, 1) := by decide +kernel
theorem dX9_perform_119 : decode cX9_perform 119 = .ok (.getfield 161, 3) := by decide +kernel
theorem dX9_perform_122 : decode cX9_perform 122 = .ok (.bipush 105, 2) := by decide +kernel
theorem dX9_perform_124 : decode cX9_perform 124 = .ok (.if_icmp .ne 27, 3) := by decide +kernel
theorem dX9_perform_127 : decode cX9_perform 127 = .ok (.aload_n 0, 1) := by decide +kernel
theorem dX9_perform_128 : decode cX9_perform 128 = .ok (.getfield 173, 3) := by decide +kernel
theorem dX9_perform_131 : decode cX9_perform 131 = .ok (.iconst 0, 1) := by decide +kernel
theorem dX9_perform_132 : decode cX9_perform 132 = .ok (.sipush 500, 3) := by decide +kernel
theorem dX9_perform_135 : decode cX9_perform 135 = .ok (.invokestatic 35, 3) := by decide +kernel
theorem dX9_perform_138 : decode cX9_perform 138 = .ok (.ifCond .eq 7, 3) := by decide +kernel
theorem dX9_perform_141 : decode cX9_perform 141 = .ok (.iconst 0, 1) := by decide +kernel
theorem dX9_perform_142 : decode cX9_perform 142 = .ok (.goto 17, 3) := by decide +kernel
theorem dX9_perform_145 : decode cX9_perform 145 = .ok (.sipush (-1002), 3) := by decide +kernel
theorem dX9_perform_148 : decode cX9_perform 148 = .ok (.goto 11, 3) := by decide +kernel
theorem dX9_perform_151 : decode cX9_perform 151 = .ok (.aload_n 0, 1) := by decide +kernel
theorem dX9_perform_152 : decode cX9_perform 152 = .ok (.aload_n 0, 1) := by decide +kernel
theorem dX9_perform_153 : decode cX9_perform 153 = .ok (.getfield 173, 3) := by decide +kernel
theorem dX9_perform_156 : decode cX9_perform 156 = .ok (.invokevirtual 139, 3) := by decide +kernel
theorem dX9_perform_159 : decode cX9_perform 159 = .ok (.istore_n 2, 1) := by decide +kernel
theorem dX9_perform_160 : decode cX9_perform 160 = .ok (.iload_n 2, 1) := by decide +kernel
theorem dX9_perform_161 : decode cX9_perform 161 = .ok (.ifCond .eq 5, 3) := by decide +kernel
theorem dX9_perform_164 : decode cX9_perform 164 = .ok (.iload_n 2, 1) := by decide +kernel
theorem dX9_perform_165 : decode cX9_perform 165 = .ok (.ireturn, 1) := by decide +kernel
theorem dX9_perform_166 : decode cX9_perform 166 = .ok (.aload_n 0, 1) := by decide +kernel
theorem dX9_perform_167 : decode cX9_perform 167 = .ok (.getfield 161, 3) := by decide +kernel
theorem dX9_perform_170 : decode cX9_perform 170 = .ok (.bipush 114, 2) := by decide +kernel
theorem dX9_perform_172 : decode cX9_perform 172 = .ok (.if_icmp .ne 14, 3) := by decide +kernel
theorem dX9_perform_175 : decode cX9_perform 175 = .ok (.aload_n 0, 1) := by decide +kernel
theorem dX9_perform_176 : decode cX9_perform 176 = .ok (.aload_n 0, 1) := by decide +kernel
theorem dX9_perform_177 : decode cX9_perform 177 = .ok (.getfield 164, 3) := by decide +kernel
theorem dX9_perform_180 : decode cX9_perform 180 = .ok (.invokevirtual 127, 3) := by decide +kernel
theorem dX9_perform_183 : decode cX9_perform 183 = .ok (.goto 96, 3) := by decide +kernel
theorem dX9_perform_186 : decode cX9_perform 186 = .ok (.aload_n 0, 1) := by decide +kernel
theorem dX9_perform_187 : decode cX9_perform 187 = .ok (.getfield 161, 3) := by decide +kernel
theorem dX9_perform_190 : decode cX9_perform 190 = .ok (.bipush 104, 2) := by decide +kernel
theorem dX9_perform_192 : decode cX9_perform 192 = .ok (.if_icmp .ne 14, 3) := by decide +kernel
theorem dX9_perform_195 : decode cX9_perform 195 = .ok (.aload_n 0, 1) := by decide +kernel
theorem dX9_perform_196 : decode cX9_perform 196 = .ok (.aload_n 0, 1) := by decide +kernel
theorem dX9_perform_197 : decode cX9_perform 197 = .ok (.getfield 164, 3) := by decide +kernel
theorem dX9_perform_200 : decode cX9_perform 200 = .ok (.invokevirtual 130, 3) := by decide +kernel
theorem dX9_perform_203 : decode cX9_perform 203 = .ok (.goto 76, 3) := by decide +kernel
theorem dX9_perform_206 : decode cX9_perform 206 = .ok (.aload_n 0, 1) := by decide +kernel
theorem dX9_perform_207 : decode cX9_perform 207 = .ok (.getfield 161, 3) := by decide +kernel
theorem dX9_perform_210 : decode cX9_perform 210 = .ok (.bipush 101, 2) := by decide +kernel
theorem dX9_perform_212 : decode cX9_perform 212 = .ok (.if_icmp .ne 14, 3) := by decide +kernel
theorem dX9_perform_215 : decode cX9_perform 215 = .ok (.aload_n 0, 1) := by decide +kernel
theorem dX9_perform_216 : decode cX9_perform 216 = .ok (.aload_n 0, 1) := by decide +kernel
theorem dX9_perform_217 : decode cX9_perform 217 = .ok (.getfield 164, 3) := by decide +kernel
theorem dX9_perform_220 : decode cX9_perform 220 = .ok (.invokevirtual 136, 3) := by decide +kernel
theorem dX9_perform_223 : decode cX9_perform 223 = .ok (.goto 56, 3) := by decide +kernel
theorem dX9_perform_226 : decode cX9_perform 226 = .ok (.aload_n 0, 1) := by decide +kernel
theorem dX9_perform_227 : decode cX9_perform 227 = .ok (.getfield 161, 3) := by decide +kernel
theorem dX9_perform_230 : decode cX9_perform 230 = .ok (.bipush 115, 2) := by decide +kernel
theorem dX9_perform_232 : decode cX9_perform 232 = .ok (.if_icmp .ne 19, 3) := by decide +kernel
theorem dX9_perform_235 : decode cX9_perform 235 = .ok (.aload_n 0, 1) := by decide +kernel
theorem dX9_perform_236 : decode cX9_perform 236 = .ok (.aload_n 0, 1) := by decide +kernel
theorem dX9_perform_237 : decode cX9_perform 237 = .ok (.getfield 164, 3) := by decide +kernel
theorem dX9_perform_240 : decode cX9_perform 240 = .ok (.iload_n 1, 1) := by decide +kernel
theorem dX9_perform_241 : decode cX9_perform 241 = .ok (.aload_n 0, 1) := by decide +kernel
theorem dX9_perform_242 : decode cX9_perform 242 = .ok (.getfield 173, 3) := by decide +kernel
theorem dX9_perform_245 : decode cX9_perform 245 = .ok (.invokevirtual 113, 3) := by decide +kernel
theorem dX9_perform_248 : decode cX9_perform 248 = .ok (.goto 31, 3) := by decide +kernel
theorem dX9_perform_251 : decode cX9_perform 251 = .ok (.aload_n 0, 1) := by decide +kernel
theorem dX9_perform_252 : decode cX9_perform 252 = .ok (.getfield 161, 3) := by decide +kernel
theorem dX9_perform_255 : decode cX9_perform 255 = .ok (.bipush 105, 2) := by decide +kernel
theorem dX9_perform_257 : decode cX9_perform 257 = .ok (.if_icmp .ne 14, 3) := by decide +kernel
theorem dX9_perform_260 : decode cX9_perform 260 = .ok (.aload_n 0, 1) := by decide +kernel
theorem dX9_perform_261 : decode cX9_perform 261 = .ok (.aload_n 0, 1) := by decide +kernel
theorem dX9_perform_262 : decode cX9_perform 262 = .ok (.getfield 173, 3) := by decide +kernel
theorem dX9_perform_265 : decode cX9_perform 265 = .ok (.invokevirtual 116, 3) := by decide +kernel
theorem dX9_perform_268 : decode cX9_perform 268 = .ok (.goto 11, 3) := by decide +kernel
theorem dX9_perform_271 : decode cX9_perform 271 = .ok (.aload_n 0, 1) := by decide +kernel
theorem dX9_perform_272 : decode cX9_perform 272 = .ok (.aload_n 0, 1) := by decide +kernel
theorem dX9_perform_273 : decode cX9_perform 273 = .ok (.getfield 173, 3) := by decide +kernel
theorem dX9_perform_276 : decode cX9_perform 276 = .ok (.invokevirtual 142, 3) := by decide +kernel
theorem dX9_perform_279 : decode cX9_perform 279 = .ok (.istore_n 3, 1) := by decide +kernel
theorem dX9_perform_280 : decode cX9_perform 280 = .ok (.iload_n 3, 1) := by decide +kernel
theorem dX9_perform_281 : decode cX9_perform 281 = .ok (.ifCond .ge 7, 3) := by decide +kernel
theorem dX9_perform_284 : decode cX9_perform 284 = .ok (.iload_n 3, 1) := by decide +kernel
theorem dX9_perform_285 : decode cX9_perform 285 = .ok (.goto 4, 3) := by decide +kernel
theorem dX9_perform_288 : decode cX9_perform 288 = .ok (.iconst 0, 1) := by decide +kernel
theorem dX9_perform_289 : decode cX9_perform 289 = .ok (.ireturn, 1) := by decide +kernel
theorem dX9_execute_0 : decode cX9_execute 0 = .ok (.aload_n 0, 1) := by decide +kernel
theorem dX9_execute_1 : decode cX9_execute 1 = .ok (.invokevirtual 179, 3) := by decide +kernel
theorem dX9_execute_4 : decode cX9_execute 4 = .ok (.istore_n 1, 1) := by decide +kernel
theorem dX9_execute_5 : decode cX9_execute 5 = .ok (.iload_n 1, 1) := by decide +kernel
theorem dX9_execute_6 : decode cX9_execute 6 = .ok (.sipush (-1005), 3) := by decide +kernel
theorem dX9_execute_9 : decode cX9_execute 9 = .ok (.if_icmp .eq 9, 3) := by decide +kernel
theorem dX9_execute_12 : decode cX9_execute 12 = .ok (.sipush (-2000), 3) := by decide +kernel
theorem dX9_execute_15 : decode cX9_execute 15 = .ok (.iload_n 1, 1) := by decide +kernel
theorem dX9_execute_16 : decode cX9_execute 16 = .ok (.isub, 1) := by decide +kernel
theorem dX9_execute_17 : decode cX9_execute 17 = .ok (.ireturn, 1) := by decide +kernel
theorem dX9_execute_18 : decode cX9_execute 18 = .ok (.aload_n 0, 1) := by decide +kernel
theorem dX9_execute_19 : decode cX9_execute 19 = .ok (.invokevirtual 103, 3) := by decide +kernel
theorem dX9_execute_22 : decode cX9_execute 22 = .ok (.aload_n 0, 1) := by decide +kernel
theorem dX9_execute_23 : decode cX9_execute 23 = .ok (.iconst 0, 1) := by decide +kernel
theorem dX9_execute_24 : decode cX9_execute 24 = .ok (.putfield 148, 3) := by decide +kernel
theorem dX9_execute_27 : decode cX9_execute 27 = .ok (.aload_n 0, 1) := by decide +kernel
theorem dX9_execute_28 : decode cX9_execute 28 = .ok (.iconst 0, 1) := by decide +kernel
theorem dX9_execute_29 : decode cX9_execute 29 = .ok (.putfield 28, 3) := by decide +kernel
theorem dX9_execute_32 : decode cX9_execute 32 = .ok (.iconst 0, 1) := by decide +kernel
theorem dX9_execute_33 : decode cX9_execute 33 = .ok (.istore_n 2, 1) := by decide +kernel
theorem dX9_execute_34 : decode cX9_execute 34 = .ok (.aload_n 0, 1) := by decide +kernel
theorem dX9_execute_35 : decode cX9_execute 35 = .ok (.getfield 148, 3) := by decide +kernel
theorem dX9_execute_38 : decode cX9_execute 38 = .ok (.aload_n 0, 1) := by decide +kernel
theorem dX9_execute_39 : decode cX9_execute 39 = .ok (.getfield 145, 3) := by decide +kernel
theorem dX9_execute_42 : decode cX9_execute 42 = .ok (.if_icmp .ge 40, 3) := by decide +kernel
theorem dX9_execute_45 : decode cX9_execute 45 = .ok (.iload_n 2, 1) := by decide +kernel
theorem dX9_execute_46 : decode cX9_execute 46 = .ok (.ifCond .le 9, 3) := by decide +kernel
theorem dX9_execute_49 : decode cX9_execute 49 = .ok (.aload_n 0, 1) := by decide +kernel
theorem dX9_execute_50 : decode cX9_execute 50 = .ok (.bipush 59, 2) := by decide +kernel
theorem dX9_execute_52 : decode cX9_execute 52 = .ok (.invokevirtual 167, 3) := by decide +kernel
theorem dX9_execute_55 : decode cX9_execute 55 = .ok (.aload_n 0, 1) := by decide +kernel
theorem dX9_execute_56 : decode cX9_execute 56 = .ok (.invokevirtual 176, 3) := by decide +kernel
theorem dX9_execute_59 : decode cX9_execute 59 = .ok (.aload_n 0, 1) := by decide +kernel
theorem dX9_execute_60 : decode cX9_execute 60 = .ok (.aload_n 0, 1) := by decide +kernel
theorem dX9_execute_61 : decode cX9_execute 61 = .ok (.invokevirtual 182, 3) := by decide +kernel
theorem dX9_execute_64 : decode cX9_execute 64 = .ok (.putfield 28, 3) := by decide +kernel
theorem dX9_execute_67 : decode cX9_execute 67 = .ok (.aload_n 0, 1) := by decide +kernel
theorem dX9_execute_68 : decode cX9_execute 68 = .ok (.getfield 28, 3) := by decide +kernel
theorem dX9_execute_71 : decode cX9_execute 71 = .ok (.ifCond .eq 5, 3) := by decide +kernel
theorem dX9_execute_74 : decode cX9_execute 74 = .ok (.iload_n 2, 1) := by decide +kernel
theorem dX9_execute_75 : decode cX9_execute 75 = .ok (.ireturn, 1) := by decide +kernel
theorem dX9_execute_76 : decode cX9_execute 76 = .ok (.iinc 2 1, 3) := by decide +kernel
theorem dX9_execute_79 : decode cX9_execute 79 = .ok (.goto (-45), 3) := by decide +kernel
theorem dX9_execute_82 : decode cX9_execute 82 = .ok (.iload_n 2, 1) := by decide +kernel
theorem dX9_execute_83 : decode cX9_execute 83 = .ok (.ireturn, 1) := by decide +kernel
theorem dX9_failure_0 : decode cX9_failure 0 = .ok (.aload_n 0, 1) := by decide +kernel
theorem dX9_failure_1 : decode cX9_failure 1 = .ok (.getfield 28, 3) := by decide +kernel
theorem dX9_failure_4 : decode cX9_failure 4 = .ok (.ireturn, 1) := by decide +kernel
theorem dX9_time_0 : decode cX9_time 0 = .ok (.aload_n 0, 1) := by decide +kernel
theorem dX9_time_1 : decode cX9_time 1 = .ok (.getfield 7, 3) := by decide +kernel
theorem dX9_time_4 : decode cX9_time 4 = .ok (.iconst 2, 1) := by decide +kernel
theorem dX9_time_5 : decode cX9_time 5 = .ok (.iaload, 1) := by decide +kernel
theorem dX9_time_6 : decode cX9_time 6 = .ok (.ireturn, 1) := by decide +kernel
theorem dX9_basin_0 : decode cX9_basin 0 = .ok (.aload_n 0, 1) := by decide +kernel
theorem dX9_basin_1 : decode cX9_basin 1 = .ok (.getfield 7, 3) := by decide +kernel
theorem dX9_basin_4 : decode cX9_basin 4 = .ok (.iconst 0, 1) := by decide +kernel
theorem dX9_basin_5 : decode cX9_basin 5 = .ok (.iaload, 1) := by decide +kernel
theorem dX9_basin_6 : decode cX9_basin 6 = .ok (.ireturn, 1) := by decide +kernel
theorem dX9_spilled_0 : decode cX9_spilled 0 = .ok (.aload_n 0, 1) := by decide +kernel
theorem dX9_spilled_1 : decode cX9_spilled 1 = .ok (.getfield 7, 3) := by decide +kernel
theorem dX9_spilled_4 : decode cX9_spilled 4 = .ok (.iconst 3, 1) := by decide +kernel
theorem dX9_spilled_5 : decode cX9_spilled 5 = .ok (.iaload, 1) := by decide +kernel
theorem dX9_spilled_6 : decode cX9_spilled 6 = .ok (.ireturn, 1) := by decide +kernel
theorem dX9_pumps_0 : decode cX9_pumps 0 = .ok (.aload_n 0, 1) := by decide +kernel
theorem dX9_pumps_1 : decode cX9_pumps 1 = .ok (.getfield 7, 3) := by decide +kernel
theorem dX9_pumps_4 : decode cX9_pumps 4 = .ok (.iconst 4, 1) := by decide +kernel
theorem dX9_pumps_5 : decode cX9_pumps 5 = .ok (.iaload, 1) := by decide +kernel
theorem dX9_pumps_6 : decode cX9_pumps 6 = .ok (.ireturn, 1) := by decide +kernel
theorem dX9_incidents_0 : decode cX9_incidents 0 = .ok (.aload_n 0, 1) := by decide +kernel
theorem dX9_incidents_1 : decode cX9_incidents 1 = .ok (.getfield 46, 3) := by decide +kernel
theorem dX9_incidents_4 : decode cX9_incidents 4 = .ok (.ireturn, 1) := by decide +kernel
theorem dX9_incidentKind_0 : decode cX9_incidentKind 0 = .ok (.aload_n 0, 1) := by decide +kernel
theorem dX9_incidentKind_1 : decode cX9_incidentKind 1 = .ok (.iload_n 1, 1) := by decide +kernel
theorem dX9_incidentKind_2 : decode cX9_incidentKind 2 = .ok (.invokevirtual 185, 3) := by decide +kernel
theorem dX9_incidentKind_5 : decode cX9_incidentKind 5 = .ok (.istore_n 2, 1) := by decide +kernel
theorem dX9_incidentKind_6 : decode cX9_incidentKind 6 = .ok (.iload_n 2, 1) := by decide +kernel
theorem dX9_incidentKind_7 : decode cX9_incidentKind 7 = .ok (.ifCond .ge 7, 3) := by decide +kernel
theorem dX9_incidentKind_10 : decode cX9_incidentKind 10 = .ok (.iload_n 2, 1) := by decide +kernel
theorem dX9_incidentKind_11 : decode cX9_incidentKind 11 = .ok (.goto 9, 3) := by decide +kernel
theorem dX9_incidentKind_14 : decode cX9_incidentKind 14 = .ok (.aload_n 0, 1) := by decide +kernel
theorem dX9_incidentKind_15 : decode cX9_incidentKind 15 = .ok (.getfield 16, 3) := by decide +kernel
theorem dX9_incidentKind_18 : decode cX9_incidentKind 18 = .ok (.iload_n 2, 1) := by decide +kernel
theorem dX9_incidentKind_19 : decode cX9_incidentKind 19 = .ok (.iaload, 1) := by decide +kernel
theorem dX9_incidentKind_20 : decode cX9_incidentKind 20 = .ok (.ireturn, 1) := by decide +kernel
theorem dX9_incidentPump_0 : decode cX9_incidentPump 0 = .ok (.aload_n 0, 1) := by decide +kernel
theorem dX9_incidentPump_1 : decode cX9_incidentPump 1 = .ok (.iload_n 1, 1) := by decide +kernel
theorem dX9_incidentPump_2 : decode cX9_incidentPump 2 = .ok (.invokevirtual 185, 3) := by decide +kernel
theorem dX9_incidentPump_5 : decode cX9_incidentPump 5 = .ok (.istore_n 2, 1) := by decide +kernel
theorem dX9_incidentPump_6 : decode cX9_incidentPump 6 = .ok (.iload_n 2, 1) := by decide +kernel
theorem dX9_incidentPump_7 : decode cX9_incidentPump 7 = .ok (.ifCond .ge 7, 3) := by decide +kernel
theorem dX9_incidentPump_10 : decode cX9_incidentPump 10 = .ok (.iload_n 2, 1) := by decide +kernel
theorem dX9_incidentPump_11 : decode cX9_incidentPump 11 = .ok (.goto 9, 3) := by decide +kernel
theorem dX9_incidentPump_14 : decode cX9_incidentPump 14 = .ok (.aload_n 0, 1) := by decide +kernel
theorem dX9_incidentPump_15 : decode cX9_incidentPump 15 = .ok (.getfield 19, 3) := by decide +kernel
theorem dX9_incidentPump_18 : decode cX9_incidentPump 18 = .ok (.iload_n 2, 1) := by decide +kernel
theorem dX9_incidentPump_19 : decode cX9_incidentPump 19 = .ok (.iaload, 1) := by decide +kernel
theorem dX9_incidentPump_20 : decode cX9_incidentPump 20 = .ok (.ireturn, 1) := by decide +kernel
theorem dX9_incidentTime_0 : decode cX9_incidentTime 0 = .ok (.aload_n 0, 1) := by decide +kernel
theorem dX9_incidentTime_1 : decode cX9_incidentTime 1 = .ok (.iload_n 1, 1) := by decide +kernel
theorem dX9_incidentTime_2 : decode cX9_incidentTime 2 = .ok (.invokevirtual 185, 3) := by decide +kernel
theorem dX9_incidentTime_5 : decode cX9_incidentTime 5 = .ok (.istore_n 2, 1) := by decide +kernel
theorem dX9_incidentTime_6 : decode cX9_incidentTime 6 = .ok (.iload_n 2, 1) := by decide +kernel
theorem dX9_incidentTime_7 : decode cX9_incidentTime 7 = .ok (.ifCond .ge 7, 3) := by decide +kernel
theorem dX9_incidentTime_10 : decode cX9_incidentTime 10 = .ok (.iload_n 2, 1) := by decide +kernel
theorem dX9_incidentTime_11 : decode cX9_incidentTime 11 = .ok (.goto 9, 3) := by decide +kernel
theorem dX9_incidentTime_14 : decode cX9_incidentTime 14 = .ok (.aload_n 0, 1) := by decide +kernel
theorem dX9_incidentTime_15 : decode cX9_incidentTime 15 = .ok (.getfield 22, 3) := by decide +kernel
theorem dX9_incidentTime_18 : decode cX9_incidentTime 18 = .ok (.iload_n 2, 1) := by decide +kernel
theorem dX9_incidentTime_19 : decode cX9_incidentTime 19 = .ok (.iaload, 1) := by decide +kernel
theorem dX9_incidentTime_20 : decode cX9_incidentTime 20 = .ok (.ireturn, 1) := by decide +kernel
theorem dX9_told_0 : decode cX9_told 0 = .ok (.aload_n 0, 1) := by decide +kernel
theorem dX9_told_1 : decode cX9_told 1 = .ok (.iload_n 1, 1) := by decide +kernel
theorem dX9_told_2 : decode cX9_told 2 = .ok (.invokevirtual 106, 3) := by decide +kernel
theorem dX9_told_5 : decode cX9_told 5 = .ok (.ifCond .eq 17, 3) := by decide +kernel
theorem dX9_told_8 : decode cX9_told 8 = .ok (.aload_n 0, 1) := by decide +kernel
theorem dX9_told_9 : decode cX9_told 9 = .ok (.getfield 7, 3) := by decide +kernel
theorem dX9_told_12 : decode cX9_told 12 = .ok (.iload_n 1, 1) := by decide +kernel
theorem dX9_told_13 : decode cX9_told 13 = .ok (.invokestatic 39, 3) := by decide +kernel
theorem dX9_told_16 : decode cX9_told 16 = .ok (.iload_n 2, 1) := by decide +kernel
theorem dX9_told_17 : decode cX9_told 17 = .ok (.iadd, 1) := by decide +kernel
theorem dX9_told_18 : decode cX9_told 18 = .ok (.iaload, 1) := by decide +kernel
theorem dX9_told_19 : decode cX9_told 19 = .ok (.goto 6, 3) := by decide +kernel
theorem dX9_told_22 : decode cX9_told 22 = .ok (.sipush (-1001), 3) := by decide +kernel
theorem dX9_told_25 : decode cX9_told 25 = .ok (.ireturn, 1) := by decide +kernel
theorem dX9_phase_0 : decode cX9_phase 0 = .ok (.aload_n 0, 1) := by decide +kernel
theorem dX9_phase_1 : decode cX9_phase 1 = .ok (.iload_n 1, 1) := by decide +kernel
theorem dX9_phase_2 : decode cX9_phase 2 = .ok (.invokevirtual 106, 3) := by decide +kernel
theorem dX9_phase_5 : decode cX9_phase 5 = .ok (.ifCond .ne 7, 3) := by decide +kernel
theorem dX9_phase_8 : decode cX9_phase 8 = .ok (.sipush (-1001), 3) := by decide +kernel
theorem dX9_phase_11 : decode cX9_phase 11 = .ok (.ireturn, 1) := by decide +kernel
theorem dX9_phase_12 : decode cX9_phase 12 = .ok (.aload_n 0, 1) := by decide +kernel
theorem dX9_phase_13 : decode cX9_phase 13 = .ok (.getfield 7, 3) := by decide +kernel
theorem dX9_phase_16 : decode cX9_phase 16 = .ok (.iload_n 1, 1) := by decide +kernel
theorem dX9_phase_17 : decode cX9_phase 17 = .ok (.invokestatic 39, 3) := by decide +kernel
theorem dX9_phase_20 : decode cX9_phase 20 = .ok (.iconst 5, 1) := by decide +kernel
theorem dX9_phase_21 : decode cX9_phase 21 = .ok (.iadd, 1) := by decide +kernel
theorem dX9_phase_22 : decode cX9_phase 22 = .ok (.iaload, 1) := by decide +kernel
theorem dX9_phase_23 : decode cX9_phase 23 = .ok (.ifCond .ne 7, 3) := by decide +kernel
theorem dX9_phase_26 : decode cX9_phase 26 = .ok (.iconst 0, 1) := by decide +kernel
theorem dX9_phase_27 : decode cX9_phase 27 = .ok (.goto 17, 3) := by decide +kernel
theorem dX9_phase_30 : decode cX9_phase 30 = .ok (.iconst 1, 1) := by decide +kernel
theorem dX9_phase_31 : decode cX9_phase 31 = .ok (.aload_n 0, 1) := by decide +kernel
theorem dX9_phase_32 : decode cX9_phase 32 = .ok (.getfield 7, 3) := by decide +kernel
theorem dX9_phase_35 : decode cX9_phase 35 = .ok (.iload_n 1, 1) := by decide +kernel
theorem dX9_phase_36 : decode cX9_phase 36 = .ok (.invokestatic 39, 3) := by decide +kernel
theorem dX9_phase_39 : decode cX9_phase 39 = .ok (.bipush 7, 2) := by decide +kernel
theorem dX9_phase_41 : decode cX9_phase 41 = .ok (.iadd, 1) := by decide +kernel
theorem dX9_phase_42 : decode cX9_phase 42 = .ok (.iaload, 1) := by decide +kernel
theorem dX9_phase_43 : decode cX9_phase 43 = .ok (.iadd, 1) := by decide +kernel
theorem dX9_phase_44 : decode cX9_phase 44 = .ok (.ireturn, 1) := by decide +kernel
theorem dX9_speed_0 : decode cX9_speed 0 = .ok (.aload_n 0, 1) := by decide +kernel
theorem dX9_speed_1 : decode cX9_speed 1 = .ok (.iload_n 1, 1) := by decide +kernel
theorem dX9_speed_2 : decode cX9_speed 2 = .ok (.bipush 6, 2) := by decide +kernel
theorem dX9_speed_4 : decode cX9_speed 4 = .ok (.invokevirtual 188, 3) := by decide +kernel
theorem dX9_speed_7 : decode cX9_speed 7 = .ok (.ireturn, 1) := by decide +kernel
theorem dX9_openTicks_0 : decode cX9_openTicks 0 = .ok (.aload_n 0, 1) := by decide +kernel
theorem dX9_openTicks_1 : decode cX9_openTicks 1 = .ok (.iload_n 1, 1) := by decide +kernel
theorem dX9_openTicks_2 : decode cX9_openTicks 2 = .ok (.bipush 8, 2) := by decide +kernel
theorem dX9_openTicks_4 : decode cX9_openTicks 4 = .ok (.invokevirtual 188, 3) := by decide +kernel
theorem dX9_openTicks_7 : decode cX9_openTicks 7 = .ok (.ireturn, 1) := by decide +kernel
theorem dX9_chamberWater_0 : decode cX9_chamberWater 0 = .ok (.aload_n 0, 1) := by decide +kernel
theorem dX9_chamberWater_1 : decode cX9_chamberWater 1 = .ok (.iload_n 1, 1) := by decide +kernel
theorem dX9_chamberWater_2 : decode cX9_chamberWater 2 = .ok (.bipush 13, 2) := by decide +kernel
theorem dX9_chamberWater_4 : decode cX9_chamberWater 4 = .ok (.invokevirtual 188, 3) := by decide +kernel
theorem dX9_chamberWater_7 : decode cX9_chamberWater 7 = .ok (.ireturn, 1) := by decide +kernel
theorem dX9_air_0 : decode cX9_air 0 = .ok (.aload_n 0, 1) := by decide +kernel
theorem dX9_air_1 : decode cX9_air 1 = .ok (.iload_n 1, 1) := by decide +kernel
theorem dX9_air_2 : decode cX9_air 2 = .ok (.bipush 14, 2) := by decide +kernel
theorem dX9_air_4 : decode cX9_air 4 = .ok (.invokevirtual 188, 3) := by decide +kernel
theorem dX9_air_7 : decode cX9_air 7 = .ok (.ireturn, 1) := by decide +kernel
theorem dX9_chamberHead_0 : decode cX9_chamberHead 0 = .ok (.aload_n 0, 1) := by decide +kernel
theorem dX9_chamberHead_1 : decode cX9_chamberHead 1 = .ok (.iload_n 1, 1) := by decide +kernel
theorem dX9_chamberHead_2 : decode cX9_chamberHead 2 = .ok (.invokevirtual 106, 3) := by decide +kernel
theorem dX9_chamberHead_5 : decode cX9_chamberHead 5 = .ok (.ifCond .eq 14, 3) := by decide +kernel
theorem dX9_chamberHead_8 : decode cX9_chamberHead 8 = .ok (.aload_n 0, 1) := by decide +kernel
theorem dX9_chamberHead_9 : decode cX9_chamberHead 9 = .ok (.iload_n 1, 1) := by decide +kernel
theorem dX9_chamberHead_10 : decode cX9_chamberHead 10 = .ok (.invokestatic 39, 3) := by decide +kernel
theorem dX9_chamberHead_13 : decode cX9_chamberHead 13 = .ok (.invokevirtual 72, 3) := by decide +kernel
theorem dX9_chamberHead_16 : decode cX9_chamberHead 16 = .ok (.goto 6, 3) := by decide +kernel
theorem dX9_chamberHead_19 : decode cX9_chamberHead 19 = .ok (.sipush (-1001), 3) := by decide +kernel
theorem dX9_chamberHead_22 : decode cX9_chamberHead 22 = .ok (.ireturn, 1) := by decide +kernel
theorem dX9_beats_0 : decode cX9_beats 0 = .ok (.aload_n 0, 1) := by decide +kernel
theorem dX9_beats_1 : decode cX9_beats 1 = .ok (.iload_n 1, 1) := by decide +kernel
theorem dX9_beats_2 : decode cX9_beats 2 = .ok (.bipush 16, 2) := by decide +kernel
theorem dX9_beats_4 : decode cX9_beats 4 = .ok (.invokevirtual 188, 3) := by decide +kernel
theorem dX9_beats_7 : decode cX9_beats 7 = .ok (.ireturn, 1) := by decide +kernel
theorem dX9_wasted_0 : decode cX9_wasted 0 = .ok (.aload_n 0, 1) := by decide +kernel
theorem dX9_wasted_1 : decode cX9_wasted 1 = .ok (.iload_n 1, 1) := by decide +kernel
theorem dX9_wasted_2 : decode cX9_wasted 2 = .ok (.bipush 17, 2) := by decide +kernel
theorem dX9_wasted_4 : decode cX9_wasted 4 = .ok (.invokevirtual 188, 3) := by decide +kernel
theorem dX9_wasted_7 : decode cX9_wasted 7 = .ok (.ireturn, 1) := by decide +kernel
theorem dX9_relieved_0 : decode cX9_relieved 0 = .ok (.aload_n 0, 1) := by decide +kernel
theorem dX9_relieved_1 : decode cX9_relieved 1 = .ok (.iload_n 1, 1) := by decide +kernel
theorem dX9_relieved_2 : decode cX9_relieved 2 = .ok (.bipush 18, 2) := by decide +kernel
theorem dX9_relieved_4 : decode cX9_relieved 4 = .ok (.invokevirtual 188, 3) := by decide +kernel
theorem dX9_relieved_7 : decode cX9_relieved 7 = .ok (.ireturn, 1) := by decide +kernel
theorem dX9_lifted_0 : decode cX9_lifted 0 = .ok (.aload_n 0, 1) := by decide +kernel
theorem dX9_lifted_1 : decode cX9_lifted 1 = .ok (.iload_n 1, 1) := by decide +kernel
theorem dX9_lifted_2 : decode cX9_lifted 2 = .ok (.bipush 19, 2) := by decide +kernel
theorem dX9_lifted_4 : decode cX9_lifted 4 = .ok (.invokevirtual 188, 3) := by decide +kernel
theorem dX9_lifted_7 : decode cX9_lifted 7 = .ok (.ireturn, 1) := by decide +kernel
theorem dX9_overflowed_0 : decode cX9_overflowed 0 = .ok (.aload_n 0, 1) := by decide +kernel
theorem dX9_overflowed_1 : decode cX9_overflowed 1 = .ok (.iload_n 1, 1) := by decide +kernel
theorem dX9_overflowed_2 : decode cX9_overflowed 2 = .ok (.bipush 20, 2) := by decide +kernel
theorem dX9_overflowed_4 : decode cX9_overflowed 4 = .ok (.invokevirtual 188, 3) := by decide +kernel
theorem dX9_overflowed_7 : decode cX9_overflowed 7 = .ok (.ireturn, 1) := by decide +kernel
theorem dX9_starved_0 : decode cX9_starved 0 = .ok (.aload_n 0, 1) := by decide +kernel
theorem dX9_starved_1 : decode cX9_starved 1 = .ok (.iload_n 1, 1) := by decide +kernel
theorem dX9_starved_2 : decode cX9_starved 2 = .ok (.bipush 21, 2) := by decide +kernel
theorem dX9_starved_4 : decode cX9_starved 4 = .ok (.invokevirtual 188, 3) := by decide +kernel
theorem dX9_starved_7 : decode cX9_starved 7 = .ok (.ireturn, 1) := by decide +kernel
theorem dX9_tank_0 : decode cX9_tank 0 = .ok (.aload_n 0, 1) := by decide +kernel
theorem dX9_tank_1 : decode cX9_tank 1 = .ok (.iload_n 1, 1) := by decide +kernel
theorem dX9_tank_2 : decode cX9_tank 2 = .ok (.bipush 15, 2) := by decide +kernel
theorem dX9_tank_4 : decode cX9_tank 4 = .ok (.invokevirtual 188, 3) := by decide +kernel
theorem dX9_tank_7 : decode cX9_tank 7 = .ok (.ireturn, 1) := by decide +kernel
theorem dX9_kept_0 : decode cX9_kept 0 = .ok (.aload_n 0, 1) := by decide +kernel
theorem dX9_kept_1 : decode cX9_kept 1 = .ok (.iload_n 1, 1) := by decide +kernel
theorem dX9_kept_2 : decode cX9_kept 2 = .ok (.invokevirtual 106, 3) := by decide +kernel
theorem dX9_kept_5 : decode cX9_kept 5 = .ok (.ifCond .ne 7, 3) := by decide +kernel
theorem dX9_kept_8 : decode cX9_kept 8 = .ok (.sipush (-1001), 3) := by decide +kernel
theorem dX9_kept_11 : decode cX9_kept 11 = .ok (.ireturn, 1) := by decide +kernel
theorem dX9_kept_12 : decode cX9_kept 12 = .ok (.iload_n 2, 1) := by decide +kernel
theorem dX9_kept_13 : decode cX9_kept 13 = .ok (.ifCond .ge 7, 3) := by decide +kernel
theorem dX9_kept_16 : decode cX9_kept 16 = .ok (.sipush (-1002), 3) := by decide +kernel
theorem dX9_kept_19 : decode cX9_kept 19 = .ok (.ireturn, 1) := by decide +kernel
theorem dX9_kept_20 : decode cX9_kept 20 = .ok (.iload_n 2, 1) := by decide +kernel
theorem dX9_kept_21 : decode cX9_kept 21 = .ok (.aload_n 0, 1) := by decide +kernel
theorem dX9_kept_22 : decode cX9_kept 22 = .ok (.getfield 7, 3) := by decide +kernel
theorem dX9_kept_25 : decode cX9_kept 25 = .ok (.iload_n 1, 1) := by decide +kernel
theorem dX9_kept_26 : decode cX9_kept 26 = .ok (.invokestatic 39, 3) := by decide +kernel
theorem dX9_kept_29 : decode cX9_kept 29 = .ok (.iload_n 3, 1) := by decide +kernel
theorem dX9_kept_30 : decode cX9_kept 30 = .ok (.iadd, 1) := by decide +kernel
theorem dX9_kept_31 : decode cX9_kept 31 = .ok (.iaload, 1) := by decide +kernel
theorem dX9_kept_32 : decode cX9_kept 32 = .ok (.if_icmp .ge 20, 3) := by decide +kernel
theorem dX9_kept_35 : decode cX9_kept 35 = .ok (.aload_n 0, 1) := by decide +kernel
theorem dX9_kept_36 : decode cX9_kept 36 = .ok (.getfield 7, 3) := by decide +kernel
theorem dX9_kept_39 : decode cX9_kept 39 = .ok (.iload_n 1, 1) := by decide +kernel
theorem dX9_kept_40 : decode cX9_kept 40 = .ok (.invokestatic 39, 3) := by decide +kernel
theorem dX9_kept_43 : decode cX9_kept 43 = .ok (.iload 4, 2) := by decide +kernel
theorem dX9_kept_45 : decode cX9_kept 45 = .ok (.iadd, 1) := by decide +kernel
theorem dX9_kept_46 : decode cX9_kept 46 = .ok (.iload_n 2, 1) := by decide +kernel
theorem dX9_kept_47 : decode cX9_kept 47 = .ok (.iadd, 1) := by decide +kernel
theorem dX9_kept_48 : decode cX9_kept 48 = .ok (.iaload, 1) := by decide +kernel
theorem dX9_kept_49 : decode cX9_kept 49 = .ok (.goto 6, 3) := by decide +kernel
theorem dX9_kept_52 : decode cX9_kept 52 = .ok (.sipush (-1005), 3) := by decide +kernel
theorem dX9_kept_55 : decode cX9_kept 55 = .ok (.ireturn, 1) := by decide +kernel
theorem dX9_interval_0 : decode cX9_interval 0 = .ok (.aload_n 0, 1) := by decide +kernel
theorem dX9_interval_1 : decode cX9_interval 1 = .ok (.iload_n 1, 1) := by decide +kernel
theorem dX9_interval_2 : decode cX9_interval 2 = .ok (.iload_n 2, 1) := by decide +kernel
theorem dX9_interval_3 : decode cX9_interval 3 = .ok (.bipush 23, 2) := by decide +kernel
theorem dX9_interval_5 : decode cX9_interval 5 = .ok (.bipush 24, 2) := by decide +kernel
theorem dX9_interval_7 : decode cX9_interval 7 = .ok (.invokevirtual 191, 3) := by decide +kernel
theorem dX9_interval_10 : decode cX9_interval 10 = .ok (.ireturn, 1) := by decide +kernel
theorem dX9_trace_0 : decode cX9_trace 0 = .ok (.aload_n 0, 1) := by decide +kernel
theorem dX9_trace_1 : decode cX9_trace 1 = .ok (.iload_n 1, 1) := by decide +kernel
theorem dX9_trace_2 : decode cX9_trace 2 = .ok (.iload_n 2, 1) := by decide +kernel
theorem dX9_trace_3 : decode cX9_trace 3 = .ok (.bipush 40, 2) := by decide +kernel
theorem dX9_trace_5 : decode cX9_trace 5 = .ok (.bipush 41, 2) := by decide +kernel
theorem dX9_trace_7 : decode cX9_trace 7 = .ok (.invokevirtual 191, 3) := by decide +kernel
theorem dX9_trace_10 : decode cX9_trace 10 = .ok (.ireturn, 1) := by decide +kernel
theorem dX9_efficiencyOf_0 : decode cX9_efficiencyOf 0 = .ok (.aload_n 0, 1) := by decide +kernel
theorem dX9_efficiencyOf_1 : decode cX9_efficiencyOf 1 = .ok (.getfield 7, 3) := by decide +kernel
theorem dX9_efficiencyOf_4 : decode cX9_efficiencyOf 4 = .ok (.iload_n 1, 1) := by decide +kernel
theorem dX9_efficiencyOf_5 : decode cX9_efficiencyOf 5 = .ok (.bipush 17, 2) := by decide +kernel
theorem dX9_efficiencyOf_7 : decode cX9_efficiencyOf 7 = .ok (.iadd, 1) := by decide +kernel
theorem dX9_efficiencyOf_8 : decode cX9_efficiencyOf 8 = .ok (.iaload, 1) := by decide +kernel
theorem dX9_efficiencyOf_9 : decode cX9_efficiencyOf 9 = .ok (.i2l, 1) := by decide +kernel
theorem dX9_efficiencyOf_10 : decode cX9_efficiencyOf 10 = .ok (.aload_n 0, 1) := by decide +kernel
theorem dX9_efficiencyOf_11 : decode cX9_efficiencyOf 11 = .ok (.getfield 7, 3) := by decide +kernel
theorem dX9_efficiencyOf_14 : decode cX9_efficiencyOf 14 = .ok (.iload_n 1, 1) := by decide +kernel
theorem dX9_efficiencyOf_15 : decode cX9_efficiencyOf 15 = .ok (.bipush 18, 2) := by decide +kernel
theorem dX9_efficiencyOf_17 : decode cX9_efficiencyOf 17 = .ok (.iadd, 1) := by decide +kernel
theorem dX9_efficiencyOf_18 : decode cX9_efficiencyOf 18 = .ok (.iaload, 1) := by decide +kernel
theorem dX9_efficiencyOf_19 : decode cX9_efficiencyOf 19 = .ok (.i2l, 1) := by decide +kernel
theorem dX9_efficiencyOf_20 : decode cX9_efficiencyOf 20 = .ok (.ladd, 1) := by decide +kernel
theorem dX9_efficiencyOf_21 : decode cX9_efficiencyOf 21 = .ok (.aload_n 0, 1) := by decide +kernel
theorem dX9_efficiencyOf_22 : decode cX9_efficiencyOf 22 = .ok (.getfield 7, 3) := by decide +kernel
theorem dX9_efficiencyOf_25 : decode cX9_efficiencyOf 25 = .ok (.iload_n 1, 1) := by decide +kernel
theorem dX9_efficiencyOf_26 : decode cX9_efficiencyOf 26 = .ok (.bipush 19, 2) := by decide +kernel
theorem dX9_efficiencyOf_28 : decode cX9_efficiencyOf 28 = .ok (.iadd, 1) := by decide +kernel
theorem dX9_efficiencyOf_29 : decode cX9_efficiencyOf 29 = .ok (.iaload, 1) := by decide +kernel
theorem dX9_efficiencyOf_30 : decode cX9_efficiencyOf 30 = .ok (.i2l, 1) := by decide +kernel
theorem dX9_efficiencyOf_31 : decode cX9_efficiencyOf 31 = .ok (.ladd, 1) := by decide +kernel
theorem dX9_efficiencyOf_32 : decode cX9_efficiencyOf 32 = .ok (.lstore_n 2, 1) := by decide +kernel
theorem dX9_efficiencyOf_33 : decode cX9_efficiencyOf 33 = .ok (.lload_n 2, 1) := by decide +kernel
theorem dX9_efficiencyOf_34 : decode cX9_efficiencyOf 34 = .ok (.lconst 0, 1) := by decide +kernel
theorem dX9_efficiencyOf_35 : decode cX9_efficiencyOf 35 = .ok (.lcmp, 1) := by decide +kernel
theorem dX9_efficiencyOf_36 : decode cX9_efficiencyOf 36 = .ok (.ifCond .ne 9, 3) := by decide +kernel
theorem dX9_efficiencyOf_39 : decode cX9_efficiencyOf 39 = .ok (.sipush (-1005), 3) := by decide +kernel
theorem dX9_efficiencyOf_42 : decode cX9_efficiencyOf 42 = .ok (.goto 40, 3) := by decide +kernel
theorem dX9_efficiencyOf_45 : decode cX9_efficiencyOf 45 = .ok (.ldc2_w 195, 3) := by decide +kernel
theorem dX9_efficiencyOf_48 : decode cX9_efficiencyOf 48 = .ok (.aload_n 0, 1) := by decide +kernel
theorem dX9_efficiencyOf_49 : decode cX9_efficiencyOf 49 = .ok (.getfield 7, 3) := by decide +kernel
theorem dX9_efficiencyOf_52 : decode cX9_efficiencyOf 52 = .ok (.iload_n 1, 1) := by decide +kernel
theorem dX9_efficiencyOf_53 : decode cX9_efficiencyOf 53 = .ok (.bipush 19, 2) := by decide +kernel
theorem dX9_efficiencyOf_55 : decode cX9_efficiencyOf 55 = .ok (.iadd, 1) := by decide +kernel
theorem dX9_efficiencyOf_56 : decode cX9_efficiencyOf 56 = .ok (.iaload, 1) := by decide +kernel
theorem dX9_efficiencyOf_57 : decode cX9_efficiencyOf 57 = .ok (.i2l, 1) := by decide +kernel
theorem dX9_efficiencyOf_58 : decode cX9_efficiencyOf 58 = .ok (.lmul, 1) := by decide +kernel
theorem dX9_efficiencyOf_59 : decode cX9_efficiencyOf 59 = .ok (.aload_n 0, 1) := by decide +kernel
theorem dX9_efficiencyOf_60 : decode cX9_efficiencyOf 60 = .ok (.getfield 7, 3) := by decide +kernel
theorem dX9_efficiencyOf_63 : decode cX9_efficiencyOf 63 = .ok (.iload_n 1, 1) := by decide +kernel
theorem dX9_efficiencyOf_64 : decode cX9_efficiencyOf 64 = .ok (.iconst 4, 1) := by decide +kernel
theorem dX9_efficiencyOf_65 : decode cX9_efficiencyOf 65 = .ok (.iadd, 1) := by decide +kernel
theorem dX9_efficiencyOf_66 : decode cX9_efficiencyOf 66 = .ok (.iaload, 1) := by decide +kernel
theorem dX9_efficiencyOf_67 : decode cX9_efficiencyOf 67 = .ok (.i2l, 1) := by decide +kernel
theorem dX9_efficiencyOf_68 : decode cX9_efficiencyOf 68 = .ok (.lmul, 1) := by decide +kernel
theorem dX9_efficiencyOf_69 : decode cX9_efficiencyOf 69 = .ok (.lload_n 2, 1) := by decide +kernel
theorem dX9_efficiencyOf_70 : decode cX9_efficiencyOf 70 = .ok (.aload_n 0, 1) := by decide +kernel
theorem dX9_efficiencyOf_71 : decode cX9_efficiencyOf 71 = .ok (.getfield 7, 3) := by decide +kernel
theorem dX9_efficiencyOf_74 : decode cX9_efficiencyOf 74 = .ok (.iload_n 1, 1) := by decide +kernel
theorem dX9_efficiencyOf_75 : decode cX9_efficiencyOf 75 = .ok (.iconst 0, 1) := by decide +kernel
theorem dX9_efficiencyOf_76 : decode cX9_efficiencyOf 76 = .ok (.iadd, 1) := by decide +kernel
theorem dX9_efficiencyOf_77 : decode cX9_efficiencyOf 77 = .ok (.iaload, 1) := by decide +kernel
theorem dX9_efficiencyOf_78 : decode cX9_efficiencyOf 78 = .ok (.i2l, 1) := by decide +kernel
theorem dX9_efficiencyOf_79 : decode cX9_efficiencyOf 79 = .ok (.lmul, 1) := by decide +kernel
theorem dX9_efficiencyOf_80 : decode cX9_efficiencyOf 80 = .ok (.ldiv, 1) := by decide +kernel
theorem dX9_efficiencyOf_81 : decode cX9_efficiencyOf 81 = .ok (.l2i, 1) := by decide +kernel
theorem dX9_efficiencyOf_82 : decode cX9_efficiencyOf 82 = .ok (.ireturn, 1) := by decide +kernel
theorem dX9_efficiency_0 : decode cX9_efficiency 0 = .ok (.aload_n 0, 1) := by decide +kernel
theorem dX9_efficiency_1 : decode cX9_efficiency 1 = .ok (.iload_n 1, 1) := by decide +kernel
theorem dX9_efficiency_2 : decode cX9_efficiency 2 = .ok (.invokevirtual 106, 3) := by decide +kernel
theorem dX9_efficiency_5 : decode cX9_efficiency 5 = .ok (.ifCond .eq 14, 3) := by decide +kernel
theorem dX9_efficiency_8 : decode cX9_efficiency 8 = .ok (.aload_n 0, 1) := by decide +kernel
theorem dX9_efficiency_9 : decode cX9_efficiency 9 = .ok (.iload_n 1, 1) := by decide +kernel
theorem dX9_efficiency_10 : decode cX9_efficiency 10 = .ok (.invokestatic 39, 3) := by decide +kernel
theorem dX9_efficiency_13 : decode cX9_efficiency 13 = .ok (.invokevirtual 197, 3) := by decide +kernel
theorem dX9_efficiency_16 : decode cX9_efficiency 16 = .ok (.goto 6, 3) := by decide +kernel
theorem dX9_efficiency_19 : decode cX9_efficiency 19 = .ok (.sipush (-1001), 3) := by decide +kernel
theorem dX9_efficiency_22 : decode cX9_efficiency 22 = .ok (.ireturn, 1) := by decide +kernel
theorem dX9_bestPump_0 : decode cX9_bestPump 0 = .ok (.sipush (-1005), 3) := by decide +kernel
theorem dX9_bestPump_3 : decode cX9_bestPump 3 = .ok (.istore_n 1, 1) := by decide +kernel
theorem dX9_bestPump_4 : decode cX9_bestPump 4 = .ok (.sipush (-1005), 3) := by decide +kernel
theorem dX9_bestPump_7 : decode cX9_bestPump 7 = .ok (.istore_n 2, 1) := by decide +kernel
theorem dX9_bestPump_8 : decode cX9_bestPump 8 = .ok (.iconst 0, 1) := by decide +kernel
theorem dX9_bestPump_9 : decode cX9_bestPump 9 = .ok (.istore_n 3, 1) := by decide +kernel
theorem dX9_bestPump_10 : decode cX9_bestPump 10 = .ok (.iload_n 3, 1) := by decide +kernel
theorem dX9_bestPump_11 : decode cX9_bestPump 11 = .ok (.aload_n 0, 1) := by decide +kernel
theorem dX9_bestPump_12 : decode cX9_bestPump 12 = .ok (.getfield 7, 3) := by decide +kernel
theorem dX9_bestPump_15 : decode cX9_bestPump 15 = .ok (.iconst 4, 1) := by decide +kernel
theorem dX9_bestPump_16 : decode cX9_bestPump 16 = .ok (.iaload, 1) := by decide +kernel
theorem dX9_bestPump_17 : decode cX9_bestPump 17 = .ok (.if_icmp .ge 44, 3) := by decide +kernel
theorem dX9_bestPump_20 : decode cX9_bestPump 20 = .ok (.aload_n 0, 1) := by decide +kernel
theorem dX9_bestPump_21 : decode cX9_bestPump 21 = .ok (.iload_n 3, 1) := by decide +kernel
theorem dX9_bestPump_22 : decode cX9_bestPump 22 = .ok (.invokestatic 39, 3) := by decide +kernel
theorem dX9_bestPump_25 : decode cX9_bestPump 25 = .ok (.invokevirtual 197, 3) := by decide +kernel
theorem dX9_bestPump_28 : decode cX9_bestPump 28 = .ok (.istore 4, 2) := by decide +kernel
theorem dX9_bestPump_30 : decode cX9_bestPump 30 = .ok (.iload 4, 2) := by decide +kernel
theorem dX9_bestPump_32 : decode cX9_bestPump 32 = .ok (.iload_n 2, 1) := by decide +kernel
theorem dX9_bestPump_33 : decode cX9_bestPump 33 = .ok (.if_icmp .le 7, 3) := by decide +kernel
theorem dX9_bestPump_36 : decode cX9_bestPump 36 = .ok (.iload_n 3, 1) := by decide +kernel
theorem dX9_bestPump_37 : decode cX9_bestPump 37 = .ok (.goto 4, 3) := by decide +kernel
theorem dX9_bestPump_40 : decode cX9_bestPump 40 = .ok (.iload_n 1, 1) := by decide +kernel
theorem dX9_bestPump_41 : decode cX9_bestPump 41 = .ok (.istore_n 1, 1) := by decide +kernel
theorem dX9_bestPump_42 : decode cX9_bestPump 42 = .ok (.iload 4, 2) := by decide +kernel
theorem dX9_bestPump_44 : decode cX9_bestPump 44 = .ok (.iload_n 2, 1) := by decide +kernel
theorem dX9_bestPump_45 : decode cX9_bestPump 45 = .ok (.if_icmp .le 8, 3) := by decide +kernel
theorem dX9_bestPump_48 : decode cX9_bestPump 48 = .ok (.iload 4, 2) := by decide +kernel
theorem dX9_bestPump_50 : decode cX9_bestPump 50 = .ok (.goto 4, 3) := by decide +kernel
theorem dX9_bestPump_53 : decode cX9_bestPump 53 = .ok (.iload_n 2, 1) := by decide +kernel
theorem dX9_bestPump_54 : decode cX9_bestPump 54 = .ok (.istore_n 2, 1) := by decide +kernel
theorem dX9_bestPump_55 : decode cX9_bestPump 55 = .ok (.iinc 3 1, 3) := by decide +kernel
theorem dX9_bestPump_58 : decode cX9_bestPump 58 = .ok (.goto (-48), 3) := by decide +kernel
theorem dX9_bestPump_61 : decode cX9_bestPump 61 = .ok (.iload_n 1, 1) := by decide +kernel
theorem dX9_bestPump_62 : decode cX9_bestPump 62 = .ok (.ireturn, 1) := by decide +kernel
theorem dX9_beginTrial_0 : decode cX9_beginTrial 0 = .ok (.iconst 0, 1) := by decide +kernel
theorem dX9_beginTrial_1 : decode cX9_beginTrial 1 = .ok (.istore_n 3, 1) := by decide +kernel
theorem dX9_beginTrial_2 : decode cX9_beginTrial 2 = .ok (.iload_n 3, 1) := by decide +kernel
theorem dX9_beginTrial_3 : decode cX9_beginTrial 3 = .ok (.bipush 73, 2) := by decide +kernel
theorem dX9_beginTrial_5 : decode cX9_beginTrial 5 = .ok (.if_icmp .ge 30, 3) := by decide +kernel
theorem dX9_beginTrial_8 : decode cX9_beginTrial 8 = .ok (.aload_n 0, 1) := by decide +kernel
theorem dX9_beginTrial_9 : decode cX9_beginTrial 9 = .ok (.getfield 7, 3) := by decide +kernel
theorem dX9_beginTrial_12 : decode cX9_beginTrial 12 = .ok (.sipush 297, 3) := by decide +kernel
theorem dX9_beginTrial_15 : decode cX9_beginTrial 15 = .ok (.iload_n 3, 1) := by decide +kernel
theorem dX9_beginTrial_16 : decode cX9_beginTrial 16 = .ok (.iadd, 1) := by decide +kernel
theorem dX9_beginTrial_17 : decode cX9_beginTrial 17 = .ok (.aload_n 0, 1) := by decide +kernel
theorem dX9_beginTrial_18 : decode cX9_beginTrial 18 = .ok (.getfield 7, 3) := by decide +kernel
theorem dX9_beginTrial_21 : decode cX9_beginTrial 21 = .ok (.iload_n 1, 1) := by decide +kernel
theorem dX9_beginTrial_22 : decode cX9_beginTrial 22 = .ok (.invokestatic 39, 3) := by decide +kernel
theorem dX9_beginTrial_25 : decode cX9_beginTrial 25 = .ok (.iload_n 3, 1) := by decide +kernel
theorem dX9_beginTrial_26 : decode cX9_beginTrial 26 = .ok (.iadd, 1) := by decide +kernel
theorem dX9_beginTrial_27 : decode cX9_beginTrial 27 = .ok (.iaload, 1) := by decide +kernel
theorem dX9_beginTrial_28 : decode cX9_beginTrial 28 = .ok (.iastore, 1) := by decide +kernel
theorem dX9_beginTrial_29 : decode cX9_beginTrial 29 = .ok (.iinc 3 1, 3) := by decide +kernel
theorem dX9_beginTrial_32 : decode cX9_beginTrial 32 = .ok (.goto (-30), 3) := by decide +kernel
theorem dX9_beginTrial_35 : decode cX9_beginTrial 35 = .ok (.iload_n 2, 1) := by decide +kernel
theorem dX9_beginTrial_36 : decode cX9_beginTrial 36 = .ok (.ifCond .eq 10, 3) := by decide +kernel
theorem dX9_beginTrial_39 : decode cX9_beginTrial 39 = .ok (.aload_n 0, 1) := by decide +kernel
theorem dX9_beginTrial_40 : decode cX9_beginTrial 40 = .ok (.sipush 297, 3) := by decide +kernel
theorem dX9_beginTrial_43 : decode cX9_beginTrial 43 = .ok (.invokevirtual 75, 3) := by decide +kernel
theorem dX9_beginTrial_46 : decode cX9_beginTrial 46 = .ok (.aload_n 0, 1) := by decide +kernel
theorem dX9_beginTrial_47 : decode cX9_beginTrial 47 = .ok (.iconst 0, 1) := by decide +kernel
theorem dX9_beginTrial_48 : decode cX9_beginTrial 48 = .ok (.putfield 81, 3) := by decide +kernel
theorem dX9_beginTrial_51 : decode cX9_beginTrial 51 = .ok (.aload_n 0, 1) := by decide +kernel
theorem dX9_beginTrial_52 : decode cX9_beginTrial 52 = .ok (.iconst 0, 1) := by decide +kernel
theorem dX9_beginTrial_53 : decode cX9_beginTrial 53 = .ok (.putfield 78, 3) := by decide +kernel
theorem dX9_beginTrial_56 : decode cX9_beginTrial 56 = .ok (.return_, 1) := by decide +kernel
theorem dX9_goOn_0 : decode cX9_goOn 0 = .ok (.iconst 0, 1) := by decide +kernel
theorem dX9_goOn_1 : decode cX9_goOn 1 = .ok (.istore_n 2, 1) := by decide +kernel
theorem dX9_goOn_2 : decode cX9_goOn 2 = .ok (.iload_n 2, 1) := by decide +kernel
theorem dX9_goOn_3 : decode cX9_goOn 3 = .ok (.iload_n 1, 1) := by decide +kernel
theorem dX9_goOn_4 : decode cX9_goOn 4 = .ok (.if_icmp .ge 19, 3) := by decide +kernel
theorem dX9_goOn_7 : decode cX9_goOn 7 = .ok (.aload_n 0, 1) := by decide +kernel
theorem dX9_goOn_8 : decode cX9_goOn 8 = .ok (.sipush 297, 3) := by decide +kernel
theorem dX9_goOn_11 : decode cX9_goOn 11 = .ok (.sipush (-1005), 3) := by decide +kernel
theorem dX9_goOn_14 : decode cX9_goOn 14 = .ok (.invokevirtual 100, 3) := by decide +kernel
theorem dX9_goOn_17 : decode cX9_goOn 17 = .ok (.iinc 2 1, 3) := by decide +kernel
theorem dX9_goOn_20 : decode cX9_goOn 20 = .ok (.goto (-18), 3) := by decide +kernel
theorem dX9_goOn_23 : decode cX9_goOn 23 = .ok (.return_, 1) := by decide +kernel
theorem dX9_ticksToSlam_0 : decode cX9_ticksToSlam 0 = .ok (.aload_n 0, 1) := by decide +kernel
theorem dX9_ticksToSlam_1 : decode cX9_ticksToSlam 1 = .ok (.iload_n 1, 1) := by decide +kernel
theorem dX9_ticksToSlam_2 : decode cX9_ticksToSlam 2 = .ok (.invokevirtual 106, 3) := by decide +kernel
theorem dX9_ticksToSlam_5 : decode cX9_ticksToSlam 5 = .ok (.ifCond .ne 7, 3) := by decide +kernel
theorem dX9_ticksToSlam_8 : decode cX9_ticksToSlam 8 = .ok (.sipush (-1001), 3) := by decide +kernel
theorem dX9_ticksToSlam_11 : decode cX9_ticksToSlam 11 = .ok (.ireturn, 1) := by decide +kernel
theorem dX9_ticksToSlam_12 : decode cX9_ticksToSlam 12 = .ok (.aload_n 0, 1) := by decide +kernel
theorem dX9_ticksToSlam_13 : decode cX9_ticksToSlam 13 = .ok (.iload_n 1, 1) := by decide +kernel
theorem dX9_ticksToSlam_14 : decode cX9_ticksToSlam 14 = .ok (.iconst 0, 1) := by decide +kernel
theorem dX9_ticksToSlam_15 : decode cX9_ticksToSlam 15 = .ok (.invokevirtual 200, 3) := by decide +kernel
theorem dX9_ticksToSlam_18 : decode cX9_ticksToSlam 18 = .ok (.aload_n 0, 1) := by decide +kernel
theorem dX9_ticksToSlam_19 : decode cX9_ticksToSlam 19 = .ok (.iconst 0, 1) := by decide +kernel
theorem dX9_ticksToSlam_20 : decode cX9_ticksToSlam 20 = .ok (.putfield 49, 3) := by decide +kernel
theorem dX9_ticksToSlam_23 : decode cX9_ticksToSlam 23 = .ok (.iconst 1, 1) := by decide +kernel
theorem dX9_ticksToSlam_24 : decode cX9_ticksToSlam 24 = .ok (.istore_n 2, 1) := by decide +kernel
theorem dX9_ticksToSlam_25 : decode cX9_ticksToSlam 25 = .ok (.iload_n 2, 1) := by decide +kernel
theorem dX9_ticksToSlam_26 : decode cX9_ticksToSlam 26 = .ok (.sipush 2000, 3) := by decide +kernel
theorem dX9_ticksToSlam_29 : decode cX9_ticksToSlam 29 = .ok (.if_icmp .gt 28, 3) := by decide +kernel
theorem dX9_ticksToSlam_32 : decode cX9_ticksToSlam 32 = .ok (.aload_n 0, 1) := by decide +kernel
theorem dX9_ticksToSlam_33 : decode cX9_ticksToSlam 33 = .ok (.sipush 297, 3) := by decide +kernel
theorem dX9_ticksToSlam_36 : decode cX9_ticksToSlam 36 = .ok (.sipush (-1005), 3) := by decide +kernel
theorem dX9_ticksToSlam_39 : decode cX9_ticksToSlam 39 = .ok (.invokevirtual 100, 3) := by decide +kernel
theorem dX9_ticksToSlam_42 : decode cX9_ticksToSlam 42 = .ok (.aload_n 0, 1) := by decide +kernel
theorem dX9_ticksToSlam_43 : decode cX9_ticksToSlam 43 = .ok (.getfield 49, 3) := by decide +kernel
theorem dX9_ticksToSlam_46 : decode cX9_ticksToSlam 46 = .ok (.ifCond .eq 5, 3) := by decide +kernel
theorem dX9_ticksToSlam_49 : decode cX9_ticksToSlam 49 = .ok (.iload_n 2, 1) := by decide +kernel
theorem dX9_ticksToSlam_50 : decode cX9_ticksToSlam 50 = .ok (.ireturn, 1) := by decide +kernel
theorem dX9_ticksToSlam_51 : decode cX9_ticksToSlam 51 = .ok (.iinc 2 1, 3) := by decide +kernel
theorem dX9_ticksToSlam_54 : decode cX9_ticksToSlam 54 = .ok (.goto (-29), 3) := by decide +kernel
theorem dX9_ticksToSlam_57 : decode cX9_ticksToSlam 57 = .ok (.sipush (-1005), 3) := by decide +kernel
theorem dX9_ticksToSlam_60 : decode cX9_ticksToSlam 60 = .ok (.ireturn, 1) := by decide +kernel
theorem dX9_trialRefused_0 : decode cX9_trialRefused 0 = .ok (.aload_n 0, 1) := by decide +kernel
theorem dX9_trialRefused_1 : decode cX9_trialRefused 1 = .ok (.iload_n 1, 1) := by decide +kernel
theorem dX9_trialRefused_2 : decode cX9_trialRefused 2 = .ok (.invokevirtual 106, 3) := by decide +kernel
theorem dX9_trialRefused_5 : decode cX9_trialRefused 5 = .ok (.ifCond .ne 9, 3) := by decide +kernel
theorem dX9_trialRefused_8 : decode cX9_trialRefused 8 = .ok (.sipush (-1001), 3) := by decide +kernel
theorem dX9_trialRefused_11 : decode cX9_trialRefused 11 = .ok (.goto 19, 3) := by decide +kernel
theorem dX9_trialRefused_14 : decode cX9_trialRefused 14 = .ok (.iload_n 2, 1) := by decide +kernel
theorem dX9_trialRefused_15 : decode cX9_trialRefused 15 = .ok (.iconst 1, 1) := by decide +kernel
theorem dX9_trialRefused_16 : decode cX9_trialRefused 16 = .ok (.iload_n 3, 1) := by decide +kernel
theorem dX9_trialRefused_17 : decode cX9_trialRefused 17 = .ok (.invokestatic 35, 3) := by decide +kernel
theorem dX9_trialRefused_20 : decode cX9_trialRefused 20 = .ok (.ifCond .ne 9, 3) := by decide +kernel
theorem dX9_trialRefused_23 : decode cX9_trialRefused 23 = .ok (.sipush (-1002), 3) := by decide +kernel
theorem dX9_trialRefused_26 : decode cX9_trialRefused 26 = .ok (.goto 4, 3) := by decide +kernel
theorem dX9_trialRefused_29 : decode cX9_trialRefused 29 = .ok (.iconst 0, 1) := by decide +kernel
theorem dX9_trialRefused_30 : decode cX9_trialRefused 30 = .ok (.ireturn, 1) := by decide +kernel
theorem dX9_deliveredIn_0 : decode cX9_deliveredIn 0 = .ok (.aload_n 0, 1) := by decide +kernel
theorem dX9_deliveredIn_1 : decode cX9_deliveredIn 1 = .ok (.iload_n 1, 1) := by decide +kernel
theorem dX9_deliveredIn_2 : decode cX9_deliveredIn 2 = .ok (.iload_n 2, 1) := by decide +kernel
theorem dX9_deliveredIn_3 : decode cX9_deliveredIn 3 = .ok (.sipush 500, 3) := by decide +kernel
theorem dX9_deliveredIn_6 : decode cX9_deliveredIn 6 = .ok (.invokevirtual 204, 3) := by decide +kernel
theorem dX9_deliveredIn_9 : decode cX9_deliveredIn 9 = .ok (.istore_n 3, 1) := by decide +kernel
theorem dX9_deliveredIn_10 : decode cX9_deliveredIn 10 = .ok (.iload_n 3, 1) := by decide +kernel
theorem dX9_deliveredIn_11 : decode cX9_deliveredIn 11 = .ok (.ifCond .eq 5, 3) := by decide +kernel
theorem dX9_deliveredIn_14 : decode cX9_deliveredIn 14 = .ok (.iload_n 3, 1) := by decide +kernel
theorem dX9_deliveredIn_15 : decode cX9_deliveredIn 15 = .ok (.ireturn, 1) := by decide +kernel
theorem dX9_deliveredIn_16 : decode cX9_deliveredIn 16 = .ok (.aload_n 0, 1) := by decide +kernel
theorem dX9_deliveredIn_17 : decode cX9_deliveredIn 17 = .ok (.iload_n 1, 1) := by decide +kernel
theorem dX9_deliveredIn_18 : decode cX9_deliveredIn 18 = .ok (.iconst 0, 1) := by decide +kernel
theorem dX9_deliveredIn_19 : decode cX9_deliveredIn 19 = .ok (.invokevirtual 200, 3) := by decide +kernel
theorem dX9_deliveredIn_22 : decode cX9_deliveredIn 22 = .ok (.aload_n 0, 1) := by decide +kernel
theorem dX9_deliveredIn_23 : decode cX9_deliveredIn 23 = .ok (.iload_n 2, 1) := by decide +kernel
theorem dX9_deliveredIn_24 : decode cX9_deliveredIn 24 = .ok (.invokevirtual 207, 3) := by decide +kernel
theorem dX9_deliveredIn_27 : decode cX9_deliveredIn 27 = .ok (.aload_n 0, 1) := by decide +kernel
theorem dX9_deliveredIn_28 : decode cX9_deliveredIn 28 = .ok (.getfield 78, 3) := by decide +kernel
theorem dX9_deliveredIn_31 : decode cX9_deliveredIn 31 = .ok (.ireturn, 1) := by decide +kernel
theorem dX9_drawnIn_0 : decode cX9_drawnIn 0 = .ok (.aload_n 0, 1) := by decide +kernel
theorem dX9_drawnIn_1 : decode cX9_drawnIn 1 = .ok (.iload_n 1, 1) := by decide +kernel
theorem dX9_drawnIn_2 : decode cX9_drawnIn 2 = .ok (.iload_n 2, 1) := by decide +kernel
theorem dX9_drawnIn_3 : decode cX9_drawnIn 3 = .ok (.sipush 500, 3) := by decide +kernel
theorem dX9_drawnIn_6 : decode cX9_drawnIn 6 = .ok (.invokevirtual 204, 3) := by decide +kernel
theorem dX9_drawnIn_9 : decode cX9_drawnIn 9 = .ok (.istore_n 3, 1) := by decide +kernel
theorem dX9_drawnIn_10 : decode cX9_drawnIn 10 = .ok (.iload_n 3, 1) := by decide +kernel
theorem dX9_drawnIn_11 : decode cX9_drawnIn 11 = .ok (.ifCond .eq 5, 3) := by decide +kernel
theorem dX9_drawnIn_14 : decode cX9_drawnIn 14 = .ok (.iload_n 3, 1) := by decide +kernel
theorem dX9_drawnIn_15 : decode cX9_drawnIn 15 = .ok (.ireturn, 1) := by decide +kernel
theorem dX9_drawnIn_16 : decode cX9_drawnIn 16 = .ok (.aload_n 0, 1) := by decide +kernel
theorem dX9_drawnIn_17 : decode cX9_drawnIn 17 = .ok (.iload_n 1, 1) := by decide +kernel
theorem dX9_drawnIn_18 : decode cX9_drawnIn 18 = .ok (.iconst 0, 1) := by decide +kernel
theorem dX9_drawnIn_19 : decode cX9_drawnIn 19 = .ok (.invokevirtual 200, 3) := by decide +kernel
theorem dX9_drawnIn_22 : decode cX9_drawnIn 22 = .ok (.aload_n 0, 1) := by decide +kernel
theorem dX9_drawnIn_23 : decode cX9_drawnIn 23 = .ok (.iload_n 2, 1) := by decide +kernel
theorem dX9_drawnIn_24 : decode cX9_drawnIn 24 = .ok (.invokevirtual 207, 3) := by decide +kernel
theorem dX9_drawnIn_27 : decode cX9_drawnIn 27 = .ok (.aload_n 0, 1) := by decide +kernel
theorem dX9_drawnIn_28 : decode cX9_drawnIn 28 = .ok (.getfield 81, 3) := by decide +kernel
theorem dX9_drawnIn_31 : decode cX9_drawnIn 31 = .ok (.ireturn, 1) := by decide +kernel
theorem dX9_period_0 : decode cX9_period 0 = .ok (.aload_n 0, 1) := by decide +kernel
theorem dX9_period_1 : decode cX9_period 1 = .ok (.iload_n 1, 1) := by decide +kernel
theorem dX9_period_2 : decode cX9_period 2 = .ok (.invokevirtual 106, 3) := by decide +kernel
theorem dX9_period_5 : decode cX9_period 5 = .ok (.ifCond .ne 7, 3) := by decide +kernel
theorem dX9_period_8 : decode cX9_period 8 = .ok (.sipush (-1001), 3) := by decide +kernel
theorem dX9_period_11 : decode cX9_period 11 = .ok (.ireturn, 1) := by decide +kernel
theorem dX9_period_12 : decode cX9_period 12 = .ok (.aload_n 0, 1) := by decide +kernel
theorem dX9_period_13 : decode cX9_period 13 = .ok (.iload_n 1, 1) := by decide +kernel
theorem dX9_period_14 : decode cX9_period 14 = .ok (.iconst 0, 1) := by decide +kernel
theorem dX9_period_15 : decode cX9_period 15 = .ok (.invokevirtual 200, 3) := by decide +kernel
theorem dX9_period_18 : decode cX9_period 18 = .ok (.iconst 0, 1) := by decide +kernel
theorem dX9_period_19 : decode cX9_period 19 = .ok (.istore_n 2, 1) := by decide +kernel
theorem dX9_period_20 : decode cX9_period 20 = .ok (.iconst 1, 1) := by decide +kernel
theorem dX9_period_21 : decode cX9_period 21 = .ok (.istore_n 3, 1) := by decide +kernel
theorem dX9_period_22 : decode cX9_period 22 = .ok (.iload_n 3, 1) := by decide +kernel
theorem dX9_period_23 : decode cX9_period 23 = .ok (.sipush 2000, 3) := by decide +kernel
theorem dX9_period_26 : decode cX9_period 26 = .ok (.if_icmp .gt 184, 3) := by decide +kernel
theorem dX9_period_29 : decode cX9_period 29 = .ok (.aload_n 0, 1) := by decide +kernel
theorem dX9_period_30 : decode cX9_period 30 = .ok (.iconst 0, 1) := by decide +kernel
theorem dX9_period_31 : decode cX9_period 31 = .ok (.putfield 49, 3) := by decide +kernel
theorem dX9_period_34 : decode cX9_period 34 = .ok (.aload_n 0, 1) := by decide +kernel
theorem dX9_period_35 : decode cX9_period 35 = .ok (.sipush 297, 3) := by decide +kernel
theorem dX9_period_38 : decode cX9_period 38 = .ok (.sipush (-1005), 3) := by decide +kernel
theorem dX9_period_41 : decode cX9_period 41 = .ok (.invokevirtual 100, 3) := by decide +kernel
theorem dX9_period_44 : decode cX9_period 44 = .ok (.aload_n 0, 1) := by decide +kernel
theorem dX9_period_45 : decode cX9_period 45 = .ok (.getfield 49, 3) := by decide +kernel
theorem dX9_period_48 : decode cX9_period 48 = .ok (.ifCond .eq 156, 3) := by decide +kernel
theorem dX9_period_51 : decode cX9_period 51 = .ok (.iconst 0, 1) := by decide +kernel
theorem dX9_period_52 : decode cX9_period 52 = .ok (.istore 4, 2) := by decide +kernel
theorem dX9_period_54 : decode cX9_period 54 = .ok (.iload 4, 2) := by decide +kernel
theorem dX9_period_56 : decode cX9_period 56 = .ok (.iconst 4, 1) := by decide +kernel
theorem dX9_period_57 : decode cX9_period 57 = .ok (.iload_n 2, 1) := by decide +kernel
theorem dX9_period_58 : decode cX9_period 58 = .ok (.imul, 1) := by decide +kernel
theorem dX9_period_59 : decode cX9_period 59 = .ok (.if_icmp .ge 79, 3) := by decide +kernel
theorem dX9_period_62 : decode cX9_period 62 = .ok (.aload_n 0, 1) := by decide +kernel
theorem dX9_period_63 : decode cX9_period 63 = .ok (.getfield 32, 3) := by decide +kernel
theorem dX9_period_66 : decode cX9_period 66 = .ok (.iload 4, 2) := by decide +kernel
theorem dX9_period_68 : decode cX9_period 68 = .ok (.iconst 1, 1) := by decide +kernel
theorem dX9_period_69 : decode cX9_period 69 = .ok (.iadd, 1) := by decide +kernel
theorem dX9_period_70 : decode cX9_period 70 = .ok (.iaload, 1) := by decide +kernel
theorem dX9_period_71 : decode cX9_period 71 = .ok (.aload_n 0, 1) := by decide +kernel
theorem dX9_period_72 : decode cX9_period 72 = .ok (.getfield 7, 3) := by decide +kernel
theorem dX9_period_75 : decode cX9_period 75 = .ok (.sipush 303, 3) := by decide +kernel
theorem dX9_period_78 : decode cX9_period 78 = .ok (.iaload, 1) := by decide +kernel
theorem dX9_period_79 : decode cX9_period 79 = .ok (.if_icmp .ne 53, 3) := by decide +kernel
theorem dX9_period_82 : decode cX9_period 82 = .ok (.aload_n 0, 1) := by decide +kernel
theorem dX9_period_83 : decode cX9_period 83 = .ok (.getfield 32, 3) := by decide +kernel
theorem dX9_period_86 : decode cX9_period 86 = .ok (.iload 4, 2) := by decide +kernel
theorem dX9_period_88 : decode cX9_period 88 = .ok (.iconst 2, 1) := by decide +kernel
theorem dX9_period_89 : decode cX9_period 89 = .ok (.iadd, 1) := by decide +kernel
theorem dX9_period_90 : decode cX9_period 90 = .ok (.iaload, 1) := by decide +kernel
theorem dX9_period_91 : decode cX9_period 91 = .ok (.aload_n 0, 1) := by decide +kernel
theorem dX9_period_92 : decode cX9_period 92 = .ok (.getfield 7, 3) := by decide +kernel
theorem dX9_period_95 : decode cX9_period 95 = .ok (.sipush 310, 3) := by decide +kernel
theorem dX9_period_98 : decode cX9_period 98 = .ok (.iaload, 1) := by decide +kernel
theorem dX9_period_99 : decode cX9_period 99 = .ok (.if_icmp .ne 33, 3) := by decide +kernel
theorem dX9_period_102 : decode cX9_period 102 = .ok (.aload_n 0, 1) := by decide +kernel
theorem dX9_period_103 : decode cX9_period 103 = .ok (.getfield 32, 3) := by decide +kernel
theorem dX9_period_106 : decode cX9_period 106 = .ok (.iload 4, 2) := by decide +kernel
theorem dX9_period_108 : decode cX9_period 108 = .ok (.iconst 3, 1) := by decide +kernel
theorem dX9_period_109 : decode cX9_period 109 = .ok (.iadd, 1) := by decide +kernel
theorem dX9_period_110 : decode cX9_period 110 = .ok (.iaload, 1) := by decide +kernel
theorem dX9_period_111 : decode cX9_period 111 = .ok (.aload_n 0, 1) := by decide +kernel
theorem dX9_period_112 : decode cX9_period 112 = .ok (.getfield 7, 3) := by decide +kernel
theorem dX9_period_115 : decode cX9_period 115 = .ok (.sipush 311, 3) := by decide +kernel
theorem dX9_period_118 : decode cX9_period 118 = .ok (.iaload, 1) := by decide +kernel
theorem dX9_period_119 : decode cX9_period 119 = .ok (.if_icmp .ne 13, 3) := by decide +kernel
theorem dX9_period_122 : decode cX9_period 122 = .ok (.iload_n 3, 1) := by decide +kernel
theorem dX9_period_123 : decode cX9_period 123 = .ok (.aload_n 0, 1) := by decide +kernel
theorem dX9_period_124 : decode cX9_period 124 = .ok (.getfield 32, 3) := by decide +kernel
theorem dX9_period_127 : decode cX9_period 127 = .ok (.iload 4, 2) := by decide +kernel
theorem dX9_period_129 : decode cX9_period 129 = .ok (.iaload, 1) := by decide +kernel
theorem dX9_period_130 : decode cX9_period 130 = .ok (.isub, 1) := by decide +kernel
theorem dX9_period_131 : decode cX9_period 131 = .ok (.ireturn, 1) := by decide +kernel
theorem dX9_period_132 : decode cX9_period 132 = .ok (.iinc 4 4, 3) := by decide +kernel
theorem dX9_period_135 : decode cX9_period 135 = .ok (.goto (-81), 3) := by decide +kernel
theorem dX9_period_138 : decode cX9_period 138 = .ok (.aload_n 0, 1) := by decide +kernel
theorem dX9_period_139 : decode cX9_period 139 = .ok (.getfield 32, 3) := by decide +kernel
theorem dX9_period_142 : decode cX9_period 142 = .ok (.iconst 4, 1) := by decide +kernel
theorem dX9_period_143 : decode cX9_period 143 = .ok (.iload_n 2, 1) := by decide +kernel
theorem dX9_period_144 : decode cX9_period 144 = .ok (.imul, 1) := by decide +kernel
theorem dX9_period_145 : decode cX9_period 145 = .ok (.iload_n 3, 1) := by decide +kernel
theorem dX9_period_146 : decode cX9_period 146 = .ok (.iastore, 1) := by decide +kernel
theorem dX9_period_147 : decode cX9_period 147 = .ok (.aload_n 0, 1) := by decide +kernel
theorem dX9_period_148 : decode cX9_period 148 = .ok (.getfield 32, 3) := by decide +kernel
theorem dX9_period_151 : decode cX9_period 151 = .ok (.iconst 4, 1) := by decide +kernel
theorem dX9_period_152 : decode cX9_period 152 = .ok (.iload_n 2, 1) := by decide +kernel
theorem dX9_period_153 : decode cX9_period 153 = .ok (.imul, 1) := by decide +kernel
theorem dX9_period_154 : decode cX9_period 154 = .ok (.iconst 1, 1) := by decide +kernel
theorem dX9_period_155 : decode cX9_period 155 = .ok (.iadd, 1) := by decide +kernel
theorem dX9_period_156 : decode cX9_period 156 = .ok (.aload_n 0, 1) := by decide +kernel
theorem dX9_period_157 : decode cX9_period 157 = .ok (.getfield 7, 3) := by decide +kernel
theorem dX9_period_160 : decode cX9_period 160 = .ok (.sipush 303, 3) := by decide +kernel
theorem dX9_period_163 : decode cX9_period 163 = .ok (.iaload, 1) := by decide +kernel
theorem dX9_period_164 : decode cX9_period 164 = .ok (.iastore, 1) := by decide +kernel
theorem dX9_period_165 : decode cX9_period 165 = .ok (.aload_n 0, 1) := by decide +kernel
theorem dX9_period_166 : decode cX9_period 166 = .ok (.getfield 32, 3) := by decide +kernel
theorem dX9_period_169 : decode cX9_period 169 = .ok (.iconst 4, 1) := by decide +kernel
theorem dX9_period_170 : decode cX9_period 170 = .ok (.iload_n 2, 1) := by decide +kernel
theorem dX9_period_171 : decode cX9_period 171 = .ok (.imul, 1) := by decide +kernel
theorem dX9_period_172 : decode cX9_period 172 = .ok (.iconst 2, 1) := by decide +kernel
theorem dX9_period_173 : decode cX9_period 173 = .ok (.iadd, 1) := by decide +kernel
theorem dX9_period_174 : decode cX9_period 174 = .ok (.aload_n 0, 1) := by decide +kernel
theorem dX9_period_175 : decode cX9_period 175 = .ok (.getfield 7, 3) := by decide +kernel
theorem dX9_period_178 : decode cX9_period 178 = .ok (.sipush 310, 3) := by decide +kernel
theorem dX9_period_181 : decode cX9_period 181 = .ok (.iaload, 1) := by decide +kernel
theorem dX9_period_182 : decode cX9_period 182 = .ok (.iastore, 1) := by decide +kernel
theorem dX9_period_183 : decode cX9_period 183 = .ok (.aload_n 0, 1) := by decide +kernel
theorem dX9_period_184 : decode cX9_period 184 = .ok (.getfield 32, 3) := by decide +kernel
theorem dX9_period_187 : decode cX9_period 187 = .ok (.iconst 4, 1) := by decide +kernel
theorem dX9_period_188 : decode cX9_period 188 = .ok (.iload_n 2, 1) := by decide +kernel
theorem dX9_period_189 : decode cX9_period 189 = .ok (.imul, 1) := by decide +kernel
theorem dX9_period_190 : decode cX9_period 190 = .ok (.iconst 3, 1) := by decide +kernel
theorem dX9_period_191 : decode cX9_period 191 = .ok (.iadd, 1) := by decide +kernel
theorem dX9_period_192 : decode cX9_period 192 = .ok (.aload_n 0, 1) := by decide +kernel
theorem dX9_period_193 : decode cX9_period 193 = .ok (.getfield 7, 3) := by decide +kernel
theorem dX9_period_196 : decode cX9_period 196 = .ok (.sipush 311, 3) := by decide +kernel
theorem dX9_period_199 : decode cX9_period 199 = .ok (.iaload, 1) := by decide +kernel
theorem dX9_period_200 : decode cX9_period 200 = .ok (.iastore, 1) := by decide +kernel
theorem dX9_period_201 : decode cX9_period 201 = .ok (.iinc 2 1, 3) := by decide +kernel
theorem dX9_period_204 : decode cX9_period 204 = .ok (.iinc 3 1, 3) := by decide +kernel
theorem dX9_period_207 : decode cX9_period 207 = .ok (.goto (-185), 3) := by decide +kernel
theorem dX9_period_210 : decode cX9_period 210 = .ok (.sipush (-1005), 3) := by decide +kernel
theorem dX9_period_213 : decode cX9_period 213 = .ok (.ireturn, 1) := by decide +kernel
theorem dX9_best_0 : decode cX9_best 0 = .ok (.iconst 0, 1) := by decide +kernel
theorem dX9_best_1 : decode cX9_best 1 = .ok (.istore 5, 2) := by decide +kernel
theorem dX9_best_3 : decode cX9_best 3 = .ok (.sipush (-1005), 3) := by decide +kernel
theorem dX9_best_6 : decode cX9_best 6 = .ok (.istore 6, 2) := by decide +kernel
theorem dX9_best_8 : decode cX9_best 8 = .ok (.bipush 10, 2) := by decide +kernel
theorem dX9_best_10 : decode cX9_best 10 = .ok (.istore 7, 2) := by decide +kernel
theorem dX9_best_12 : decode cX9_best 12 = .ok (.iload 7, 2) := by decide +kernel
theorem dX9_best_14 : decode cX9_best 14 = .ok (.iload 4, 2) := by decide +kernel
theorem dX9_best_16 : decode cX9_best 16 = .ok (.if_icmp .gt 70, 3) := by decide +kernel
theorem dX9_best_19 : decode cX9_best 19 = .ok (.aload_n 0, 1) := by decide +kernel
theorem dX9_best_20 : decode cX9_best 20 = .ok (.iload_n 1, 1) := by decide +kernel
theorem dX9_best_21 : decode cX9_best 21 = .ok (.iconst 1, 1) := by decide +kernel
theorem dX9_best_22 : decode cX9_best 22 = .ok (.invokevirtual 200, 3) := by decide +kernel
theorem dX9_best_25 : decode cX9_best 25 = .ok (.aload_n 0, 1) := by decide +kernel
theorem dX9_best_26 : decode cX9_best 26 = .ok (.getfield 7, 3) := by decide +kernel
theorem dX9_best_29 : decode cX9_best 29 = .ok (.sipush 297, 3) := by decide +kernel
theorem dX9_best_32 : decode cX9_best 32 = .ok (.iload_n 3, 1) := by decide +kernel
theorem dX9_best_33 : decode cX9_best 33 = .ok (.iadd, 1) := by decide +kernel
theorem dX9_best_34 : decode cX9_best 34 = .ok (.iload 7, 2) := by decide +kernel
theorem dX9_best_36 : decode cX9_best 36 = .ok (.iastore, 1) := by decide +kernel
theorem dX9_best_37 : decode cX9_best 37 = .ok (.aload_n 0, 1) := by decide +kernel
theorem dX9_best_38 : decode cX9_best 38 = .ok (.iload_n 2, 1) := by decide +kernel
theorem dX9_best_39 : decode cX9_best 39 = .ok (.invokevirtual 207, 3) := by decide +kernel
theorem dX9_best_42 : decode cX9_best 42 = .ok (.aload_n 0, 1) := by decide +kernel
theorem dX9_best_43 : decode cX9_best 43 = .ok (.getfield 78, 3) := by decide +kernel
theorem dX9_best_46 : decode cX9_best 46 = .ok (.iload 6, 2) := by decide +kernel
theorem dX9_best_48 : decode cX9_best 48 = .ok (.if_icmp .le 8, 3) := by decide +kernel
theorem dX9_best_51 : decode cX9_best 51 = .ok (.iload 7, 2) := by decide +kernel
theorem dX9_best_53 : decode cX9_best 53 = .ok (.goto 5, 3) := by decide +kernel
theorem dX9_best_56 : decode cX9_best 56 = .ok (.iload 5, 2) := by decide +kernel
theorem dX9_best_58 : decode cX9_best 58 = .ok (.istore 5, 2) := by decide +kernel
theorem dX9_best_60 : decode cX9_best 60 = .ok (.aload_n 0, 1) := by decide +kernel
theorem dX9_best_61 : decode cX9_best 61 = .ok (.getfield 78, 3) := by decide +kernel
theorem dX9_best_64 : decode cX9_best 64 = .ok (.iload 6, 2) := by decide +kernel
theorem dX9_best_66 : decode cX9_best 66 = .ok (.if_icmp .le 10, 3) := by decide +kernel
theorem dX9_best_69 : decode cX9_best 69 = .ok (.aload_n 0, 1) := by decide +kernel
theorem dX9_best_70 : decode cX9_best 70 = .ok (.getfield 78, 3) := by decide +kernel
theorem dX9_best_73 : decode cX9_best 73 = .ok (.goto 5, 3) := by decide +kernel
theorem dX9_best_76 : decode cX9_best 76 = .ok (.iload 6, 2) := by decide +kernel
theorem dX9_best_78 : decode cX9_best 78 = .ok (.istore 6, 2) := by decide +kernel
theorem dX9_best_80 : decode cX9_best 80 = .ok (.iinc 7 10, 3) := by decide +kernel
theorem dX9_best_83 : decode cX9_best 83 = .ok (.goto (-71), 3) := by decide +kernel
theorem dX9_best_86 : decode cX9_best 86 = .ok (.iload 5, 2) := by decide +kernel
theorem dX9_best_88 : decode cX9_best 88 = .ok (.ireturn, 1) := by decide +kernel
theorem dX9_bestLength_0 : decode cX9_bestLength 0 = .ok (.aload_n 0, 1) := by decide +kernel
theorem dX9_bestLength_1 : decode cX9_bestLength 1 = .ok (.iload_n 1, 1) := by decide +kernel
theorem dX9_bestLength_2 : decode cX9_bestLength 2 = .ok (.iload_n 2, 1) := by decide +kernel
theorem dX9_bestLength_3 : decode cX9_bestLength 3 = .ok (.sipush 300, 3) := by decide +kernel
theorem dX9_bestLength_6 : decode cX9_bestLength 6 = .ok (.invokevirtual 204, 3) := by decide +kernel
theorem dX9_bestLength_9 : decode cX9_bestLength 9 = .ok (.istore_n 3, 1) := by decide +kernel
theorem dX9_bestLength_10 : decode cX9_bestLength 10 = .ok (.iload_n 3, 1) := by decide +kernel
theorem dX9_bestLength_11 : decode cX9_bestLength 11 = .ok (.ifCond .eq 7, 3) := by decide +kernel
theorem dX9_bestLength_14 : decode cX9_bestLength 14 = .ok (.iload_n 3, 1) := by decide +kernel
theorem dX9_bestLength_15 : decode cX9_bestLength 15 = .ok (.goto 13, 3) := by decide +kernel
theorem dX9_bestLength_18 : decode cX9_bestLength 18 = .ok (.aload_n 0, 1) := by decide +kernel
theorem dX9_bestLength_19 : decode cX9_bestLength 19 = .ok (.iload_n 1, 1) := by decide +kernel
theorem dX9_bestLength_20 : decode cX9_bestLength 20 = .ok (.iload_n 2, 1) := by decide +kernel
theorem dX9_bestLength_21 : decode cX9_bestLength 21 = .ok (.iconst 1, 1) := by decide +kernel
theorem dX9_bestLength_22 : decode cX9_bestLength 22 = .ok (.sipush 400, 3) := by decide +kernel
theorem dX9_bestLength_25 : decode cX9_bestLength 25 = .ok (.invokevirtual 210, 3) := by decide +kernel
theorem dX9_bestLength_28 : decode cX9_bestLength 28 = .ok (.ireturn, 1) := by decide +kernel
theorem dX9_bestSetting_0 : decode cX9_bestSetting 0 = .ok (.aload_n 0, 1) := by decide +kernel
theorem dX9_bestSetting_1 : decode cX9_bestSetting 1 = .ok (.iload_n 1, 1) := by decide +kernel
theorem dX9_bestSetting_2 : decode cX9_bestSetting 2 = .ok (.iload_n 2, 1) := by decide +kernel
theorem dX9_bestSetting_3 : decode cX9_bestSetting 3 = .ok (.sipush 300, 3) := by decide +kernel
theorem dX9_bestSetting_6 : decode cX9_bestSetting 6 = .ok (.invokevirtual 204, 3) := by decide +kernel
theorem dX9_bestSetting_9 : decode cX9_bestSetting 9 = .ok (.istore_n 3, 1) := by decide +kernel
theorem dX9_bestSetting_10 : decode cX9_bestSetting 10 = .ok (.iload_n 3, 1) := by decide +kernel
theorem dX9_bestSetting_11 : decode cX9_bestSetting 11 = .ok (.ifCond .eq 7, 3) := by decide +kernel
theorem dX9_bestSetting_14 : decode cX9_bestSetting 14 = .ok (.iload_n 3, 1) := by decide +kernel
theorem dX9_bestSetting_15 : decode cX9_bestSetting 15 = .ok (.goto 14, 3) := by decide +kernel
theorem dX9_bestSetting_18 : decode cX9_bestSetting 18 = .ok (.aload_n 0, 1) := by decide +kernel
theorem dX9_bestSetting_19 : decode cX9_bestSetting 19 = .ok (.iload_n 1, 1) := by decide +kernel
theorem dX9_bestSetting_20 : decode cX9_bestSetting 20 = .ok (.iload_n 2, 1) := by decide +kernel
theorem dX9_bestSetting_21 : decode cX9_bestSetting 21 = .ok (.bipush 10, 2) := by decide +kernel
theorem dX9_bestSetting_23 : decode cX9_bestSetting 23 = .ok (.sipush 500, 3) := by decide +kernel
theorem dX9_bestSetting_26 : decode cX9_bestSetting 26 = .ok (.invokevirtual 210, 3) := by decide +kernel
theorem dX9_bestSetting_29 : decode cX9_bestSetting 29 = .ok (.ireturn, 1) := by decide +kernel
