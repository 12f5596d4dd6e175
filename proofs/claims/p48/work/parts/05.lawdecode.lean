theorem dL_0 : decode code 0 = .ok (.new 10, 3) := by decide +kernel
theorem dL_3 : decode code 3 = .ok (.dup, 1) := by decide +kernel
theorem dL_4 : decode code 4 = .ok (.invokespecial 128, 3) := by decide +kernel
theorem dL_7 : decode code 7 = .ok (.astore_n 1, 1) := by decide +kernel
theorem dL_8 : decode code 8 = .ok (.bipush 6, 2) := by decide +kernel
theorem dL_10 : decode code 10 = .ok (.newarray .int, 2) := by decide +kernel
theorem dL_12 : decode code 12 = .ok (.astore_n 2, 1) := by decide +kernel
theorem dL_13 : decode code 13 = .ok (.aload_n 2, 1) := by decide +kernel
theorem dL_14 : decode code 14 = .ok (.iconst 0, 1) := by decide +kernel
theorem dL_15 : decode code 15 = .ok (.bipush 100, 2) := by decide +kernel
theorem dL_17 : decode code 17 = .ok (.iastore, 1) := by decide +kernel
theorem dL_18 : decode code 18 = .ok (.aload_n 2, 1) := by decide +kernel
theorem dL_19 : decode code 19 = .ok (.iconst 1, 1) := by decide +kernel
theorem dL_20 : decode code 20 = .ok (.sipush 5000, 3) := by decide +kernel
theorem dL_23 : decode code 23 = .ok (.iastore, 1) := by decide +kernel
theorem dL_24 : decode code 24 = .ok (.iconst 0, 1) := by decide +kernel
theorem dL_25 : decode code 25 = .ok (.istore_n 3, 1) := by decide +kernel
theorem dL_26 : decode code 26 = .ok (.iload_n 3, 1) := by decide +kernel
theorem dL_27 : decode code 27 = .ok (.bipush 24, 2) := by decide +kernel
theorem dL_29 : decode code 29 = .ok (.if_icmp .ge 207, 3) := by decide +kernel
theorem dL_32 : decode code 32 = .ok (.aload_n 0, 1) := by decide +kernel
theorem dL_33 : decode code 33 = .ok (.iconst 2, 1) := by decide +kernel
theorem dL_34 : decode code 34 = .ok (.iload_n 3, 1) := by decide +kernel
theorem dL_35 : decode code 35 = .ok (.imul, 1) := by decide +kernel
theorem dL_36 : decode code 36 = .ok (.invokestatic 129, 3) := by decide +kernel
theorem dL_39 : decode code 39 = .ok (.istore 4, 2) := by decide +kernel
theorem dL_41 : decode code 41 = .ok (.aload_n 0, 1) := by decide +kernel
theorem dL_42 : decode code 42 = .ok (.iconst 2, 1) := by decide +kernel
theorem dL_43 : decode code 43 = .ok (.iload_n 3, 1) := by decide +kernel
theorem dL_44 : decode code 44 = .ok (.imul, 1) := by decide +kernel
theorem dL_45 : decode code 45 = .ok (.iconst 1, 1) := by decide +kernel
theorem dL_46 : decode code 46 = .ok (.iadd, 1) := by decide +kernel
theorem dL_47 : decode code 47 = .ok (.invokestatic 129, 3) := by decide +kernel
theorem dL_50 : decode code 50 = .ok (.istore 5, 2) := by decide +kernel
theorem dL_52 : decode code 52 = .ok (.aload_n 1, 1) := by decide +kernel
theorem dL_53 : decode code 53 = .ok (.aload_n 2, 1) := by decide +kernel
theorem dL_54 : decode code 54 = .ok (.iload 4, 2) := by decide +kernel
theorem dL_56 : decode code 56 = .ok (.iload 5, 2) := by decide +kernel
theorem dL_58 : decode code 58 = .ok (.invokestatic 133, 3) := by decide +kernel
theorem dL_61 : decode code 61 = .ok (.ifCond .eq 18, 3) := by decide +kernel
theorem dL_64 : decode code 64 = .ok (.aload_n 1, 1) := by decide +kernel
theorem dL_65 : decode code 65 = .ok (.aload_n 2, 1) := by decide +kernel
theorem dL_66 : decode code 66 = .ok (.invokestatic 137, 3) := by decide +kernel
theorem dL_69 : decode code 69 = .ok (.ifCond .eq 10, 3) := by decide +kernel
theorem dL_72 : decode code 72 = .ok (.aload_n 1, 1) := by decide +kernel
theorem dL_73 : decode code 73 = .ok (.invokestatic 141, 3) := by decide +kernel
theorem dL_76 : decode code 76 = .ok (.ifCond .ne 5, 3) := by decide +kernel
theorem dL_79 : decode code 79 = .ok (.iconst 0, 1) := by decide +kernel
theorem dL_80 : decode code 80 = .ok (.ireturn, 1) := by decide +kernel
theorem dL_81 : decode code 81 = .ok (.iconst 0, 1) := by decide +kernel
theorem dL_82 : decode code 82 = .ok (.istore 6, 2) := by decide +kernel
theorem dL_84 : decode code 84 = .ok (.iload 6, 2) := by decide +kernel
theorem dL_86 : decode code 86 = .ok (.aload_n 1, 1) := by decide +kernel
theorem dL_87 : decode code 87 = .ok (.invokevirtual 9, 3) := by decide +kernel
theorem dL_90 : decode code 90 = .ok (.if_icmp .ge 65, 3) := by decide +kernel
theorem dL_93 : decode code 93 = .ok (.aload_n 1, 1) := by decide +kernel
theorem dL_94 : decode code 94 = .ok (.iload 6, 2) := by decide +kernel
theorem dL_96 : decode code 96 = .ok (.invokestatic 145, 3) := by decide +kernel
theorem dL_99 : decode code 99 = .ok (.ifCond .eq 48, 3) := by decide +kernel
theorem dL_102 : decode code 102 = .ok (.aload_n 1, 1) := by decide +kernel
theorem dL_103 : decode code 103 = .ok (.iconst 1, 1) := by decide +kernel
theorem dL_104 : decode code 104 = .ok (.invokestatic 52, 3) := by decide +kernel
theorem dL_107 : decode code 107 = .ok (.iconst 1, 1) := by decide +kernel
theorem dL_108 : decode code 108 = .ok (.if_icmp .ne 41, 3) := by decide +kernel
theorem dL_111 : decode code 111 = .ok (.aload_n 1, 1) := by decide +kernel
theorem dL_112 : decode code 112 = .ok (.iload 6, 2) := by decide +kernel
theorem dL_114 : decode code 114 = .ok (.invokevirtual 15, 3) := by decide +kernel
theorem dL_117 : decode code 117 = .ok (.ifCond .le 32, 3) := by decide +kernel
theorem dL_120 : decode code 120 = .ok (.iload_n 3, 1) := by decide +kernel
theorem dL_121 : decode code 121 = .ok (.iconst 2, 1) := by decide +kernel
theorem dL_122 : decode code 122 = .ok (.irem, 1) := by decide +kernel
theorem dL_123 : decode code 123 = .ok (.ifCond .ne 26, 3) := by decide +kernel
theorem dL_126 : decode code 126 = .ok (.aload_n 1, 1) := by decide +kernel
theorem dL_127 : decode code 127 = .ok (.iload 6, 2) := by decide +kernel
theorem dL_129 : decode code 129 = .ok (.iconst 1, 1) := by decide +kernel
theorem dL_130 : decode code 130 = .ok (.iload 5, 2) := by decide +kernel
theorem dL_132 : decode code 132 = .ok (.bipush 9, 2) := by decide +kernel
theorem dL_134 : decode code 134 = .ok (.ishr, 1) := by decide +kernel
theorem dL_135 : decode code 135 = .ok (.bipush 50, 2) := by decide +kernel
theorem dL_137 : decode code 137 = .ok (.invokestatic 19, 3) := by decide +kernel
theorem dL_140 : decode code 140 = .ok (.iadd, 1) := by decide +kernel
theorem dL_141 : decode code 141 = .ok (.invokestatic 149, 3) := by decide +kernel
theorem dL_144 : decode code 144 = .ok (.ifCond .ne 5, 3) := by decide +kernel
theorem dL_147 : decode code 147 = .ok (.iconst 0, 1) := by decide +kernel
theorem dL_148 : decode code 148 = .ok (.ireturn, 1) := by decide +kernel
theorem dL_149 : decode code 149 = .ok (.iinc 6 1, 3) := by decide +kernel
theorem dL_152 : decode code 152 = .ok (.goto (-68), 3) := by decide +kernel
theorem dL_155 : decode code 155 = .ok (.iconst 0, 1) := by decide +kernel
theorem dL_156 : decode code 156 = .ok (.istore 6, 2) := by decide +kernel
theorem dL_158 : decode code 158 = .ok (.iload 6, 2) := by decide +kernel
theorem dL_160 : decode code 160 = .ok (.aload_n 1, 1) := by decide +kernel
theorem dL_161 : decode code 161 = .ok (.invokevirtual 153, 3) := by decide +kernel
theorem dL_164 : decode code 164 = .ok (.if_icmp .ge 66, 3) := by decide +kernel
theorem dL_167 : decode code 167 = .ok (.iload 6, 2) := by decide +kernel
theorem dL_169 : decode code 169 = .ok (.bipush 20, 2) := by decide +kernel
theorem dL_171 : decode code 171 = .ok (.if_icmp .ge 59, 3) := by decide +kernel
theorem dL_174 : decode code 174 = .ok (.aload_n 1, 1) := by decide +kernel
theorem dL_175 : decode code 175 = .ok (.iload 6, 2) := by decide +kernel
theorem dL_177 : decode code 177 = .ok (.invokevirtual 156, 3) := by decide +kernel
theorem dL_180 : decode code 180 = .ok (.istore 7, 2) := by decide +kernel
theorem dL_182 : decode code 182 = .ok (.iload 7, 2) := by decide +kernel
theorem dL_184 : decode code 184 = .ok (.iconst 1, 1) := by decide +kernel
theorem dL_185 : decode code 185 = .ok (.if_icmp .lt 37, 3) := by decide +kernel
theorem dL_188 : decode code 188 = .ok (.iload 7, 2) := by decide +kernel
theorem dL_190 : decode code 190 = .ok (.iconst 4, 1) := by decide +kernel
theorem dL_191 : decode code 191 = .ok (.if_icmp .gt 31, 3) := by decide +kernel
theorem dL_194 : decode code 194 = .ok (.aload_n 1, 1) := by decide +kernel
theorem dL_195 : decode code 195 = .ok (.iload 6, 2) := by decide +kernel
theorem dL_197 : decode code 197 = .ok (.invokevirtual 159, 3) := by decide +kernel
theorem dL_200 : decode code 200 = .ok (.ifCond .lt 22, 3) := by decide +kernel
theorem dL_203 : decode code 203 = .ok (.aload_n 1, 1) := by decide +kernel
theorem dL_204 : decode code 204 = .ok (.iload 6, 2) := by decide +kernel
theorem dL_206 : decode code 206 = .ok (.invokevirtual 159, 3) := by decide +kernel
theorem dL_209 : decode code 209 = .ok (.iconst 3, 1) := by decide +kernel
theorem dL_210 : decode code 210 = .ok (.if_icmp .gt 12, 3) := by decide +kernel
theorem dL_213 : decode code 213 = .ok (.aload_n 1, 1) := by decide +kernel
theorem dL_214 : decode code 214 = .ok (.iload 6, 2) := by decide +kernel
theorem dL_216 : decode code 216 = .ok (.invokevirtual 162, 3) := by decide +kernel
theorem dL_219 : decode code 219 = .ok (.ifCond .ge 5, 3) := by decide +kernel
theorem dL_222 : decode code 222 = .ok (.iconst 0, 1) := by decide +kernel
theorem dL_223 : decode code 223 = .ok (.ireturn, 1) := by decide +kernel
theorem dL_224 : decode code 224 = .ok (.iinc 6 1, 3) := by decide +kernel
theorem dL_227 : decode code 227 = .ok (.goto (-69), 3) := by decide +kernel
theorem dL_230 : decode code 230 = .ok (.iinc 3 1, 3) := by decide +kernel
theorem dL_233 : decode code 233 = .ok (.goto (-207), 3) := by decide +kernel
theorem dL_236 : decode code 236 = .ok (.aload_n 1, 1) := by decide +kernel
theorem dL_237 : decode code 237 = .ok (.bipush 20, 2) := by decide +kernel
theorem dL_239 : decode code 239 = .ok (.invokevirtual 156, 3) := by decide +kernel
theorem dL_242 : decode code 242 = .ok (.sipush (-1005), 3) := by decide +kernel
theorem dL_245 : decode code 245 = .ok (.if_icmp .ne 32, 3) := by decide +kernel
theorem dL_248 : decode code 248 = .ok (.aload_n 1, 1) := by decide +kernel
theorem dL_249 : decode code 249 = .ok (.iconst (-1), 1) := by decide +kernel
theorem dL_250 : decode code 250 = .ok (.invokevirtual 156, 3) := by decide +kernel
theorem dL_253 : decode code 253 = .ok (.sipush (-1002), 3) := by decide +kernel
theorem dL_256 : decode code 256 = .ok (.if_icmp .ne 21, 3) := by decide +kernel
theorem dL_259 : decode code 259 = .ok (.aload_n 1, 1) := by decide +kernel
theorem dL_260 : decode code 260 = .ok (.aload_n 1, 1) := by decide +kernel
theorem dL_261 : decode code 261 = .ok (.invokevirtual 153, 3) := by decide +kernel
theorem dL_264 : decode code 264 = .ok (.invokevirtual 159, 3) := by decide +kernel
theorem dL_267 : decode code 267 = .ok (.sipush (-1005), 3) := by decide +kernel
theorem dL_270 : decode code 270 = .ok (.if_icmp .ne 7, 3) := by decide +kernel
theorem dL_273 : decode code 273 = .ok (.iconst 1, 1) := by decide +kernel
theorem dL_274 : decode code 274 = .ok (.goto 4, 3) := by decide +kernel
theorem dL_277 : decode code 277 = .ok (.iconst 0, 1) := by decide +kernel
theorem dL_278 : decode code 278 = .ok (.ireturn, 1) := by decide +kernel
