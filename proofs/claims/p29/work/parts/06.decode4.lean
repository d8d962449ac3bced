theorem dL_second_121 : decode cL_second 121 = .ok (.ifCond .lt 16, 3) := by decide +kernel
theorem dL_second_124 : decode cL_second 124 = .ok (.aload_n 0, 1) := by decide +kernel
theorem dL_second_125 : decode cL_second 125 = .ok (.iload_n 2, 1) := by decide +kernel
theorem dL_second_126 : decode cL_second 126 = .ok (.iconst 2, 1) := by decide +kernel
theorem dL_second_127 : decode cL_second 127 = .ok (.invokevirtual 23, 3) := by decide +kernel
theorem dL_second_130 : decode cL_second 130 = .ok (.iload 4, 2) := by decide +kernel
theorem dL_second_132 : decode cL_second 132 = .ok (.iconst 1, 1) := by decide +kernel
theorem dL_second_133 : decode cL_second 133 = .ok (.iadd, 1) := by decide +kernel
theorem dL_second_134 : decode cL_second 134 = .ok (.if_icmp .ne 20, 3) := by decide +kernel
theorem dL_second_137 : decode cL_second 137 = .ok (.aload_n 0, 1) := by decide +kernel
theorem dL_second_138 : decode cL_second 138 = .ok (.iconst 2, 1) := by decide +kernel
theorem dL_second_139 : decode cL_second 139 = .ok (.invokevirtual 13, 3) := by decide +kernel
theorem dL_second_142 : decode cL_second 142 = .ok (.iload 6, 2) := by decide +kernel
theorem dL_second_144 : decode cL_second 144 = .ok (.iload 7, 2) := by decide +kernel
theorem dL_second_146 : decode cL_second 146 = .ok (.iadd, 1) := by decide +kernel
theorem dL_second_147 : decode cL_second 147 = .ok (.if_icmp .gt 7, 3) := by decide +kernel
theorem dL_second_150 : decode cL_second 150 = .ok (.iconst 1, 1) := by decide +kernel
theorem dL_second_151 : decode cL_second 151 = .ok (.goto 4, 3) := by decide +kernel
theorem dL_second_154 : decode cL_second 154 = .ok (.iconst 0, 1) := by decide +kernel
theorem dL_second_155 : decode cL_second 155 = .ok (.ireturn, 1) := by decide +kernel
theorem dL_parts_0 : decode cL_parts 0 = .ok (.aload_n 0, 1) := by decide +kernel
theorem dL_parts_1 : decode cL_parts 1 = .ok (.iconst 5, 1) := by decide +kernel
theorem dL_parts_2 : decode cL_parts 2 = .ok (.invokevirtual 13, 3) := by decide +kernel
theorem dL_parts_5 : decode cL_parts 5 = .ok (.istore_n 3, 1) := by decide +kernel
theorem dL_parts_6 : decode cL_parts 6 = .ok (.aload_n 0, 1) := by decide +kernel
theorem dL_parts_7 : decode cL_parts 7 = .ok (.invokevirtual 68, 3) := by decide +kernel
theorem dL_parts_10 : decode cL_parts 10 = .ok (.iload_n 3, 1) := by decide +kernel
theorem dL_parts_11 : decode cL_parts 11 = .ok (.if_icmp .eq 5, 3) := by decide +kernel
theorem dL_parts_14 : decode cL_parts 14 = .ok (.iconst 0, 1) := by decide +kernel
theorem dL_parts_15 : decode cL_parts 15 = .ok (.ireturn, 1) := by decide +kernel
theorem dL_parts_16 : decode cL_parts 16 = .ok (.aload_n 0, 1) := by decide +kernel
theorem dL_parts_17 : decode cL_parts 17 = .ok (.iload_n 1, 1) := by decide +kernel
theorem dL_parts_18 : decode cL_parts 18 = .ok (.iload_n 2, 1) := by decide +kernel
theorem dL_parts_19 : decode cL_parts 19 = .ok (.iadd, 1) := by decide +kernel
theorem dL_parts_20 : decode cL_parts 20 = .ok (.invokevirtual 65, 3) := by decide +kernel
theorem dL_parts_23 : decode cL_parts 23 = .ok (.istore 4, 2) := by decide +kernel
theorem dL_parts_25 : decode cL_parts 25 = .ok (.aload_n 0, 1) := by decide +kernel
theorem dL_parts_26 : decode cL_parts 26 = .ok (.invokestatic 72, 3) := by decide +kernel
theorem dL_parts_29 : decode cL_parts 29 = .ok (.lstore 5, 2) := by decide +kernel
theorem dL_parts_31 : decode cL_parts 31 = .ok (.aload_n 0, 1) := by decide +kernel
theorem dL_parts_32 : decode cL_parts 32 = .ok (.invokevirtual 76, 3) := by decide +kernel
theorem dL_parts_35 : decode cL_parts 35 = .ok (.iload_n 3, 1) := by decide +kernel
theorem dL_parts_36 : decode cL_parts 36 = .ok (.if_icmp .eq 5, 3) := by decide +kernel
theorem dL_parts_39 : decode cL_parts 39 = .ok (.iconst 0, 1) := by decide +kernel
theorem dL_parts_40 : decode cL_parts 40 = .ok (.ireturn, 1) := by decide +kernel
theorem dL_parts_41 : decode cL_parts 41 = .ok (.aload_n 0, 1) := by decide +kernel
theorem dL_parts_42 : decode cL_parts 42 = .ok (.iload_n 1, 1) := by decide +kernel
theorem dL_parts_43 : decode cL_parts 43 = .ok (.invokevirtual 65, 3) := by decide +kernel
theorem dL_parts_46 : decode cL_parts 46 = .ok (.istore 7, 2) := by decide +kernel
theorem dL_parts_48 : decode cL_parts 48 = .ok (.iload 7, 2) := by decide +kernel
theorem dL_parts_50 : decode cL_parts 50 = .ok (.aload_n 0, 1) := by decide +kernel
theorem dL_parts_51 : decode cL_parts 51 = .ok (.iload_n 2, 1) := by decide +kernel
theorem dL_parts_52 : decode cL_parts 52 = .ok (.invokevirtual 65, 3) := by decide +kernel
theorem dL_parts_55 : decode cL_parts 55 = .ok (.iadd, 1) := by decide +kernel
theorem dL_parts_56 : decode cL_parts 56 = .ok (.iload 4, 2) := by decide +kernel
theorem dL_parts_58 : decode cL_parts 58 = .ok (.if_icmp .ne 17, 3) := by decide +kernel
theorem dL_parts_61 : decode cL_parts 61 = .ok (.aload_n 0, 1) := by decide +kernel
theorem dL_parts_62 : decode cL_parts 62 = .ok (.invokestatic 72, 3) := by decide +kernel
theorem dL_parts_65 : decode cL_parts 65 = .ok (.lload 5, 2) := by decide +kernel
theorem dL_parts_67 : decode cL_parts 67 = .ok (.lcmp, 1) := by decide +kernel
theorem dL_parts_68 : decode cL_parts 68 = .ok (.ifCond .ne 7, 3) := by decide +kernel
theorem dL_parts_71 : decode cL_parts 71 = .ok (.iconst 1, 1) := by decide +kernel
theorem dL_parts_72 : decode cL_parts 72 = .ok (.goto 4, 3) := by decide +kernel
theorem dL_parts_75 : decode cL_parts 75 = .ok (.iconst 0, 1) := by decide +kernel
theorem dL_parts_76 : decode cL_parts 76 = .ok (.ireturn, 1) := by decide +kernel
theorem dL_orders_0 : decode cL_orders 0 = .ok (.aload_n 0, 1) := by decide +kernel
theorem dL_orders_1 : decode cL_orders 1 = .ok (.iload_n 2, 1) := by decide +kernel
theorem dL_orders_2 : decode cL_orders 2 = .ok (.iconst 5, 1) := by decide +kernel
theorem dL_orders_3 : decode cL_orders 3 = .ok (.invokevirtual 19, 3) := by decide +kernel
theorem dL_orders_6 : decode cL_orders 6 = .ok (.istore 4, 2) := by decide +kernel
theorem dL_orders_8 : decode cL_orders 8 = .ok (.aload_n 0, 1) := by decide +kernel
theorem dL_orders_9 : decode cL_orders 9 = .ok (.iload_n 2, 1) := by decide +kernel
theorem dL_orders_10 : decode cL_orders 10 = .ok (.bipush 7, 2) := by decide +kernel
theorem dL_orders_12 : decode cL_orders 12 = .ok (.invokevirtual 19, 3) := by decide +kernel
theorem dL_orders_15 : decode cL_orders 15 = .ok (.istore 5, 2) := by decide +kernel
theorem dL_orders_17 : decode cL_orders 17 = .ok (.iload_n 1, 1) := by decide +kernel
theorem dL_orders_18 : decode cL_orders 18 = .ok (.bipush 7, 2) := by decide +kernel
theorem dL_orders_20 : decode cL_orders 20 = .ok (.if_icmp .ge 71, 3) := by decide +kernel
theorem dL_orders_23 : decode cL_orders 23 = .ok (.aload_n 0, 1) := by decide +kernel
theorem dL_orders_24 : decode cL_orders 24 = .ok (.iload_n 2, 1) := by decide +kernel
theorem dL_orders_25 : decode cL_orders 25 = .ok (.invokevirtual 79, 3) := by decide +kernel
theorem dL_orders_28 : decode cL_orders 28 = .ok (.istore 6, 2) := by decide +kernel
theorem dL_orders_30 : decode cL_orders 30 = .ok (.iload 4, 2) := by decide +kernel
theorem dL_orders_32 : decode cL_orders 32 = .ok (.ifCond .ne 36, 3) := by decide +kernel
theorem dL_orders_35 : decode cL_orders 35 = .ok (.iload 6, 2) := by decide +kernel
theorem dL_orders_37 : decode cL_orders 37 = .ok (.ifCond .lt 27, 3) := by decide +kernel
theorem dL_orders_40 : decode cL_orders 40 = .ok (.aload_n 0, 1) := by decide +kernel
theorem dL_orders_41 : decode cL_orders 41 = .ok (.iload 6, 2) := by decide +kernel
theorem dL_orders_43 : decode cL_orders 43 = .ok (.invokevirtual 42, 3) := by decide +kernel
theorem dL_orders_46 : decode cL_orders 46 = .ok (.iload_n 2, 1) := by decide +kernel
theorem dL_orders_47 : decode cL_orders 47 = .ok (.if_icmp .ne 17, 3) := by decide +kernel
theorem dL_orders_50 : decode cL_orders 50 = .ok (.aload_n 0, 1) := by decide +kernel
theorem dL_orders_51 : decode cL_orders 51 = .ok (.iload_n 2, 1) := by decide +kernel
theorem dL_orders_52 : decode cL_orders 52 = .ok (.bipush 9, 2) := by decide +kernel
theorem dL_orders_54 : decode cL_orders 54 = .ok (.invokevirtual 19, 3) := by decide +kernel
theorem dL_orders_57 : decode cL_orders 57 = .ok (.ifCond .ne 7, 3) := by decide +kernel
theorem dL_orders_60 : decode cL_orders 60 = .ok (.iconst 1, 1) := by decide +kernel
theorem dL_orders_61 : decode cL_orders 61 = .ok (.goto 29, 3) := by decide +kernel
theorem dL_orders_64 : decode cL_orders 64 = .ok (.iconst 0, 1) := by decide +kernel
theorem dL_orders_65 : decode cL_orders 65 = .ok (.goto 25, 3) := by decide +kernel
theorem dL_orders_68 : decode cL_orders 68 = .ok (.iload 6, 2) := by decide +kernel
theorem dL_orders_70 : decode cL_orders 70 = .ok (.bipush (-3), 2) := by decide +kernel
theorem dL_orders_72 : decode cL_orders 72 = .ok (.if_icmp .ne 17, 3) := by decide +kernel
theorem dL_orders_75 : decode cL_orders 75 = .ok (.aload_n 0, 1) := by decide +kernel
theorem dL_orders_76 : decode cL_orders 76 = .ok (.bipush 8, 2) := by decide +kernel
theorem dL_orders_78 : decode cL_orders 78 = .ok (.invokevirtual 13, 3) := by decide +kernel
theorem dL_orders_81 : decode cL_orders 81 = .ok (.iconst 1, 1) := by decide +kernel
theorem dL_orders_82 : decode cL_orders 82 = .ok (.if_icmp .ne 7, 3) := by decide +kernel
theorem dL_orders_85 : decode cL_orders 85 = .ok (.iconst 1, 1) := by decide +kernel
theorem dL_orders_86 : decode cL_orders 86 = .ok (.goto 4, 3) := by decide +kernel
theorem dL_orders_89 : decode cL_orders 89 = .ok (.iconst 0, 1) := by decide +kernel
theorem dL_orders_90 : decode cL_orders 90 = .ok (.ireturn, 1) := by decide +kernel
theorem dL_orders_91 : decode cL_orders 91 = .ok (.iload_n 1, 1) := by decide +kernel
theorem dL_orders_92 : decode cL_orders 92 = .ok (.bipush 7, 2) := by decide +kernel
theorem dL_orders_94 : decode cL_orders 94 = .ok (.if_icmp .ne 78, 3) := by decide +kernel
theorem dL_orders_97 : decode cL_orders 97 = .ok (.aload_n 0, 1) := by decide +kernel
theorem dL_orders_98 : decode cL_orders 98 = .ok (.iload_n 2, 1) := by decide +kernel
theorem dL_orders_99 : decode cL_orders 99 = .ok (.invokevirtual 82, 3) := by decide +kernel
theorem dL_orders_102 : decode cL_orders 102 = .ok (.istore 6, 2) := by decide +kernel
theorem dL_orders_104 : decode cL_orders 104 = .ok (.iload 4, 2) := by decide +kernel
theorem dL_orders_106 : decode cL_orders 106 = .ok (.ifCond .le 43, 3) := by decide +kernel
theorem dL_orders_109 : decode cL_orders 109 = .ok (.iload 4, 2) := by decide +kernel
theorem dL_orders_111 : decode cL_orders 111 = .ok (.iconst 4, 1) := by decide +kernel
theorem dL_orders_112 : decode cL_orders 112 = .ok (.if_icmp .ge 37, 3) := by decide +kernel
theorem dL_orders_115 : decode cL_orders 115 = .ok (.iload 6, 2) := by decide +kernel
theorem dL_orders_117 : decode cL_orders 117 = .ok (.iload 4, 2) := by decide +kernel
theorem dL_orders_119 : decode cL_orders 119 = .ok (.if_icmp .ne 26, 3) := by decide +kernel
theorem dL_orders_122 : decode cL_orders 122 = .ok (.aload_n 0, 1) := by decide +kernel
theorem dL_orders_123 : decode cL_orders 123 = .ok (.iload_n 2, 1) := by decide +kernel
theorem dL_orders_124 : decode cL_orders 124 = .ok (.iconst 5, 1) := by decide +kernel
theorem dL_orders_125 : decode cL_orders 125 = .ok (.invokevirtual 19, 3) := by decide +kernel
theorem dL_orders_128 : decode cL_orders 128 = .ok (.ifCond .ne 17, 3) := by decide +kernel
theorem dL_orders_131 : decode cL_orders 131 = .ok (.aload_n 0, 1) := by decide +kernel
theorem dL_orders_132 : decode cL_orders 132 = .ok (.iconst 0, 1) := by decide +kernel
theorem dL_orders_133 : decode cL_orders 133 = .ok (.iconst 2, 1) := by decide +kernel
theorem dL_orders_134 : decode cL_orders 134 = .ok (.invokevirtual 28, 3) := by decide +kernel
theorem dL_orders_137 : decode cL_orders 137 = .ok (.iconst 3, 1) := by decide +kernel
theorem dL_orders_138 : decode cL_orders 138 = .ok (.if_icmp .ne 7, 3) := by decide +kernel
theorem dL_orders_141 : decode cL_orders 141 = .ok (.iconst 1, 1) := by decide +kernel
theorem dL_orders_142 : decode cL_orders 142 = .ok (.goto 29, 3) := by decide +kernel
theorem dL_orders_145 : decode cL_orders 145 = .ok (.iconst 0, 1) := by decide +kernel
theorem dL_orders_146 : decode cL_orders 146 = .ok (.goto 25, 3) := by decide +kernel
theorem dL_orders_149 : decode cL_orders 149 = .ok (.iload 6, 2) := by decide +kernel
theorem dL_orders_151 : decode cL_orders 151 = .ok (.bipush (-3), 2) := by decide +kernel
theorem dL_orders_153 : decode cL_orders 153 = .ok (.if_icmp .ne 17, 3) := by decide +kernel
theorem dL_orders_156 : decode cL_orders 156 = .ok (.aload_n 0, 1) := by decide +kernel
theorem dL_orders_157 : decode cL_orders 157 = .ok (.bipush 8, 2) := by decide +kernel
theorem dL_orders_159 : decode cL_orders 159 = .ok (.invokevirtual 13, 3) := by decide +kernel
theorem dL_orders_162 : decode cL_orders 162 = .ok (.iconst 1, 1) := by decide +kernel
theorem dL_orders_163 : decode cL_orders 163 = .ok (.if_icmp .ne 7, 3) := by decide +kernel
theorem dL_orders_166 : decode cL_orders 166 = .ok (.iconst 1, 1) := by decide +kernel
theorem dL_orders_167 : decode cL_orders 167 = .ok (.goto 4, 3) := by decide +kernel
theorem dL_orders_170 : decode cL_orders 170 = .ok (.iconst 0, 1) := by decide +kernel
theorem dL_orders_171 : decode cL_orders 171 = .ok (.ireturn, 1) := by decide +kernel
theorem dL_orders_172 : decode cL_orders 172 = .ok (.iload_n 1, 1) := by decide +kernel
theorem dL_orders_173 : decode cL_orders 173 = .ok (.bipush 8, 2) := by decide +kernel
theorem dL_orders_175 : decode cL_orders 175 = .ok (.if_icmp .ne 143, 3) := by decide +kernel
theorem dL_orders_178 : decode cL_orders 178 = .ok (.iload_n 3, 1) := by decide +kernel
theorem dL_orders_179 : decode cL_orders 179 = .ok (.iconst 3, 1) := by decide +kernel
theorem dL_orders_180 : decode cL_orders 180 = .ok (.iand, 1) := by decide +kernel
theorem dL_orders_181 : decode cL_orders 181 = .ok (.ifCond .ne 14, 3) := by decide +kernel
theorem dL_orders_184 : decode cL_orders 184 = .ok (.iload_n 3, 1) := by decide +kernel
theorem dL_orders_185 : decode cL_orders 185 = .ok (.iconst 2, 1) := by decide +kernel
theorem dL_orders_186 : decode cL_orders 186 = .ok (.ishr, 1) := by decide +kernel
theorem dL_orders_187 : decode cL_orders 187 = .ok (.bipush 8, 2) := by decide +kernel
theorem dL_orders_189 : decode cL_orders 189 = .ok (.invokestatic 85, 3) := by decide +kernel
theorem dL_orders_192 : decode cL_orders 192 = .ok (.goto 4, 3) := by decide +kernel
theorem dL_orders_195 : decode cL_orders 195 = .ok (.iconst 0, 1) := by decide +kernel
theorem dL_orders_196 : decode cL_orders 196 = .ok (.istore 6, 2) := by decide +kernel
theorem dL_orders_198 : decode cL_orders 198 = .ok (.aload_n 0, 1) := by decide +kernel
theorem dL_orders_199 : decode cL_orders 199 = .ok (.iload_n 2, 1) := by decide +kernel
theorem dL_orders_200 : decode cL_orders 200 = .ok (.iload 6, 2) := by decide +kernel
theorem dL_orders_202 : decode cL_orders 202 = .ok (.invokevirtual 88, 3) := by decide +kernel
theorem dL_orders_205 : decode cL_orders 205 = .ok (.istore 7, 2) := by decide +kernel
theorem dL_orders_207 : decode cL_orders 207 = .ok (.iload 4, 2) := by decide +kernel
theorem dL_orders_209 : decode cL_orders 209 = .ok (.iconst 2, 1) := by decide +kernel
theorem dL_orders_210 : decode cL_orders 210 = .ok (.if_icmp .ne 12, 3) := by decide +kernel
theorem dL_orders_213 : decode cL_orders 213 = .ok (.iload 6, 2) := by decide +kernel
theorem dL_orders_215 : decode cL_orders 215 = .ok (.ifCond .le 7, 3) := by decide +kernel
theorem dL_orders_218 : decode cL_orders 218 = .ok (.iconst 1, 1) := by decide +kernel
theorem dL_orders_219 : decode cL_orders 219 = .ok (.goto 4, 3) := by decide +kernel
theorem dL_orders_222 : decode cL_orders 222 = .ok (.iconst 0, 1) := by decide +kernel
theorem dL_orders_223 : decode cL_orders 223 = .ok (.istore 8, 2) := by decide +kernel
theorem dL_orders_225 : decode cL_orders 225 = .ok (.iload 6, 2) := by decide +kernel
theorem dL_orders_227 : decode cL_orders 227 = .ok (.iload 5, 2) := by decide +kernel
theorem dL_orders_229 : decode cL_orders 229 = .ok (.if_icmp .ne 18, 3) := by decide +kernel
theorem dL_orders_232 : decode cL_orders 232 = .ok (.iload 7, 2) := by decide +kernel
theorem dL_orders_234 : decode cL_orders 234 = .ok (.bipush (-4), 2) := by decide +kernel
theorem dL_orders_236 : decode cL_orders 236 = .ok (.if_icmp .ne 7, 3) := by decide +kernel
theorem dL_orders_239 : decode cL_orders 239 = .ok (.iconst 1, 1) := by decide +kernel
theorem dL_orders_240 : decode cL_orders 240 = .ok (.goto 77, 3) := by decide +kernel
theorem dL_orders_243 : decode cL_orders 243 = .ok (.iconst 0, 1) := by decide +kernel
theorem dL_orders_244 : decode cL_orders 244 = .ok (.goto 73, 3) := by decide +kernel
theorem dL_orders_247 : decode cL_orders 247 = .ok (.iload 7, 2) := by decide +kernel
theorem dL_orders_249 : decode cL_orders 249 = .ok (.iload 5, 2) := by decide +kernel
theorem dL_orders_251 : decode cL_orders 251 = .ok (.if_icmp .ne 65, 3) := by decide +kernel
theorem dL_orders_254 : decode cL_orders 254 = .ok (.aload_n 0, 1) := by decide +kernel
theorem dL_orders_255 : decode cL_orders 255 = .ok (.iload_n 2, 1) := by decide +kernel
theorem dL_orders_256 : decode cL_orders 256 = .ok (.bipush 7, 2) := by decide +kernel
theorem dL_orders_258 : decode cL_orders 258 = .ok (.invokevirtual 19, 3) := by decide +kernel
theorem dL_orders_261 : decode cL_orders 261 = .ok (.iload 6, 2) := by decide +kernel
theorem dL_orders_263 : decode cL_orders 263 = .ok (.if_icmp .ne 53, 3) := by decide +kernel
theorem dL_orders_266 : decode cL_orders 266 = .ok (.aload_n 0, 1) := by decide +kernel
theorem dL_orders_267 : decode cL_orders 267 = .ok (.iload_n 2, 1) := by decide +kernel
theorem dL_orders_268 : decode cL_orders 268 = .ok (.iconst 5, 1) := by decide +kernel
theorem dL_orders_269 : decode cL_orders 269 = .ok (.invokevirtual 19, 3) := by decide +kernel
theorem dL_orders_272 : decode cL_orders 272 = .ok (.iload 8, 2) := by decide +kernel
theorem dL_orders_274 : decode cL_orders 274 = .ok (.ifCond .eq 7, 3) := by decide +kernel
theorem dL_orders_277 : decode cL_orders 277 = .ok (.iconst 4, 1) := by decide +kernel
theorem dL_orders_278 : decode cL_orders 278 = .ok (.goto 5, 3) := by decide +kernel
theorem dL_orders_281 : decode cL_orders 281 = .ok (.iload 4, 2) := by decide +kernel
theorem dL_orders_283 : decode cL_orders 283 = .ok (.if_icmp .ne 33, 3) := by decide +kernel
theorem dL_orders_286 : decode cL_orders 286 = .ok (.iload 8, 2) := by decide +kernel
theorem dL_orders_288 : decode cL_orders 288 = .ok (.ifCond .eq 24, 3) := by decide +kernel
theorem dL_orders_291 : decode cL_orders 291 = .ok (.aload_n 0, 1) := by decide +kernel
theorem dL_orders_292 : decode cL_orders 292 = .ok (.iload_n 2, 1) := by decide +kernel
theorem dL_orders_293 : decode cL_orders 293 = .ok (.bipush 11, 2) := by decide +kernel
theorem dL_orders_295 : decode cL_orders 295 = .ok (.invokevirtual 19, 3) := by decide +kernel
theorem dL_orders_298 : decode cL_orders 298 = .ok (.iconst 4, 1) := by decide +kernel
theorem dL_orders_299 : decode cL_orders 299 = .ok (.if_icmp .ne 17, 3) := by decide +kernel
theorem dL_orders_302 : decode cL_orders 302 = .ok (.aload_n 0, 1) := by decide +kernel
theorem dL_orders_303 : decode cL_orders 303 = .ok (.iconst 0, 1) := by decide +kernel
theorem dL_orders_304 : decode cL_orders 304 = .ok (.iconst 2, 1) := by decide +kernel
theorem dL_orders_305 : decode cL_orders 305 = .ok (.invokevirtual 28, 3) := by decide +kernel
theorem dL_orders_308 : decode cL_orders 308 = .ok (.iconst 5, 1) := by decide +kernel
theorem dL_orders_309 : decode cL_orders 309 = .ok (.if_icmp .ne 7, 3) := by decide +kernel
theorem dL_orders_312 : decode cL_orders 312 = .ok (.iconst 1, 1) := by decide +kernel
theorem dL_orders_313 : decode cL_orders 313 = .ok (.goto 4, 3) := by decide +kernel
theorem dL_orders_316 : decode cL_orders 316 = .ok (.iconst 0, 1) := by decide +kernel
theorem dL_orders_317 : decode cL_orders 317 = .ok (.ireturn, 1) := by decide +kernel
theorem dL_orders_318 : decode cL_orders 318 = .ok (.aload_n 0, 1) := by decide +kernel
theorem dL_orders_319 : decode cL_orders 319 = .ok (.iload_n 2, 1) := by decide +kernel
theorem dL_orders_320 : decode cL_orders 320 = .ok (.bipush 6, 2) := by decide +kernel
theorem dL_orders_322 : decode cL_orders 322 = .ok (.invokevirtual 19, 3) := by decide +kernel
theorem dL_orders_325 : decode cL_orders 325 = .ok (.istore 6, 2) := by decide +kernel
theorem dL_orders_327 : decode cL_orders 327 = .ok (.iload 4, 2) := by decide +kernel
theorem dL_orders_329 : decode cL_orders 329 = .ok (.iconst 4, 1) := by decide +kernel
theorem dL_orders_330 : decode cL_orders 330 = .ok (.if_icmp .eq 7, 3) := by decide +kernel
theorem dL_orders_333 : decode cL_orders 333 = .ok (.iconst 1, 1) := by decide +kernel
theorem dL_orders_334 : decode cL_orders 334 = .ok (.goto 30, 3) := by decide +kernel
theorem dL_orders_337 : decode cL_orders 337 = .ok (.iload 5, 2) := by decide +kernel
theorem dL_orders_339 : decode cL_orders 339 = .ok (.ifCond .eq 7, 3) := by decide +kernel
theorem dL_orders_342 : decode cL_orders 342 = .ok (.iconst 4, 1) := by decide +kernel
theorem dL_orders_343 : decode cL_orders 343 = .ok (.goto 21, 3) := by decide +kernel
theorem dL_orders_346 : decode cL_orders 346 = .ok (.iload 6, 2) := by decide +kernel
theorem dL_orders_348 : decode cL_orders 348 = .ok (.aload_n 0, 1) := by decide +kernel
theorem dL_orders_349 : decode cL_orders 349 = .ok (.iload_n 2, 1) := by decide +kernel
theorem dL_orders_350 : decode cL_orders 350 = .ok (.iconst 3, 1) := by decide +kernel
theorem dL_orders_351 : decode cL_orders 351 = .ok (.invokevirtual 19, 3) := by decide +kernel
theorem dL_orders_354 : decode cL_orders 354 = .ok (.iconst 2, 1) := by decide +kernel
theorem dL_orders_355 : decode cL_orders 355 = .ok (.idiv, 1) := by decide +kernel
theorem dL_orders_356 : decode cL_orders 356 = .ok (.if_icmp .le 7, 3) := by decide +kernel
theorem dL_orders_359 : decode cL_orders 359 = .ok (.iconst 2, 1) := by decide +kernel
theorem dL_orders_360 : decode cL_orders 360 = .ok (.goto 4, 3) := by decide +kernel
theorem dL_orders_363 : decode cL_orders 363 = .ok (.iconst 0, 1) := by decide +kernel
theorem dL_orders_364 : decode cL_orders 364 = .ok (.istore 7, 2) := by decide +kernel
theorem dL_orders_366 : decode cL_orders 366 = .ok (.aload_n 0, 1) := by decide +kernel
theorem dL_orders_367 : decode cL_orders 367 = .ok (.iload_n 2, 1) := by decide +kernel
theorem dL_orders_368 : decode cL_orders 368 = .ok (.invokevirtual 91, 3) := by decide +kernel
theorem dL_orders_371 : decode cL_orders 371 = .ok (.istore 8, 2) := by decide +kernel
theorem dL_orders_373 : decode cL_orders 373 = .ok (.iload 7, 2) := by decide +kernel
theorem dL_orders_375 : decode cL_orders 375 = .ok (.ifCond .le 29, 3) := by decide +kernel
theorem dL_orders_378 : decode cL_orders 378 = .ok (.iload 8, 2) := by decide +kernel
theorem dL_orders_380 : decode cL_orders 380 = .ok (.bipush (-3), 2) := by decide +kernel
theorem dL_orders_382 : decode cL_orders 382 = .ok (.if_icmp .ne 18, 3) := by decide +kernel
theorem dL_orders_385 : decode cL_orders 385 = .ok (.aload_n 0, 1) := by decide +kernel
theorem dL_orders_386 : decode cL_orders 386 = .ok (.bipush 8, 2) := by decide +kernel
theorem dL_orders_388 : decode cL_orders 388 = .ok (.invokevirtual 13, 3) := by decide +kernel
theorem dL_orders_391 : decode cL_orders 391 = .ok (.iload 7, 2) := by decide +kernel
theorem dL_orders_393 : decode cL_orders 393 = .ok (.if_icmp .ne 7, 3) := by decide +kernel
theorem dL_orders_396 : decode cL_orders 396 = .ok (.iconst 1, 1) := by decide +kernel
theorem dL_orders_397 : decode cL_orders 397 = .ok (.goto 39, 3) := by decide +kernel
theorem dL_orders_400 : decode cL_orders 400 = .ok (.iconst 0, 1) := by decide +kernel
theorem dL_orders_401 : decode cL_orders 401 = .ok (.goto 35, 3) := by decide +kernel
theorem dL_orders_404 : decode cL_orders 404 = .ok (.iload 8, 2) := by decide +kernel
theorem dL_orders_406 : decode cL_orders 406 = .ok (.iload 6, 2) := by decide +kernel
theorem dL_orders_408 : decode cL_orders 408 = .ok (.if_icmp .ne 27, 3) := by decide +kernel
theorem dL_orders_411 : decode cL_orders 411 = .ok (.aload_n 0, 1) := by decide +kernel
theorem dL_orders_412 : decode cL_orders 412 = .ok (.iload_n 2, 1) := by decide +kernel
theorem dL_orders_413 : decode cL_orders 413 = .ok (.iconst 5, 1) := by decide +kernel
theorem dL_orders_414 : decode cL_orders 414 = .ok (.invokevirtual 19, 3) := by decide +kernel
theorem dL_orders_417 : decode cL_orders 417 = .ok (.ifCond .ne 18, 3) := by decide +kernel
theorem dL_orders_420 : decode cL_orders 420 = .ok (.aload_n 0, 1) := by decide +kernel
theorem dL_orders_421 : decode cL_orders 421 = .ok (.iconst 0, 1) := by decide +kernel
theorem dL_orders_422 : decode cL_orders 422 = .ok (.iconst 2, 1) := by decide +kernel
theorem dL_orders_423 : decode cL_orders 423 = .ok (.invokevirtual 28, 3) := by decide +kernel
theorem dL_orders_426 : decode cL_orders 426 = .ok (.bipush 6, 2) := by decide +kernel
theorem dL_orders_428 : decode cL_orders 428 = .ok (.if_icmp .ne 7, 3) := by decide +kernel
theorem dL_orders_431 : decode cL_orders 431 = .ok (.iconst 1, 1) := by decide +kernel
theorem dL_orders_432 : decode cL_orders 432 = .ok (.goto 4, 3) := by decide +kernel
theorem dL_orders_435 : decode cL_orders 435 = .ok (.iconst 0, 1) := by decide +kernel
theorem dL_orders_436 : decode cL_orders 436 = .ok (.ireturn, 1) := by decide +kernel
theorem dL_sets_0 : decode cL_sets 0 = .ok (.iload_n 1, 1) := by decide +kernel
theorem dL_sets_1 : decode cL_sets 1 = .ok (.iconst 1, 1) := by decide +kernel
theorem dL_sets_2 : decode cL_sets 2 = .ok (.if_icmp .ne 80, 3) := by decide +kernel
theorem dL_sets_5 : decode cL_sets 5 = .ok (.aload_n 0, 1) := by decide +kernel
theorem dL_sets_6 : decode cL_sets 6 = .ok (.iload_n 2, 1) := by decide +kernel
theorem dL_sets_7 : decode cL_sets 7 = .ok (.iconst 4, 1) := by decide +kernel
theorem dL_sets_8 : decode cL_sets 8 = .ok (.invokevirtual 19, 3) := by decide +kernel
theorem dL_sets_11 : decode cL_sets 11 = .ok (.istore 4, 2) := by decide +kernel
theorem dL_sets_13 : decode cL_sets 13 = .ok (.aload_n 0, 1) := by decide +kernel
theorem dL_sets_14 : decode cL_sets 14 = .ok (.iload_n 2, 1) := by decide +kernel
theorem dL_sets_15 : decode cL_sets 15 = .ok (.iload_n 3, 1) := by decide +kernel
theorem dL_sets_16 : decode cL_sets 16 = .ok (.bipush 10, 2) := by decide +kernel
theorem dL_sets_18 : decode cL_sets 18 = .ok (.invokestatic 85, 3) := by decide +kernel
theorem dL_sets_21 : decode cL_sets 21 = .ok (.invokevirtual 94, 3) := by decide +kernel
theorem dL_sets_24 : decode cL_sets 24 = .ok (.istore 5, 2) := by decide +kernel
theorem dL_sets_26 : decode cL_sets 26 = .ok (.iload 5, 2) := by decide +kernel
theorem dL_sets_28 : decode cL_sets 28 = .ok (.iload 4, 2) := by decide +kernel
theorem dL_sets_30 : decode cL_sets 30 = .ok (.iload_n 3, 1) := by decide +kernel
theorem dL_sets_31 : decode cL_sets 31 = .ok (.bipush 10, 2) := by decide +kernel
theorem dL_sets_33 : decode cL_sets 33 = .ok (.invokestatic 85, 3) := by decide +kernel
theorem dL_sets_36 : decode cL_sets 36 = .ok (.if_icmp .ne 8, 3) := by decide +kernel
theorem dL_sets_39 : decode cL_sets 39 = .ok (.bipush (-4), 2) := by decide +kernel
theorem dL_sets_41 : decode cL_sets 41 = .ok (.goto 5, 3) := by decide +kernel
theorem dL_sets_44 : decode cL_sets 44 = .ok (.iload 4, 2) := by decide +kernel
theorem dL_sets_46 : decode cL_sets 46 = .ok (.if_icmp .ne 34, 3) := by decide +kernel
theorem dL_sets_49 : decode cL_sets 49 = .ok (.aload_n 0, 1) := by decide +kernel
theorem dL_sets_50 : decode cL_sets 50 = .ok (.iload_n 2, 1) := by decide +kernel
theorem dL_sets_51 : decode cL_sets 51 = .ok (.iconst 4, 1) := by decide +kernel
theorem dL_sets_52 : decode cL_sets 52 = .ok (.invokevirtual 19, 3) := by decide +kernel
theorem dL_sets_55 : decode cL_sets 55 = .ok (.iload_n 3, 1) := by decide +kernel
theorem dL_sets_56 : decode cL_sets 56 = .ok (.bipush 10, 2) := by decide +kernel
theorem dL_sets_58 : decode cL_sets 58 = .ok (.invokestatic 85, 3) := by decide +kernel
theorem dL_sets_61 : decode cL_sets 61 = .ok (.if_icmp .ne 19, 3) := by decide +kernel
theorem dL_sets_64 : decode cL_sets 64 = .ok (.aload_n 0, 1) := by decide +kernel
theorem dL_sets_65 : decode cL_sets 65 = .ok (.iload_n 2, 1) := by decide +kernel
theorem dL_sets_66 : decode cL_sets 66 = .ok (.bipush 10, 2) := by decide +kernel
theorem dL_sets_68 : decode cL_sets 68 = .ok (.invokevirtual 94, 3) := by decide +kernel
theorem dL_sets_71 : decode cL_sets 71 = .ok (.bipush (-2), 2) := by decide +kernel
theorem dL_sets_73 : decode cL_sets 73 = .ok (.if_icmp .ne 7, 3) := by decide +kernel
theorem dL_sets_76 : decode cL_sets 76 = .ok (.iconst 1, 1) := by decide +kernel
theorem dL_sets_77 : decode cL_sets 77 = .ok (.goto 4, 3) := by decide +kernel
theorem dL_sets_80 : decode cL_sets 80 = .ok (.iconst 0, 1) := by decide +kernel
theorem dL_sets_81 : decode cL_sets 81 = .ok (.ireturn, 1) := by decide +kernel
theorem dL_sets_82 : decode cL_sets 82 = .ok (.iload_n 1, 1) := by decide +kernel
theorem dL_sets_83 : decode cL_sets 83 = .ok (.iconst 2, 1) := by decide +kernel
theorem dL_sets_84 : decode cL_sets 84 = .ok (.if_icmp .ne 90, 3) := by decide +kernel
theorem dL_sets_87 : decode cL_sets 87 = .ok (.aload_n 0, 1) := by decide +kernel
theorem dL_sets_88 : decode cL_sets 88 = .ok (.bipush 6, 2) := by decide +kernel
theorem dL_sets_90 : decode cL_sets 90 = .ok (.invokevirtual 13, 3) := by decide +kernel
theorem dL_sets_93 : decode cL_sets 93 = .ok (.istore 4, 2) := by decide +kernel
theorem dL_sets_95 : decode cL_sets 95 = .ok (.aload_n 0, 1) := by decide +kernel
theorem dL_sets_96 : decode cL_sets 96 = .ok (.bipush 10, 2) := by decide +kernel
theorem dL_sets_98 : decode cL_sets 98 = .ok (.iload_n 3, 1) := by decide +kernel
theorem dL_sets_99 : decode cL_sets 99 = .ok (.sipush 900, 3) := by decide +kernel
theorem dL_sets_102 : decode cL_sets 102 = .ok (.invokestatic 85, 3) := by decide +kernel
theorem dL_sets_105 : decode cL_sets 105 = .ok (.iadd, 1) := by decide +kernel
theorem dL_sets_106 : decode cL_sets 106 = .ok (.invokevirtual 97, 3) := by decide +kernel
theorem dL_sets_109 : decode cL_sets 109 = .ok (.istore 5, 2) := by decide +kernel
theorem dL_sets_111 : decode cL_sets 111 = .ok (.iload 5, 2) := by decide +kernel
theorem dL_sets_113 : decode cL_sets 113 = .ok (.iload 4, 2) := by decide +kernel
theorem dL_sets_115 : decode cL_sets 115 = .ok (.bipush 10, 2) := by decide +kernel
theorem dL_sets_117 : decode cL_sets 117 = .ok (.iload_n 3, 1) := by decide +kernel
theorem dL_sets_118 : decode cL_sets 118 = .ok (.sipush 900, 3) := by decide +kernel
theorem dL_sets_121 : decode cL_sets 121 = .ok (.invokestatic 85, 3) := by decide +kernel
theorem dL_sets_124 : decode cL_sets 124 = .ok (.iadd, 1) := by decide +kernel
theorem dL_sets_125 : decode cL_sets 125 = .ok (.if_icmp .ne 8, 3) := by decide +kernel
theorem dL_sets_128 : decode cL_sets 128 = .ok (.bipush (-4), 2) := by decide +kernel
theorem dL_sets_130 : decode cL_sets 130 = .ok (.goto 5, 3) := by decide +kernel
theorem dL_sets_133 : decode cL_sets 133 = .ok (.iload 4, 2) := by decide +kernel
theorem dL_sets_135 : decode cL_sets 135 = .ok (.if_icmp .ne 37, 3) := by decide +kernel
theorem dL_sets_138 : decode cL_sets 138 = .ok (.aload_n 0, 1) := by decide +kernel
theorem dL_sets_139 : decode cL_sets 139 = .ok (.bipush 6, 2) := by decide +kernel
theorem dL_sets_141 : decode cL_sets 141 = .ok (.invokevirtual 13, 3) := by decide +kernel
theorem dL_sets_144 : decode cL_sets 144 = .ok (.bipush 10, 2) := by decide +kernel
theorem dL_sets_146 : decode cL_sets 146 = .ok (.iload_n 3, 1) := by decide +kernel
theorem dL_sets_147 : decode cL_sets 147 = .ok (.sipush 900, 3) := by decide +kernel
theorem dL_sets_150 : decode cL_sets 150 = .ok (.invokestatic 85, 3) := by decide +kernel
theorem dL_sets_153 : decode cL_sets 153 = .ok (.iadd, 1) := by decide +kernel
theorem dL_sets_154 : decode cL_sets 154 = .ok (.if_icmp .ne 18, 3) := by decide +kernel
theorem dL_sets_157 : decode cL_sets 157 = .ok (.aload_n 0, 1) := by decide +kernel
theorem dL_sets_158 : decode cL_sets 158 = .ok (.bipush 9, 2) := by decide +kernel
theorem dL_sets_160 : decode cL_sets 160 = .ok (.invokevirtual 97, 3) := by decide +kernel
theorem dL_sets_163 : decode cL_sets 163 = .ok (.bipush (-2), 2) := by decide +kernel
theorem dL_sets_165 : decode cL_sets 165 = .ok (.if_icmp .ne 7, 3) := by decide +kernel
theorem dL_sets_168 : decode cL_sets 168 = .ok (.iconst 1, 1) := by decide +kernel
theorem dL_sets_169 : decode cL_sets 169 = .ok (.goto 4, 3) := by decide +kernel
theorem dL_sets_172 : decode cL_sets 172 = .ok (.iconst 0, 1) := by decide +kernel
theorem dL_sets_173 : decode cL_sets 173 = .ok (.ireturn, 1) := by decide +kernel
theorem dL_sets_174 : decode cL_sets 174 = .ok (.aload_n 0, 1) := by decide +kernel
theorem dL_sets_175 : decode cL_sets 175 = .ok (.bipush 7, 2) := by decide +kernel
theorem dL_sets_177 : decode cL_sets 177 = .ok (.invokevirtual 13, 3) := by decide +kernel
theorem dL_sets_180 : decode cL_sets 180 = .ok (.istore 4, 2) := by decide +kernel
theorem dL_sets_182 : decode cL_sets 182 = .ok (.iload_n 3, 1) := by decide +kernel
theorem dL_sets_183 : decode cL_sets 183 = .ok (.iconst 1, 1) := by decide +kernel
theorem dL_sets_184 : decode cL_sets 184 = .ok (.iand, 1) := by decide +kernel
theorem dL_sets_185 : decode cL_sets 185 = .ok (.istore 5, 2) := by decide +kernel
theorem dL_sets_187 : decode cL_sets 187 = .ok (.aload_n 0, 1) := by decide +kernel
theorem dL_sets_188 : decode cL_sets 188 = .ok (.iload 5, 2) := by decide +kernel
theorem dL_sets_190 : decode cL_sets 190 = .ok (.iconst 1, 1) := by decide +kernel
theorem dL_sets_191 : decode cL_sets 191 = .ok (.if_icmp .ne 7, 3) := by decide +kernel
theorem dL_sets_194 : decode cL_sets 194 = .ok (.iconst 1, 1) := by decide +kernel
theorem dL_sets_195 : decode cL_sets 195 = .ok (.goto 4, 3) := by decide +kernel
theorem dL_sets_198 : decode cL_sets 198 = .ok (.iconst 0, 1) := by decide +kernel
theorem dL_sets_199 : decode cL_sets 199 = .ok (.invokevirtual 100, 3) := by decide +kernel
theorem dL_sets_202 : decode cL_sets 202 = .ok (.iload 4, 2) := by decide +kernel
theorem dL_sets_204 : decode cL_sets 204 = .ok (.iload 5, 2) := by decide +kernel
theorem dL_sets_206 : decode cL_sets 206 = .ok (.if_icmp .ne 8, 3) := by decide +kernel
theorem dL_sets_209 : decode cL_sets 209 = .ok (.bipush (-4), 2) := by decide +kernel
theorem dL_sets_211 : decode cL_sets 211 = .ok (.goto 5, 3) := by decide +kernel
theorem dL_sets_214 : decode cL_sets 214 = .ok (.iload 5, 2) := by decide +kernel
theorem dL_sets_216 : decode cL_sets 216 = .ok (.if_icmp .ne 18, 3) := by decide +kernel
theorem dL_sets_219 : decode cL_sets 219 = .ok (.aload_n 0, 1) := by decide +kernel
theorem dL_sets_220 : decode cL_sets 220 = .ok (.bipush 7, 2) := by decide +kernel
theorem dL_sets_222 : decode cL_sets 222 = .ok (.invokevirtual 13, 3) := by decide +kernel
theorem dL_sets_225 : decode cL_sets 225 = .ok (.iload 5, 2) := by decide +kernel
theorem dL_sets_227 : decode cL_sets 227 = .ok (.if_icmp .ne 7, 3) := by decide +kernel
theorem dL_sets_230 : decode cL_sets 230 = .ok (.iconst 1, 1) := by decide +kernel
theorem dL_sets_231 : decode cL_sets 231 = .ok (.goto 4, 3) := by decide +kernel
theorem dL_sets_234 : decode cL_sets 234 = .ok (.iconst 0, 1) := by decide +kernel
theorem dL_sets_235 : decode cL_sets 235 = .ok (.ireturn, 1) := by decide +kernel
theorem dL_law_0 : decode cL_law 0 = .ok (.new 14, 3) := by decide +kernel
theorem dL_law_3 : decode cL_law 3 = .ok (.dup, 1) := by decide +kernel
theorem dL_law_4 : decode cL_law 4 = .ok (.invokespecial 104, 3) := by decide +kernel
theorem dL_law_7 : decode cL_law 7 = .ok (.astore_n 1, 1) := by decide +kernel
theorem dL_law_8 : decode cL_law 8 = .ok (.aload_n 1, 1) := by decide +kernel
theorem dL_law_9 : decode cL_law 9 = .ok (.invokevirtual 105, 3) := by decide +kernel
theorem dL_law_12 : decode cL_law 12 = .ok (.bipush (-4), 2) := by decide +kernel
theorem dL_law_14 : decode cL_law 14 = .ok (.if_icmp .ne 73, 3) := by decide +kernel
theorem dL_law_17 : decode cL_law 17 = .ok (.aload_n 1, 1) := by decide +kernel
theorem dL_law_18 : decode cL_law 18 = .ok (.invokevirtual 76, 3) := by decide +kernel
theorem dL_law_21 : decode cL_law 21 = .ok (.bipush (-4), 2) := by decide +kernel
theorem dL_law_23 : decode cL_law 23 = .ok (.if_icmp .ne 64, 3) := by decide +kernel
theorem dL_law_26 : decode cL_law 26 = .ok (.aload_n 1, 1) := by decide +kernel
theorem dL_law_27 : decode cL_law 27 = .ok (.iconst 0, 1) := by decide +kernel
theorem dL_law_28 : decode cL_law 28 = .ok (.invokevirtual 42, 3) := by decide +kernel
theorem dL_law_31 : decode cL_law 31 = .ok (.bipush (-4), 2) := by decide +kernel
theorem dL_law_33 : decode cL_law 33 = .ok (.if_icmp .ne 54, 3) := by decide +kernel
theorem dL_law_36 : decode cL_law 36 = .ok (.aload_n 1, 1) := by decide +kernel
theorem dL_law_37 : decode cL_law 37 = .ok (.iconst 0, 1) := by decide +kernel
theorem dL_law_38 : decode cL_law 38 = .ok (.invokevirtual 79, 3) := by decide +kernel
theorem dL_law_41 : decode cL_law 41 = .ok (.iconst (-1), 1) := by decide +kernel
theorem dL_law_42 : decode cL_law 42 = .ok (.if_icmp .ne 45, 3) := by decide +kernel
theorem dL_law_45 : decode cL_law 45 = .ok (.aload_n 1, 1) := by decide +kernel
theorem dL_law_46 : decode cL_law 46 = .ok (.iconst 0, 1) := by decide +kernel
theorem dL_law_47 : decode cL_law 47 = .ok (.iconst 0, 1) := by decide +kernel
theorem dL_law_48 : decode cL_law 48 = .ok (.invokevirtual 28, 3) := by decide +kernel
theorem dL_law_51 : decode cL_law 51 = .ok (.bipush (-4), 2) := by decide +kernel
theorem dL_law_53 : decode cL_law 53 = .ok (.if_icmp .ne 34, 3) := by decide +kernel
theorem dL_law_56 : decode cL_law 56 = .ok (.aload_n 1, 1) := by decide +kernel
theorem dL_law_57 : decode cL_law 57 = .ok (.invokevirtual 108, 3) := by decide +kernel
theorem dL_law_60 : decode cL_law 60 = .ok (.bipush (-100), 2) := by decide +kernel
theorem dL_law_62 : decode cL_law 62 = .ok (.if_icmp .ne 25, 3) := by decide +kernel
theorem dL_law_65 : decode cL_law 65 = .ok (.aload_n 1, 1) := by decide +kernel
theorem dL_law_66 : decode cL_law 66 = .ok (.bipush 6, 2) := by decide +kernel
theorem dL_law_68 : decode cL_law 68 = .ok (.invokevirtual 13, 3) := by decide +kernel
theorem dL_law_71 : decode cL_law 71 = .ok (.sipush 500, 3) := by decide +kernel
theorem dL_law_74 : decode cL_law 74 = .ok (.if_icmp .ne 13, 3) := by decide +kernel
theorem dL_law_77 : decode cL_law 77 = .ok (.aload_n 1, 1) := by decide +kernel
theorem dL_law_78 : decode cL_law 78 = .ok (.iconst 0, 1) := by decide +kernel
theorem dL_law_79 : decode cL_law 79 = .ok (.invokevirtual 65, 3) := by decide +kernel
theorem dL_law_82 : decode cL_law 82 = .ok (.bipush (-2), 2) := by decide +kernel
theorem dL_law_84 : decode cL_law 84 = .ok (.if_icmp .eq 5, 3) := by decide +kernel
theorem dL_law_87 : decode cL_law 87 = .ok (.iconst 0, 1) := by decide +kernel
theorem dL_law_88 : decode cL_law 88 = .ok (.ireturn, 1) := by decide +kernel
theorem dL_law_89 : decode cL_law 89 = .ok (.iconst 0, 1) := by decide +kernel
theorem dL_law_90 : decode cL_law 90 = .ok (.istore_n 2, 1) := by decide +kernel
theorem dL_law_91 : decode cL_law 91 = .ok (.iload_n 2, 1) := by decide +kernel
theorem dL_law_92 : decode cL_law 92 = .ok (.bipush 26, 2) := by decide +kernel
theorem dL_law_94 : decode cL_law 94 = .ok (.if_icmp .ge 420, 3) := by decide +kernel
theorem dL_law_97 : decode cL_law 97 = .ok (.aload_n 0, 1) := by decide +kernel
theorem dL_law_98 : decode cL_law 98 = .ok (.iconst 2, 1) := by decide +kernel
theorem dL_law_99 : decode cL_law 99 = .ok (.iload_n 2, 1) := by decide +kernel
theorem dL_law_100 : decode cL_law 100 = .ok (.imul, 1) := by decide +kernel
theorem dL_law_101 : decode cL_law 101 = .ok (.invokestatic 111, 3) := by decide +kernel
theorem dL_law_104 : decode cL_law 104 = .ok (.istore_n 3, 1) := by decide +kernel
theorem dL_law_105 : decode cL_law 105 = .ok (.aload_n 0, 1) := by decide +kernel
theorem dL_law_106 : decode cL_law 106 = .ok (.iconst 2, 1) := by decide +kernel
theorem dL_law_107 : decode cL_law 107 = .ok (.iload_n 2, 1) := by decide +kernel
theorem dL_law_108 : decode cL_law 108 = .ok (.imul, 1) := by decide +kernel
theorem dL_law_109 : decode cL_law 109 = .ok (.iconst 1, 1) := by decide +kernel
theorem dL_law_110 : decode cL_law 110 = .ok (.iadd, 1) := by decide +kernel
theorem dL_law_111 : decode cL_law 111 = .ok (.invokestatic 111, 3) := by decide +kernel
theorem dL_law_114 : decode cL_law 114 = .ok (.istore 4, 2) := by decide +kernel
theorem dL_law_116 : decode cL_law 116 = .ok (.iload_n 3, 1) := by decide +kernel
theorem dL_law_117 : decode cL_law 117 = .ok (.bipush 9, 2) := by decide +kernel
theorem dL_law_119 : decode cL_law 119 = .ok (.ishr, 1) := by decide +kernel
theorem dL_law_120 : decode cL_law 120 = .ok (.bipush 13, 2) := by decide +kernel
theorem dL_law_122 : decode cL_law 122 = .ok (.invokestatic 85, 3) := by decide +kernel
theorem dL_law_125 : decode cL_law 125 = .ok (.istore 5, 2) := by decide +kernel
theorem dL_law_127 : decode cL_law 127 = .ok (.aload_n 1, 1) := by decide +kernel
theorem dL_law_128 : decode cL_law 128 = .ok (.iconst 0, 1) := by decide +kernel
theorem dL_law_129 : decode cL_law 129 = .ok (.invokevirtual 13, 3) := by decide +kernel
theorem dL_law_132 : decode cL_law 132 = .ok (.istore 6, 2) := by decide +kernel
theorem dL_law_134 : decode cL_law 134 = .ok (.aload_n 1, 1) := by decide +kernel
theorem dL_law_135 : decode cL_law 135 = .ok (.bipush 16, 2) := by decide +kernel
theorem dL_law_137 : decode cL_law 137 = .ok (.invokevirtual 13, 3) := by decide +kernel
theorem dL_law_140 : decode cL_law 140 = .ok (.istore 7, 2) := by decide +kernel
theorem dL_law_142 : decode cL_law 142 = .ok (.aload_n 1, 1) := by decide +kernel
theorem dL_law_143 : decode cL_law 143 = .ok (.invokestatic 72, 3) := by decide +kernel
theorem dL_law_146 : decode cL_law 146 = .ok (.lstore 8, 2) := by decide +kernel
theorem dL_law_148 : decode cL_law 148 = .ok (.iconst 1, 1) := by decide +kernel
theorem dL_law_149 : decode cL_law 149 = .ok (.istore 10, 2) := by decide +kernel
theorem dL_law_151 : decode cL_law 151 = .ok (.iload 6, 2) := by decide +kernel
theorem dL_law_153 : decode cL_law 153 = .ok (.ifCond .eq 8, 3) := by decide +kernel
theorem dL_law_156 : decode cL_law 156 = .ok (.iload 5, 2) := by decide +kernel
theorem dL_law_158 : decode cL_law 158 = .ok (.ifCond .ne 109, 3) := by decide +kernel
theorem dL_law_161 : decode cL_law 161 = .ok (.aload_n 1, 1) := by decide +kernel
theorem dL_law_162 : decode cL_law 162 = .ok (.iconst 1, 1) := by decide +kernel
theorem dL_law_163 : decode cL_law 163 = .ok (.iload_n 3, 1) := by decide +kernel
theorem dL_law_164 : decode cL_law 164 = .ok (.bipush 60, 2) := by decide +kernel
theorem dL_law_166 : decode cL_law 166 = .ok (.invokestatic 85, 3) := by decide +kernel
theorem dL_law_169 : decode cL_law 169 = .ok (.iadd, 1) := by decide +kernel
theorem dL_law_170 : decode cL_law 170 = .ok (.iconst 2, 1) := by decide +kernel
theorem dL_law_171 : decode cL_law 171 = .ok (.iload 4, 2) := by decide +kernel
theorem dL_law_173 : decode cL_law 173 = .ok (.bipush 12, 2) := by decide +kernel
theorem dL_law_175 : decode cL_law 175 = .ok (.invokestatic 85, 3) := by decide +kernel
theorem dL_law_178 : decode cL_law 178 = .ok (.iadd, 1) := by decide +kernel
theorem dL_law_179 : decode cL_law 179 = .ok (.iconst 2, 1) := by decide +kernel
theorem dL_law_180 : decode cL_law 180 = .ok (.iload_n 3, 1) := by decide +kernel
theorem dL_law_181 : decode cL_law 181 = .ok (.bipush 20, 2) := by decide +kernel
theorem dL_law_183 : decode cL_law 183 = .ok (.ishr, 1) := by decide +kernel
theorem dL_law_184 : decode cL_law 184 = .ok (.iconst 5, 1) := by decide +kernel
theorem dL_law_185 : decode cL_law 185 = .ok (.invokestatic 85, 3) := by decide +kernel
theorem dL_law_188 : decode cL_law 188 = .ok (.iadd, 1) := by decide +kernel
theorem dL_law_189 : decode cL_law 189 = .ok (.bipush 100, 2) := by decide +kernel
theorem dL_law_191 : decode cL_law 191 = .ok (.iload 4, 2) := by decide +kernel
theorem dL_law_193 : decode cL_law 193 = .ok (.iconst 4, 1) := by decide +kernel
theorem dL_law_194 : decode cL_law 194 = .ok (.ishr, 1) := by decide +kernel
theorem dL_law_195 : decode cL_law 195 = .ok (.sipush 30000, 3) := by decide +kernel
theorem dL_law_198 : decode cL_law 198 = .ok (.invokestatic 85, 3) := by decide +kernel
theorem dL_law_201 : decode cL_law 201 = .ok (.iadd, 1) := by decide +kernel
theorem dL_law_202 : decode cL_law 202 = .ok (.invokevirtual 115, 3) := by decide +kernel
theorem dL_law_205 : decode cL_law 205 = .ok (.istore 11, 2) := by decide +kernel
theorem dL_law_207 : decode cL_law 207 = .ok (.iload 6, 2) := by decide +kernel
theorem dL_law_209 : decode cL_law 209 = .ok (.bipush 8, 2) := by decide +kernel
theorem dL_law_211 : decode cL_law 211 = .ok (.if_icmp .ne 28, 3) := by decide +kernel
theorem dL_law_214 : decode cL_law 214 = .ok (.iload 11, 2) := by decide +kernel
theorem dL_law_216 : decode cL_law 216 = .ok (.bipush (-3), 2) := by decide +kernel
theorem dL_law_218 : decode cL_law 218 = .ok (.if_icmp .ne 17, 3) := by decide +kernel
theorem dL_law_221 : decode cL_law 221 = .ok (.aload_n 1, 1) := by decide +kernel
theorem dL_law_222 : decode cL_law 222 = .ok (.bipush 8, 2) := by decide +kernel
theorem dL_law_224 : decode cL_law 224 = .ok (.invokevirtual 13, 3) := by decide +kernel
theorem dL_law_227 : decode cL_law 227 = .ok (.iconst 5, 1) := by decide +kernel
theorem dL_law_228 : decode cL_law 228 = .ok (.if_icmp .ne 7, 3) := by decide +kernel
theorem dL_law_231 : decode cL_law 231 = .ok (.iconst 1, 1) := by decide +kernel
theorem dL_law_232 : decode cL_law 232 = .ok (.goto 30, 3) := by decide +kernel
theorem dL_law_235 : decode cL_law 235 = .ok (.iconst 0, 1) := by decide +kernel
theorem dL_law_236 : decode cL_law 236 = .ok (.goto 26, 3) := by decide +kernel
theorem dL_law_239 : decode cL_law 239 = .ok (.iload 11, 2) := by decide +kernel
theorem dL_law_241 : decode cL_law 241 = .ok (.iload 6, 2) := by decide +kernel
theorem dL_law_243 : decode cL_law 243 = .ok (.if_icmp .ne 18, 3) := by decide +kernel
theorem dL_law_246 : decode cL_law 246 = .ok (.aload_n 1, 1) := by decide +kernel
theorem dL_law_247 : decode cL_law 247 = .ok (.iload 6, 2) := by decide +kernel
theorem dL_law_249 : decode cL_law 249 = .ok (.iconst 4, 1) := by decide +kernel
theorem dL_law_250 : decode cL_law 250 = .ok (.invokevirtual 19, 3) := by decide +kernel
theorem dL_law_253 : decode cL_law 253 = .ok (.iconst 5, 1) := by decide +kernel
theorem dL_law_254 : decode cL_law 254 = .ok (.if_icmp .ne 7, 3) := by decide +kernel
theorem dL_law_257 : decode cL_law 257 = .ok (.iconst 1, 1) := by decide +kernel
theorem dL_law_258 : decode cL_law 258 = .ok (.goto 4, 3) := by decide +kernel
theorem dL_law_261 : decode cL_law 261 = .ok (.iconst 0, 1) := by decide +kernel
theorem dL_law_262 : decode cL_law 262 = .ok (.istore 10, 2) := by decide +kernel
theorem dL_law_264 : decode cL_law 264 = .ok (.goto 121, 3) := by decide +kernel
theorem dL_law_267 : decode cL_law 267 = .ok (.iload 5, 2) := by decide +kernel
theorem dL_law_269 : decode cL_law 269 = .ok (.iconst 4, 1) := by decide +kernel
theorem dL_law_270 : decode cL_law 270 = .ok (.if_icmp .ge 22, 3) := by decide +kernel
theorem dL_law_273 : decode cL_law 273 = .ok (.aload_n 1, 1) := by decide +kernel
theorem dL_law_274 : decode cL_law 274 = .ok (.iload 5, 2) := by decide +kernel
theorem dL_law_276 : decode cL_law 276 = .ok (.iload_n 3, 1) := by decide +kernel
theorem dL_law_277 : decode cL_law 277 = .ok (.iload 6, 2) := by decide +kernel
theorem dL_law_279 : decode cL_law 279 = .ok (.invokestatic 85, 3) := by decide +kernel
theorem dL_law_282 : decode cL_law 282 = .ok (.iload 4, 2) := by decide +kernel
theorem dL_law_284 : decode cL_law 284 = .ok (.invokestatic 119, 3) := by decide +kernel
theorem dL_law_287 : decode cL_law 287 = .ok (.istore 10, 2) := by decide +kernel
theorem dL_law_289 : decode cL_law 289 = .ok (.goto 96, 3) := by decide +kernel
theorem dL_law_292 : decode cL_law 292 = .ok (.iload 5, 2) := by decide +kernel
theorem dL_law_294 : decode cL_law 294 = .ok (.bipush 10, 2) := by decide +kernel
theorem dL_law_296 : decode cL_law 296 = .ok (.if_icmp .ge 22, 3) := by decide +kernel
theorem dL_law_299 : decode cL_law 299 = .ok (.aload_n 1, 1) := by decide +kernel
theorem dL_law_300 : decode cL_law 300 = .ok (.iload 5, 2) := by decide +kernel
theorem dL_law_302 : decode cL_law 302 = .ok (.iload_n 3, 1) := by decide +kernel
theorem dL_law_303 : decode cL_law 303 = .ok (.iload 6, 2) := by decide +kernel
theorem dL_law_305 : decode cL_law 305 = .ok (.invokestatic 85, 3) := by decide +kernel
theorem dL_law_308 : decode cL_law 308 = .ok (.iload 4, 2) := by decide +kernel
theorem dL_law_310 : decode cL_law 310 = .ok (.invokestatic 123, 3) := by decide +kernel
theorem dL_law_313 : decode cL_law 313 = .ok (.istore 10, 2) := by decide +kernel
theorem dL_law_315 : decode cL_law 315 = .ok (.goto 70, 3) := by decide +kernel
theorem dL_law_318 : decode cL_law 318 = .ok (.iload 5, 2) := by decide +kernel
theorem dL_law_320 : decode cL_law 320 = .ok (.bipush 10, 2) := by decide +kernel
theorem dL_law_322 : decode cL_law 322 = .ok (.if_icmp .ne 33, 3) := by decide +kernel
theorem dL_law_325 : decode cL_law 325 = .ok (.aload_n 1, 1) := by decide +kernel
theorem dL_law_326 : decode cL_law 326 = .ok (.iconst 1, 1) := by decide +kernel
theorem dL_law_327 : decode cL_law 327 = .ok (.iload 4, 2) := by decide +kernel
theorem dL_law_329 : decode cL_law 329 = .ok (.bipush 9, 2) := by decide +kernel
theorem dL_law_331 : decode cL_law 331 = .ok (.invokestatic 85, 3) := by decide +kernel
theorem dL_law_334 : decode cL_law 334 = .ok (.iadd, 1) := by decide +kernel
theorem dL_law_335 : decode cL_law 335 = .ok (.iconst 1, 1) := by decide +kernel
theorem dL_law_336 : decode cL_law 336 = .ok (.iload 4, 2) := by decide +kernel
theorem dL_law_338 : decode cL_law 338 = .ok (.bipush 8, 2) := by decide +kernel
theorem dL_law_340 : decode cL_law 340 = .ok (.ishr, 1) := by decide +kernel
theorem dL_law_341 : decode cL_law 341 = .ok (.bipush 9, 2) := by decide +kernel
theorem dL_law_343 : decode cL_law 343 = .ok (.invokestatic 85, 3) := by decide +kernel
theorem dL_law_346 : decode cL_law 346 = .ok (.iadd, 1) := by decide +kernel
theorem dL_law_347 : decode cL_law 347 = .ok (.invokestatic 126, 3) := by decide +kernel
theorem dL_law_350 : decode cL_law 350 = .ok (.istore 10, 2) := by decide +kernel
theorem dL_law_352 : decode cL_law 352 = .ok (.goto 33, 3) := by decide +kernel
theorem dL_law_355 : decode cL_law 355 = .ok (.iload 4, 2) := by decide +kernel
theorem dL_law_357 : decode cL_law 357 = .ok (.iconst 5, 1) := by decide +kernel
theorem dL_law_358 : decode cL_law 358 = .ok (.invokestatic 85, 3) := by decide +kernel
theorem dL_law_361 : decode cL_law 361 = .ok (.istore 11, 2) := by decide +kernel
theorem dL_law_363 : decode cL_law 363 = .ok (.iload 11, 2) := by decide +kernel
theorem dL_law_365 : decode cL_law 365 = .ok (.ifCond .lt 20, 3) := by decide +kernel
theorem dL_law_368 : decode cL_law 368 = .ok (.iload 10, 2) := by decide +kernel
theorem dL_law_370 : decode cL_law 370 = .ok (.ifCond .eq 15, 3) := by decide +kernel
theorem dL_law_373 : decode cL_law 373 = .ok (.aload_n 1, 1) := by decide +kernel
theorem dL_law_374 : decode cL_law 374 = .ok (.invokestatic 130, 3) := by decide +kernel
theorem dL_law_377 : decode cL_law 377 = .ok (.istore 10, 2) := by decide +kernel
theorem dL_law_379 : decode cL_law 379 = .ok (.iinc 11 (-1), 3) := by decide +kernel
theorem dL_law_382 : decode cL_law 382 = .ok (.goto (-19), 3) := by decide +kernel
theorem dL_law_385 : decode cL_law 385 = .ok (.iload 7, 2) := by decide +kernel
theorem dL_law_387 : decode cL_law 387 = .ok (.iconst 4, 1) := by decide +kernel
theorem dL_law_388 : decode cL_law 388 = .ok (.if_icmp .ne 7, 3) := by decide +kernel
theorem dL_law_391 : decode cL_law 391 = .ok (.iconst 3, 1) := by decide +kernel
theorem dL_law_392 : decode cL_law 392 = .ok (.goto 5, 3) := by decide +kernel
theorem dL_law_395 : decode cL_law 395 = .ok (.iload 7, 2) := by decide +kernel
theorem dL_law_397 : decode cL_law 397 = .ok (.istore 11, 2) := by decide +kernel
theorem dL_law_399 : decode cL_law 399 = .ok (.iload 10, 2) := by decide +kernel
theorem dL_law_401 : decode cL_law 401 = .ok (.ifCond .eq 30, 3) := by decide +kernel
theorem dL_law_404 : decode cL_law 404 = .ok (.iload 5, 2) := by decide +kernel
theorem dL_law_406 : decode cL_law 406 = .ok (.bipush 10, 2) := by decide +kernel
theorem dL_law_408 : decode cL_law 408 = .ok (.if_icmp .ge 23, 3) := by decide +kernel
theorem dL_law_411 : decode cL_law 411 = .ok (.iload 4, 2) := by decide +kernel
theorem dL_law_413 : decode cL_law 413 = .ok (.sipush 1536, 3) := by decide +kernel
theorem dL_law_416 : decode cL_law 416 = .ok (.iand, 1) := by decide +kernel
theorem dL_law_417 : decode cL_law 417 = .ok (.ifCond .ne 14, 3) := by decide +kernel
theorem dL_law_420 : decode cL_law 420 = .ok (.aload_n 1, 1) := by decide +kernel
theorem dL_law_421 : decode cL_law 421 = .ok (.bipush 16, 2) := by decide +kernel
theorem dL_law_423 : decode cL_law 423 = .ok (.invokevirtual 13, 3) := by decide +kernel
theorem dL_law_426 : decode cL_law 426 = .ok (.iload 7, 2) := by decide +kernel
theorem dL_law_428 : decode cL_law 428 = .ok (.if_icmp .ne 40, 3) := by decide +kernel
theorem dL_law_431 : decode cL_law 431 = .ok (.iload 10, 2) := by decide +kernel
theorem dL_law_433 : decode cL_law 433 = .ok (.ifCond .eq 61, 3) := by decide +kernel
theorem dL_law_436 : decode cL_law 436 = .ok (.iload 5, 2) := by decide +kernel
theorem dL_law_438 : decode cL_law 438 = .ok (.bipush 10, 2) := by decide +kernel
theorem dL_law_440 : decode cL_law 440 = .ok (.if_icmp .ge 54, 3) := by decide +kernel
theorem dL_law_443 : decode cL_law 443 = .ok (.iload 4, 2) := by decide +kernel
theorem dL_law_445 : decode cL_law 445 = .ok (.sipush 1536, 3) := by decide +kernel
theorem dL_law_448 : decode cL_law 448 = .ok (.iand, 1) := by decide +kernel
theorem dL_law_449 : decode cL_law 449 = .ok (.ifCond .ne 45, 3) := by decide +kernel
theorem dL_law_452 : decode cL_law 452 = .ok (.iload 7, 2) := by decide +kernel
theorem dL_law_454 : decode cL_law 454 = .ok (.iconst 4, 1) := by decide +kernel
theorem dL_law_455 : decode cL_law 455 = .ok (.if_icmp .ne 39, 3) := by decide +kernel
theorem dL_law_458 : decode cL_law 458 = .ok (.aload_n 1, 1) := by decide +kernel
theorem dL_law_459 : decode cL_law 459 = .ok (.invokestatic 72, 3) := by decide +kernel
theorem dL_law_462 : decode cL_law 462 = .ok (.lload 8, 2) := by decide +kernel
theorem dL_law_464 : decode cL_law 464 = .ok (.lcmp, 1) := by decide +kernel
theorem dL_law_465 : decode cL_law 465 = .ok (.ifCond .eq 29, 3) := by decide +kernel
theorem dL_law_468 : decode cL_law 468 = .ok (.aload_n 1, 1) := by decide +kernel
theorem dL_law_469 : decode cL_law 469 = .ok (.invokevirtual 105, 3) := by decide +kernel
theorem dL_law_472 : decode cL_law 472 = .ok (.iload 11, 2) := by decide +kernel
theorem dL_law_474 : decode cL_law 474 = .ok (.if_icmp .ne 17, 3) := by decide +kernel
theorem dL_law_477 : decode cL_law 477 = .ok (.aload_n 1, 1) := by decide +kernel
theorem dL_law_478 : decode cL_law 478 = .ok (.invokestatic 72, 3) := by decide +kernel
theorem dL_law_481 : decode cL_law 481 = .ok (.lload 8, 2) := by decide +kernel
theorem dL_law_483 : decode cL_law 483 = .ok (.lcmp, 1) := by decide +kernel
theorem dL_law_484 : decode cL_law 484 = .ok (.ifCond .ne 7, 3) := by decide +kernel
theorem dL_law_487 : decode cL_law 487 = .ok (.iconst 1, 1) := by decide +kernel
theorem dL_law_488 : decode cL_law 488 = .ok (.goto 4, 3) := by decide +kernel
theorem dL_law_491 : decode cL_law 491 = .ok (.iconst 0, 1) := by decide +kernel
theorem dL_law_492 : decode cL_law 492 = .ok (.istore 10, 2) := by decide +kernel
theorem dL_law_494 : decode cL_law 494 = .ok (.iload 10, 2) := by decide +kernel
theorem dL_law_496 : decode cL_law 496 = .ok (.ifCond .eq 10, 3) := by decide +kernel
theorem dL_law_499 : decode cL_law 499 = .ok (.aload_n 1, 1) := by decide +kernel
theorem dL_law_500 : decode cL_law 500 = .ok (.invokestatic 133, 3) := by decide +kernel
theorem dL_law_503 : decode cL_law 503 = .ok (.ifCond .ne 5, 3) := by decide +kernel
theorem dL_law_506 : decode cL_law 506 = .ok (.iconst 0, 1) := by decide +kernel
theorem dL_law_507 : decode cL_law 507 = .ok (.ireturn, 1) := by decide +kernel
theorem dL_law_508 : decode cL_law 508 = .ok (.iinc 2 1, 3) := by decide +kernel
theorem dL_law_511 : decode cL_law 511 = .ok (.goto (-420), 3) := by decide +kernel
theorem dL_law_514 : decode cL_law 514 = .ok (.iconst 1, 1) := by decide +kernel
theorem dL_law_515 : decode cL_law 515 = .ok (.ireturn, 1) := by decide +kernel
