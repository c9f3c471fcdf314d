theorem dX10_works_374 : decode cX10_works 374 = .ok (.iaload, 1) := by decide +kernel
theorem dX10_works_375 : decode cX10_works 375 = .ok (.iconst 1, 1) := by decide +kernel
theorem dX10_works_376 : decode cX10_works 376 = .ok (.iadd, 1) := by decide +kernel
theorem dX10_works_377 : decode cX10_works 377 = .ok (.iastore, 1) := by decide +kernel
theorem dX10_works_378 : decode cX10_works 378 = .ok (.aload_n 2, 1) := by decide +kernel
theorem dX10_works_379 : decode cX10_works 379 = .ok (.iload 4, 2) := by decide +kernel
theorem dX10_works_381 : decode cX10_works 381 = .ok (.bipush 6, 2) := by decide +kernel
theorem dX10_works_383 : decode cX10_works 383 = .ok (.iadd, 1) := by decide +kernel
theorem dX10_works_384 : decode cX10_works 384 = .ok (.iaload, 1) := by decide +kernel
theorem dX10_works_385 : decode cX10_works 385 = .ok (.aload_n 2, 1) := by decide +kernel
theorem dX10_works_386 : decode cX10_works 386 = .ok (.iload 4, 2) := by decide +kernel
theorem dX10_works_388 : decode cX10_works 388 = .ok (.bipush 11, 2) := by decide +kernel
theorem dX10_works_390 : decode cX10_works 390 = .ok (.iadd, 1) := by decide +kernel
theorem dX10_works_391 : decode cX10_works 391 = .ok (.iaload, 1) := by decide +kernel
theorem dX10_works_392 : decode cX10_works 392 = .ok (.if_icmp .ne 20, 3) := by decide +kernel
theorem dX10_works_395 : decode cX10_works 395 = .ok (.aload_n 2, 1) := by decide +kernel
theorem dX10_works_396 : decode cX10_works 396 = .ok (.iload 4, 2) := by decide +kernel
theorem dX10_works_398 : decode cX10_works 398 = .ok (.iconst 5, 1) := by decide +kernel
theorem dX10_works_399 : decode cX10_works 399 = .ok (.iadd, 1) := by decide +kernel
theorem dX10_works_400 : decode cX10_works 400 = .ok (.iconst 0, 1) := by decide +kernel
theorem dX10_works_401 : decode cX10_works 401 = .ok (.iastore, 1) := by decide +kernel
theorem dX10_works_402 : decode cX10_works 402 = .ok (.aload_n 2, 1) := by decide +kernel
theorem dX10_works_403 : decode cX10_works 403 = .ok (.iload 4, 2) := by decide +kernel
theorem dX10_works_405 : decode cX10_works 405 = .ok (.iconst 4, 1) := by decide +kernel
theorem dX10_works_406 : decode cX10_works 406 = .ok (.iadd, 1) := by decide +kernel
theorem dX10_works_407 : decode cX10_works 407 = .ok (.dup2, 1) := by decide +kernel
theorem dX10_works_408 : decode cX10_works 408 = .ok (.iaload, 1) := by decide +kernel
theorem dX10_works_409 : decode cX10_works 409 = .ok (.iconst 1, 1) := by decide +kernel
theorem dX10_works_410 : decode cX10_works 410 = .ok (.iadd, 1) := by decide +kernel
theorem dX10_works_411 : decode cX10_works 411 = .ok (.iastore, 1) := by decide +kernel
theorem dX10_works_412 : decode cX10_works 412 = .ok (.return_, 1) := by decide +kernel
theorem dX10_minute_0 : decode cX10_minute 0 = .ok (.iconst 0, 1) := by decide +kernel
theorem dX10_minute_1 : decode cX10_minute 1 = .ok (.istore 5, 2) := by decide +kernel
theorem dX10_minute_3 : decode cX10_minute 3 = .ok (.aload_n 0, 1) := by decide +kernel
theorem dX10_minute_4 : decode cX10_minute 4 = .ok (.iconst 1, 1) := by decide +kernel
theorem dX10_minute_5 : decode cX10_minute 5 = .ok (.iaload, 1) := by decide +kernel
theorem dX10_minute_6 : decode cX10_minute 6 = .ok (.iconst 1, 1) := by decide +kernel
theorem dX10_minute_7 : decode cX10_minute 7 = .ok (.if_icmp .ne 174, 3) := by decide +kernel
theorem dX10_minute_10 : decode cX10_minute 10 = .ok (.aload_n 0, 1) := by decide +kernel
theorem dX10_minute_11 : decode cX10_minute 11 = .ok (.bipush 6, 2) := by decide +kernel
theorem dX10_minute_13 : decode cX10_minute 13 = .ok (.iaload, 1) := by decide +kernel
theorem dX10_minute_14 : decode cX10_minute 14 = .ok (.aload_n 0, 1) := by decide +kernel
theorem dX10_minute_15 : decode cX10_minute 15 = .ok (.iconst 3, 1) := by decide +kernel
theorem dX10_minute_16 : decode cX10_minute 16 = .ok (.iaload, 1) := by decide +kernel
theorem dX10_minute_17 : decode cX10_minute 17 = .ok (.iadd, 1) := by decide +kernel
theorem dX10_minute_18 : decode cX10_minute 18 = .ok (.aload_n 0, 1) := by decide +kernel
theorem dX10_minute_19 : decode cX10_minute 19 = .ok (.iconst 2, 1) := by decide +kernel
theorem dX10_minute_20 : decode cX10_minute 20 = .ok (.iaload, 1) := by decide +kernel
theorem dX10_minute_21 : decode cX10_minute 21 = .ok (.if_icmp .le 14, 3) := by decide +kernel
theorem dX10_minute_24 : decode cX10_minute 24 = .ok (.aload_n 0, 1) := by decide +kernel
theorem dX10_minute_25 : decode cX10_minute 25 = .ok (.iconst 2, 1) := by decide +kernel
theorem dX10_minute_26 : decode cX10_minute 26 = .ok (.iaload, 1) := by decide +kernel
theorem dX10_minute_27 : decode cX10_minute 27 = .ok (.aload_n 0, 1) := by decide +kernel
theorem dX10_minute_28 : decode cX10_minute 28 = .ok (.bipush 6, 2) := by decide +kernel
theorem dX10_minute_30 : decode cX10_minute 30 = .ok (.iaload, 1) := by decide +kernel
theorem dX10_minute_31 : decode cX10_minute 31 = .ok (.isub, 1) := by decide +kernel
theorem dX10_minute_32 : decode cX10_minute 32 = .ok (.goto 6, 3) := by decide +kernel
theorem dX10_minute_35 : decode cX10_minute 35 = .ok (.aload_n 0, 1) := by decide +kernel
theorem dX10_minute_36 : decode cX10_minute 36 = .ok (.iconst 3, 1) := by decide +kernel
theorem dX10_minute_37 : decode cX10_minute 37 = .ok (.iaload, 1) := by decide +kernel
theorem dX10_minute_38 : decode cX10_minute 38 = .ok (.istore 6, 2) := by decide +kernel
theorem dX10_minute_40 : decode cX10_minute 40 = .ok (.aload_n 0, 1) := by decide +kernel
theorem dX10_minute_41 : decode cX10_minute 41 = .ok (.bipush 6, 2) := by decide +kernel
theorem dX10_minute_43 : decode cX10_minute 43 = .ok (.dup2, 1) := by decide +kernel
theorem dX10_minute_44 : decode cX10_minute 44 = .ok (.iaload, 1) := by decide +kernel
theorem dX10_minute_45 : decode cX10_minute 45 = .ok (.iload 6, 2) := by decide +kernel
theorem dX10_minute_47 : decode cX10_minute 47 = .ok (.iadd, 1) := by decide +kernel
theorem dX10_minute_48 : decode cX10_minute 48 = .ok (.iastore, 1) := by decide +kernel
theorem dX10_minute_49 : decode cX10_minute 49 = .ok (.aload_n 0, 1) := by decide +kernel
theorem dX10_minute_50 : decode cX10_minute 50 = .ok (.bipush 11, 2) := by decide +kernel
theorem dX10_minute_52 : decode cX10_minute 52 = .ok (.dup2, 1) := by decide +kernel
theorem dX10_minute_53 : decode cX10_minute 53 = .ok (.iaload, 1) := by decide +kernel
theorem dX10_minute_54 : decode cX10_minute 54 = .ok (.iload 6, 2) := by decide +kernel
theorem dX10_minute_56 : decode cX10_minute 56 = .ok (.iadd, 1) := by decide +kernel
theorem dX10_minute_57 : decode cX10_minute 57 = .ok (.iastore, 1) := by decide +kernel
theorem dX10_minute_58 : decode cX10_minute 58 = .ok (.aload_n 0, 1) := by decide +kernel
theorem dX10_minute_59 : decode cX10_minute 59 = .ok (.iconst 4, 1) := by decide +kernel
theorem dX10_minute_60 : decode cX10_minute 60 = .ok (.iaload, 1) := by decide +kernel
theorem dX10_minute_61 : decode cX10_minute 61 = .ok (.aload_n 0, 1) := by decide +kernel
theorem dX10_minute_62 : decode cX10_minute 62 = .ok (.bipush 6, 2) := by decide +kernel
theorem dX10_minute_64 : decode cX10_minute 64 = .ok (.iaload, 1) := by decide +kernel
theorem dX10_minute_65 : decode cX10_minute 65 = .ok (.if_icmp .ge 9, 3) := by decide +kernel
theorem dX10_minute_68 : decode cX10_minute 68 = .ok (.aload_n 0, 1) := by decide +kernel
theorem dX10_minute_69 : decode cX10_minute 69 = .ok (.iconst 4, 1) := by decide +kernel
theorem dX10_minute_70 : decode cX10_minute 70 = .ok (.iaload, 1) := by decide +kernel
theorem dX10_minute_71 : decode cX10_minute 71 = .ok (.goto 7, 3) := by decide +kernel
theorem dX10_minute_74 : decode cX10_minute 74 = .ok (.aload_n 0, 1) := by decide +kernel
theorem dX10_minute_75 : decode cX10_minute 75 = .ok (.bipush 6, 2) := by decide +kernel
theorem dX10_minute_77 : decode cX10_minute 77 = .ok (.iaload, 1) := by decide +kernel
theorem dX10_minute_78 : decode cX10_minute 78 = .ok (.aload_n 0, 1) := by decide +kernel
theorem dX10_minute_79 : decode cX10_minute 79 = .ok (.aload_n 1, 1) := by decide +kernel
theorem dX10_minute_80 : decode cX10_minute 80 = .ok (.aload_n 2, 1) := by decide +kernel
theorem dX10_minute_81 : decode cX10_minute 81 = .ok (.aload_n 3, 1) := by decide +kernel
theorem dX10_minute_82 : decode cX10_minute 82 = .ok (.aload 4, 2) := by decide +kernel
theorem dX10_minute_84 : decode cX10_minute 84 = .ok (.invokestatic 30, 3) := by decide +kernel
theorem dX10_minute_87 : decode cX10_minute 87 = .ok (.aload 4, 2) := by decide +kernel
theorem dX10_minute_89 : decode cX10_minute 89 = .ok (.iconst 0, 1) := by decide +kernel
theorem dX10_minute_90 : decode cX10_minute 90 = .ok (.iaload, 1) := by decide +kernel
theorem dX10_minute_91 : decode cX10_minute 91 = .ok (.aload 4, 2) := by decide +kernel
theorem dX10_minute_93 : decode cX10_minute 93 = .ok (.iconst 1, 1) := by decide +kernel
theorem dX10_minute_94 : decode cX10_minute 94 = .ok (.iaload, 1) := by decide +kernel
theorem dX10_minute_95 : decode cX10_minute 95 = .ok (.iadd, 1) := by decide +kernel
theorem dX10_minute_96 : decode cX10_minute 96 = .ok (.aload 4, 2) := by decide +kernel
theorem dX10_minute_98 : decode cX10_minute 98 = .ok (.iconst 2, 1) := by decide +kernel
theorem dX10_minute_99 : decode cX10_minute 99 = .ok (.iaload, 1) := by decide +kernel
theorem dX10_minute_100 : decode cX10_minute 100 = .ok (.iadd, 1) := by decide +kernel
theorem dX10_minute_101 : decode cX10_minute 101 = .ok (.istore 5, 2) := by decide +kernel
theorem dX10_minute_103 : decode cX10_minute 103 = .ok (.aload_n 0, 1) := by decide +kernel
theorem dX10_minute_104 : decode cX10_minute 104 = .ok (.bipush 6, 2) := by decide +kernel
theorem dX10_minute_106 : decode cX10_minute 106 = .ok (.dup2, 1) := by decide +kernel
theorem dX10_minute_107 : decode cX10_minute 107 = .ok (.iaload, 1) := by decide +kernel
theorem dX10_minute_108 : decode cX10_minute 108 = .ok (.iload 5, 2) := by decide +kernel
theorem dX10_minute_110 : decode cX10_minute 110 = .ok (.isub, 1) := by decide +kernel
theorem dX10_minute_111 : decode cX10_minute 111 = .ok (.iastore, 1) := by decide +kernel
theorem dX10_minute_112 : decode cX10_minute 112 = .ok (.aload_n 0, 1) := by decide +kernel
theorem dX10_minute_113 : decode cX10_minute 113 = .ok (.bipush 12, 2) := by decide +kernel
theorem dX10_minute_115 : decode cX10_minute 115 = .ok (.dup2, 1) := by decide +kernel
theorem dX10_minute_116 : decode cX10_minute 116 = .ok (.iaload, 1) := by decide +kernel
theorem dX10_minute_117 : decode cX10_minute 117 = .ok (.iload 5, 2) := by decide +kernel
theorem dX10_minute_119 : decode cX10_minute 119 = .ok (.iadd, 1) := by decide +kernel
theorem dX10_minute_120 : decode cX10_minute 120 = .ok (.iastore, 1) := by decide +kernel
theorem dX10_minute_121 : decode cX10_minute 121 = .ok (.iconst 0, 1) := by decide +kernel
theorem dX10_minute_122 : decode cX10_minute 122 = .ok (.istore 7, 2) := by decide +kernel
theorem dX10_minute_124 : decode cX10_minute 124 = .ok (.iload 7, 2) := by decide +kernel
theorem dX10_minute_126 : decode cX10_minute 126 = .ok (.iconst 3, 1) := by decide +kernel
theorem dX10_minute_127 : decode cX10_minute 127 = .ok (.if_icmp .ge 51, 3) := by decide +kernel
theorem dX10_minute_130 : decode cX10_minute 130 = .ok (.aload_n 1, 1) := by decide +kernel
theorem dX10_minute_131 : decode cX10_minute 131 = .ok (.bipush 16, 2) := by decide +kernel
theorem dX10_minute_133 : decode cX10_minute 133 = .ok (.iload 7, 2) := by decide +kernel
theorem dX10_minute_135 : decode cX10_minute 135 = .ok (.imul, 1) := by decide +kernel
theorem dX10_minute_136 : decode cX10_minute 136 = .ok (.iconst 3, 1) := by decide +kernel
theorem dX10_minute_137 : decode cX10_minute 137 = .ok (.iadd, 1) := by decide +kernel
theorem dX10_minute_138 : decode cX10_minute 138 = .ok (.dup2, 1) := by decide +kernel
theorem dX10_minute_139 : decode cX10_minute 139 = .ok (.iaload, 1) := by decide +kernel
theorem dX10_minute_140 : decode cX10_minute 140 = .ok (.aload 4, 2) := by decide +kernel
theorem dX10_minute_142 : decode cX10_minute 142 = .ok (.iload 7, 2) := by decide +kernel
theorem dX10_minute_144 : decode cX10_minute 144 = .ok (.iaload, 1) := by decide +kernel
theorem dX10_minute_145 : decode cX10_minute 145 = .ok (.iadd, 1) := by decide +kernel
theorem dX10_minute_146 : decode cX10_minute 146 = .ok (.iastore, 1) := by decide +kernel
theorem dX10_minute_147 : decode cX10_minute 147 = .ok (.aload_n 1, 1) := by decide +kernel
theorem dX10_minute_148 : decode cX10_minute 148 = .ok (.bipush 16, 2) := by decide +kernel
theorem dX10_minute_150 : decode cX10_minute 150 = .ok (.iload 7, 2) := by decide +kernel
theorem dX10_minute_152 : decode cX10_minute 152 = .ok (.imul, 1) := by decide +kernel
theorem dX10_minute_153 : decode cX10_minute 153 = .ok (.iconst 5, 1) := by decide +kernel
theorem dX10_minute_154 : decode cX10_minute 154 = .ok (.iadd, 1) := by decide +kernel
theorem dX10_minute_155 : decode cX10_minute 155 = .ok (.iaload, 1) := by decide +kernel
theorem dX10_minute_156 : decode cX10_minute 156 = .ok (.iconst 1, 1) := by decide +kernel
theorem dX10_minute_157 : decode cX10_minute 157 = .ok (.if_icmp .ne 15, 3) := by decide +kernel
theorem dX10_minute_160 : decode cX10_minute 160 = .ok (.iload 7, 2) := by decide +kernel
theorem dX10_minute_162 : decode cX10_minute 162 = .ok (.aload 4, 2) := by decide +kernel
theorem dX10_minute_164 : decode cX10_minute 164 = .ok (.iload 7, 2) := by decide +kernel
theorem dX10_minute_166 : decode cX10_minute 166 = .ok (.iaload, 1) := by decide +kernel
theorem dX10_minute_167 : decode cX10_minute 167 = .ok (.aload_n 1, 1) := by decide +kernel
theorem dX10_minute_168 : decode cX10_minute 168 = .ok (.aload_n 2, 1) := by decide +kernel
theorem dX10_minute_169 : decode cX10_minute 169 = .ok (.invokestatic 34, 3) := by decide +kernel
theorem dX10_minute_172 : decode cX10_minute 172 = .ok (.iinc 7 1, 3) := by decide +kernel
theorem dX10_minute_175 : decode cX10_minute 175 = .ok (.goto (-51), 3) := by decide +kernel
theorem dX10_minute_178 : decode cX10_minute 178 = .ok (.goto 11, 3) := by decide +kernel
theorem dX10_minute_181 : decode cX10_minute 181 = .ok (.aload_n 0, 1) := by decide +kernel
theorem dX10_minute_182 : decode cX10_minute 182 = .ok (.bipush 10, 2) := by decide +kernel
theorem dX10_minute_184 : decode cX10_minute 184 = .ok (.dup2, 1) := by decide +kernel
theorem dX10_minute_185 : decode cX10_minute 185 = .ok (.iaload, 1) := by decide +kernel
theorem dX10_minute_186 : decode cX10_minute 186 = .ok (.iconst 1, 1) := by decide +kernel
theorem dX10_minute_187 : decode cX10_minute 187 = .ok (.iadd, 1) := by decide +kernel
theorem dX10_minute_188 : decode cX10_minute 188 = .ok (.iastore, 1) := by decide +kernel
theorem dX10_minute_189 : decode cX10_minute 189 = .ok (.iconst 0, 1) := by decide +kernel
theorem dX10_minute_190 : decode cX10_minute 190 = .ok (.istore 6, 2) := by decide +kernel
theorem dX10_minute_192 : decode cX10_minute 192 = .ok (.iload 6, 2) := by decide +kernel
theorem dX10_minute_194 : decode cX10_minute 194 = .ok (.iconst 3, 1) := by decide +kernel
theorem dX10_minute_195 : decode cX10_minute 195 = .ok (.if_icmp .ge 128, 3) := by decide +kernel
theorem dX10_minute_198 : decode cX10_minute 198 = .ok (.iload 6, 2) := by decide +kernel
theorem dX10_minute_200 : decode cX10_minute 200 = .ok (.aload_n 1, 1) := by decide +kernel
theorem dX10_minute_201 : decode cX10_minute 201 = .ok (.invokestatic 26, 3) := by decide +kernel
theorem dX10_minute_204 : decode cX10_minute 204 = .ok (.bipush 15, 2) := by decide +kernel
theorem dX10_minute_206 : decode cX10_minute 206 = .ok (.isub, 1) := by decide +kernel
theorem dX10_minute_207 : decode cX10_minute 207 = .ok (.istore 7, 2) := by decide +kernel
theorem dX10_minute_209 : decode cX10_minute 209 = .ok (.aload_n 1, 1) := by decide +kernel
theorem dX10_minute_210 : decode cX10_minute 210 = .ok (.bipush 16, 2) := by decide +kernel
theorem dX10_minute_212 : decode cX10_minute 212 = .ok (.iload 6, 2) := by decide +kernel
theorem dX10_minute_214 : decode cX10_minute 214 = .ok (.imul, 1) := by decide +kernel
theorem dX10_minute_215 : decode cX10_minute 215 = .ok (.bipush 8, 2) := by decide +kernel
theorem dX10_minute_217 : decode cX10_minute 217 = .ok (.iadd, 1) := by decide +kernel
theorem dX10_minute_218 : decode cX10_minute 218 = .ok (.dup2, 1) := by decide +kernel
theorem dX10_minute_219 : decode cX10_minute 219 = .ok (.iaload, 1) := by decide +kernel
theorem dX10_minute_220 : decode cX10_minute 220 = .ok (.iload 7, 2) := by decide +kernel
theorem dX10_minute_222 : decode cX10_minute 222 = .ok (.ifCond .le 35, 3) := by decide +kernel
theorem dX10_minute_225 : decode cX10_minute 225 = .ok (.aload_n 1, 1) := by decide +kernel
theorem dX10_minute_226 : decode cX10_minute 226 = .ok (.bipush 16, 2) := by decide +kernel
theorem dX10_minute_228 : decode cX10_minute 228 = .ok (.iload 6, 2) := by decide +kernel
theorem dX10_minute_230 : decode cX10_minute 230 = .ok (.imul, 1) := by decide +kernel
theorem dX10_minute_231 : decode cX10_minute 231 = .ok (.bipush 7, 2) := by decide +kernel
theorem dX10_minute_233 : decode cX10_minute 233 = .ok (.iadd, 1) := by decide +kernel
theorem dX10_minute_234 : decode cX10_minute 234 = .ok (.iaload, 1) := by decide +kernel
theorem dX10_minute_235 : decode cX10_minute 235 = .ok (.ifCond .le 22, 3) := by decide +kernel
theorem dX10_minute_238 : decode cX10_minute 238 = .ok (.iload 7, 2) := by decide +kernel
theorem dX10_minute_240 : decode cX10_minute 240 = .ok (.aload_n 1, 1) := by decide +kernel
theorem dX10_minute_241 : decode cX10_minute 241 = .ok (.bipush 16, 2) := by decide +kernel
theorem dX10_minute_243 : decode cX10_minute 243 = .ok (.iload 6, 2) := by decide +kernel
theorem dX10_minute_245 : decode cX10_minute 245 = .ok (.imul, 1) := by decide +kernel
theorem dX10_minute_246 : decode cX10_minute 246 = .ok (.bipush 7, 2) := by decide +kernel
theorem dX10_minute_248 : decode cX10_minute 248 = .ok (.iadd, 1) := by decide +kernel
theorem dX10_minute_249 : decode cX10_minute 249 = .ok (.iaload, 1) := by decide +kernel
theorem dX10_minute_250 : decode cX10_minute 250 = .ok (.imul, 1) := by decide +kernel
theorem dX10_minute_251 : decode cX10_minute 251 = .ok (.bipush 30, 2) := by decide +kernel
theorem dX10_minute_253 : decode cX10_minute 253 = .ok (.idiv, 1) := by decide +kernel
theorem dX10_minute_254 : decode cX10_minute 254 = .ok (.goto 4, 3) := by decide +kernel
theorem dX10_minute_257 : decode cX10_minute 257 = .ok (.iconst 0, 1) := by decide +kernel
theorem dX10_minute_258 : decode cX10_minute 258 = .ok (.isub, 1) := by decide +kernel
theorem dX10_minute_259 : decode cX10_minute 259 = .ok (.iastore, 1) := by decide +kernel
theorem dX10_minute_260 : decode cX10_minute 260 = .ok (.aload_n 0, 1) := by decide +kernel
theorem dX10_minute_261 : decode cX10_minute 261 = .ok (.iconst 1, 1) := by decide +kernel
theorem dX10_minute_262 : decode cX10_minute 262 = .ok (.iaload, 1) := by decide +kernel
theorem dX10_minute_263 : decode cX10_minute 263 = .ok (.iconst 1, 1) := by decide +kernel
theorem dX10_minute_264 : decode cX10_minute 264 = .ok (.if_icmp .ne 53, 3) := by decide +kernel
theorem dX10_minute_267 : decode cX10_minute 267 = .ok (.aload_n 1, 1) := by decide +kernel
theorem dX10_minute_268 : decode cX10_minute 268 = .ok (.bipush 16, 2) := by decide +kernel
theorem dX10_minute_270 : decode cX10_minute 270 = .ok (.iload 6, 2) := by decide +kernel
theorem dX10_minute_272 : decode cX10_minute 272 = .ok (.imul, 1) := by decide +kernel
theorem dX10_minute_273 : decode cX10_minute 273 = .ok (.bipush 9, 2) := by decide +kernel
theorem dX10_minute_275 : decode cX10_minute 275 = .ok (.iadd, 1) := by decide +kernel
theorem dX10_minute_276 : decode cX10_minute 276 = .ok (.iaload, 1) := by decide +kernel
theorem dX10_minute_277 : decode cX10_minute 277 = .ok (.iconst 2, 1) := by decide +kernel
theorem dX10_minute_278 : decode cX10_minute 278 = .ok (.if_icmp .ne 39, 3) := by decide +kernel
theorem dX10_minute_281 : decode cX10_minute 281 = .ok (.aload_n 1, 1) := by decide +kernel
theorem dX10_minute_282 : decode cX10_minute 282 = .ok (.bipush 16, 2) := by decide +kernel
theorem dX10_minute_284 : decode cX10_minute 284 = .ok (.iload 6, 2) := by decide +kernel
theorem dX10_minute_286 : decode cX10_minute 286 = .ok (.imul, 1) := by decide +kernel
theorem dX10_minute_287 : decode cX10_minute 287 = .ok (.iconst 5, 1) := by decide +kernel
theorem dX10_minute_288 : decode cX10_minute 288 = .ok (.iadd, 1) := by decide +kernel
theorem dX10_minute_289 : decode cX10_minute 289 = .ok (.iaload, 1) := by decide +kernel
theorem dX10_minute_290 : decode cX10_minute 290 = .ok (.iconst 1, 1) := by decide +kernel
theorem dX10_minute_291 : decode cX10_minute 291 = .ok (.if_icmp .eq 26, 3) := by decide +kernel
theorem dX10_minute_294 : decode cX10_minute 294 = .ok (.iload 6, 2) := by decide +kernel
theorem dX10_minute_296 : decode cX10_minute 296 = .ok (.aload_n 1, 1) := by decide +kernel
theorem dX10_minute_297 : decode cX10_minute 297 = .ok (.invokestatic 26, 3) := by decide +kernel
theorem dX10_minute_300 : decode cX10_minute 300 = .ok (.aload_n 0, 1) := by decide +kernel
theorem dX10_minute_301 : decode cX10_minute 301 = .ok (.iconst 5, 1) := by decide +kernel
theorem dX10_minute_302 : decode cX10_minute 302 = .ok (.iaload, 1) := by decide +kernel
theorem dX10_minute_303 : decode cX10_minute 303 = .ok (.if_icmp .gt 14, 3) := by decide +kernel
theorem dX10_minute_306 : decode cX10_minute 306 = .ok (.aload_n 1, 1) := by decide +kernel
theorem dX10_minute_307 : decode cX10_minute 307 = .ok (.bipush 16, 2) := by decide +kernel
theorem dX10_minute_309 : decode cX10_minute 309 = .ok (.iload 6, 2) := by decide +kernel
theorem dX10_minute_311 : decode cX10_minute 311 = .ok (.imul, 1) := by decide +kernel
theorem dX10_minute_312 : decode cX10_minute 312 = .ok (.bipush 9, 2) := by decide +kernel
theorem dX10_minute_314 : decode cX10_minute 314 = .ok (.iadd, 1) := by decide +kernel
theorem dX10_minute_315 : decode cX10_minute 315 = .ok (.iconst 1, 1) := by decide +kernel
theorem dX10_minute_316 : decode cX10_minute 316 = .ok (.iastore, 1) := by decide +kernel
theorem dX10_minute_317 : decode cX10_minute 317 = .ok (.iinc 6 1, 3) := by decide +kernel
theorem dX10_minute_320 : decode cX10_minute 320 = .ok (.goto (-128), 3) := by decide +kernel
theorem dX10_minute_323 : decode cX10_minute 323 = .ok (.iconst 0, 1) := by decide +kernel
theorem dX10_minute_324 : decode cX10_minute 324 = .ok (.istore 6, 2) := by decide +kernel
theorem dX10_minute_326 : decode cX10_minute 326 = .ok (.iconst 0, 1) := by decide +kernel
theorem dX10_minute_327 : decode cX10_minute 327 = .ok (.istore 7, 2) := by decide +kernel
theorem dX10_minute_329 : decode cX10_minute 329 = .ok (.iload 7, 2) := by decide +kernel
theorem dX10_minute_331 : decode cX10_minute 331 = .ok (.aload_n 0, 1) := by decide +kernel
theorem dX10_minute_332 : decode cX10_minute 332 = .ok (.bipush 7, 2) := by decide +kernel
theorem dX10_minute_334 : decode cX10_minute 334 = .ok (.iaload, 1) := by decide +kernel
theorem dX10_minute_335 : decode cX10_minute 335 = .ok (.if_icmp .ge 86, 3) := by decide +kernel
theorem dX10_minute_338 : decode cX10_minute 338 = .ok (.aload_n 3, 1) := by decide +kernel
theorem dX10_minute_339 : decode cX10_minute 339 = .ok (.iconst 5, 1) := by decide +kernel
theorem dX10_minute_340 : decode cX10_minute 340 = .ok (.iload 7, 2) := by decide +kernel
theorem dX10_minute_342 : decode cX10_minute 342 = .ok (.imul, 1) := by decide +kernel
theorem dX10_minute_343 : decode cX10_minute 343 = .ok (.iconst 3, 1) := by decide +kernel
theorem dX10_minute_344 : decode cX10_minute 344 = .ok (.iadd, 1) := by decide +kernel
theorem dX10_minute_345 : decode cX10_minute 345 = .ok (.dup2, 1) := by decide +kernel
theorem dX10_minute_346 : decode cX10_minute 346 = .ok (.iaload, 1) := by decide +kernel
theorem dX10_minute_347 : decode cX10_minute 347 = .ok (.iconst 1, 1) := by decide +kernel
theorem dX10_minute_348 : decode cX10_minute 348 = .ok (.isub, 1) := by decide +kernel
theorem dX10_minute_349 : decode cX10_minute 349 = .ok (.iastore, 1) := by decide +kernel
theorem dX10_minute_350 : decode cX10_minute 350 = .ok (.iconst 0, 1) := by decide +kernel
theorem dX10_minute_351 : decode cX10_minute 351 = .ok (.istore 8, 2) := by decide +kernel
theorem dX10_minute_353 : decode cX10_minute 353 = .ok (.iload 8, 2) := by decide +kernel
theorem dX10_minute_355 : decode cX10_minute 355 = .ok (.iconst 5, 1) := by decide +kernel
theorem dX10_minute_356 : decode cX10_minute 356 = .ok (.if_icmp .ge 38, 3) := by decide +kernel
theorem dX10_minute_359 : decode cX10_minute 359 = .ok (.aload_n 3, 1) := by decide +kernel
theorem dX10_minute_360 : decode cX10_minute 360 = .ok (.iconst 5, 1) := by decide +kernel
theorem dX10_minute_361 : decode cX10_minute 361 = .ok (.iload 7, 2) := by decide +kernel
theorem dX10_minute_363 : decode cX10_minute 363 = .ok (.imul, 1) := by decide +kernel
theorem dX10_minute_364 : decode cX10_minute 364 = .ok (.iconst 3, 1) := by decide +kernel
theorem dX10_minute_365 : decode cX10_minute 365 = .ok (.iadd, 1) := by decide +kernel
theorem dX10_minute_366 : decode cX10_minute 366 = .ok (.iaload, 1) := by decide +kernel
theorem dX10_minute_367 : decode cX10_minute 367 = .ok (.ifCond .le 27, 3) := by decide +kernel
theorem dX10_minute_370 : decode cX10_minute 370 = .ok (.aload_n 3, 1) := by decide +kernel
theorem dX10_minute_371 : decode cX10_minute 371 = .ok (.iconst 5, 1) := by decide +kernel
theorem dX10_minute_372 : decode cX10_minute 372 = .ok (.iload 6, 2) := by decide +kernel
theorem dX10_minute_374 : decode cX10_minute 374 = .ok (.imul, 1) := by decide +kernel
theorem dX10_minute_375 : decode cX10_minute 375 = .ok (.iload 8, 2) := by decide +kernel
theorem dX10_minute_377 : decode cX10_minute 377 = .ok (.iadd, 1) := by decide +kernel
theorem dX10_minute_378 : decode cX10_minute 378 = .ok (.aload_n 3, 1) := by decide +kernel
theorem dX10_minute_379 : decode cX10_minute 379 = .ok (.iconst 5, 1) := by decide +kernel
theorem dX10_minute_380 : decode cX10_minute 380 = .ok (.iload 7, 2) := by decide +kernel
theorem dX10_minute_382 : decode cX10_minute 382 = .ok (.imul, 1) := by decide +kernel
theorem dX10_minute_383 : decode cX10_minute 383 = .ok (.iload 8, 2) := by decide +kernel
theorem dX10_minute_385 : decode cX10_minute 385 = .ok (.iadd, 1) := by decide +kernel
theorem dX10_minute_386 : decode cX10_minute 386 = .ok (.iaload, 1) := by decide +kernel
theorem dX10_minute_387 : decode cX10_minute 387 = .ok (.iastore, 1) := by decide +kernel
theorem dX10_minute_388 : decode cX10_minute 388 = .ok (.iinc 8 1, 3) := by decide +kernel
theorem dX10_minute_391 : decode cX10_minute 391 = .ok (.goto (-38), 3) := by decide +kernel
theorem dX10_minute_394 : decode cX10_minute 394 = .ok (.iload 6, 2) := by decide +kernel
theorem dX10_minute_396 : decode cX10_minute 396 = .ok (.aload_n 3, 1) := by decide +kernel
theorem dX10_minute_397 : decode cX10_minute 397 = .ok (.iconst 5, 1) := by decide +kernel
theorem dX10_minute_398 : decode cX10_minute 398 = .ok (.iload 7, 2) := by decide +kernel
theorem dX10_minute_400 : decode cX10_minute 400 = .ok (.imul, 1) := by decide +kernel
theorem dX10_minute_401 : decode cX10_minute 401 = .ok (.iconst 3, 1) := by decide +kernel
theorem dX10_minute_402 : decode cX10_minute 402 = .ok (.iadd, 1) := by decide +kernel
theorem dX10_minute_403 : decode cX10_minute 403 = .ok (.iaload, 1) := by decide +kernel
theorem dX10_minute_404 : decode cX10_minute 404 = .ok (.ifCond .le 7, 3) := by decide +kernel
theorem dX10_minute_407 : decode cX10_minute 407 = .ok (.iconst 1, 1) := by decide +kernel
theorem dX10_minute_408 : decode cX10_minute 408 = .ok (.goto 4, 3) := by decide +kernel
theorem dX10_minute_411 : decode cX10_minute 411 = .ok (.iconst 0, 1) := by decide +kernel
theorem dX10_minute_412 : decode cX10_minute 412 = .ok (.iadd, 1) := by decide +kernel
theorem dX10_minute_413 : decode cX10_minute 413 = .ok (.istore 6, 2) := by decide +kernel
theorem dX10_minute_415 : decode cX10_minute 415 = .ok (.iinc 7 1, 3) := by decide +kernel
theorem dX10_minute_418 : decode cX10_minute 418 = .ok (.goto (-89), 3) := by decide +kernel
theorem dX10_minute_421 : decode cX10_minute 421 = .ok (.aload_n 0, 1) := by decide +kernel
theorem dX10_minute_422 : decode cX10_minute 422 = .ok (.bipush 7, 2) := by decide +kernel
theorem dX10_minute_424 : decode cX10_minute 424 = .ok (.iload 6, 2) := by decide +kernel
theorem dX10_minute_426 : decode cX10_minute 426 = .ok (.iastore, 1) := by decide +kernel
theorem dX10_minute_427 : decode cX10_minute 427 = .ok (.aload_n 0, 1) := by decide +kernel
theorem dX10_minute_428 : decode cX10_minute 428 = .ok (.iconst 0, 1) := by decide +kernel
theorem dX10_minute_429 : decode cX10_minute 429 = .ok (.dup2, 1) := by decide +kernel
theorem dX10_minute_430 : decode cX10_minute 430 = .ok (.iaload, 1) := by decide +kernel
theorem dX10_minute_431 : decode cX10_minute 431 = .ok (.iconst 1, 1) := by decide +kernel
theorem dX10_minute_432 : decode cX10_minute 432 = .ok (.iadd, 1) := by decide +kernel
theorem dX10_minute_433 : decode cX10_minute 433 = .ok (.iastore, 1) := by decide +kernel
theorem dX10_minute_434 : decode cX10_minute 434 = .ok (.iload 5, 2) := by decide +kernel
theorem dX10_minute_436 : decode cX10_minute 436 = .ok (.ireturn, 1) := by decide +kernel
theorem dX10_same_0 : decode cX10_same 0 = .ok (.iconst 0, 1) := by decide +kernel
theorem dX10_same_1 : decode cX10_same 1 = .ok (.istore 5, 2) := by decide +kernel
theorem dX10_same_3 : decode cX10_same 3 = .ok (.iconst 0, 1) := by decide +kernel
theorem dX10_same_4 : decode cX10_same 4 = .ok (.istore 6, 2) := by decide +kernel
theorem dX10_same_6 : decode cX10_same 6 = .ok (.iload 6, 2) := by decide +kernel
theorem dX10_same_8 : decode cX10_same 8 = .ok (.iconst 3, 1) := by decide +kernel
theorem dX10_same_9 : decode cX10_same 9 = .ok (.if_icmp .ge 325, 3) := by decide +kernel
theorem dX10_same_12 : decode cX10_same 12 = .ok (.bipush 16, 2) := by decide +kernel
theorem dX10_same_14 : decode cX10_same 14 = .ok (.iload 6, 2) := by decide +kernel
theorem dX10_same_16 : decode cX10_same 16 = .ok (.imul, 1) := by decide +kernel
theorem dX10_same_17 : decode cX10_same 17 = .ok (.istore 7, 2) := by decide +kernel
theorem dX10_same_19 : decode cX10_same 19 = .ok (.iload 5, 2) := by decide +kernel
theorem dX10_same_21 : decode cX10_same 21 = .ok (.iload 6, 2) := by decide +kernel
theorem dX10_same_23 : decode cX10_same 23 = .ok (.aload_n 2, 1) := by decide +kernel
theorem dX10_same_24 : decode cX10_same 24 = .ok (.aload_n 3, 1) := by decide +kernel
theorem dX10_same_25 : decode cX10_same 25 = .ok (.invokestatic 19, 3) := by decide +kernel
theorem dX10_same_28 : decode cX10_same 28 = .ok (.iadd, 1) := by decide +kernel
theorem dX10_same_29 : decode cX10_same 29 = .ok (.istore 5, 2) := by decide +kernel
theorem dX10_same_31 : decode cX10_same 31 = .ok (.aload_n 0, 1) := by decide +kernel
theorem dX10_same_32 : decode cX10_same 32 = .ok (.iload 6, 2) := by decide +kernel
theorem dX10_same_34 : decode cX10_same 34 = .ok (.iconst 0, 1) := by decide +kernel
theorem dX10_same_35 : decode cX10_same 35 = .ok (.invokevirtual 38, 3) := by decide +kernel
theorem dX10_same_38 : decode cX10_same 38 = .ok (.iload 6, 2) := by decide +kernel
theorem dX10_same_40 : decode cX10_same 40 = .ok (.aload_n 1, 1) := by decide +kernel
theorem dX10_same_41 : decode cX10_same 41 = .ok (.aload_n 2, 1) := by decide +kernel
theorem dX10_same_42 : decode cX10_same 42 = .ok (.aload 4, 2) := by decide +kernel
theorem dX10_same_44 : decode cX10_same 44 = .ok (.invokestatic 22, 3) := by decide +kernel
theorem dX10_same_47 : decode cX10_same 47 = .ok (.if_icmp .ne 103, 3) := by decide +kernel
theorem dX10_same_50 : decode cX10_same 50 = .ok (.aload_n 0, 1) := by decide +kernel
theorem dX10_same_51 : decode cX10_same 51 = .ok (.iload 6, 2) := by decide +kernel
theorem dX10_same_53 : decode cX10_same 53 = .ok (.iconst 2, 1) := by decide +kernel
theorem dX10_same_54 : decode cX10_same 54 = .ok (.invokevirtual 38, 3) := by decide +kernel
theorem dX10_same_57 : decode cX10_same 57 = .ok (.aload_n 2, 1) := by decide +kernel
theorem dX10_same_58 : decode cX10_same 58 = .ok (.iload 7, 2) := by decide +kernel
theorem dX10_same_60 : decode cX10_same 60 = .ok (.iconst 1, 1) := by decide +kernel
theorem dX10_same_61 : decode cX10_same 61 = .ok (.iadd, 1) := by decide +kernel
theorem dX10_same_62 : decode cX10_same 62 = .ok (.iaload, 1) := by decide +kernel
theorem dX10_same_63 : decode cX10_same 63 = .ok (.if_icmp .ne 87, 3) := by decide +kernel
theorem dX10_same_66 : decode cX10_same 66 = .ok (.aload_n 0, 1) := by decide +kernel
theorem dX10_same_67 : decode cX10_same 67 = .ok (.iload 6, 2) := by decide +kernel
theorem dX10_same_69 : decode cX10_same 69 = .ok (.iconst 3, 1) := by decide +kernel
theorem dX10_same_70 : decode cX10_same 70 = .ok (.invokevirtual 38, 3) := by decide +kernel
theorem dX10_same_73 : decode cX10_same 73 = .ok (.aload_n 2, 1) := by decide +kernel
theorem dX10_same_74 : decode cX10_same 74 = .ok (.iload 7, 2) := by decide +kernel
theorem dX10_same_76 : decode cX10_same 76 = .ok (.iconst 2, 1) := by decide +kernel
theorem dX10_same_77 : decode cX10_same 77 = .ok (.iadd, 1) := by decide +kernel
theorem dX10_same_78 : decode cX10_same 78 = .ok (.iaload, 1) := by decide +kernel
theorem dX10_same_79 : decode cX10_same 79 = .ok (.if_icmp .ne 71, 3) := by decide +kernel
theorem dX10_same_82 : decode cX10_same 82 = .ok (.aload_n 0, 1) := by decide +kernel
theorem dX10_same_83 : decode cX10_same 83 = .ok (.iload 6, 2) := by decide +kernel
theorem dX10_same_85 : decode cX10_same 85 = .ok (.iconst 4, 1) := by decide +kernel
theorem dX10_same_86 : decode cX10_same 86 = .ok (.invokevirtual 38, 3) := by decide +kernel
theorem dX10_same_89 : decode cX10_same 89 = .ok (.aload_n 2, 1) := by decide +kernel
theorem dX10_same_90 : decode cX10_same 90 = .ok (.iload 7, 2) := by decide +kernel
theorem dX10_same_92 : decode cX10_same 92 = .ok (.iconst 3, 1) := by decide +kernel
theorem dX10_same_93 : decode cX10_same 93 = .ok (.iadd, 1) := by decide +kernel
theorem dX10_same_94 : decode cX10_same 94 = .ok (.iaload, 1) := by decide +kernel
theorem dX10_same_95 : decode cX10_same 95 = .ok (.if_icmp .ne 55, 3) := by decide +kernel
theorem dX10_same_98 : decode cX10_same 98 = .ok (.aload_n 0, 1) := by decide +kernel
theorem dX10_same_99 : decode cX10_same 99 = .ok (.iload 6, 2) := by decide +kernel
theorem dX10_same_101 : decode cX10_same 101 = .ok (.iconst 5, 1) := by decide +kernel
theorem dX10_same_102 : decode cX10_same 102 = .ok (.invokevirtual 38, 3) := by decide +kernel
theorem dX10_same_105 : decode cX10_same 105 = .ok (.aload_n 2, 1) := by decide +kernel
theorem dX10_same_106 : decode cX10_same 106 = .ok (.iload 7, 2) := by decide +kernel
theorem dX10_same_108 : decode cX10_same 108 = .ok (.iconst 4, 1) := by decide +kernel
theorem dX10_same_109 : decode cX10_same 109 = .ok (.iadd, 1) := by decide +kernel
theorem dX10_same_110 : decode cX10_same 110 = .ok (.iaload, 1) := by decide +kernel
theorem dX10_same_111 : decode cX10_same 111 = .ok (.if_icmp .ne 39, 3) := by decide +kernel
theorem dX10_same_114 : decode cX10_same 114 = .ok (.aload_n 0, 1) := by decide +kernel
theorem dX10_same_115 : decode cX10_same 115 = .ok (.iload 6, 2) := by decide +kernel
theorem dX10_same_117 : decode cX10_same 117 = .ok (.bipush 8, 2) := by decide +kernel
theorem dX10_same_119 : decode cX10_same 119 = .ok (.invokevirtual 38, 3) := by decide +kernel
theorem dX10_same_122 : decode cX10_same 122 = .ok (.aload_n 2, 1) := by decide +kernel
theorem dX10_same_123 : decode cX10_same 123 = .ok (.iload 7, 2) := by decide +kernel
theorem dX10_same_125 : decode cX10_same 125 = .ok (.bipush 14, 2) := by decide +kernel
theorem dX10_same_127 : decode cX10_same 127 = .ok (.iadd, 1) := by decide +kernel
theorem dX10_same_128 : decode cX10_same 128 = .ok (.iaload, 1) := by decide +kernel
theorem dX10_same_129 : decode cX10_same 129 = .ok (.if_icmp .ne 21, 3) := by decide +kernel
theorem dX10_same_132 : decode cX10_same 132 = .ok (.aload_n 0, 1) := by decide +kernel
theorem dX10_same_133 : decode cX10_same 133 = .ok (.iload 6, 2) := by decide +kernel
theorem dX10_same_135 : decode cX10_same 135 = .ok (.bipush 9, 2) := by decide +kernel
theorem dX10_same_137 : decode cX10_same 137 = .ok (.invokevirtual 38, 3) := by decide +kernel
theorem dX10_same_140 : decode cX10_same 140 = .ok (.aload_n 2, 1) := by decide +kernel
theorem dX10_same_141 : decode cX10_same 141 = .ok (.iload 7, 2) := by decide +kernel
theorem dX10_same_143 : decode cX10_same 143 = .ok (.bipush 15, 2) := by decide +kernel
theorem dX10_same_145 : decode cX10_same 145 = .ok (.iadd, 1) := by decide +kernel
theorem dX10_same_146 : decode cX10_same 146 = .ok (.iaload, 1) := by decide +kernel
theorem dX10_same_147 : decode cX10_same 147 = .ok (.if_icmp .eq 5, 3) := by decide +kernel
theorem dX10_same_150 : decode cX10_same 150 = .ok (.iconst 0, 1) := by decide +kernel
theorem dX10_same_151 : decode cX10_same 151 = .ok (.ireturn, 1) := by decide +kernel
theorem dX10_same_152 : decode cX10_same 152 = .ok (.aload_n 2, 1) := by decide +kernel
theorem dX10_same_153 : decode cX10_same 153 = .ok (.iload 7, 2) := by decide +kernel
theorem dX10_same_155 : decode cX10_same 155 = .ok (.iconst 5, 1) := by decide +kernel
theorem dX10_same_156 : decode cX10_same 156 = .ok (.iadd, 1) := by decide +kernel
theorem dX10_same_157 : decode cX10_same 157 = .ok (.iaload, 1) := by decide +kernel
theorem dX10_same_158 : decode cX10_same 158 = .ok (.ifCond .ne 7, 3) := by decide +kernel
theorem dX10_same_161 : decode cX10_same 161 = .ok (.iconst 1, 1) := by decide +kernel
theorem dX10_same_162 : decode cX10_same 162 = .ok (.goto 4, 3) := by decide +kernel
theorem dX10_same_165 : decode cX10_same 165 = .ok (.iconst 0, 1) := by decide +kernel
theorem dX10_same_166 : decode cX10_same 166 = .ok (.istore 8, 2) := by decide +kernel
theorem dX10_same_168 : decode cX10_same 168 = .ok (.aload_n 0, 1) := by decide +kernel
theorem dX10_same_169 : decode cX10_same 169 = .ok (.iload 6, 2) := by decide +kernel
theorem dX10_same_171 : decode cX10_same 171 = .ok (.iconst 0, 1) := by decide +kernel
theorem dX10_same_172 : decode cX10_same 172 = .ok (.invokevirtual 44, 3) := by decide +kernel
theorem dX10_same_175 : decode cX10_same 175 = .ok (.aload_n 2, 1) := by decide +kernel
theorem dX10_same_176 : decode cX10_same 176 = .ok (.iload 7, 2) := by decide +kernel
theorem dX10_same_178 : decode cX10_same 178 = .ok (.iconst 5, 1) := by decide +kernel
theorem dX10_same_179 : decode cX10_same 179 = .ok (.iadd, 1) := by decide +kernel
theorem dX10_same_180 : decode cX10_same 180 = .ok (.iaload, 1) := by decide +kernel
theorem dX10_same_181 : decode cX10_same 181 = .ok (.if_icmp .ne 97, 3) := by decide +kernel
theorem dX10_same_184 : decode cX10_same 184 = .ok (.aload_n 0, 1) := by decide +kernel
theorem dX10_same_185 : decode cX10_same 185 = .ok (.iload 6, 2) := by decide +kernel
theorem dX10_same_187 : decode cX10_same 187 = .ok (.iconst 1, 1) := by decide +kernel
theorem dX10_same_188 : decode cX10_same 188 = .ok (.invokevirtual 44, 3) := by decide +kernel
theorem dX10_same_191 : decode cX10_same 191 = .ok (.iload 8, 2) := by decide +kernel
theorem dX10_same_193 : decode cX10_same 193 = .ok (.ifCond .eq 8, 3) := by decide +kernel
theorem dX10_same_196 : decode cX10_same 196 = .ok (.bipush (-5), 2) := by decide +kernel
theorem dX10_same_198 : decode cX10_same 198 = .ok (.goto 10, 3) := by decide +kernel
theorem dX10_same_201 : decode cX10_same 201 = .ok (.aload_n 2, 1) := by decide +kernel
theorem dX10_same_202 : decode cX10_same 202 = .ok (.iload 7, 2) := by decide +kernel
theorem dX10_same_204 : decode cX10_same 204 = .ok (.bipush 6, 2) := by decide +kernel
theorem dX10_same_206 : decode cX10_same 206 = .ok (.iadd, 1) := by decide +kernel
theorem dX10_same_207 : decode cX10_same 207 = .ok (.iaload, 1) := by decide +kernel
theorem dX10_same_208 : decode cX10_same 208 = .ok (.if_icmp .ne 70, 3) := by decide +kernel
theorem dX10_same_211 : decode cX10_same 211 = .ok (.aload_n 0, 1) := by decide +kernel
theorem dX10_same_212 : decode cX10_same 212 = .ok (.iload 6, 2) := by decide +kernel
theorem dX10_same_214 : decode cX10_same 214 = .ok (.iconst 2, 1) := by decide +kernel
theorem dX10_same_215 : decode cX10_same 215 = .ok (.invokevirtual 44, 3) := by decide +kernel
theorem dX10_same_218 : decode cX10_same 218 = .ok (.aload_n 2, 1) := by decide +kernel
theorem dX10_same_219 : decode cX10_same 219 = .ok (.iload 7, 2) := by decide +kernel
theorem dX10_same_221 : decode cX10_same 221 = .ok (.bipush 7, 2) := by decide +kernel
theorem dX10_same_223 : decode cX10_same 223 = .ok (.iadd, 1) := by decide +kernel
theorem dX10_same_224 : decode cX10_same 224 = .ok (.iaload, 1) := by decide +kernel
theorem dX10_same_225 : decode cX10_same 225 = .ok (.if_icmp .ne 53, 3) := by decide +kernel
theorem dX10_same_228 : decode cX10_same 228 = .ok (.aload_n 0, 1) := by decide +kernel
theorem dX10_same_229 : decode cX10_same 229 = .ok (.iload 6, 2) := by decide +kernel
theorem dX10_same_231 : decode cX10_same 231 = .ok (.iconst 3, 1) := by decide +kernel
theorem dX10_same_232 : decode cX10_same 232 = .ok (.invokevirtual 44, 3) := by decide +kernel
theorem dX10_same_235 : decode cX10_same 235 = .ok (.iload 6, 2) := by decide +kernel
theorem dX10_same_237 : decode cX10_same 237 = .ok (.aload_n 2, 1) := by decide +kernel
theorem dX10_same_238 : decode cX10_same 238 = .ok (.invokestatic 26, 3) := by decide +kernel
theorem dX10_same_241 : decode cX10_same 241 = .ok (.if_icmp .ne 37, 3) := by decide +kernel
theorem dX10_same_244 : decode cX10_same 244 = .ok (.aload_n 0, 1) := by decide +kernel
theorem dX10_same_245 : decode cX10_same 245 = .ok (.iload 6, 2) := by decide +kernel
theorem dX10_same_247 : decode cX10_same 247 = .ok (.iconst 4, 1) := by decide +kernel
theorem dX10_same_248 : decode cX10_same 248 = .ok (.invokevirtual 44, 3) := by decide +kernel
theorem dX10_same_251 : decode cX10_same 251 = .ok (.aload_n 2, 1) := by decide +kernel
theorem dX10_same_252 : decode cX10_same 252 = .ok (.iload 7, 2) := by decide +kernel
theorem dX10_same_254 : decode cX10_same 254 = .ok (.bipush 8, 2) := by decide +kernel
theorem dX10_same_256 : decode cX10_same 256 = .ok (.iadd, 1) := by decide +kernel
theorem dX10_same_257 : decode cX10_same 257 = .ok (.iaload, 1) := by decide +kernel
theorem dX10_same_258 : decode cX10_same 258 = .ok (.if_icmp .ne 20, 3) := by decide +kernel
theorem dX10_same_261 : decode cX10_same 261 = .ok (.aload_n 0, 1) := by decide +kernel
theorem dX10_same_262 : decode cX10_same 262 = .ok (.iload 6, 2) := by decide +kernel
theorem dX10_same_264 : decode cX10_same 264 = .ok (.iconst 5, 1) := by decide +kernel
theorem dX10_same_265 : decode cX10_same 265 = .ok (.invokevirtual 44, 3) := by decide +kernel
theorem dX10_same_268 : decode cX10_same 268 = .ok (.aload_n 2, 1) := by decide +kernel
theorem dX10_same_269 : decode cX10_same 269 = .ok (.iload 7, 2) := by decide +kernel
theorem dX10_same_271 : decode cX10_same 271 = .ok (.bipush 9, 2) := by decide +kernel
theorem dX10_same_273 : decode cX10_same 273 = .ok (.iadd, 1) := by decide +kernel
theorem dX10_same_274 : decode cX10_same 274 = .ok (.iaload, 1) := by decide +kernel
theorem dX10_same_275 : decode cX10_same 275 = .ok (.if_icmp .eq 5, 3) := by decide +kernel
theorem dX10_same_278 : decode cX10_same 278 = .ok (.iconst 0, 1) := by decide +kernel
theorem dX10_same_279 : decode cX10_same 279 = .ok (.ireturn, 1) := by decide +kernel
theorem dX10_same_280 : decode cX10_same 280 = .ok (.aload_n 0, 1) := by decide +kernel
theorem dX10_same_281 : decode cX10_same 281 = .ok (.iload 6, 2) := by decide +kernel
theorem dX10_same_283 : decode cX10_same 283 = .ok (.bipush 6, 2) := by decide +kernel
theorem dX10_same_285 : decode cX10_same 285 = .ok (.invokevirtual 44, 3) := by decide +kernel
theorem dX10_same_288 : decode cX10_same 288 = .ok (.iload 8, 2) := by decide +kernel
theorem dX10_same_290 : decode cX10_same 290 = .ok (.ifCond .eq 8, 3) := by decide +kernel
theorem dX10_same_293 : decode cX10_same 293 = .ok (.bipush (-5), 2) := by decide +kernel
theorem dX10_same_295 : decode cX10_same 295 = .ok (.goto 10, 3) := by decide +kernel
theorem dX10_same_298 : decode cX10_same 298 = .ok (.aload_n 2, 1) := by decide +kernel
theorem dX10_same_299 : decode cX10_same 299 = .ok (.iload 7, 2) := by decide +kernel
theorem dX10_same_301 : decode cX10_same 301 = .ok (.bipush 10, 2) := by decide +kernel
theorem dX10_same_303 : decode cX10_same 303 = .ok (.iadd, 1) := by decide +kernel
theorem dX10_same_304 : decode cX10_same 304 = .ok (.iaload, 1) := by decide +kernel
theorem dX10_same_305 : decode cX10_same 305 = .ok (.if_icmp .ne 21, 3) := by decide +kernel
theorem dX10_same_308 : decode cX10_same 308 = .ok (.aload_n 0, 1) := by decide +kernel
theorem dX10_same_309 : decode cX10_same 309 = .ok (.iload 6, 2) := by decide +kernel
theorem dX10_same_311 : decode cX10_same 311 = .ok (.bipush 8, 2) := by decide +kernel
theorem dX10_same_313 : decode cX10_same 313 = .ok (.invokevirtual 44, 3) := by decide +kernel
theorem dX10_same_316 : decode cX10_same 316 = .ok (.aload_n 2, 1) := by decide +kernel
theorem dX10_same_317 : decode cX10_same 317 = .ok (.iload 7, 2) := by decide +kernel
theorem dX10_same_319 : decode cX10_same 319 = .ok (.bipush 13, 2) := by decide +kernel
theorem dX10_same_321 : decode cX10_same 321 = .ok (.iadd, 1) := by decide +kernel
theorem dX10_same_322 : decode cX10_same 322 = .ok (.iaload, 1) := by decide +kernel
theorem dX10_same_323 : decode cX10_same 323 = .ok (.if_icmp .eq 5, 3) := by decide +kernel
theorem dX10_same_326 : decode cX10_same 326 = .ok (.iconst 0, 1) := by decide +kernel
theorem dX10_same_327 : decode cX10_same 327 = .ok (.ireturn, 1) := by decide +kernel
theorem dX10_same_328 : decode cX10_same 328 = .ok (.iinc 6 1, 3) := by decide +kernel
theorem dX10_same_331 : decode cX10_same 331 = .ok (.goto (-325), 3) := by decide +kernel
theorem dX10_same_334 : decode cX10_same 334 = .ok (.iconst 0, 1) := by decide +kernel
theorem dX10_same_335 : decode cX10_same 335 = .ok (.istore 6, 2) := by decide +kernel
theorem dX10_same_337 : decode cX10_same 337 = .ok (.iload 6, 2) := by decide +kernel
theorem dX10_same_339 : decode cX10_same 339 = .ok (.aload_n 1, 1) := by decide +kernel
theorem dX10_same_340 : decode cX10_same 340 = .ok (.bipush 7, 2) := by decide +kernel
theorem dX10_same_342 : decode cX10_same 342 = .ok (.iaload, 1) := by decide +kernel
theorem dX10_same_343 : decode cX10_same 343 = .ok (.if_icmp .ge 47, 3) := by decide +kernel
theorem dX10_same_346 : decode cX10_same 346 = .ok (.iconst 0, 1) := by decide +kernel
theorem dX10_same_347 : decode cX10_same 347 = .ok (.istore 7, 2) := by decide +kernel
theorem dX10_same_349 : decode cX10_same 349 = .ok (.iload 7, 2) := by decide +kernel
theorem dX10_same_351 : decode cX10_same 351 = .ok (.iconst 5, 1) := by decide +kernel
theorem dX10_same_352 : decode cX10_same 352 = .ok (.if_icmp .ge 32, 3) := by decide +kernel
theorem dX10_same_355 : decode cX10_same 355 = .ok (.aload_n 0, 1) := by decide +kernel
theorem dX10_same_356 : decode cX10_same 356 = .ok (.iload 6, 2) := by decide +kernel
theorem dX10_same_358 : decode cX10_same 358 = .ok (.iload 7, 2) := by decide +kernel
theorem dX10_same_360 : decode cX10_same 360 = .ok (.invokevirtual 47, 3) := by decide +kernel
theorem dX10_same_363 : decode cX10_same 363 = .ok (.aload 4, 2) := by decide +kernel
theorem dX10_same_365 : decode cX10_same 365 = .ok (.iconst 5, 1) := by decide +kernel
theorem dX10_same_366 : decode cX10_same 366 = .ok (.iload 6, 2) := by decide +kernel
theorem dX10_same_368 : decode cX10_same 368 = .ok (.imul, 1) := by decide +kernel
theorem dX10_same_369 : decode cX10_same 369 = .ok (.iload 7, 2) := by decide +kernel
theorem dX10_same_371 : decode cX10_same 371 = .ok (.iadd, 1) := by decide +kernel
theorem dX10_same_372 : decode cX10_same 372 = .ok (.iaload, 1) := by decide +kernel
theorem dX10_same_373 : decode cX10_same 373 = .ok (.if_icmp .eq 5, 3) := by decide +kernel
theorem dX10_same_376 : decode cX10_same 376 = .ok (.iconst 0, 1) := by decide +kernel
theorem dX10_same_377 : decode cX10_same 377 = .ok (.ireturn, 1) := by decide +kernel
theorem dX10_same_378 : decode cX10_same 378 = .ok (.iinc 7 1, 3) := by decide +kernel
theorem dX10_same_381 : decode cX10_same 381 = .ok (.goto (-32), 3) := by decide +kernel
theorem dX10_same_384 : decode cX10_same 384 = .ok (.iinc 6 1, 3) := by decide +kernel
theorem dX10_same_387 : decode cX10_same 387 = .ok (.goto (-50), 3) := by decide +kernel
theorem dX10_same_390 : decode cX10_same 390 = .ok (.aload_n 0, 1) := by decide +kernel
theorem dX10_same_391 : decode cX10_same 391 = .ok (.iconst 0, 1) := by decide +kernel
theorem dX10_same_392 : decode cX10_same 392 = .ok (.invokevirtual 50, 3) := by decide +kernel
theorem dX10_same_395 : decode cX10_same 395 = .ok (.aload_n 1, 1) := by decide +kernel
theorem dX10_same_396 : decode cX10_same 396 = .ok (.bipush 6, 2) := by decide +kernel
theorem dX10_same_398 : decode cX10_same 398 = .ok (.iaload, 1) := by decide +kernel
theorem dX10_same_399 : decode cX10_same 399 = .ok (.if_icmp .ne 118, 3) := by decide +kernel
theorem dX10_same_402 : decode cX10_same 402 = .ok (.aload_n 0, 1) := by decide +kernel
theorem dX10_same_403 : decode cX10_same 403 = .ok (.iconst 4, 1) := by decide +kernel
theorem dX10_same_404 : decode cX10_same 404 = .ok (.invokevirtual 50, 3) := by decide +kernel
theorem dX10_same_407 : decode cX10_same 407 = .ok (.aload_n 1, 1) := by decide +kernel
theorem dX10_same_408 : decode cX10_same 408 = .ok (.bipush 11, 2) := by decide +kernel
theorem dX10_same_410 : decode cX10_same 410 = .ok (.iaload, 1) := by decide +kernel
theorem dX10_same_411 : decode cX10_same 411 = .ok (.if_icmp .ne 106, 3) := by decide +kernel
theorem dX10_same_414 : decode cX10_same 414 = .ok (.aload_n 0, 1) := by decide +kernel
theorem dX10_same_415 : decode cX10_same 415 = .ok (.iconst 5, 1) := by decide +kernel
theorem dX10_same_416 : decode cX10_same 416 = .ok (.invokevirtual 50, 3) := by decide +kernel
theorem dX10_same_419 : decode cX10_same 419 = .ok (.aload_n 1, 1) := by decide +kernel
theorem dX10_same_420 : decode cX10_same 420 = .ok (.bipush 12, 2) := by decide +kernel
theorem dX10_same_422 : decode cX10_same 422 = .ok (.iaload, 1) := by decide +kernel
theorem dX10_same_423 : decode cX10_same 423 = .ok (.if_icmp .ne 94, 3) := by decide +kernel
theorem dX10_same_426 : decode cX10_same 426 = .ok (.aload_n 0, 1) := by decide +kernel
theorem dX10_same_427 : decode cX10_same 427 = .ok (.bipush 6, 2) := by decide +kernel
theorem dX10_same_429 : decode cX10_same 429 = .ok (.invokevirtual 50, 3) := by decide +kernel
theorem dX10_same_432 : decode cX10_same 432 = .ok (.iload 5, 2) := by decide +kernel
theorem dX10_same_434 : decode cX10_same 434 = .ok (.if_icmp .ne 83, 3) := by decide +kernel
theorem dX10_same_437 : decode cX10_same 437 = .ok (.aload_n 0, 1) := by decide +kernel
theorem dX10_same_438 : decode cX10_same 438 = .ok (.iconst 0, 1) := by decide +kernel
theorem dX10_same_439 : decode cX10_same 439 = .ok (.invokevirtual 54, 3) := by decide +kernel
theorem dX10_same_442 : decode cX10_same 442 = .ok (.aload_n 1, 1) := by decide +kernel
theorem dX10_same_443 : decode cX10_same 443 = .ok (.iconst 0, 1) := by decide +kernel
theorem dX10_same_444 : decode cX10_same 444 = .ok (.iaload, 1) := by decide +kernel
theorem dX10_same_445 : decode cX10_same 445 = .ok (.if_icmp .ne 72, 3) := by decide +kernel
theorem dX10_same_448 : decode cX10_same 448 = .ok (.aload_n 0, 1) := by decide +kernel
theorem dX10_same_449 : decode cX10_same 449 = .ok (.bipush 7, 2) := by decide +kernel
theorem dX10_same_451 : decode cX10_same 451 = .ok (.invokevirtual 54, 3) := by decide +kernel
theorem dX10_same_454 : decode cX10_same 454 = .ok (.aload_n 1, 1) := by decide +kernel
theorem dX10_same_455 : decode cX10_same 455 = .ok (.bipush 7, 2) := by decide +kernel
theorem dX10_same_457 : decode cX10_same 457 = .ok (.iaload, 1) := by decide +kernel
theorem dX10_same_458 : decode cX10_same 458 = .ok (.if_icmp .ne 59, 3) := by decide +kernel
theorem dX10_same_461 : decode cX10_same 461 = .ok (.aload_n 0, 1) := by decide +kernel
theorem dX10_same_462 : decode cX10_same 462 = .ok (.bipush 8, 2) := by decide +kernel
theorem dX10_same_464 : decode cX10_same 464 = .ok (.invokevirtual 54, 3) := by decide +kernel
theorem dX10_same_467 : decode cX10_same 467 = .ok (.aload_n 1, 1) := by decide +kernel
theorem dX10_same_468 : decode cX10_same 468 = .ok (.bipush 8, 2) := by decide +kernel
theorem dX10_same_470 : decode cX10_same 470 = .ok (.iaload, 1) := by decide +kernel
theorem dX10_same_471 : decode cX10_same 471 = .ok (.if_icmp .ne 46, 3) := by decide +kernel
theorem dX10_same_474 : decode cX10_same 474 = .ok (.aload_n 0, 1) := by decide +kernel
theorem dX10_same_475 : decode cX10_same 475 = .ok (.bipush 9, 2) := by decide +kernel
theorem dX10_same_477 : decode cX10_same 477 = .ok (.invokevirtual 54, 3) := by decide +kernel
theorem dX10_same_480 : decode cX10_same 480 = .ok (.aload_n 1, 1) := by decide +kernel
theorem dX10_same_481 : decode cX10_same 481 = .ok (.bipush 9, 2) := by decide +kernel
theorem dX10_same_483 : decode cX10_same 483 = .ok (.iaload, 1) := by decide +kernel
theorem dX10_same_484 : decode cX10_same 484 = .ok (.if_icmp .ne 33, 3) := by decide +kernel
theorem dX10_same_487 : decode cX10_same 487 = .ok (.aload_n 0, 1) := by decide +kernel
theorem dX10_same_488 : decode cX10_same 488 = .ok (.bipush 10, 2) := by decide +kernel
theorem dX10_same_490 : decode cX10_same 490 = .ok (.invokevirtual 54, 3) := by decide +kernel
theorem dX10_same_493 : decode cX10_same 493 = .ok (.aload_n 1, 1) := by decide +kernel
theorem dX10_same_494 : decode cX10_same 494 = .ok (.bipush 10, 2) := by decide +kernel
theorem dX10_same_496 : decode cX10_same 496 = .ok (.iaload, 1) := by decide +kernel
theorem dX10_same_497 : decode cX10_same 497 = .ok (.if_icmp .ne 20, 3) := by decide +kernel
theorem dX10_same_500 : decode cX10_same 500 = .ok (.aload_n 0, 1) := by decide +kernel
theorem dX10_same_501 : decode cX10_same 501 = .ok (.aload_n 1, 1) := by decide +kernel
theorem dX10_same_502 : decode cX10_same 502 = .ok (.bipush 7, 2) := by decide +kernel
theorem dX10_same_504 : decode cX10_same 504 = .ok (.iaload, 1) := by decide +kernel
theorem dX10_same_505 : decode cX10_same 505 = .ok (.iconst 0, 1) := by decide +kernel
theorem dX10_same_506 : decode cX10_same 506 = .ok (.invokevirtual 47, 3) := by decide +kernel
theorem dX10_same_509 : decode cX10_same 509 = .ok (.iconst (-1), 1) := by decide +kernel
theorem dX10_same_510 : decode cX10_same 510 = .ok (.if_icmp .ne 7, 3) := by decide +kernel
theorem dX10_same_513 : decode cX10_same 513 = .ok (.iconst 1, 1) := by decide +kernel
theorem dX10_same_514 : decode cX10_same 514 = .ok (.goto 4, 3) := by decide +kernel
theorem dX10_same_517 : decode cX10_same 517 = .ok (.iconst 0, 1) := by decide +kernel
theorem dX10_same_518 : decode cX10_same 518 = .ok (.ireturn, 1) := by decide +kernel
theorem dX10_haggled_0 : decode cX10_haggled 0 = .ok (.iload_n 1, 1) := by decide +kernel
theorem dX10_haggled_1 : decode cX10_haggled 1 = .ok (.iconst 3, 1) := by decide +kernel
theorem dX10_haggled_2 : decode cX10_haggled 2 = .ok (.invokestatic 57, 3) := by decide +kernel
theorem dX10_haggled_5 : decode cX10_haggled 5 = .ok (.istore 5, 2) := by decide +kernel
theorem dX10_haggled_7 : decode cX10_haggled 7 = .ok (.iload 5, 2) := by decide +kernel
theorem dX10_haggled_9 : decode cX10_haggled 9 = .ok (.iconst 1, 1) := by decide +kernel
theorem dX10_haggled_10 : decode cX10_haggled 10 = .ok (.iadd, 1) := by decide +kernel
theorem dX10_haggled_11 : decode cX10_haggled 11 = .ok (.iload_n 1, 1) := by decide +kernel
theorem dX10_haggled_12 : decode cX10_haggled 12 = .ok (.iconst 2, 1) := by decide +kernel
theorem dX10_haggled_13 : decode cX10_haggled 13 = .ok (.ishr, 1) := by decide +kernel
theorem dX10_haggled_14 : decode cX10_haggled 14 = .ok (.iconst 2, 1) := by decide +kernel
theorem dX10_haggled_15 : decode cX10_haggled 15 = .ok (.invokestatic 57, 3) := by decide +kernel
theorem dX10_haggled_18 : decode cX10_haggled 18 = .ok (.iadd, 1) := by decide +kernel
theorem dX10_haggled_19 : decode cX10_haggled 19 = .ok (.iconst 3, 1) := by decide +kernel
theorem dX10_haggled_20 : decode cX10_haggled 20 = .ok (.irem, 1) := by decide +kernel
theorem dX10_haggled_21 : decode cX10_haggled 21 = .ok (.istore 6, 2) := by decide +kernel
theorem dX10_haggled_23 : decode cX10_haggled 23 = .ok (.iconst 1, 1) := by decide +kernel
theorem dX10_haggled_24 : decode cX10_haggled 24 = .ok (.iload_n 1, 1) := by decide +kernel
theorem dX10_haggled_25 : decode cX10_haggled 25 = .ok (.iconst 3, 1) := by decide +kernel
theorem dX10_haggled_26 : decode cX10_haggled 26 = .ok (.ishr, 1) := by decide +kernel
theorem dX10_haggled_27 : decode cX10_haggled 27 = .ok (.iconst 5, 1) := by decide +kernel
theorem dX10_haggled_28 : decode cX10_haggled 28 = .ok (.invokestatic 57, 3) := by decide +kernel
theorem dX10_haggled_31 : decode cX10_haggled 31 = .ok (.iadd, 1) := by decide +kernel
theorem dX10_haggled_32 : decode cX10_haggled 32 = .ok (.istore 7, 2) := by decide +kernel
theorem dX10_haggled_34 : decode cX10_haggled 34 = .ok (.iconst 1, 1) := by decide +kernel
theorem dX10_haggled_35 : decode cX10_haggled 35 = .ok (.iload_n 1, 1) := by decide +kernel
theorem dX10_haggled_36 : decode cX10_haggled 36 = .ok (.bipush 6, 2) := by decide +kernel
theorem dX10_haggled_38 : decode cX10_haggled 38 = .ok (.ishr, 1) := by decide +kernel
theorem dX10_haggled_39 : decode cX10_haggled 39 = .ok (.bipush 100, 2) := by decide +kernel
theorem dX10_haggled_41 : decode cX10_haggled 41 = .ok (.invokestatic 57, 3) := by decide +kernel
theorem dX10_haggled_44 : decode cX10_haggled 44 = .ok (.iadd, 1) := by decide +kernel
theorem dX10_haggled_45 : decode cX10_haggled 45 = .ok (.istore 8, 2) := by decide +kernel
theorem dX10_haggled_47 : decode cX10_haggled 47 = .ok (.iconst 1, 1) := by decide +kernel
theorem dX10_haggled_48 : decode cX10_haggled 48 = .ok (.iload_n 1, 1) := by decide +kernel
theorem dX10_haggled_49 : decode cX10_haggled 49 = .ok (.bipush 13, 2) := by decide +kernel
theorem dX10_haggled_51 : decode cX10_haggled 51 = .ok (.ishr, 1) := by decide +kernel
theorem dX10_haggled_52 : decode cX10_haggled 52 = .ok (.bipush 12, 2) := by decide +kernel
theorem dX10_haggled_54 : decode cX10_haggled 54 = .ok (.invokestatic 57, 3) := by decide +kernel
theorem dX10_haggled_57 : decode cX10_haggled 57 = .ok (.iadd, 1) := by decide +kernel
theorem dX10_haggled_58 : decode cX10_haggled 58 = .ok (.istore 9, 2) := by decide +kernel
theorem dX10_haggled_60 : decode cX10_haggled 60 = .ok (.aload_n 2, 1) := by decide +kernel
theorem dX10_haggled_61 : decode cX10_haggled 61 = .ok (.bipush 7, 2) := by decide +kernel
theorem dX10_haggled_63 : decode cX10_haggled 63 = .ok (.iaload, 1) := by decide +kernel
theorem dX10_haggled_64 : decode cX10_haggled 64 = .ok (.iconst 4, 1) := by decide +kernel
theorem dX10_haggled_65 : decode cX10_haggled 65 = .ok (.if_icmp .ne 5, 3) := by decide +kernel
theorem dX10_haggled_68 : decode cX10_haggled 68 = .ok (.iconst 1, 1) := by decide +kernel
theorem dX10_haggled_69 : decode cX10_haggled 69 = .ok (.ireturn, 1) := by decide +kernel
theorem dX10_haggled_70 : decode cX10_haggled 70 = .ok (.aload_n 0, 1) := by decide +kernel
theorem dX10_haggled_71 : decode cX10_haggled 71 = .ok (.iload 5, 2) := by decide +kernel
theorem dX10_haggled_73 : decode cX10_haggled 73 = .ok (.iload 6, 2) := by decide +kernel
theorem dX10_haggled_75 : decode cX10_haggled 75 = .ok (.iload 7, 2) := by decide +kernel
theorem dX10_haggled_77 : decode cX10_haggled 77 = .ok (.iload 8, 2) := by decide +kernel
theorem dX10_haggled_79 : decode cX10_haggled 79 = .ok (.iload 9, 2) := by decide +kernel
theorem dX10_haggled_81 : decode cX10_haggled 81 = .ok (.invokevirtual 60, 3) := by decide +kernel
theorem dX10_haggled_84 : decode cX10_haggled 84 = .ok (.istore 10, 2) := by decide +kernel
theorem dX10_haggled_86 : decode cX10_haggled 86 = .ok (.iload 6, 2) := by decide +kernel
theorem dX10_haggled_88 : decode cX10_haggled 88 = .ok (.aload_n 2, 1) := by decide +kernel
theorem dX10_haggled_89 : decode cX10_haggled 89 = .ok (.aload_n 3, 1) := by decide +kernel
theorem dX10_haggled_90 : decode cX10_haggled 90 = .ok (.aload 4, 2) := by decide +kernel
theorem dX10_haggled_92 : decode cX10_haggled 92 = .ok (.invokestatic 64, 3) := by decide +kernel
theorem dX10_haggled_95 : decode cX10_haggled 95 = .ok (.iload 7, 2) := by decide +kernel
theorem dX10_haggled_97 : decode cX10_haggled 97 = .ok (.if_icmp .lt 17, 3) := by decide +kernel
theorem dX10_haggled_100 : decode cX10_haggled 100 = .ok (.aload_n 3, 1) := by decide +kernel
theorem dX10_haggled_101 : decode cX10_haggled 101 = .ok (.bipush 16, 2) := by decide +kernel
theorem dX10_haggled_103 : decode cX10_haggled 103 = .ok (.iload 5, 2) := by decide +kernel
theorem dX10_haggled_105 : decode cX10_haggled 105 = .ok (.imul, 1) := by decide +kernel
theorem dX10_haggled_106 : decode cX10_haggled 106 = .ok (.iconst 2, 1) := by decide +kernel
theorem dX10_haggled_107 : decode cX10_haggled 107 = .ok (.iadd, 1) := by decide +kernel
theorem dX10_haggled_108 : decode cX10_haggled 108 = .ok (.iaload, 1) := by decide +kernel
theorem dX10_haggled_109 : decode cX10_haggled 109 = .ok (.iload 8, 2) := by decide +kernel
theorem dX10_haggled_111 : decode cX10_haggled 111 = .ok (.if_icmp .ge 16, 3) := by decide +kernel
theorem dX10_haggled_114 : decode cX10_haggled 114 = .ok (.iload 10, 2) := by decide +kernel
theorem dX10_haggled_116 : decode cX10_haggled 116 = .ok (.bipush (-4), 2) := by decide +kernel
theorem dX10_haggled_118 : decode cX10_haggled 118 = .ok (.if_icmp .ne 7, 3) := by decide +kernel
theorem dX10_haggled_121 : decode cX10_haggled 121 = .ok (.iconst 1, 1) := by decide +kernel
theorem dX10_haggled_122 : decode cX10_haggled 122 = .ok (.goto 4, 3) := by decide +kernel
theorem dX10_haggled_125 : decode cX10_haggled 125 = .ok (.iconst 0, 1) := by decide +kernel
theorem dX10_haggled_126 : decode cX10_haggled 126 = .ok (.ireturn, 1) := by decide +kernel
theorem dX10_haggled_127 : decode cX10_haggled 127 = .ok (.iload 7, 2) := by decide +kernel
theorem dX10_haggled_129 : decode cX10_haggled 129 = .ok (.aload_n 3, 1) := by decide +kernel
theorem dX10_haggled_130 : decode cX10_haggled 130 = .ok (.bipush 16, 2) := by decide +kernel
theorem dX10_haggled_132 : decode cX10_haggled 132 = .ok (.iload 6, 2) := by decide +kernel
theorem dX10_haggled_134 : decode cX10_haggled 134 = .ok (.imul, 1) := by decide +kernel
theorem dX10_haggled_135 : decode cX10_haggled 135 = .ok (.iconst 1, 1) := by decide +kernel
theorem dX10_haggled_136 : decode cX10_haggled 136 = .ok (.iadd, 1) := by decide +kernel
theorem dX10_haggled_137 : decode cX10_haggled 137 = .ok (.iaload, 1) := by decide +kernel
theorem dX10_haggled_138 : decode cX10_haggled 138 = .ok (.imul, 1) := by decide +kernel
theorem dX10_haggled_139 : decode cX10_haggled 139 = .ok (.aload_n 3, 1) := by decide +kernel
theorem dX10_haggled_140 : decode cX10_haggled 140 = .ok (.bipush 16, 2) := by decide +kernel
theorem dX10_haggled_142 : decode cX10_haggled 142 = .ok (.iload 6, 2) := by decide +kernel
theorem dX10_haggled_144 : decode cX10_haggled 144 = .ok (.imul, 1) := by decide +kernel
theorem dX10_haggled_145 : decode cX10_haggled 145 = .ok (.iconst 5, 1) := by decide +kernel
theorem dX10_haggled_146 : decode cX10_haggled 146 = .ok (.iadd, 1) := by decide +kernel
theorem dX10_haggled_147 : decode cX10_haggled 147 = .ok (.iaload, 1) := by decide +kernel
theorem dX10_haggled_148 : decode cX10_haggled 148 = .ok (.iconst 1, 1) := by decide +kernel
theorem dX10_haggled_149 : decode cX10_haggled 149 = .ok (.if_icmp .ne 7, 3) := by decide +kernel
theorem dX10_haggled_152 : decode cX10_haggled 152 = .ok (.iconst 2, 1) := by decide +kernel
theorem dX10_haggled_153 : decode cX10_haggled 153 = .ok (.goto 4, 3) := by decide +kernel
theorem dX10_haggled_156 : decode cX10_haggled 156 = .ok (.iconst 1, 1) := by decide +kernel
theorem dX10_haggled_157 : decode cX10_haggled 157 = .ok (.imul, 1) := by decide +kernel
theorem dX10_haggled_158 : decode cX10_haggled 158 = .ok (.istore 11, 2) := by decide +kernel
theorem dX10_haggled_160 : decode cX10_haggled 160 = .ok (.iload 8, 2) := by decide +kernel
theorem dX10_haggled_162 : decode cX10_haggled 162 = .ok (.iload 11, 2) := by decide +kernel
theorem dX10_haggled_164 : decode cX10_haggled 164 = .ok (.if_icmp .ge 12, 3) := by decide +kernel
theorem dX10_haggled_167 : decode cX10_haggled 167 = .ok (.iconst 2, 1) := by decide +kernel
theorem dX10_haggled_168 : decode cX10_haggled 168 = .ok (.iload 8, 2) := by decide +kernel
theorem dX10_haggled_170 : decode cX10_haggled 170 = .ok (.imul, 1) := by decide +kernel
theorem dX10_haggled_171 : decode cX10_haggled 171 = .ok (.iload 11, 2) := by decide +kernel
theorem dX10_haggled_173 : decode cX10_haggled 173 = .ok (.if_icmp .ge 7, 3) := by decide +kernel
theorem dX10_haggled_176 : decode cX10_haggled 176 = .ok (.iconst 1, 1) := by decide +kernel
theorem dX10_haggled_177 : decode cX10_haggled 177 = .ok (.goto 4, 3) := by decide +kernel
theorem dX10_haggled_180 : decode cX10_haggled 180 = .ok (.iconst (-1), 1) := by decide +kernel
theorem dX10_haggled_181 : decode cX10_haggled 181 = .ok (.istore 12, 2) := by decide +kernel
theorem dX10_haggled_183 : decode cX10_haggled 183 = .ok (.iload 8, 2) := by decide +kernel
theorem dX10_haggled_185 : decode cX10_haggled 185 = .ok (.iload 11, 2) := by decide +kernel
theorem dX10_haggled_187 : decode cX10_haggled 187 = .ok (.if_icmp .lt 13, 3) := by decide +kernel
theorem dX10_haggled_190 : decode cX10_haggled 190 = .ok (.iload 8, 2) := by decide +kernel
theorem dX10_haggled_192 : decode cX10_haggled 192 = .ok (.iload 11, 2) := by decide +kernel
theorem dX10_haggled_194 : decode cX10_haggled 194 = .ok (.iadd, 1) := by decide +kernel
theorem dX10_haggled_195 : decode cX10_haggled 195 = .ok (.iconst 2, 1) := by decide +kernel
theorem dX10_haggled_196 : decode cX10_haggled 196 = .ok (.idiv, 1) := by decide +kernel
theorem dX10_haggled_197 : decode cX10_haggled 197 = .ok (.goto 4, 3) := by decide +kernel
theorem dX10_haggled_200 : decode cX10_haggled 200 = .ok (.iconst 0, 1) := by decide +kernel
theorem dX10_haggled_201 : decode cX10_haggled 201 = .ok (.istore 13, 2) := by decide +kernel
theorem dX10_haggled_203 : decode cX10_haggled 203 = .ok (.aload_n 3, 1) := by decide +kernel
theorem dX10_haggled_204 : decode cX10_haggled 204 = .ok (.bipush 16, 2) := by decide +kernel
theorem dX10_haggled_206 : decode cX10_haggled 206 = .ok (.iload 6, 2) := by decide +kernel
theorem dX10_haggled_208 : decode cX10_haggled 208 = .ok (.imul, 1) := by decide +kernel
theorem dX10_haggled_209 : decode cX10_haggled 209 = .ok (.iconst 1, 1) := by decide +kernel
theorem dX10_haggled_210 : decode cX10_haggled 210 = .ok (.iadd, 1) := by decide +kernel
theorem dX10_haggled_211 : decode cX10_haggled 211 = .ok (.dup2, 1) := by decide +kernel
theorem dX10_haggled_212 : decode cX10_haggled 212 = .ok (.iaload, 1) := by decide +kernel
theorem dX10_haggled_213 : decode cX10_haggled 213 = .ok (.aload_n 3, 1) := by decide +kernel
theorem dX10_haggled_214 : decode cX10_haggled 214 = .ok (.bipush 16, 2) := by decide +kernel
theorem dX10_haggled_216 : decode cX10_haggled 216 = .ok (.iload 6, 2) := by decide +kernel
theorem dX10_haggled_218 : decode cX10_haggled 218 = .ok (.imul, 1) := by decide +kernel
theorem dX10_haggled_219 : decode cX10_haggled 219 = .ok (.iconst 1, 1) := by decide +kernel
theorem dX10_haggled_220 : decode cX10_haggled 220 = .ok (.iadd, 1) := by decide +kernel
theorem dX10_haggled_221 : decode cX10_haggled 221 = .ok (.iaload, 1) := by decide +kernel
theorem dX10_haggled_222 : decode cX10_haggled 222 = .ok (.iload 12, 2) := by decide +kernel
theorem dX10_haggled_224 : decode cX10_haggled 224 = .ok (.iadd, 1) := by decide +kernel
theorem dX10_haggled_225 : decode cX10_haggled 225 = .ok (.iconst 1, 1) := by decide +kernel
theorem dX10_haggled_226 : decode cX10_haggled 226 = .ok (.if_icmp .lt 20, 3) := by decide +kernel
theorem dX10_haggled_229 : decode cX10_haggled 229 = .ok (.aload_n 3, 1) := by decide +kernel
theorem dX10_haggled_230 : decode cX10_haggled 230 = .ok (.bipush 16, 2) := by decide +kernel
theorem dX10_haggled_232 : decode cX10_haggled 232 = .ok (.iload 6, 2) := by decide +kernel
theorem dX10_haggled_234 : decode cX10_haggled 234 = .ok (.imul, 1) := by decide +kernel
theorem dX10_haggled_235 : decode cX10_haggled 235 = .ok (.iconst 1, 1) := by decide +kernel
theorem dX10_haggled_236 : decode cX10_haggled 236 = .ok (.iadd, 1) := by decide +kernel
theorem dX10_haggled_237 : decode cX10_haggled 237 = .ok (.iaload, 1) := by decide +kernel
theorem dX10_haggled_238 : decode cX10_haggled 238 = .ok (.iload 12, 2) := by decide +kernel
theorem dX10_haggled_240 : decode cX10_haggled 240 = .ok (.iadd, 1) := by decide +kernel
theorem dX10_haggled_241 : decode cX10_haggled 241 = .ok (.bipush 50, 2) := by decide +kernel
theorem dX10_haggled_243 : decode cX10_haggled 243 = .ok (.if_icmp .le 7, 3) := by decide +kernel
theorem dX10_haggled_246 : decode cX10_haggled 246 = .ok (.iconst 0, 1) := by decide +kernel
theorem dX10_haggled_247 : decode cX10_haggled 247 = .ok (.goto 5, 3) := by decide +kernel
theorem dX10_haggled_250 : decode cX10_haggled 250 = .ok (.iload 12, 2) := by decide +kernel
theorem dX10_haggled_252 : decode cX10_haggled 252 = .ok (.iadd, 1) := by decide +kernel
theorem dX10_haggled_253 : decode cX10_haggled 253 = .ok (.iastore, 1) := by decide +kernel
theorem dX10_haggled_254 : decode cX10_haggled 254 = .ok (.iload 8, 2) := by decide +kernel
theorem dX10_haggled_256 : decode cX10_haggled 256 = .ok (.iload 11, 2) := by decide +kernel
theorem dX10_haggled_258 : decode cX10_haggled 258 = .ok (.if_icmp .ge 22, 3) := by decide +kernel
theorem dX10_haggled_261 : decode cX10_haggled 261 = .ok (.aload_n 2, 1) := by decide +kernel
theorem dX10_haggled_262 : decode cX10_haggled 262 = .ok (.bipush 9, 2) := by decide +kernel
theorem dX10_haggled_264 : decode cX10_haggled 264 = .ok (.dup2, 1) := by decide +kernel
theorem dX10_haggled_265 : decode cX10_haggled 265 = .ok (.iaload, 1) := by decide +kernel
theorem dX10_haggled_266 : decode cX10_haggled 266 = .ok (.iconst 1, 1) := by decide +kernel
theorem dX10_haggled_267 : decode cX10_haggled 267 = .ok (.iadd, 1) := by decide +kernel
theorem dX10_haggled_268 : decode cX10_haggled 268 = .ok (.iastore, 1) := by decide +kernel
theorem dX10_haggled_269 : decode cX10_haggled 269 = .ok (.iload 10, 2) := by decide +kernel
theorem dX10_haggled_271 : decode cX10_haggled 271 = .ok (.ifCond .ne 7, 3) := by decide +kernel
theorem dX10_haggled_274 : decode cX10_haggled 274 = .ok (.iconst 1, 1) := by decide +kernel
theorem dX10_haggled_275 : decode cX10_haggled 275 = .ok (.goto 4, 3) := by decide +kernel
theorem dX10_haggled_278 : decode cX10_haggled 278 = .ok (.iconst 0, 1) := by decide +kernel
theorem dX10_haggled_279 : decode cX10_haggled 279 = .ok (.ireturn, 1) := by decide +kernel
theorem dX10_haggled_280 : decode cX10_haggled 280 = .ok (.iconst 5, 1) := by decide +kernel
theorem dX10_haggled_281 : decode cX10_haggled 281 = .ok (.aload_n 2, 1) := by decide +kernel
theorem dX10_haggled_282 : decode cX10_haggled 282 = .ok (.bipush 7, 2) := by decide +kernel
theorem dX10_haggled_284 : decode cX10_haggled 284 = .ok (.dup2, 1) := by decide +kernel
theorem dX10_haggled_285 : decode cX10_haggled 285 = .ok (.iaload, 1) := by decide +kernel
theorem dX10_haggled_286 : decode cX10_haggled 286 = .ok (.dup_x2, 1) := by decide +kernel
theorem dX10_haggled_287 : decode cX10_haggled 287 = .ok (.iconst 1, 1) := by decide +kernel
theorem dX10_haggled_288 : decode cX10_haggled 288 = .ok (.iadd, 1) := by decide +kernel
theorem dX10_haggled_289 : decode cX10_haggled 289 = .ok (.iastore, 1) := by decide +kernel
theorem dX10_haggled_290 : decode cX10_haggled 290 = .ok (.imul, 1) := by decide +kernel
theorem dX10_haggled_291 : decode cX10_haggled 291 = .ok (.istore 14, 2) := by decide +kernel
theorem dX10_haggled_293 : decode cX10_haggled 293 = .ok (.aload 4, 2) := by decide +kernel
theorem dX10_haggled_295 : decode cX10_haggled 295 = .ok (.iload 14, 2) := by decide +kernel
theorem dX10_haggled_297 : decode cX10_haggled 297 = .ok (.iload 6, 2) := by decide +kernel
theorem dX10_haggled_299 : decode cX10_haggled 299 = .ok (.iastore, 1) := by decide +kernel
theorem dX10_haggled_300 : decode cX10_haggled 300 = .ok (.aload 4, 2) := by decide +kernel
theorem dX10_haggled_302 : decode cX10_haggled 302 = .ok (.iload 14, 2) := by decide +kernel
theorem dX10_haggled_304 : decode cX10_haggled 304 = .ok (.iconst 1, 1) := by decide +kernel
theorem dX10_haggled_305 : decode cX10_haggled 305 = .ok (.iadd, 1) := by decide +kernel
theorem dX10_haggled_306 : decode cX10_haggled 306 = .ok (.iload 5, 2) := by decide +kernel
theorem dX10_haggled_308 : decode cX10_haggled 308 = .ok (.iastore, 1) := by decide +kernel
theorem dX10_haggled_309 : decode cX10_haggled 309 = .ok (.aload 4, 2) := by decide +kernel
theorem dX10_haggled_311 : decode cX10_haggled 311 = .ok (.iload 14, 2) := by decide +kernel
theorem dX10_haggled_313 : decode cX10_haggled 313 = .ok (.iconst 2, 1) := by decide +kernel
theorem dX10_haggled_314 : decode cX10_haggled 314 = .ok (.iadd, 1) := by decide +kernel
theorem dX10_haggled_315 : decode cX10_haggled 315 = .ok (.iload 7, 2) := by decide +kernel
theorem dX10_haggled_317 : decode cX10_haggled 317 = .ok (.iastore, 1) := by decide +kernel
theorem dX10_haggled_318 : decode cX10_haggled 318 = .ok (.aload 4, 2) := by decide +kernel
theorem dX10_haggled_320 : decode cX10_haggled 320 = .ok (.iload 14, 2) := by decide +kernel
theorem dX10_haggled_322 : decode cX10_haggled 322 = .ok (.iconst 3, 1) := by decide +kernel
theorem dX10_haggled_323 : decode cX10_haggled 323 = .ok (.iadd, 1) := by decide +kernel
theorem dX10_haggled_324 : decode cX10_haggled 324 = .ok (.iload 9, 2) := by decide +kernel
theorem dX10_haggled_326 : decode cX10_haggled 326 = .ok (.iastore, 1) := by decide +kernel
theorem dX10_haggled_327 : decode cX10_haggled 327 = .ok (.aload 4, 2) := by decide +kernel
theorem dX10_haggled_329 : decode cX10_haggled 329 = .ok (.iload 14, 2) := by decide +kernel
theorem dX10_haggled_331 : decode cX10_haggled 331 = .ok (.iconst 4, 1) := by decide +kernel
theorem dX10_haggled_332 : decode cX10_haggled 332 = .ok (.iadd, 1) := by decide +kernel
theorem dX10_haggled_333 : decode cX10_haggled 333 = .ok (.iload 13, 2) := by decide +kernel
theorem dX10_haggled_335 : decode cX10_haggled 335 = .ok (.iastore, 1) := by decide +kernel
theorem dX10_haggled_336 : decode cX10_haggled 336 = .ok (.aload_n 2, 1) := by decide +kernel
theorem dX10_haggled_337 : decode cX10_haggled 337 = .ok (.bipush 8, 2) := by decide +kernel
theorem dX10_haggled_339 : decode cX10_haggled 339 = .ok (.dup2, 1) := by decide +kernel
theorem dX10_haggled_340 : decode cX10_haggled 340 = .ok (.iaload, 1) := by decide +kernel
theorem dX10_haggled_341 : decode cX10_haggled 341 = .ok (.iconst 1, 1) := by decide +kernel
theorem dX10_haggled_342 : decode cX10_haggled 342 = .ok (.iadd, 1) := by decide +kernel
theorem dX10_haggled_343 : decode cX10_haggled 343 = .ok (.iastore, 1) := by decide +kernel
theorem dX10_haggled_344 : decode cX10_haggled 344 = .ok (.aload_n 3, 1) := by decide +kernel
theorem dX10_haggled_345 : decode cX10_haggled 345 = .ok (.bipush 16, 2) := by decide +kernel
theorem dX10_haggled_347 : decode cX10_haggled 347 = .ok (.iload 5, 2) := by decide +kernel
theorem dX10_haggled_349 : decode cX10_haggled 349 = .ok (.imul, 1) := by decide +kernel
theorem dX10_haggled_350 : decode cX10_haggled 350 = .ok (.iconst 2, 1) := by decide +kernel
theorem dX10_haggled_351 : decode cX10_haggled 351 = .ok (.iadd, 1) := by decide +kernel
theorem dX10_haggled_352 : decode cX10_haggled 352 = .ok (.dup2, 1) := by decide +kernel
theorem dX10_haggled_353 : decode cX10_haggled 353 = .ok (.iaload, 1) := by decide +kernel
theorem dX10_haggled_354 : decode cX10_haggled 354 = .ok (.iload 13, 2) := by decide +kernel
theorem dX10_haggled_356 : decode cX10_haggled 356 = .ok (.isub, 1) := by decide +kernel
theorem dX10_haggled_357 : decode cX10_haggled 357 = .ok (.iastore, 1) := by decide +kernel
theorem dX10_haggled_358 : decode cX10_haggled 358 = .ok (.aload_n 3, 1) := by decide +kernel
theorem dX10_haggled_359 : decode cX10_haggled 359 = .ok (.bipush 16, 2) := by decide +kernel
theorem dX10_haggled_361 : decode cX10_haggled 361 = .ok (.iload 5, 2) := by decide +kernel
theorem dX10_haggled_363 : decode cX10_haggled 363 = .ok (.imul, 1) := by decide +kernel
theorem dX10_haggled_364 : decode cX10_haggled 364 = .ok (.bipush 14, 2) := by decide +kernel
theorem dX10_haggled_366 : decode cX10_haggled 366 = .ok (.iadd, 1) := by decide +kernel
theorem dX10_haggled_367 : decode cX10_haggled 367 = .ok (.dup2, 1) := by decide +kernel
theorem dX10_haggled_368 : decode cX10_haggled 368 = .ok (.iaload, 1) := by decide +kernel
theorem dX10_haggled_369 : decode cX10_haggled 369 = .ok (.iload 13, 2) := by decide +kernel
theorem dX10_haggled_371 : decode cX10_haggled 371 = .ok (.iadd, 1) := by decide +kernel
theorem dX10_haggled_372 : decode cX10_haggled 372 = .ok (.iastore, 1) := by decide +kernel
theorem dX10_haggled_373 : decode cX10_haggled 373 = .ok (.aload_n 3, 1) := by decide +kernel
theorem dX10_haggled_374 : decode cX10_haggled 374 = .ok (.bipush 16, 2) := by decide +kernel
theorem dX10_haggled_376 : decode cX10_haggled 376 = .ok (.iload 6, 2) := by decide +kernel
theorem dX10_haggled_378 : decode cX10_haggled 378 = .ok (.imul, 1) := by decide +kernel
theorem dX10_haggled_379 : decode cX10_haggled 379 = .ok (.iconst 2, 1) := by decide +kernel
theorem dX10_haggled_380 : decode cX10_haggled 380 = .ok (.iadd, 1) := by decide +kernel
theorem dX10_haggled_381 : decode cX10_haggled 381 = .ok (.dup2, 1) := by decide +kernel
theorem dX10_haggled_382 : decode cX10_haggled 382 = .ok (.iaload, 1) := by decide +kernel
theorem dX10_haggled_383 : decode cX10_haggled 383 = .ok (.iload 13, 2) := by decide +kernel
theorem dX10_haggled_385 : decode cX10_haggled 385 = .ok (.iadd, 1) := by decide +kernel
theorem dX10_haggled_386 : decode cX10_haggled 386 = .ok (.iastore, 1) := by decide +kernel
theorem dX10_haggled_387 : decode cX10_haggled 387 = .ok (.aload_n 3, 1) := by decide +kernel
theorem dX10_haggled_388 : decode cX10_haggled 388 = .ok (.bipush 16, 2) := by decide +kernel
theorem dX10_haggled_390 : decode cX10_haggled 390 = .ok (.iload 6, 2) := by decide +kernel
theorem dX10_haggled_392 : decode cX10_haggled 392 = .ok (.imul, 1) := by decide +kernel
theorem dX10_haggled_393 : decode cX10_haggled 393 = .ok (.bipush 15, 2) := by decide +kernel
theorem dX10_haggled_395 : decode cX10_haggled 395 = .ok (.iadd, 1) := by decide +kernel
theorem dX10_haggled_396 : decode cX10_haggled 396 = .ok (.dup2, 1) := by decide +kernel
theorem dX10_haggled_397 : decode cX10_haggled 397 = .ok (.iaload, 1) := by decide +kernel
theorem dX10_haggled_398 : decode cX10_haggled 398 = .ok (.iload 13, 2) := by decide +kernel
theorem dX10_haggled_400 : decode cX10_haggled 400 = .ok (.iadd, 1) := by decide +kernel
theorem dX10_haggled_401 : decode cX10_haggled 401 = .ok (.iastore, 1) := by decide +kernel
theorem dX10_haggled_402 : decode cX10_haggled 402 = .ok (.iload 10, 2) := by decide +kernel
theorem dX10_haggled_404 : decode cX10_haggled 404 = .ok (.iload 13, 2) := by decide +kernel
theorem dX10_haggled_406 : decode cX10_haggled 406 = .ok (.if_icmp .ne 7, 3) := by decide +kernel
theorem dX10_haggled_409 : decode cX10_haggled 409 = .ok (.iconst 1, 1) := by decide +kernel
theorem dX10_haggled_410 : decode cX10_haggled 410 = .ok (.goto 4, 3) := by decide +kernel
theorem dX10_haggled_413 : decode cX10_haggled 413 = .ok (.iconst 0, 1) := by decide +kernel
theorem dX10_haggled_414 : decode cX10_haggled 414 = .ok (.ireturn, 1) := by decide +kernel
theorem dX10_program_0 : decode cX10_program 0 = .ok (.iconst 1, 1) := by decide +kernel
theorem dX10_program_1 : decode cX10_program 1 = .ok (.iload_n 2, 1) := by decide +kernel
theorem dX10_program_2 : decode cX10_program 2 = .ok (.iconst 4, 1) := by decide +kernel
theorem dX10_program_3 : decode cX10_program 3 = .ok (.invokestatic 57, 3) := by decide +kernel
theorem dX10_program_6 : decode cX10_program 6 = .ok (.iadd, 1) := by decide +kernel
theorem dX10_program_7 : decode cX10_program 7 = .ok (.istore 5, 2) := by decide +kernel
theorem dX10_program_9 : decode cX10_program 9 = .ok (.aload_n 0, 1) := by decide +kernel
theorem dX10_program_10 : decode cX10_program 10 = .ok (.invokevirtual 67, 3) := by decide +kernel
theorem dX10_program_13 : decode cX10_program 13 = .ok (.pop, 1) := by decide +kernel
theorem dX10_program_14 : decode cX10_program 14 = .ok (.iconst 0, 1) := by decide +kernel
theorem dX10_program_15 : decode cX10_program 15 = .ok (.istore 6, 2) := by decide +kernel
theorem dX10_program_17 : decode cX10_program 17 = .ok (.iload 6, 2) := by decide +kernel
theorem dX10_program_19 : decode cX10_program 19 = .ok (.iload 5, 2) := by decide +kernel
theorem dX10_program_21 : decode cX10_program 21 = .ok (.if_icmp .ge 227, 3) := by decide +kernel
theorem dX10_program_24 : decode cX10_program 24 = .ok (.iload_n 2, 1) := by decide +kernel
theorem dX10_program_25 : decode cX10_program 25 = .ok (.iconst 2, 1) := by decide +kernel
theorem dX10_program_26 : decode cX10_program 26 = .ok (.iconst 5, 1) := by decide +kernel
theorem dX10_program_27 : decode cX10_program 27 = .ok (.iload 6, 2) := by decide +kernel
theorem dX10_program_29 : decode cX10_program 29 = .ok (.imul, 1) := by decide +kernel
theorem dX10_program_30 : decode cX10_program 30 = .ok (.iadd, 1) := by decide +kernel
theorem dX10_program_31 : decode cX10_program 31 = .ok (.ishr, 1) := by decide +kernel
theorem dX10_program_32 : decode cX10_program 32 = .ok (.istore 7, 2) := by decide +kernel
theorem dX10_program_34 : decode cX10_program 34 = .ok (.iload 7, 2) := by decide +kernel
theorem dX10_program_36 : decode cX10_program 36 = .ok (.bipush 6, 2) := by decide +kernel
theorem dX10_program_38 : decode cX10_program 38 = .ok (.invokestatic 57, 3) := by decide +kernel
theorem dX10_program_41 : decode cX10_program 41 = .ok (.istore 8, 2) := by decide +kernel
theorem dX10_program_43 : decode cX10_program 43 = .ok (.iload 8, 2) := by decide +kernel
theorem dX10_program_45 : decode cX10_program 45 = .ok (.iconst 2, 1) := by decide +kernel
theorem dX10_program_46 : decode cX10_program 46 = .ok (.if_icmp .ge 8, 3) := by decide +kernel
theorem dX10_program_49 : decode cX10_program 49 = .ok (.bipush 102, 2) := by decide +kernel
theorem dX10_program_51 : decode cX10_program 51 = .ok (.goto 38, 3) := by decide +kernel
theorem dX10_program_54 : decode cX10_program 54 = .ok (.iload 8, 2) := by decide +kernel
theorem dX10_program_56 : decode cX10_program 56 = .ok (.iconst 2, 1) := by decide +kernel
theorem dX10_program_57 : decode cX10_program 57 = .ok (.if_icmp .ne 8, 3) := by decide +kernel
theorem dX10_program_60 : decode cX10_program 60 = .ok (.bipush 104, 2) := by decide +kernel
theorem dX10_program_62 : decode cX10_program 62 = .ok (.goto 27, 3) := by decide +kernel
theorem dX10_program_65 : decode cX10_program 65 = .ok (.iload 8, 2) := by decide +kernel
theorem dX10_program_67 : decode cX10_program 67 = .ok (.iconst 3, 1) := by decide +kernel
theorem dX10_program_68 : decode cX10_program 68 = .ok (.if_icmp .ne 8, 3) := by decide +kernel
theorem dX10_program_71 : decode cX10_program 71 = .ok (.bipush 119, 2) := by decide +kernel
theorem dX10_program_73 : decode cX10_program 73 = .ok (.goto 16, 3) := by decide +kernel
theorem dX10_program_76 : decode cX10_program 76 = .ok (.iload 8, 2) := by decide +kernel
theorem dX10_program_78 : decode cX10_program 78 = .ok (.iconst 4, 1) := by decide +kernel
theorem dX10_program_79 : decode cX10_program 79 = .ok (.if_icmp .ne 8, 3) := by decide +kernel
theorem dX10_program_82 : decode cX10_program 82 = .ok (.bipush 100, 2) := by decide +kernel
theorem dX10_program_84 : decode cX10_program 84 = .ok (.goto 5, 3) := by decide +kernel
theorem dX10_program_87 : decode cX10_program 87 = .ok (.bipush 115, 2) := by decide +kernel
theorem dX10_program_89 : decode cX10_program 89 = .ok (.istore 9, 2) := by decide +kernel
theorem dX10_program_91 : decode cX10_program 91 = .ok (.iload 9, 2) := by decide +kernel
theorem dX10_program_93 : decode cX10_program 93 = .ok (.bipush 100, 2) := by decide +kernel
theorem dX10_program_95 : decode cX10_program 95 = .ok (.if_icmp .ne 7, 3) := by decide +kernel
theorem dX10_program_98 : decode cX10_program 98 = .ok (.iconst 0, 1) := by decide +kernel
theorem dX10_program_99 : decode cX10_program 99 = .ok (.goto 36, 3) := by decide +kernel
theorem dX10_program_102 : decode cX10_program 102 = .ok (.iload 9, 2) := by decide +kernel
theorem dX10_program_104 : decode cX10_program 104 = .ok (.bipush 104, 2) := by decide +kernel
theorem dX10_program_106 : decode cX10_program 106 = .ok (.if_icmp .ne 18, 3) := by decide +kernel
theorem dX10_program_109 : decode cX10_program 109 = .ok (.bipush 16, 2) := by decide +kernel
theorem dX10_program_111 : decode cX10_program 111 = .ok (.iload 7, 2) := by decide +kernel
theorem dX10_program_113 : decode cX10_program 113 = .ok (.iconst 2, 1) := by decide +kernel
theorem dX10_program_114 : decode cX10_program 114 = .ok (.ishr, 1) := by decide +kernel
theorem dX10_program_115 : decode cX10_program 115 = .ok (.bipush 60, 2) := by decide +kernel
theorem dX10_program_117 : decode cX10_program 117 = .ok (.invokestatic 57, 3) := by decide +kernel
theorem dX10_program_120 : decode cX10_program 120 = .ok (.iadd, 1) := by decide +kernel
theorem dX10_program_121 : decode cX10_program 121 = .ok (.goto 14, 3) := by decide +kernel
theorem dX10_program_124 : decode cX10_program 124 = .ok (.iconst 1, 1) := by decide +kernel
theorem dX10_program_125 : decode cX10_program 125 = .ok (.iload 7, 2) := by decide +kernel
theorem dX10_program_127 : decode cX10_program 127 = .ok (.iconst 2, 1) := by decide +kernel
theorem dX10_program_128 : decode cX10_program 128 = .ok (.ishr, 1) := by decide +kernel
theorem dX10_program_129 : decode cX10_program 129 = .ok (.bipush 20, 2) := by decide +kernel
theorem dX10_program_131 : decode cX10_program 131 = .ok (.invokestatic 57, 3) := by decide +kernel
theorem dX10_program_134 : decode cX10_program 134 = .ok (.iadd, 1) := by decide +kernel
theorem dX10_program_135 : decode cX10_program 135 = .ok (.istore 10, 2) := by decide +kernel
theorem dX10_program_137 : decode cX10_program 137 = .ok (.iload 6, 2) := by decide +kernel
theorem dX10_program_139 : decode cX10_program 139 = .ok (.ifCond .le 13, 3) := by decide +kernel
theorem dX10_program_142 : decode cX10_program 142 = .ok (.aload_n 0, 1) := by decide +kernel
theorem dX10_program_143 : decode cX10_program 143 = .ok (.bipush 59, 2) := by decide +kernel
theorem dX10_program_145 : decode cX10_program 145 = .ok (.invokevirtual 71, 3) := by decide +kernel
theorem dX10_program_148 : decode cX10_program 148 = .ok (.iconst 1, 1) := by decide +kernel
theorem dX10_program_149 : decode cX10_program 149 = .ok (.if_icmp .lt 60, 3) := by decide +kernel
theorem dX10_program_152 : decode cX10_program 152 = .ok (.aload_n 0, 1) := by decide +kernel
theorem dX10_program_153 : decode cX10_program 153 = .ok (.iload 9, 2) := by decide +kernel
theorem dX10_program_155 : decode cX10_program 155 = .ok (.i2c, 1) := by decide +kernel
theorem dX10_program_156 : decode cX10_program 156 = .ok (.invokevirtual 71, 3) := by decide +kernel
theorem dX10_program_159 : decode cX10_program 159 = .ok (.iconst 1, 1) := by decide +kernel
theorem dX10_program_160 : decode cX10_program 160 = .ok (.if_icmp .lt 49, 3) := by decide +kernel
theorem dX10_program_163 : decode cX10_program 163 = .ok (.iload 10, 2) := by decide +kernel
theorem dX10_program_165 : decode cX10_program 165 = .ok (.bipush 10, 2) := by decide +kernel
theorem dX10_program_167 : decode cX10_program 167 = .ok (.if_icmp .lt 20, 3) := by decide +kernel
theorem dX10_program_170 : decode cX10_program 170 = .ok (.aload_n 0, 1) := by decide +kernel
theorem dX10_program_171 : decode cX10_program 171 = .ok (.bipush 48, 2) := by decide +kernel
theorem dX10_program_173 : decode cX10_program 173 = .ok (.iload 10, 2) := by decide +kernel
theorem dX10_program_175 : decode cX10_program 175 = .ok (.bipush 10, 2) := by decide +kernel
theorem dX10_program_177 : decode cX10_program 177 = .ok (.idiv, 1) := by decide +kernel
theorem dX10_program_178 : decode cX10_program 178 = .ok (.iadd, 1) := by decide +kernel
theorem dX10_program_179 : decode cX10_program 179 = .ok (.i2c, 1) := by decide +kernel
theorem dX10_program_180 : decode cX10_program 180 = .ok (.invokevirtual 71, 3) := by decide +kernel
theorem dX10_program_183 : decode cX10_program 183 = .ok (.iconst 1, 1) := by decide +kernel
theorem dX10_program_184 : decode cX10_program 184 = .ok (.if_icmp .lt 25, 3) := by decide +kernel
theorem dX10_program_187 : decode cX10_program 187 = .ok (.iload 10, 2) := by decide +kernel
theorem dX10_program_189 : decode cX10_program 189 = .ok (.ifCond .le 22, 3) := by decide +kernel
theorem dX10_program_192 : decode cX10_program 192 = .ok (.aload_n 0, 1) := by decide +kernel
theorem dX10_program_193 : decode cX10_program 193 = .ok (.bipush 48, 2) := by decide +kernel
theorem dX10_program_195 : decode cX10_program 195 = .ok (.iload 10, 2) := by decide +kernel
theorem dX10_program_197 : decode cX10_program 197 = .ok (.bipush 10, 2) := by decide +kernel
theorem dX10_program_199 : decode cX10_program 199 = .ok (.irem, 1) := by decide +kernel
theorem dX10_program_200 : decode cX10_program 200 = .ok (.iadd, 1) := by decide +kernel
theorem dX10_program_201 : decode cX10_program 201 = .ok (.i2c, 1) := by decide +kernel
theorem dX10_program_202 : decode cX10_program 202 = .ok (.invokevirtual 71, 3) := by decide +kernel
theorem dX10_program_205 : decode cX10_program 205 = .ok (.iconst 1, 1) := by decide +kernel
theorem dX10_program_206 : decode cX10_program 206 = .ok (.if_icmp .ge 5, 3) := by decide +kernel
theorem dX10_program_209 : decode cX10_program 209 = .ok (.iconst 0, 1) := by decide +kernel
theorem dX10_program_210 : decode cX10_program 210 = .ok (.ireturn, 1) := by decide +kernel
theorem dX10_program_211 : decode cX10_program 211 = .ok (.aload_n 3, 1) := by decide +kernel
theorem dX10_program_212 : decode cX10_program 212 = .ok (.bipush 16, 2) := by decide +kernel
theorem dX10_program_214 : decode cX10_program 214 = .ok (.iload_n 1, 1) := by decide +kernel
theorem dX10_program_215 : decode cX10_program 215 = .ok (.imul, 1) := by decide +kernel
theorem dX10_program_216 : decode cX10_program 216 = .ok (.iconst 5, 1) := by decide +kernel
theorem dX10_program_217 : decode cX10_program 217 = .ok (.iadd, 1) := by decide +kernel
theorem dX10_program_218 : decode cX10_program 218 = .ok (.iaload, 1) := by decide +kernel
theorem dX10_program_219 : decode cX10_program 219 = .ok (.iconst 1, 1) := by decide +kernel
theorem dX10_program_220 : decode cX10_program 220 = .ok (.if_icmp .eq 22, 3) := by decide +kernel
theorem dX10_program_223 : decode cX10_program 223 = .ok (.aload 4, 2) := by decide +kernel
theorem dX10_program_225 : decode cX10_program 225 = .ok (.bipush 8, 2) := by decide +kernel
theorem dX10_program_227 : decode cX10_program 227 = .ok (.iload_n 1, 1) := by decide +kernel
theorem dX10_program_228 : decode cX10_program 228 = .ok (.imul, 1) := by decide +kernel
theorem dX10_program_229 : decode cX10_program 229 = .ok (.iload 6, 2) := by decide +kernel
theorem dX10_program_231 : decode cX10_program 231 = .ok (.iadd, 1) := by decide +kernel
theorem dX10_program_232 : decode cX10_program 232 = .ok (.sipush 1000, 3) := by decide +kernel
theorem dX10_program_235 : decode cX10_program 235 = .ok (.iload 10, 2) := by decide +kernel
theorem dX10_program_237 : decode cX10_program 237 = .ok (.imul, 1) := by decide +kernel
theorem dX10_program_238 : decode cX10_program 238 = .ok (.iload 9, 2) := by decide +kernel
theorem dX10_program_240 : decode cX10_program 240 = .ok (.iadd, 1) := by decide +kernel
theorem dX10_program_241 : decode cX10_program 241 = .ok (.iastore, 1) := by decide +kernel
theorem dX10_program_242 : decode cX10_program 242 = .ok (.iinc 6 1, 3) := by decide +kernel
theorem dX10_program_245 : decode cX10_program 245 = .ok (.goto (-228), 3) := by decide +kernel
theorem dX10_program_248 : decode cX10_program 248 = .ok (.aload_n 3, 1) := by decide +kernel
theorem dX10_program_249 : decode cX10_program 249 = .ok (.bipush 16, 2) := by decide +kernel
theorem dX10_program_251 : decode cX10_program 251 = .ok (.iload_n 1, 1) := by decide +kernel
theorem dX10_program_252 : decode cX10_program 252 = .ok (.imul, 1) := by decide +kernel
theorem dX10_program_253 : decode cX10_program 253 = .ok (.iconst 5, 1) := by decide +kernel
theorem dX10_program_254 : decode cX10_program 254 = .ok (.iadd, 1) := by decide +kernel
theorem dX10_program_255 : decode cX10_program 255 = .ok (.iaload, 1) := by decide +kernel
theorem dX10_program_256 : decode cX10_program 256 = .ok (.iconst 1, 1) := by decide +kernel
theorem dX10_program_257 : decode cX10_program 257 = .ok (.if_icmp .ne 19, 3) := by decide +kernel
theorem dX10_program_260 : decode cX10_program 260 = .ok (.aload_n 0, 1) := by decide +kernel
theorem dX10_program_261 : decode cX10_program 261 = .ok (.iload_n 1, 1) := by decide +kernel
theorem dX10_program_262 : decode cX10_program 262 = .ok (.invokevirtual 75, 3) := by decide +kernel
theorem dX10_program_265 : decode cX10_program 265 = .ok (.bipush (-4), 2) := by decide +kernel
theorem dX10_program_267 : decode cX10_program 267 = .ok (.if_icmp .ne 7, 3) := by decide +kernel
theorem dX10_program_270 : decode cX10_program 270 = .ok (.iconst 1, 1) := by decide +kernel
theorem dX10_program_271 : decode cX10_program 271 = .ok (.goto 4, 3) := by decide +kernel
theorem dX10_program_274 : decode cX10_program 274 = .ok (.iconst 0, 1) := by decide +kernel
theorem dX10_program_275 : decode cX10_program 275 = .ok (.ireturn, 1) := by decide +kernel
theorem dX10_program_276 : decode cX10_program 276 = .ok (.aload_n 3, 1) := by decide +kernel
theorem dX10_program_277 : decode cX10_program 277 = .ok (.bipush 16, 2) := by decide +kernel
theorem dX10_program_279 : decode cX10_program 279 = .ok (.iload_n 1, 1) := by decide +kernel
theorem dX10_program_280 : decode cX10_program 280 = .ok (.imul, 1) := by decide +kernel
theorem dX10_program_281 : decode cX10_program 281 = .ok (.bipush 11, 2) := by decide +kernel
theorem dX10_program_283 : decode cX10_program 283 = .ok (.iadd, 1) := by decide +kernel
theorem dX10_program_284 : decode cX10_program 284 = .ok (.iload 5, 2) := by decide +kernel
theorem dX10_program_286 : decode cX10_program 286 = .ok (.iastore, 1) := by decide +kernel
theorem dX10_program_287 : decode cX10_program 287 = .ok (.aload_n 0, 1) := by decide +kernel
theorem dX10_program_288 : decode cX10_program 288 = .ok (.iload_n 1, 1) := by decide +kernel
theorem dX10_program_289 : decode cX10_program 289 = .ok (.invokevirtual 75, 3) := by decide +kernel
theorem dX10_program_292 : decode cX10_program 292 = .ok (.iload 5, 2) := by decide +kernel
theorem dX10_program_294 : decode cX10_program 294 = .ok (.if_icmp .ne 7, 3) := by decide +kernel
theorem dX10_program_297 : decode cX10_program 297 = .ok (.iconst 1, 1) := by decide +kernel
theorem dX10_program_298 : decode cX10_program 298 = .ok (.goto 4, 3) := by decide +kernel
theorem dX10_program_301 : decode cX10_program 301 = .ok (.iconst 0, 1) := by decide +kernel
theorem dX10_program_302 : decode cX10_program 302 = .ok (.ireturn, 1) := by decide +kernel
theorem dX10_law_0 : decode cX10_law 0 = .ok (.new 39, 3) := by decide +kernel
theorem dX10_law_3 : decode cX10_law 3 = .ok (.dup, 1) := by decide +kernel
theorem dX10_law_4 : decode cX10_law 4 = .ok (.invokespecial 78, 3) := by decide +kernel
theorem dX10_law_7 : decode cX10_law 7 = .ok (.astore_n 1, 1) := by decide +kernel
theorem dX10_law_8 : decode cX10_law 8 = .ok (.bipush 16, 2) := by decide +kernel
theorem dX10_law_10 : decode cX10_law 10 = .ok (.newarray .int, 2) := by decide +kernel
theorem dX10_law_12 : decode cX10_law 12 = .ok (.astore_n 2, 1) := by decide +kernel
theorem dX10_law_13 : decode cX10_law 13 = .ok (.bipush 48, 2) := by decide +kernel
theorem dX10_law_15 : decode cX10_law 15 = .ok (.newarray .int, 2) := by decide +kernel
theorem dX10_law_17 : decode cX10_law 17 = .ok (.astore_n 3, 1) := by decide +kernel
theorem dX10_law_18 : decode cX10_law 18 = .ok (.bipush 32, 2) := by decide +kernel
theorem dX10_law_20 : decode cX10_law 20 = .ok (.newarray .int, 2) := by decide +kernel
theorem dX10_law_22 : decode cX10_law 22 = .ok (.astore 4, 2) := by decide +kernel
theorem dX10_law_24 : decode cX10_law 24 = .ok (.bipush 20, 2) := by decide +kernel
theorem dX10_law_26 : decode cX10_law 26 = .ok (.newarray .int, 2) := by decide +kernel
theorem dX10_law_28 : decode cX10_law 28 = .ok (.astore 5, 2) := by decide +kernel
theorem dX10_law_30 : decode cX10_law 30 = .ok (.iconst 4, 1) := by decide +kernel
theorem dX10_law_31 : decode cX10_law 31 = .ok (.newarray .int, 2) := by decide +kernel
theorem dX10_law_33 : decode cX10_law 33 = .ok (.astore 6, 2) := by decide +kernel
theorem dX10_law_35 : decode cX10_law 35 = .ok (.aload_n 2, 1) := by decide +kernel
theorem dX10_law_36 : decode cX10_law 36 = .ok (.iconst 1, 1) := by decide +kernel
theorem dX10_law_37 : decode cX10_law 37 = .ok (.iconst 1, 1) := by decide +kernel
theorem dX10_law_38 : decode cX10_law 38 = .ok (.iastore, 1) := by decide +kernel
theorem dX10_law_39 : decode cX10_law 39 = .ok (.aload_n 2, 1) := by decide +kernel
theorem dX10_law_40 : decode cX10_law 40 = .ok (.iconst 2, 1) := by decide +kernel
theorem dX10_law_41 : decode cX10_law 41 = .ok (.sipush 20000, 3) := by decide +kernel
theorem dX10_law_44 : decode cX10_law 44 = .ok (.iastore, 1) := by decide +kernel
theorem dX10_law_45 : decode cX10_law 45 = .ok (.aload_n 2, 1) := by decide +kernel
theorem dX10_law_46 : decode cX10_law 46 = .ok (.iconst 3, 1) := by decide +kernel
theorem dX10_law_47 : decode cX10_law 47 = .ok (.aload_n 0, 1) := by decide +kernel
theorem dX10_law_48 : decode cX10_law 48 = .ok (.iconst 0, 1) := by decide +kernel
theorem dX10_law_49 : decode cX10_law 49 = .ok (.invokestatic 79, 3) := by decide +kernel
theorem dX10_law_52 : decode cX10_law 52 = .ok (.sipush 300, 3) := by decide +kernel
theorem dX10_law_55 : decode cX10_law 55 = .ok (.invokestatic 57, 3) := by decide +kernel
theorem dX10_law_58 : decode cX10_law 58 = .ok (.iastore, 1) := by decide +kernel
theorem dX10_law_59 : decode cX10_law 59 = .ok (.aload_n 2, 1) := by decide +kernel
theorem dX10_law_60 : decode cX10_law 60 = .ok (.iconst 4, 1) := by decide +kernel
theorem dX10_law_61 : decode cX10_law 61 = .ok (.bipush 10, 2) := by decide +kernel
theorem dX10_law_63 : decode cX10_law 63 = .ok (.aload_n 0, 1) := by decide +kernel
theorem dX10_law_64 : decode cX10_law 64 = .ok (.iconst 0, 1) := by decide +kernel
theorem dX10_law_65 : decode cX10_law 65 = .ok (.invokestatic 79, 3) := by decide +kernel
theorem dX10_law_68 : decode cX10_law 68 = .ok (.bipush 9, 2) := by decide +kernel
theorem dX10_law_70 : decode cX10_law 70 = .ok (.ishr, 1) := by decide +kernel
theorem dX10_law_71 : decode cX10_law 71 = .ok (.sipush 500, 3) := by decide +kernel
theorem dX10_law_74 : decode cX10_law 74 = .ok (.invokestatic 57, 3) := by decide +kernel
theorem dX10_law_77 : decode cX10_law 77 = .ok (.iadd, 1) := by decide +kernel
theorem dX10_law_78 : decode cX10_law 78 = .ok (.iastore, 1) := by decide +kernel
theorem dX10_law_79 : decode cX10_law 79 = .ok (.aload_n 2, 1) := by decide +kernel
theorem dX10_law_80 : decode cX10_law 80 = .ok (.iconst 5, 1) := by decide +kernel
theorem dX10_law_81 : decode cX10_law 81 = .ok (.bipush 40, 2) := by decide +kernel
theorem dX10_law_83 : decode cX10_law 83 = .ok (.iastore, 1) := by decide +kernel
theorem dX10_law_84 : decode cX10_law 84 = .ok (.aload_n 2, 1) := by decide +kernel
theorem dX10_law_85 : decode cX10_law 85 = .ok (.bipush 6, 2) := by decide +kernel
theorem dX10_law_87 : decode cX10_law 87 = .ok (.sipush 10000, 3) := by decide +kernel
theorem dX10_law_90 : decode cX10_law 90 = .ok (.iastore, 1) := by decide +kernel
theorem dX10_law_91 : decode cX10_law 91 = .ok (.aload_n 2, 1) := by decide +kernel
theorem dX10_law_92 : decode cX10_law 92 = .ok (.iconst 3, 1) := by decide +kernel
theorem dX10_law_93 : decode cX10_law 93 = .ok (.iaload, 1) := by decide +kernel
theorem dX10_law_94 : decode cX10_law 94 = .ok (.sipush 200, 3) := by decide +kernel
theorem dX10_law_97 : decode cX10_law 97 = .ok (.if_icmp .eq 17, 3) := by decide +kernel
theorem dX10_law_100 : decode cX10_law 100 = .ok (.aload_n 1, 1) := by decide +kernel
theorem dX10_law_101 : decode cX10_law 101 = .ok (.iconst 1, 1) := by decide +kernel
theorem dX10_law_102 : decode cX10_law 102 = .ok (.aload_n 2, 1) := by decide +kernel
theorem dX10_law_103 : decode cX10_law 103 = .ok (.iconst 3, 1) := by decide +kernel
theorem dX10_law_104 : decode cX10_law 104 = .ok (.iaload, 1) := by decide +kernel
theorem dX10_law_105 : decode cX10_law 105 = .ok (.invokevirtual 83, 3) := by decide +kernel
theorem dX10_law_108 : decode cX10_law 108 = .ok (.sipush 200, 3) := by decide +kernel
theorem dX10_law_111 : decode cX10_law 111 = .ok (.if_icmp .ne 26, 3) := by decide +kernel
theorem dX10_law_114 : decode cX10_law 114 = .ok (.aload_n 2, 1) := by decide +kernel
theorem dX10_law_115 : decode cX10_law 115 = .ok (.iconst 4, 1) := by decide +kernel
theorem dX10_law_116 : decode cX10_law 116 = .ok (.iaload, 1) := by decide +kernel
theorem dX10_law_117 : decode cX10_law 117 = .ok (.sipush 300, 3) := by decide +kernel
theorem dX10_law_120 : decode cX10_law 120 = .ok (.if_icmp .eq 19, 3) := by decide +kernel
theorem dX10_law_123 : decode cX10_law 123 = .ok (.aload_n 1, 1) := by decide +kernel
theorem dX10_law_124 : decode cX10_law 124 = .ok (.iconst 2, 1) := by decide +kernel
theorem dX10_law_125 : decode cX10_law 125 = .ok (.aload_n 2, 1) := by decide +kernel
theorem dX10_law_126 : decode cX10_law 126 = .ok (.iconst 4, 1) := by decide +kernel
theorem dX10_law_127 : decode cX10_law 127 = .ok (.iaload, 1) := by decide +kernel
theorem dX10_law_128 : decode cX10_law 128 = .ok (.invokevirtual 83, 3) := by decide +kernel
theorem dX10_law_131 : decode cX10_law 131 = .ok (.sipush 300, 3) := by decide +kernel
theorem dX10_law_134 : decode cX10_law 134 = .ok (.if_icmp .eq 5, 3) := by decide +kernel
theorem dX10_law_137 : decode cX10_law 137 = .ok (.iconst 0, 1) := by decide +kernel
theorem dX10_law_138 : decode cX10_law 138 = .ok (.ireturn, 1) := by decide +kernel
theorem dX10_law_139 : decode cX10_law 139 = .ok (.iconst 0, 1) := by decide +kernel
theorem dX10_law_140 : decode cX10_law 140 = .ok (.istore 7, 2) := by decide +kernel
theorem dX10_law_142 : decode cX10_law 142 = .ok (.iload 7, 2) := by decide +kernel
theorem dX10_law_144 : decode cX10_law 144 = .ok (.iconst 3, 1) := by decide +kernel
theorem dX10_law_145 : decode cX10_law 145 = .ok (.if_icmp .ge 142, 3) := by decide +kernel
theorem dX10_law_148 : decode cX10_law 148 = .ok (.aload_n 0, 1) := by decide +kernel
theorem dX10_law_149 : decode cX10_law 149 = .ok (.iconst 1, 1) := by decide +kernel
theorem dX10_law_150 : decode cX10_law 150 = .ok (.iload 7, 2) := by decide +kernel
theorem dX10_law_152 : decode cX10_law 152 = .ok (.iadd, 1) := by decide +kernel
theorem dX10_law_153 : decode cX10_law 153 = .ok (.invokestatic 79, 3) := by decide +kernel
theorem dX10_law_156 : decode cX10_law 156 = .ok (.istore 8, 2) := by decide +kernel
theorem dX10_law_158 : decode cX10_law 158 = .ok (.aload_n 3, 1) := by decide +kernel
theorem dX10_law_159 : decode cX10_law 159 = .ok (.bipush 16, 2) := by decide +kernel
theorem dX10_law_161 : decode cX10_law 161 = .ok (.iload 7, 2) := by decide +kernel
theorem dX10_law_163 : decode cX10_law 163 = .ok (.imul, 1) := by decide +kernel
theorem dX10_law_164 : decode cX10_law 164 = .ok (.iconst 1, 1) := by decide +kernel
theorem dX10_law_165 : decode cX10_law 165 = .ok (.iload 8, 2) := by decide +kernel
theorem dX10_law_167 : decode cX10_law 167 = .ok (.bipush 20, 2) := by decide +kernel
theorem dX10_law_169 : decode cX10_law 169 = .ok (.invokestatic 57, 3) := by decide +kernel
theorem dX10_law_172 : decode cX10_law 172 = .ok (.iadd, 1) := by decide +kernel
theorem dX10_law_173 : decode cX10_law 173 = .ok (.iastore, 1) := by decide +kernel
theorem dX10_law_174 : decode cX10_law 174 = .ok (.aload_n 3, 1) := by decide +kernel
theorem dX10_law_175 : decode cX10_law 175 = .ok (.bipush 16, 2) := by decide +kernel
theorem dX10_law_177 : decode cX10_law 177 = .ok (.iload 7, 2) := by decide +kernel
theorem dX10_law_179 : decode cX10_law 179 = .ok (.imul, 1) := by decide +kernel
theorem dX10_law_180 : decode cX10_law 180 = .ok (.iconst 1, 1) := by decide +kernel
theorem dX10_law_181 : decode cX10_law 181 = .ok (.iadd, 1) := by decide +kernel
theorem dX10_law_182 : decode cX10_law 182 = .ok (.iconst 1, 1) := by decide +kernel
theorem dX10_law_183 : decode cX10_law 183 = .ok (.iload 8, 2) := by decide +kernel
theorem dX10_law_185 : decode cX10_law 185 = .ok (.iconst 5, 1) := by decide +kernel
theorem dX10_law_186 : decode cX10_law 186 = .ok (.ishr, 1) := by decide +kernel
theorem dX10_law_187 : decode cX10_law 187 = .ok (.bipush 50, 2) := by decide +kernel
theorem dX10_law_189 : decode cX10_law 189 = .ok (.invokestatic 57, 3) := by decide +kernel
theorem dX10_law_192 : decode cX10_law 192 = .ok (.iadd, 1) := by decide +kernel
theorem dX10_law_193 : decode cX10_law 193 = .ok (.iastore, 1) := by decide +kernel
theorem dX10_law_194 : decode cX10_law 194 = .ok (.aload_n 3, 1) := by decide +kernel
theorem dX10_law_195 : decode cX10_law 195 = .ok (.bipush 16, 2) := by decide +kernel
theorem dX10_law_197 : decode cX10_law 197 = .ok (.iload 7, 2) := by decide +kernel
theorem dX10_law_199 : decode cX10_law 199 = .ok (.imul, 1) := by decide +kernel
theorem dX10_law_200 : decode cX10_law 200 = .ok (.iconst 2, 1) := by decide +kernel
theorem dX10_law_201 : decode cX10_law 201 = .ok (.iadd, 1) := by decide +kernel
theorem dX10_law_202 : decode cX10_law 202 = .ok (.iload 8, 2) := by decide +kernel
theorem dX10_law_204 : decode cX10_law 204 = .ok (.bipush 11, 2) := by decide +kernel
theorem dX10_law_206 : decode cX10_law 206 = .ok (.ishr, 1) := by decide +kernel
theorem dX10_law_207 : decode cX10_law 207 = .ok (.sipush 400, 3) := by decide +kernel
theorem dX10_law_210 : decode cX10_law 210 = .ok (.invokestatic 57, 3) := by decide +kernel
theorem dX10_law_213 : decode cX10_law 213 = .ok (.iastore, 1) := by decide +kernel
theorem dX10_law_214 : decode cX10_law 214 = .ok (.aload_n 3, 1) := by decide +kernel
theorem dX10_law_215 : decode cX10_law 215 = .ok (.bipush 16, 2) := by decide +kernel
theorem dX10_law_217 : decode cX10_law 217 = .ok (.iload 7, 2) := by decide +kernel
theorem dX10_law_219 : decode cX10_law 219 = .ok (.imul, 1) := by decide +kernel
theorem dX10_law_220 : decode cX10_law 220 = .ok (.bipush 9, 2) := by decide +kernel
theorem dX10_law_222 : decode cX10_law 222 = .ok (.iadd, 1) := by decide +kernel
theorem dX10_law_223 : decode cX10_law 223 = .ok (.iconst 1, 1) := by decide +kernel
theorem dX10_law_224 : decode cX10_law 224 = .ok (.iastore, 1) := by decide +kernel
theorem dX10_law_225 : decode cX10_law 225 = .ok (.aload_n 1, 1) := by decide +kernel
theorem dX10_law_226 : decode cX10_law 226 = .ok (.aload_n 3, 1) := by decide +kernel
theorem dX10_law_227 : decode cX10_law 227 = .ok (.bipush 16, 2) := by decide +kernel
theorem dX10_law_229 : decode cX10_law 229 = .ok (.iload 7, 2) := by decide +kernel
theorem dX10_law_231 : decode cX10_law 231 = .ok (.imul, 1) := by decide +kernel
theorem dX10_law_232 : decode cX10_law 232 = .ok (.iaload, 1) := by decide +kernel
theorem dX10_law_233 : decode cX10_law 233 = .ok (.aload_n 3, 1) := by decide +kernel
theorem dX10_law_234 : decode cX10_law 234 = .ok (.bipush 16, 2) := by decide +kernel
theorem dX10_law_236 : decode cX10_law 236 = .ok (.iload 7, 2) := by decide +kernel
theorem dX10_law_238 : decode cX10_law 238 = .ok (.imul, 1) := by decide +kernel
theorem dX10_law_239 : decode cX10_law 239 = .ok (.iconst 1, 1) := by decide +kernel
theorem dX10_law_240 : decode cX10_law 240 = .ok (.iadd, 1) := by decide +kernel
theorem dX10_law_241 : decode cX10_law 241 = .ok (.iaload, 1) := by decide +kernel
theorem dX10_law_242 : decode cX10_law 242 = .ok (.aload_n 3, 1) := by decide +kernel
theorem dX10_law_243 : decode cX10_law 243 = .ok (.bipush 16, 2) := by decide +kernel
theorem dX10_law_245 : decode cX10_law 245 = .ok (.iload 7, 2) := by decide +kernel
theorem dX10_law_247 : decode cX10_law 247 = .ok (.imul, 1) := by decide +kernel
theorem dX10_law_248 : decode cX10_law 248 = .ok (.iconst 2, 1) := by decide +kernel
theorem dX10_law_249 : decode cX10_law 249 = .ok (.iadd, 1) := by decide +kernel
theorem dX10_law_250 : decode cX10_law 250 = .ok (.iaload, 1) := by decide +kernel
theorem dX10_law_251 : decode cX10_law 251 = .ok (.invokevirtual 86, 3) := by decide +kernel
theorem dX10_law_254 : decode cX10_law 254 = .ok (.iload 7, 2) := by decide +kernel
theorem dX10_law_256 : decode cX10_law 256 = .ok (.if_icmp .ne 23, 3) := by decide +kernel
theorem dX10_law_259 : decode cX10_law 259 = .ok (.aload_n 1, 1) := by decide +kernel
theorem dX10_law_260 : decode cX10_law 260 = .ok (.iload 7, 2) := by decide +kernel
theorem dX10_law_262 : decode cX10_law 262 = .ok (.aload_n 0, 1) := by decide +kernel
theorem dX10_law_263 : decode cX10_law 263 = .ok (.iconst 4, 1) := by decide +kernel
theorem dX10_law_264 : decode cX10_law 264 = .ok (.iload 7, 2) := by decide +kernel
theorem dX10_law_266 : decode cX10_law 266 = .ok (.iadd, 1) := by decide +kernel
theorem dX10_law_267 : decode cX10_law 267 = .ok (.invokestatic 79, 3) := by decide +kernel
theorem dX10_law_270 : decode cX10_law 270 = .ok (.aload_n 3, 1) := by decide +kernel
theorem dX10_law_271 : decode cX10_law 271 = .ok (.aload 4, 2) := by decide +kernel
theorem dX10_law_273 : decode cX10_law 273 = .ok (.invokestatic 90, 3) := by decide +kernel
theorem dX10_law_276 : decode cX10_law 276 = .ok (.ifCond .ne 5, 3) := by decide +kernel
theorem dX10_law_279 : decode cX10_law 279 = .ok (.iconst 0, 1) := by decide +kernel
theorem dX10_law_280 : decode cX10_law 280 = .ok (.ireturn, 1) := by decide +kernel
theorem dX10_law_281 : decode cX10_law 281 = .ok (.iinc 7 1, 3) := by decide +kernel
theorem dX10_law_284 : decode cX10_law 284 = .ok (.goto (-142), 3) := by decide +kernel
theorem dX10_law_287 : decode cX10_law 287 = .ok (.iconst 0, 1) := by decide +kernel
theorem dX10_law_288 : decode cX10_law 288 = .ok (.istore 7, 2) := by decide +kernel
theorem dX10_law_290 : decode cX10_law 290 = .ok (.iload 7, 2) := by decide +kernel
theorem dX10_law_292 : decode cX10_law 292 = .ok (.bipush 16, 2) := by decide +kernel
theorem dX10_law_294 : decode cX10_law 294 = .ok (.if_icmp .ge 697, 3) := by decide +kernel
theorem dX10_law_297 : decode cX10_law 297 = .ok (.aload_n 0, 1) := by decide +kernel
theorem dX10_law_298 : decode cX10_law 298 = .ok (.bipush 7, 2) := by decide +kernel
theorem dX10_law_300 : decode cX10_law 300 = .ok (.iload 7, 2) := by decide +kernel
theorem dX10_law_302 : decode cX10_law 302 = .ok (.iadd, 1) := by decide +kernel
theorem dX10_law_303 : decode cX10_law 303 = .ok (.invokestatic 79, 3) := by decide +kernel
theorem dX10_law_306 : decode cX10_law 306 = .ok (.istore 8, 2) := by decide +kernel
theorem dX10_law_308 : decode cX10_law 308 = .ok (.iload 8, 2) := by decide +kernel
theorem dX10_law_310 : decode cX10_law 310 = .ok (.bipush 8, 2) := by decide +kernel
theorem dX10_law_312 : decode cX10_law 312 = .ok (.invokestatic 57, 3) := by decide +kernel
theorem dX10_law_315 : decode cX10_law 315 = .ok (.istore 9, 2) := by decide +kernel
theorem dX10_law_317 : decode cX10_law 317 = .ok (.iload 8, 2) := by decide +kernel
theorem dX10_law_319 : decode cX10_law 319 = .ok (.iconst 3, 1) := by decide +kernel
theorem dX10_law_320 : decode cX10_law 320 = .ok (.ishr, 1) := by decide +kernel
theorem dX10_law_321 : decode cX10_law 321 = .ok (.iconst 3, 1) := by decide +kernel
theorem dX10_law_322 : decode cX10_law 322 = .ok (.invokestatic 57, 3) := by decide +kernel
theorem dX10_law_325 : decode cX10_law 325 = .ok (.istore 10, 2) := by decide +kernel
theorem dX10_law_327 : decode cX10_law 327 = .ok (.bipush 16, 2) := by decide +kernel
theorem dX10_law_329 : decode cX10_law 329 = .ok (.iload 10, 2) := by decide +kernel
theorem dX10_law_331 : decode cX10_law 331 = .ok (.imul, 1) := by decide +kernel
theorem dX10_law_332 : decode cX10_law 332 = .ok (.istore 11, 2) := by decide +kernel
theorem dX10_law_334 : decode cX10_law 334 = .ok (.iload 9, 2) := by decide +kernel
theorem dX10_law_336 : decode cX10_law 336 = .ok (.iconst 2, 1) := by decide +kernel
theorem dX10_law_337 : decode cX10_law 337 = .ok (.if_icmp .ge 126, 3) := by decide +kernel
theorem dX10_law_340 : decode cX10_law 340 = .ok (.aload_n 2, 1) := by decide +kernel
theorem dX10_law_341 : decode cX10_law 341 = .ok (.iconst 1, 1) := by decide +kernel
theorem dX10_law_342 : decode cX10_law 342 = .ok (.iaload, 1) := by decide +kernel
theorem dX10_law_343 : decode cX10_law 343 = .ok (.iconst 1, 1) := by decide +kernel
theorem dX10_law_344 : decode cX10_law 344 = .ok (.if_icmp .ne 26, 3) := by decide +kernel
theorem dX10_law_347 : decode cX10_law 347 = .ok (.aload_n 3, 1) := by decide +kernel
theorem dX10_law_348 : decode cX10_law 348 = .ok (.iload 11, 2) := by decide +kernel
theorem dX10_law_350 : decode cX10_law 350 = .ok (.iconst 5, 1) := by decide +kernel
theorem dX10_law_351 : decode cX10_law 351 = .ok (.iadd, 1) := by decide +kernel
theorem dX10_law_352 : decode cX10_law 352 = .ok (.iaload, 1) := by decide +kernel
theorem dX10_law_353 : decode cX10_law 353 = .ok (.ifCond .ne 17, 3) := by decide +kernel
theorem dX10_law_356 : decode cX10_law 356 = .ok (.aload_n 3, 1) := by decide +kernel
theorem dX10_law_357 : decode cX10_law 357 = .ok (.iload 11, 2) := by decide +kernel
theorem dX10_law_359 : decode cX10_law 359 = .ok (.bipush 9, 2) := by decide +kernel
theorem dX10_law_361 : decode cX10_law 361 = .ok (.iadd, 1) := by decide +kernel
theorem dX10_law_362 : decode cX10_law 362 = .ok (.iaload, 1) := by decide +kernel
theorem dX10_law_363 : decode cX10_law 363 = .ok (.ifCond .eq 7, 3) := by decide +kernel
theorem dX10_law_366 : decode cX10_law 366 = .ok (.iconst 1, 1) := by decide +kernel
theorem dX10_law_367 : decode cX10_law 367 = .ok (.goto 4, 3) := by decide +kernel
theorem dX10_law_370 : decode cX10_law 370 = .ok (.iconst 0, 1) := by decide +kernel
theorem dX10_law_371 : decode cX10_law 371 = .ok (.istore 12, 2) := by decide +kernel
theorem dX10_law_373 : decode cX10_law 373 = .ok (.aload_n 1, 1) := by decide +kernel
theorem dX10_law_374 : decode cX10_law 374 = .ok (.iload 10, 2) := by decide +kernel
theorem dX10_law_376 : decode cX10_law 376 = .ok (.invokevirtual 94, 3) := by decide +kernel
theorem dX10_law_379 : decode cX10_law 379 = .ok (.iload 12, 2) := by decide +kernel
theorem dX10_law_381 : decode cX10_law 381 = .ok (.ifCond .eq 13, 3) := by decide +kernel
theorem dX10_law_384 : decode cX10_law 384 = .ok (.aload_n 3, 1) := by decide +kernel
theorem dX10_law_385 : decode cX10_law 385 = .ok (.iload 11, 2) := by decide +kernel
theorem dX10_law_387 : decode cX10_law 387 = .ok (.bipush 11, 2) := by decide +kernel
theorem dX10_law_389 : decode cX10_law 389 = .ok (.iadd, 1) := by decide +kernel
theorem dX10_law_390 : decode cX10_law 390 = .ok (.iaload, 1) := by decide +kernel
theorem dX10_law_391 : decode cX10_law 391 = .ok (.goto 5, 3) := by decide +kernel
theorem dX10_law_394 : decode cX10_law 394 = .ok (.bipush (-4), 2) := by decide +kernel
theorem dX10_law_396 : decode cX10_law 396 = .ok (.if_icmp .eq 5, 3) := by decide +kernel
theorem dX10_law_399 : decode cX10_law 399 = .ok (.iconst 0, 1) := by decide +kernel
theorem dX10_law_400 : decode cX10_law 400 = .ok (.ireturn, 1) := by decide +kernel
theorem dX10_law_401 : decode cX10_law 401 = .ok (.iconst 0, 1) := by decide +kernel
theorem dX10_law_402 : decode cX10_law 402 = .ok (.istore 13, 2) := by decide +kernel
theorem dX10_law_404 : decode cX10_law 404 = .ok (.iload 13, 2) := by decide +kernel
theorem dX10_law_406 : decode cX10_law 406 = .ok (.iconst 1, 1) := by decide +kernel
theorem dX10_law_407 : decode cX10_law 407 = .ok (.if_icmp .ge 53, 3) := by decide +kernel
theorem dX10_law_410 : decode cX10_law 410 = .ok (.iload 12, 2) := by decide +kernel
theorem dX10_law_412 : decode cX10_law 412 = .ok (.ifCond .eq 48, 3) := by decide +kernel
theorem dX10_law_415 : decode cX10_law 415 = .ok (.aload_n 3, 1) := by decide +kernel
theorem dX10_law_416 : decode cX10_law 416 = .ok (.iload 11, 2) := by decide +kernel
theorem dX10_law_418 : decode cX10_law 418 = .ok (.iconst 5, 1) := by decide +kernel
theorem dX10_law_419 : decode cX10_law 419 = .ok (.iadd, 1) := by decide +kernel
theorem dX10_law_420 : decode cX10_law 420 = .ok (.iconst 1, 1) := by decide +kernel
theorem dX10_law_421 : decode cX10_law 421 = .ok (.iastore, 1) := by decide +kernel
theorem dX10_law_422 : decode cX10_law 422 = .ok (.aload_n 3, 1) := by decide +kernel
theorem dX10_law_423 : decode cX10_law 423 = .ok (.iload 11, 2) := by decide +kernel
theorem dX10_law_425 : decode cX10_law 425 = .ok (.bipush 6, 2) := by decide +kernel
theorem dX10_law_427 : decode cX10_law 427 = .ok (.iadd, 1) := by decide +kernel
theorem dX10_law_428 : decode cX10_law 428 = .ok (.iconst 0, 1) := by decide +kernel
theorem dX10_law_429 : decode cX10_law 429 = .ok (.iastore, 1) := by decide +kernel
theorem dX10_law_430 : decode cX10_law 430 = .ok (.aload_n 3, 1) := by decide +kernel
theorem dX10_law_431 : decode cX10_law 431 = .ok (.iload 11, 2) := by decide +kernel
theorem dX10_law_433 : decode cX10_law 433 = .ok (.bipush 9, 2) := by decide +kernel
theorem dX10_law_435 : decode cX10_law 435 = .ok (.iadd, 1) := by decide +kernel
theorem dX10_law_436 : decode cX10_law 436 = .ok (.iconst 2, 1) := by decide +kernel
theorem dX10_law_437 : decode cX10_law 437 = .ok (.iastore, 1) := by decide +kernel
theorem dX10_law_438 : decode cX10_law 438 = .ok (.aload_n 3, 1) := by decide +kernel
theorem dX10_law_439 : decode cX10_law 439 = .ok (.iload 11, 2) := by decide +kernel
theorem dX10_law_441 : decode cX10_law 441 = .ok (.bipush 10, 2) := by decide +kernel
theorem dX10_law_443 : decode cX10_law 443 = .ok (.iadd, 1) := by decide +kernel
theorem dX10_law_444 : decode cX10_law 444 = .ok (.iconst 0, 1) := by decide +kernel
theorem dX10_law_445 : decode cX10_law 445 = .ok (.iastore, 1) := by decide +kernel
theorem dX10_law_446 : decode cX10_law 446 = .ok (.aload_n 3, 1) := by decide +kernel
theorem dX10_law_447 : decode cX10_law 447 = .ok (.iload 11, 2) := by decide +kernel
theorem dX10_law_449 : decode cX10_law 449 = .ok (.bipush 12, 2) := by decide +kernel
theorem dX10_law_451 : decode cX10_law 451 = .ok (.iadd, 1) := by decide +kernel
theorem dX10_law_452 : decode cX10_law 452 = .ok (.iconst 0, 1) := by decide +kernel
theorem dX10_law_453 : decode cX10_law 453 = .ok (.iastore, 1) := by decide +kernel
theorem dX10_law_454 : decode cX10_law 454 = .ok (.iinc 13 1, 3) := by decide +kernel
theorem dX10_law_457 : decode cX10_law 457 = .ok (.goto (-53), 3) := by decide +kernel
theorem dX10_law_460 : decode cX10_law 460 = .ok (.goto 510, 3) := by decide +kernel
theorem dX10_law_463 : decode cX10_law 463 = .ok (.iload 9, 2) := by decide +kernel
theorem dX10_law_465 : decode cX10_law 465 = .ok (.iconst 5, 1) := by decide +kernel
theorem dX10_law_466 : decode cX10_law 466 = .ok (.if_icmp .ge 103, 3) := by decide +kernel
theorem dX10_law_469 : decode cX10_law 469 = .ok (.iconst 1, 1) := by decide +kernel
theorem dX10_law_470 : decode cX10_law 470 = .ok (.iload 8, 2) := by decide +kernel
theorem dX10_law_472 : decode cX10_law 472 = .ok (.iconst 5, 1) := by decide +kernel
theorem dX10_law_473 : decode cX10_law 473 = .ok (.ishr, 1) := by decide +kernel
theorem dX10_law_474 : decode cX10_law 474 = .ok (.bipush 9, 2) := by decide +kernel
theorem dX10_law_476 : decode cX10_law 476 = .ok (.invokestatic 57, 3) := by decide +kernel
theorem dX10_law_479 : decode cX10_law 479 = .ok (.iadd, 1) := by decide +kernel
theorem dX10_law_480 : decode cX10_law 480 = .ok (.istore 12, 2) := by decide +kernel
theorem dX10_law_482 : decode cX10_law 482 = .ok (.aload_n 1, 1) := by decide +kernel
theorem dX10_law_483 : decode cX10_law 483 = .ok (.iload 10, 2) := by decide +kernel
theorem dX10_law_485 : decode cX10_law 485 = .ok (.invokevirtual 97, 3) := by decide +kernel
theorem dX10_law_488 : decode cX10_law 488 = .ok (.istore 13, 2) := by decide +kernel
theorem dX10_law_490 : decode cX10_law 490 = .ok (.iconst 0, 1) := by decide +kernel
theorem dX10_law_491 : decode cX10_law 491 = .ok (.istore 14, 2) := by decide +kernel
theorem dX10_law_493 : decode cX10_law 493 = .ok (.iconst 0, 1) := by decide +kernel
theorem dX10_law_494 : decode cX10_law 494 = .ok (.istore 15, 2) := by decide +kernel
theorem dX10_law_496 : decode cX10_law 496 = .ok (.iload 15, 2) := by decide +kernel
theorem dX10_law_498 : decode cX10_law 498 = .ok (.iload 12, 2) := by decide +kernel
theorem dX10_law_500 : decode cX10_law 500 = .ok (.if_icmp .ge 53, 3) := by decide +kernel
theorem dX10_law_503 : decode cX10_law 503 = .ok (.iload 14, 2) := by decide +kernel
theorem dX10_law_505 : decode cX10_law 505 = .ok (.aload_n 2, 1) := by decide +kernel
theorem dX10_law_506 : decode cX10_law 506 = .ok (.aload_n 3, 1) := by decide +kernel
theorem dX10_law_507 : decode cX10_law 507 = .ok (.aload 4, 2) := by decide +kernel
theorem dX10_law_509 : decode cX10_law 509 = .ok (.aload 5, 2) := by decide +kernel
theorem dX10_law_511 : decode cX10_law 511 = .ok (.aload 6, 2) := by decide +kernel
theorem dX10_law_513 : decode cX10_law 513 = .ok (.invokestatic 100, 3) := by decide +kernel
theorem dX10_law_516 : decode cX10_law 516 = .ok (.iadd, 1) := by decide +kernel
theorem dX10_law_517 : decode cX10_law 517 = .ok (.istore 14, 2) := by decide +kernel
theorem dX10_law_519 : decode cX10_law 519 = .ok (.iload 15, 2) := by decide +kernel
theorem dX10_law_521 : decode cX10_law 521 = .ok (.ifCond .ne 26, 3) := by decide +kernel
theorem dX10_law_524 : decode cX10_law 524 = .ok (.iload 13, 2) := by decide +kernel
theorem dX10_law_526 : decode cX10_law 526 = .ok (.aload_n 2, 1) := by decide +kernel
theorem dX10_law_527 : decode cX10_law 527 = .ok (.iconst 1, 1) := by decide +kernel
theorem dX10_law_528 : decode cX10_law 528 = .ok (.iaload, 1) := by decide +kernel
theorem dX10_law_529 : decode cX10_law 529 = .ok (.iconst 1, 1) := by decide +kernel
theorem dX10_law_530 : decode cX10_law 530 = .ok (.if_icmp .ne 11, 3) := by decide +kernel
theorem dX10_law_533 : decode cX10_law 533 = .ok (.aload 6, 2) := by decide +kernel
theorem dX10_law_535 : decode cX10_law 535 = .ok (.iload 10, 2) := by decide +kernel
theorem dX10_law_537 : decode cX10_law 537 = .ok (.iaload, 1) := by decide +kernel
theorem dX10_law_538 : decode cX10_law 538 = .ok (.goto 4, 3) := by decide +kernel
theorem dX10_law_541 : decode cX10_law 541 = .ok (.iconst 0, 1) := by decide +kernel
theorem dX10_law_542 : decode cX10_law 542 = .ok (.if_icmp .eq 5, 3) := by decide +kernel
theorem dX10_law_545 : decode cX10_law 545 = .ok (.iconst 0, 1) := by decide +kernel
theorem dX10_law_546 : decode cX10_law 546 = .ok (.ireturn, 1) := by decide +kernel
theorem dX10_law_547 : decode cX10_law 547 = .ok (.iinc 15 1, 3) := by decide +kernel
theorem dX10_law_550 : decode cX10_law 550 = .ok (.goto (-54), 3) := by decide +kernel
theorem dX10_law_553 : decode cX10_law 553 = .ok (.aload_n 1, 1) := by decide +kernel
theorem dX10_law_554 : decode cX10_law 554 = .ok (.iload 12, 2) := by decide +kernel
theorem dX10_law_556 : decode cX10_law 556 = .ok (.invokevirtual 104, 3) := by decide +kernel
theorem dX10_law_559 : decode cX10_law 559 = .ok (.iload 14, 2) := by decide +kernel
theorem dX10_law_561 : decode cX10_law 561 = .ok (.if_icmp .eq 5, 3) := by decide +kernel
theorem dX10_law_564 : decode cX10_law 564 = .ok (.iconst 0, 1) := by decide +kernel
theorem dX10_law_565 : decode cX10_law 565 = .ok (.ireturn, 1) := by decide +kernel
theorem dX10_law_566 : decode cX10_law 566 = .ok (.goto 404, 3) := by decide +kernel
theorem dX10_law_569 : decode cX10_law 569 = .ok (.iload 9, 2) := by decide +kernel
theorem dX10_law_571 : decode cX10_law 571 = .ok (.iconst 5, 1) := by decide +kernel
theorem dX10_law_572 : decode cX10_law 572 = .ok (.if_icmp .ne 20, 3) := by decide +kernel
theorem dX10_law_575 : decode cX10_law 575 = .ok (.aload_n 1, 1) := by decide +kernel
theorem dX10_law_576 : decode cX10_law 576 = .ok (.iload 8, 2) := by decide +kernel
theorem dX10_law_578 : decode cX10_law 578 = .ok (.iconst 3, 1) := by decide +kernel
theorem dX10_law_579 : decode cX10_law 579 = .ok (.ishr, 1) := by decide +kernel
theorem dX10_law_580 : decode cX10_law 580 = .ok (.aload_n 2, 1) := by decide +kernel
theorem dX10_law_581 : decode cX10_law 581 = .ok (.aload_n 3, 1) := by decide +kernel
theorem dX10_law_582 : decode cX10_law 582 = .ok (.aload 5, 2) := by decide +kernel
theorem dX10_law_584 : decode cX10_law 584 = .ok (.invokestatic 107, 3) := by decide +kernel
theorem dX10_law_587 : decode cX10_law 587 = .ok (.ifCond .ne 383, 3) := by decide +kernel
theorem dX10_law_590 : decode cX10_law 590 = .ok (.iconst 0, 1) := by decide +kernel
theorem dX10_law_591 : decode cX10_law 591 = .ok (.ireturn, 1) := by decide +kernel
theorem dX10_law_592 : decode cX10_law 592 = .ok (.iload 9, 2) := by decide +kernel
theorem dX10_law_594 : decode cX10_law 594 = .ok (.bipush 6, 2) := by decide +kernel
theorem dX10_law_596 : decode cX10_law 596 = .ok (.if_icmp .ne 176, 3) := by decide +kernel
theorem dX10_law_599 : decode cX10_law 599 = .ok (.iload 8, 2) := by decide +kernel
theorem dX10_law_601 : decode cX10_law 601 = .ok (.iconst 5, 1) := by decide +kernel
theorem dX10_law_602 : decode cX10_law 602 = .ok (.ishr, 1) := by decide +kernel
theorem dX10_law_603 : decode cX10_law 603 = .ok (.iconst 3, 1) := by decide +kernel
theorem dX10_law_604 : decode cX10_law 604 = .ok (.invokestatic 57, 3) := by decide +kernel
theorem dX10_law_607 : decode cX10_law 607 = .ok (.ifCond .le 7, 3) := by decide +kernel
theorem dX10_law_610 : decode cX10_law 610 = .ok (.iconst 1, 1) := by decide +kernel
theorem dX10_law_611 : decode cX10_law 611 = .ok (.goto 4, 3) := by decide +kernel
theorem dX10_law_614 : decode cX10_law 614 = .ok (.iconst 0, 1) := by decide +kernel
theorem dX10_law_615 : decode cX10_law 615 = .ok (.istore 12, 2) := by decide +kernel
theorem dX10_law_617 : decode cX10_law 617 = .ok (.iconst 0, 1) := by decide +kernel
theorem dX10_law_618 : decode cX10_law 618 = .ok (.istore 13, 2) := by decide +kernel
theorem dX10_law_620 : decode cX10_law 620 = .ok (.iconst 0, 1) := by decide +kernel
theorem dX10_law_621 : decode cX10_law 621 = .ok (.istore 14, 2) := by decide +kernel
theorem dX10_law_623 : decode cX10_law 623 = .ok (.iload 14, 2) := by decide +kernel
theorem dX10_law_625 : decode cX10_law 625 = .ok (.iconst 3, 1) := by decide +kernel
theorem dX10_law_626 : decode cX10_law 626 = .ok (.if_icmp .ge 32, 3) := by decide +kernel
theorem dX10_law_629 : decode cX10_law 629 = .ok (.iload 13, 2) := by decide +kernel
theorem dX10_law_631 : decode cX10_law 631 = .ok (.aload_n 3, 1) := by decide +kernel
theorem dX10_law_632 : decode cX10_law 632 = .ok (.bipush 16, 2) := by decide +kernel
theorem dX10_law_634 : decode cX10_law 634 = .ok (.iload 14, 2) := by decide +kernel
theorem dX10_law_636 : decode cX10_law 636 = .ok (.imul, 1) := by decide +kernel
theorem dX10_law_637 : decode cX10_law 637 = .ok (.iconst 5, 1) := by decide +kernel
theorem dX10_law_638 : decode cX10_law 638 = .ok (.iadd, 1) := by decide +kernel
theorem dX10_law_639 : decode cX10_law 639 = .ok (.iaload, 1) := by decide +kernel
theorem dX10_law_640 : decode cX10_law 640 = .ok (.iconst 1, 1) := by decide +kernel
theorem dX10_law_641 : decode cX10_law 641 = .ok (.if_icmp .ne 7, 3) := by decide +kernel
theorem dX10_law_644 : decode cX10_law 644 = .ok (.iconst 1, 1) := by decide +kernel
theorem dX10_law_645 : decode cX10_law 645 = .ok (.goto 4, 3) := by decide +kernel
theorem dX10_law_648 : decode cX10_law 648 = .ok (.iconst 0, 1) := by decide +kernel
theorem dX10_law_649 : decode cX10_law 649 = .ok (.iadd, 1) := by decide +kernel
theorem dX10_law_650 : decode cX10_law 650 = .ok (.istore 13, 2) := by decide +kernel
theorem dX10_law_652 : decode cX10_law 652 = .ok (.iinc 14 1, 3) := by decide +kernel
theorem dX10_law_655 : decode cX10_law 655 = .ok (.goto (-32), 3) := by decide +kernel
theorem dX10_law_658 : decode cX10_law 658 = .ok (.aload_n 1, 1) := by decide +kernel
theorem dX10_law_659 : decode cX10_law 659 = .ok (.iload 12, 2) := by decide +kernel
theorem dX10_law_661 : decode cX10_law 661 = .ok (.invokevirtual 111, 3) := by decide +kernel
theorem dX10_law_664 : decode cX10_law 664 = .ok (.aload_n 2, 1) := by decide +kernel
theorem dX10_law_665 : decode cX10_law 665 = .ok (.iconst 1, 1) := by decide +kernel
theorem dX10_law_666 : decode cX10_law 666 = .ok (.iaload, 1) := by decide +kernel
theorem dX10_law_667 : decode cX10_law 667 = .ok (.iconst 1, 1) := by decide +kernel
theorem dX10_law_668 : decode cX10_law 668 = .ok (.if_icmp .ne 7, 3) := by decide +kernel
theorem dX10_law_671 : decode cX10_law 671 = .ok (.iconst 1, 1) := by decide +kernel
theorem dX10_law_672 : decode cX10_law 672 = .ok (.goto 4, 3) := by decide +kernel
theorem dX10_law_675 : decode cX10_law 675 = .ok (.iconst 0, 1) := by decide +kernel
theorem dX10_law_676 : decode cX10_law 676 = .ok (.iload 12, 2) := by decide +kernel
theorem dX10_law_678 : decode cX10_law 678 = .ok (.if_icmp .ne 8, 3) := by decide +kernel
theorem dX10_law_681 : decode cX10_law 681 = .ok (.bipush (-5), 2) := by decide +kernel
theorem dX10_law_683 : decode cX10_law 683 = .ok (.goto 5, 3) := by decide +kernel
theorem dX10_law_686 : decode cX10_law 686 = .ok (.iload 13, 2) := by decide +kernel
theorem dX10_law_688 : decode cX10_law 688 = .ok (.if_icmp .eq 5, 3) := by decide +kernel
theorem dX10_law_691 : decode cX10_law 691 = .ok (.iconst 0, 1) := by decide +kernel
theorem dX10_law_692 : decode cX10_law 692 = .ok (.ireturn, 1) := by decide +kernel
theorem dX10_law_693 : decode cX10_law 693 = .ok (.iconst 0, 1) := by decide +kernel
theorem dX10_law_694 : decode cX10_law 694 = .ok (.istore 14, 2) := by decide +kernel
theorem dX10_law_696 : decode cX10_law 696 = .ok (.iload 14, 2) := by decide +kernel
theorem dX10_law_698 : decode cX10_law 698 = .ok (.iconst 3, 1) := by decide +kernel
theorem dX10_law_699 : decode cX10_law 699 = .ok (.if_icmp .ge 57, 3) := by decide +kernel
theorem dX10_law_702 : decode cX10_law 702 = .ok (.aload_n 2, 1) := by decide +kernel
theorem dX10_law_703 : decode cX10_law 703 = .ok (.iconst 1, 1) := by decide +kernel
theorem dX10_law_704 : decode cX10_law 704 = .ok (.iaload, 1) := by decide +kernel
theorem dX10_law_705 : decode cX10_law 705 = .ok (.ifCond .ne 45, 3) := by decide +kernel
theorem dX10_law_708 : decode cX10_law 708 = .ok (.iload 12, 2) := by decide +kernel
theorem dX10_law_710 : decode cX10_law 710 = .ok (.ifCond .eq 40, 3) := by decide +kernel
theorem dX10_law_713 : decode cX10_law 713 = .ok (.aload_n 3, 1) := by decide +kernel
theorem dX10_law_714 : decode cX10_law 714 = .ok (.bipush 16, 2) := by decide +kernel
theorem dX10_law_716 : decode cX10_law 716 = .ok (.iload 14, 2) := by decide +kernel
theorem dX10_law_718 : decode cX10_law 718 = .ok (.imul, 1) := by decide +kernel
theorem dX10_law_719 : decode cX10_law 719 = .ok (.iconst 5, 1) := by decide +kernel
theorem dX10_law_720 : decode cX10_law 720 = .ok (.iadd, 1) := by decide +kernel
theorem dX10_law_721 : decode cX10_law 721 = .ok (.iaload, 1) := by decide +kernel
theorem dX10_law_722 : decode cX10_law 722 = .ok (.iconst 1, 1) := by decide +kernel
theorem dX10_law_723 : decode cX10_law 723 = .ok (.if_icmp .ne 27, 3) := by decide +kernel
theorem dX10_law_726 : decode cX10_law 726 = .ok (.iload 14, 2) := by decide +kernel
theorem dX10_law_728 : decode cX10_law 728 = .ok (.aload_n 3, 1) := by decide +kernel
theorem dX10_law_729 : decode cX10_law 729 = .ok (.aload 4, 2) := by decide +kernel
theorem dX10_law_731 : decode cX10_law 731 = .ok (.invokestatic 10, 3) := by decide +kernel
theorem dX10_law_734 : decode cX10_law 734 = .ok (.bipush 115, 2) := by decide +kernel
theorem dX10_law_736 : decode cX10_law 736 = .ok (.if_icmp .ne 14, 3) := by decide +kernel
theorem dX10_law_739 : decode cX10_law 739 = .ok (.aload_n 3, 1) := by decide +kernel
theorem dX10_law_740 : decode cX10_law 740 = .ok (.bipush 16, 2) := by decide +kernel
theorem dX10_law_742 : decode cX10_law 742 = .ok (.iload 14, 2) := by decide +kernel
theorem dX10_law_744 : decode cX10_law 744 = .ok (.imul, 1) := by decide +kernel
theorem dX10_law_745 : decode cX10_law 745 = .ok (.bipush 10, 2) := by decide +kernel
theorem dX10_law_747 : decode cX10_law 747 = .ok (.iadd, 1) := by decide +kernel
theorem dX10_law_748 : decode cX10_law 748 = .ok (.iconst 0, 1) := by decide +kernel
theorem dX10_law_749 : decode cX10_law 749 = .ok (.iastore, 1) := by decide +kernel
theorem dX10_law_750 : decode cX10_law 750 = .ok (.iinc 14 1, 3) := by decide +kernel
theorem dX10_law_753 : decode cX10_law 753 = .ok (.goto (-57), 3) := by decide +kernel
theorem dX10_law_756 : decode cX10_law 756 = .ok (.aload_n 2, 1) := by decide +kernel
theorem dX10_law_757 : decode cX10_law 757 = .ok (.iconst 1, 1) := by decide +kernel
theorem dX10_law_758 : decode cX10_law 758 = .ok (.iload 12, 2) := by decide +kernel
theorem dX10_law_760 : decode cX10_law 760 = .ok (.ifCond .eq 7, 3) := by decide +kernel
theorem dX10_law_763 : decode cX10_law 763 = .ok (.iconst 1, 1) := by decide +kernel
theorem dX10_law_764 : decode cX10_law 764 = .ok (.goto 4, 3) := by decide +kernel
theorem dX10_law_767 : decode cX10_law 767 = .ok (.iconst 0, 1) := by decide +kernel
theorem dX10_law_768 : decode cX10_law 768 = .ok (.iastore, 1) := by decide +kernel
theorem dX10_law_769 : decode cX10_law 769 = .ok (.goto 201, 3) := by decide +kernel
theorem dX10_law_772 : decode cX10_law 772 = .ok (.iload 8, 2) := by decide +kernel
theorem dX10_law_774 : decode cX10_law 774 = .ok (.iconst 5, 1) := by decide +kernel
theorem dX10_law_775 : decode cX10_law 775 = .ok (.ishr, 1) := by decide +kernel
theorem dX10_law_776 : decode cX10_law 776 = .ok (.iconst 2, 1) := by decide +kernel
theorem dX10_law_777 : decode cX10_law 777 = .ok (.invokestatic 57, 3) := by decide +kernel
theorem dX10_law_780 : decode cX10_law 780 = .ok (.ifCond .ne 132, 3) := by decide +kernel
theorem dX10_law_783 : decode cX10_law 783 = .ok (.aload_n 3, 1) := by decide +kernel
theorem dX10_law_784 : decode cX10_law 784 = .ok (.iload 11, 2) := by decide +kernel
theorem dX10_law_786 : decode cX10_law 786 = .ok (.bipush 9, 2) := by decide +kernel
theorem dX10_law_788 : decode cX10_law 788 = .ok (.iadd, 1) := by decide +kernel
theorem dX10_law_789 : decode cX10_law 789 = .ok (.iaload, 1) := by decide +kernel
theorem dX10_law_790 : decode cX10_law 790 = .ok (.iconst 1, 1) := by decide +kernel
theorem dX10_law_791 : decode cX10_law 791 = .ok (.if_icmp .ne 7, 3) := by decide +kernel
theorem dX10_law_794 : decode cX10_law 794 = .ok (.iconst 1, 1) := by decide +kernel
theorem dX10_law_795 : decode cX10_law 795 = .ok (.goto 4, 3) := by decide +kernel
theorem dX10_law_798 : decode cX10_law 798 = .ok (.iconst 0, 1) := by decide +kernel
theorem dX10_law_799 : decode cX10_law 799 = .ok (.istore 12, 2) := by decide +kernel
theorem dX10_law_801 : decode cX10_law 801 = .ok (.aload_n 1, 1) := by decide +kernel
theorem dX10_law_802 : decode cX10_law 802 = .ok (.iload 10, 2) := by decide +kernel
theorem dX10_law_804 : decode cX10_law 804 = .ok (.invokevirtual 115, 3) := by decide +kernel
theorem dX10_law_807 : decode cX10_law 807 = .ok (.iload 12, 2) := by decide +kernel
theorem dX10_law_809 : decode cX10_law 809 = .ok (.ifCond .eq 12, 3) := by decide +kernel
theorem dX10_law_812 : decode cX10_law 812 = .ok (.iload 10, 2) := by decide +kernel
theorem dX10_law_814 : decode cX10_law 814 = .ok (.aload_n 3, 1) := by decide +kernel
theorem dX10_law_815 : decode cX10_law 815 = .ok (.invokestatic 26, 3) := by decide +kernel
theorem dX10_law_818 : decode cX10_law 818 = .ok (.goto 21, 3) := by decide +kernel
theorem dX10_law_821 : decode cX10_law 821 = .ok (.aload_n 3, 1) := by decide +kernel
theorem dX10_law_822 : decode cX10_law 822 = .ok (.iload 11, 2) := by decide +kernel
theorem dX10_law_824 : decode cX10_law 824 = .ok (.bipush 9, 2) := by decide +kernel
theorem dX10_law_826 : decode cX10_law 826 = .ok (.iadd, 1) := by decide +kernel
theorem dX10_law_827 : decode cX10_law 827 = .ok (.iaload, 1) := by decide +kernel
theorem dX10_law_828 : decode cX10_law 828 = .ok (.iconst 2, 1) := by decide +kernel
theorem dX10_law_829 : decode cX10_law 829 = .ok (.if_icmp .ne 8, 3) := by decide +kernel
theorem dX10_law_832 : decode cX10_law 832 = .ok (.bipush (-4), 2) := by decide +kernel
theorem dX10_law_834 : decode cX10_law 834 = .ok (.goto 5, 3) := by decide +kernel
theorem dX10_law_837 : decode cX10_law 837 = .ok (.bipush (-5), 2) := by decide +kernel
theorem dX10_law_839 : decode cX10_law 839 = .ok (.if_icmp .eq 5, 3) := by decide +kernel
theorem dX10_law_842 : decode cX10_law 842 = .ok (.iconst 0, 1) := by decide +kernel
theorem dX10_law_843 : decode cX10_law 843 = .ok (.ireturn, 1) := by decide +kernel
theorem dX10_law_844 : decode cX10_law 844 = .ok (.aload_n 3, 1) := by decide +kernel
theorem dX10_law_845 : decode cX10_law 845 = .ok (.iload 11, 2) := by decide +kernel
theorem dX10_law_847 : decode cX10_law 847 = .ok (.bipush 9, 2) := by decide +kernel
theorem dX10_law_849 : decode cX10_law 849 = .ok (.iadd, 1) := by decide +kernel
theorem dX10_law_850 : decode cX10_law 850 = .ok (.iload 12, 2) := by decide +kernel
theorem dX10_law_852 : decode cX10_law 852 = .ok (.ifCond .eq 7, 3) := by decide +kernel
theorem dX10_law_855 : decode cX10_law 855 = .ok (.iconst 0, 1) := by decide +kernel
theorem dX10_law_856 : decode cX10_law 856 = .ok (.goto 10, 3) := by decide +kernel
theorem dX10_law_859 : decode cX10_law 859 = .ok (.aload_n 3, 1) := by decide +kernel
theorem dX10_law_860 : decode cX10_law 860 = .ok (.iload 11, 2) := by decide +kernel
theorem dX10_law_862 : decode cX10_law 862 = .ok (.bipush 9, 2) := by decide +kernel
theorem dX10_law_864 : decode cX10_law 864 = .ok (.iadd, 1) := by decide +kernel
theorem dX10_law_865 : decode cX10_law 865 = .ok (.iaload, 1) := by decide +kernel
theorem dX10_law_866 : decode cX10_law 866 = .ok (.iastore, 1) := by decide +kernel
theorem dX10_law_867 : decode cX10_law 867 = .ok (.iload 8, 2) := by decide +kernel
theorem dX10_law_869 : decode cX10_law 869 = .ok (.bipush 7, 2) := by decide +kernel
theorem dX10_law_871 : decode cX10_law 871 = .ok (.ishr, 1) := by decide +kernel
theorem dX10_law_872 : decode cX10_law 872 = .ok (.iconst 2, 1) := by decide +kernel
theorem dX10_law_873 : decode cX10_law 873 = .ok (.invokestatic 57, 3) := by decide +kernel
theorem dX10_law_876 : decode cX10_law 876 = .ok (.ifCond .ne 33, 3) := by decide +kernel
theorem dX10_law_879 : decode cX10_law 879 = .ok (.aload_n 3, 1) := by decide +kernel
theorem dX10_law_880 : decode cX10_law 880 = .ok (.iload 11, 2) := by decide +kernel
theorem dX10_law_882 : decode cX10_law 882 = .ok (.bipush 9, 2) := by decide +kernel
theorem dX10_law_884 : decode cX10_law 884 = .ok (.iadd, 1) := by decide +kernel
theorem dX10_law_885 : decode cX10_law 885 = .ok (.iaload, 1) := by decide +kernel
theorem dX10_law_886 : decode cX10_law 886 = .ok (.ifCond .ne 23, 3) := by decide +kernel
theorem dX10_law_889 : decode cX10_law 889 = .ok (.aload_n 1, 1) := by decide +kernel
theorem dX10_law_890 : decode cX10_law 890 = .ok (.iload 10, 2) := by decide +kernel
theorem dX10_law_892 : decode cX10_law 892 = .ok (.invokevirtual 118, 3) := by decide +kernel
theorem dX10_law_895 : decode cX10_law 895 = .ok (.iconst 1, 1) := by decide +kernel
theorem dX10_law_896 : decode cX10_law 896 = .ok (.if_icmp .eq 5, 3) := by decide +kernel
theorem dX10_law_899 : decode cX10_law 899 = .ok (.iconst 0, 1) := by decide +kernel
theorem dX10_law_900 : decode cX10_law 900 = .ok (.ireturn, 1) := by decide +kernel
theorem dX10_law_901 : decode cX10_law 901 = .ok (.aload_n 3, 1) := by decide +kernel
theorem dX10_law_902 : decode cX10_law 902 = .ok (.iload 11, 2) := by decide +kernel
theorem dX10_law_904 : decode cX10_law 904 = .ok (.bipush 9, 2) := by decide +kernel
theorem dX10_law_906 : decode cX10_law 906 = .ok (.iadd, 1) := by decide +kernel
theorem dX10_law_907 : decode cX10_law 907 = .ok (.iconst 1, 1) := by decide +kernel
theorem dX10_law_908 : decode cX10_law 908 = .ok (.iastore, 1) := by decide +kernel
theorem dX10_law_909 : decode cX10_law 909 = .ok (.goto 61, 3) := by decide +kernel
theorem dX10_law_912 : decode cX10_law 912 = .ok (.aload_n 1, 1) := by decide +kernel
theorem dX10_law_913 : decode cX10_law 913 = .ok (.iload 10, 2) := by decide +kernel
theorem dX10_law_915 : decode cX10_law 915 = .ok (.invokevirtual 121, 3) := by decide +kernel
theorem dX10_law_918 : decode cX10_law 918 = .ok (.aload_n 3, 1) := by decide +kernel
theorem dX10_law_919 : decode cX10_law 919 = .ok (.iload 11, 2) := by decide +kernel
theorem dX10_law_921 : decode cX10_law 921 = .ok (.iconst 5, 1) := by decide +kernel
theorem dX10_law_922 : decode cX10_law 922 = .ok (.iadd, 1) := by decide +kernel
theorem dX10_law_923 : decode cX10_law 923 = .ok (.iaload, 1) := by decide +kernel
theorem dX10_law_924 : decode cX10_law 924 = .ok (.ifCond .ne 8, 3) := by decide +kernel
theorem dX10_law_927 : decode cX10_law 927 = .ok (.bipush (-5), 2) := by decide +kernel
theorem dX10_law_929 : decode cX10_law 929 = .ok (.goto 10, 3) := by decide +kernel
theorem dX10_law_932 : decode cX10_law 932 = .ok (.aload_n 3, 1) := by decide +kernel
theorem dX10_law_933 : decode cX10_law 933 = .ok (.iload 11, 2) := by decide +kernel
theorem dX10_law_935 : decode cX10_law 935 = .ok (.bipush 6, 2) := by decide +kernel
theorem dX10_law_937 : decode cX10_law 937 = .ok (.iadd, 1) := by decide +kernel
theorem dX10_law_938 : decode cX10_law 938 = .ok (.iaload, 1) := by decide +kernel
theorem dX10_law_939 : decode cX10_law 939 = .ok (.if_icmp .eq 5, 3) := by decide +kernel
theorem dX10_law_942 : decode cX10_law 942 = .ok (.iconst 0, 1) := by decide +kernel
theorem dX10_law_943 : decode cX10_law 943 = .ok (.ireturn, 1) := by decide +kernel
theorem dX10_law_944 : decode cX10_law 944 = .ok (.aload_n 3, 1) := by decide +kernel
theorem dX10_law_945 : decode cX10_law 945 = .ok (.iload 11, 2) := by decide +kernel
theorem dX10_law_947 : decode cX10_law 947 = .ok (.iconst 5, 1) := by decide +kernel
theorem dX10_law_948 : decode cX10_law 948 = .ok (.iadd, 1) := by decide +kernel
theorem dX10_law_949 : decode cX10_law 949 = .ok (.iconst 0, 1) := by decide +kernel
theorem dX10_law_950 : decode cX10_law 950 = .ok (.iastore, 1) := by decide +kernel
theorem dX10_law_951 : decode cX10_law 951 = .ok (.aload_n 1, 1) := by decide +kernel
theorem dX10_law_952 : decode cX10_law 952 = .ok (.iload 10, 2) := by decide +kernel
theorem dX10_law_954 : decode cX10_law 954 = .ok (.iload 8, 2) := by decide +kernel
theorem dX10_law_956 : decode cX10_law 956 = .ok (.bipush 7, 2) := by decide +kernel
theorem dX10_law_958 : decode cX10_law 958 = .ok (.ishr, 1) := by decide +kernel
theorem dX10_law_959 : decode cX10_law 959 = .ok (.aload_n 3, 1) := by decide +kernel
theorem dX10_law_960 : decode cX10_law 960 = .ok (.aload 4, 2) := by decide +kernel
theorem dX10_law_962 : decode cX10_law 962 = .ok (.invokestatic 90, 3) := by decide +kernel
theorem dX10_law_965 : decode cX10_law 965 = .ok (.ifCond .ne 5, 3) := by decide +kernel
theorem dX10_law_968 : decode cX10_law 968 = .ok (.iconst 0, 1) := by decide +kernel
theorem dX10_law_969 : decode cX10_law 969 = .ok (.ireturn, 1) := by decide +kernel
theorem dX10_law_970 : decode cX10_law 970 = .ok (.aload_n 1, 1) := by decide +kernel
theorem dX10_law_971 : decode cX10_law 971 = .ok (.aload_n 2, 1) := by decide +kernel
theorem dX10_law_972 : decode cX10_law 972 = .ok (.aload_n 3, 1) := by decide +kernel
theorem dX10_law_973 : decode cX10_law 973 = .ok (.aload 4, 2) := by decide +kernel
theorem dX10_law_975 : decode cX10_law 975 = .ok (.aload 5, 2) := by decide +kernel
theorem dX10_law_977 : decode cX10_law 977 = .ok (.invokestatic 124, 3) := by decide +kernel
theorem dX10_law_980 : decode cX10_law 980 = .ok (.ifCond .ne 5, 3) := by decide +kernel
theorem dX10_law_983 : decode cX10_law 983 = .ok (.iconst 0, 1) := by decide +kernel
theorem dX10_law_984 : decode cX10_law 984 = .ok (.ireturn, 1) := by decide +kernel
theorem dX10_law_985 : decode cX10_law 985 = .ok (.iinc 7 1, 3) := by decide +kernel
theorem dX10_law_988 : decode cX10_law 988 = .ok (.goto (-698), 3) := by decide +kernel
theorem dX10_law_991 : decode cX10_law 991 = .ok (.iconst 1, 1) := by decide +kernel
theorem dX10_law_992 : decode cX10_law 992 = .ok (.ireturn, 1) := by decide +kernel
