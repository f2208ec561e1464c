theorem dX12_init_0 : decode cX12_init 0 = .ok (.aload_n 0, 1) := by decide +kernel
theorem dX12_init_1 : decode cX12_init 1 = .ok (.invokespecial 1, 3) := by decide +kernel
theorem dX12_init_4 : decode cX12_init 4 = .ok (.aload_n 0, 1) := by decide +kernel
theorem dX12_init_5 : decode cX12_init 5 = .ok (.bipush 24, 2) := by decide +kernel
theorem dX12_init_7 : decode cX12_init 7 = .ok (.newarray .char, 2) := by decide +kernel
theorem dX12_init_9 : decode cX12_init 9 = .ok (.putfield 7, 3) := by decide +kernel
theorem dX12_init_12 : decode cX12_init 12 = .ok (.aload_n 0, 1) := by decide +kernel
theorem dX12_init_13 : decode cX12_init 13 = .ok (.bipush 13, 2) := by decide +kernel
theorem dX12_init_15 : decode cX12_init 15 = .ok (.newarray .int, 2) := by decide +kernel
theorem dX12_init_17 : decode cX12_init 17 = .ok (.putfield 13, 3) := by decide +kernel
theorem dX12_init_20 : decode cX12_init 20 = .ok (.aload_n 0, 1) := by decide +kernel
theorem dX12_init_21 : decode cX12_init 21 = .ok (.sipush 156, 3) := by decide +kernel
theorem dX12_init_24 : decode cX12_init 24 = .ok (.newarray .int, 2) := by decide +kernel
theorem dX12_init_26 : decode cX12_init 26 = .ok (.putfield 17, 3) := by decide +kernel
theorem dX12_init_29 : decode cX12_init 29 = .ok (.aload_n 0, 1) := by decide +kernel
theorem dX12_init_30 : decode cX12_init 30 = .ok (.bipush 8, 2) := by decide +kernel
theorem dX12_init_32 : decode cX12_init 32 = .ok (.putfield 20, 3) := by decide +kernel
theorem dX12_init_35 : decode cX12_init 35 = .ok (.aload_n 0, 1) := by decide +kernel
theorem dX12_init_36 : decode cX12_init 36 = .ok (.bipush 8, 2) := by decide +kernel
theorem dX12_init_38 : decode cX12_init 38 = .ok (.putfield 24, 3) := by decide +kernel
theorem dX12_init_41 : decode cX12_init 41 = .ok (.aload_n 0, 1) := by decide +kernel
theorem dX12_init_42 : decode cX12_init 42 = .ok (.iconst 1, 1) := by decide +kernel
theorem dX12_init_43 : decode cX12_init 43 = .ok (.putfield 27, 3) := by decide +kernel
theorem dX12_init_46 : decode cX12_init 46 = .ok (.aload_n 0, 1) := by decide +kernel
theorem dX12_init_47 : decode cX12_init 47 = .ok (.bipush 32, 2) := by decide +kernel
theorem dX12_init_49 : decode cX12_init 49 = .ok (.newarray .int, 2) := by decide +kernel
theorem dX12_init_51 : decode cX12_init 51 = .ok (.putfield 30, 3) := by decide +kernel
theorem dX12_init_54 : decode cX12_init 54 = .ok (.aload_n 0, 1) := by decide +kernel
theorem dX12_init_55 : decode cX12_init 55 = .ok (.bipush 32, 2) := by decide +kernel
theorem dX12_init_57 : decode cX12_init 57 = .ok (.newarray .int, 2) := by decide +kernel
theorem dX12_init_59 : decode cX12_init 59 = .ok (.putfield 33, 3) := by decide +kernel
theorem dX12_init_62 : decode cX12_init 62 = .ok (.aload_n 0, 1) := by decide +kernel
theorem dX12_init_63 : decode cX12_init 63 = .ok (.bipush 7, 2) := by decide +kernel
theorem dX12_init_65 : decode cX12_init 65 = .ok (.newarray .int, 2) := by decide +kernel
theorem dX12_init_67 : decode cX12_init 67 = .ok (.putfield 36, 3) := by decide +kernel
theorem dX12_init_70 : decode cX12_init 70 = .ok (.aload_n 0, 1) := by decide +kernel
theorem dX12_init_71 : decode cX12_init 71 = .ok (.bipush 7, 2) := by decide +kernel
theorem dX12_init_73 : decode cX12_init 73 = .ok (.newarray .int, 2) := by decide +kernel
theorem dX12_init_75 : decode cX12_init 75 = .ok (.putfield 39, 3) := by decide +kernel
theorem dX12_init_78 : decode cX12_init 78 = .ok (.aload_n 0, 1) := by decide +kernel
theorem dX12_init_79 : decode cX12_init 79 = .ok (.bipush 8, 2) := by decide +kernel
theorem dX12_init_81 : decode cX12_init 81 = .ok (.newarray .int, 2) := by decide +kernel
theorem dX12_init_83 : decode cX12_init 83 = .ok (.putfield 42, 3) := by decide +kernel
theorem dX12_init_86 : decode cX12_init 86 = .ok (.aload_n 0, 1) := by decide +kernel
theorem dX12_init_87 : decode cX12_init 87 = .ok (.bipush 32, 2) := by decide +kernel
theorem dX12_init_89 : decode cX12_init 89 = .ok (.newarray .int, 2) := by decide +kernel
theorem dX12_init_91 : decode cX12_init 91 = .ok (.putfield 45, 3) := by decide +kernel
theorem dX12_init_94 : decode cX12_init 94 = .ok (.aload_n 0, 1) := by decide +kernel
theorem dX12_init_95 : decode cX12_init 95 = .ok (.sipush 192, 3) := by decide +kernel
theorem dX12_init_98 : decode cX12_init 98 = .ok (.newarray .int, 2) := by decide +kernel
theorem dX12_init_100 : decode cX12_init 100 = .ok (.putfield 48, 3) := by decide +kernel
theorem dX12_init_103 : decode cX12_init 103 = .ok (.aload_n 0, 1) := by decide +kernel
theorem dX12_init_104 : decode cX12_init 104 = .ok (.bipush 96, 2) := by decide +kernel
theorem dX12_init_106 : decode cX12_init 106 = .ok (.newarray .int, 2) := by decide +kernel
theorem dX12_init_108 : decode cX12_init 108 = .ok (.putfield 51, 3) := by decide +kernel
theorem dX12_init_111 : decode cX12_init 111 = .ok (.aload_n 0, 1) := by decide +kernel
theorem dX12_init_112 : decode cX12_init 112 = .ok (.bipush 96, 2) := by decide +kernel
theorem dX12_init_114 : decode cX12_init 114 = .ok (.newarray .int, 2) := by decide +kernel
theorem dX12_init_116 : decode cX12_init 116 = .ok (.putfield 54, 3) := by decide +kernel
theorem dX12_init_119 : decode cX12_init 119 = .ok (.aload_n 0, 1) := by decide +kernel
theorem dX12_init_120 : decode cX12_init 120 = .ok (.bipush 96, 2) := by decide +kernel
theorem dX12_init_122 : decode cX12_init 122 = .ok (.newarray .int, 2) := by decide +kernel
theorem dX12_init_124 : decode cX12_init 124 = .ok (.putfield 57, 3) := by decide +kernel
theorem dX12_init_127 : decode cX12_init 127 = .ok (.aload_n 0, 1) := by decide +kernel
theorem dX12_init_128 : decode cX12_init 128 = .ok (.bipush 96, 2) := by decide +kernel
theorem dX12_init_130 : decode cX12_init 130 = .ok (.newarray .int, 2) := by decide +kernel
theorem dX12_init_132 : decode cX12_init 132 = .ok (.putfield 60, 3) := by decide +kernel
theorem dX12_init_135 : decode cX12_init 135 = .ok (.aload_n 0, 1) := by decide +kernel
theorem dX12_init_136 : decode cX12_init 136 = .ok (.bipush 96, 2) := by decide +kernel
theorem dX12_init_138 : decode cX12_init 138 = .ok (.newarray .int, 2) := by decide +kernel
theorem dX12_init_140 : decode cX12_init 140 = .ok (.putfield 63, 3) := by decide +kernel
theorem dX12_init_143 : decode cX12_init 143 = .ok (.aload_n 0, 1) := by decide +kernel
theorem dX12_init_144 : decode cX12_init 144 = .ok (.bipush 96, 2) := by decide +kernel
theorem dX12_init_146 : decode cX12_init 146 = .ok (.newarray .int, 2) := by decide +kernel
theorem dX12_init_148 : decode cX12_init 148 = .ok (.putfield 66, 3) := by decide +kernel
theorem dX12_init_151 : decode cX12_init 151 = .ok (.aload_n 0, 1) := by decide +kernel
theorem dX12_init_152 : decode cX12_init 152 = .ok (.bipush 96, 2) := by decide +kernel
theorem dX12_init_154 : decode cX12_init 154 = .ok (.newarray .boolean, 2) := by decide +kernel
theorem dX12_init_156 : decode cX12_init 156 = .ok (.putfield 69, 3) := by decide +kernel
theorem dX12_init_159 : decode cX12_init 159 = .ok (.aload_n 0, 1) := by decide +kernel
theorem dX12_init_160 : decode cX12_init 160 = .ok (.bipush 96, 2) := by decide +kernel
theorem dX12_init_162 : decode cX12_init 162 = .ok (.newarray .int, 2) := by decide +kernel
theorem dX12_init_164 : decode cX12_init 164 = .ok (.putfield 73, 3) := by decide +kernel
theorem dX12_init_167 : decode cX12_init 167 = .ok (.aload_n 0, 1) := by decide +kernel
theorem dX12_init_168 : decode cX12_init 168 = .ok (.sipush 20000, 3) := by decide +kernel
theorem dX12_init_171 : decode cX12_init 171 = .ok (.newarray .int, 2) := by decide +kernel
theorem dX12_init_173 : decode cX12_init 173 = .ok (.putfield 76, 3) := by decide +kernel
theorem dX12_init_176 : decode cX12_init 176 = .ok (.aload_n 0, 1) := by decide +kernel
theorem dX12_init_177 : decode cX12_init 177 = .ok (.sipush 20000, 3) := by decide +kernel
theorem dX12_init_180 : decode cX12_init 180 = .ok (.newarray .int, 2) := by decide +kernel
theorem dX12_init_182 : decode cX12_init 182 = .ok (.putfield 79, 3) := by decide +kernel
theorem dX12_init_185 : decode cX12_init 185 = .ok (.aload_n 0, 1) := by decide +kernel
theorem dX12_init_186 : decode cX12_init 186 = .ok (.sipush 20000, 3) := by decide +kernel
theorem dX12_init_189 : decode cX12_init 189 = .ok (.newarray .int, 2) := by decide +kernel
theorem dX12_init_191 : decode cX12_init 191 = .ok (.putfield 82, 3) := by decide +kernel
theorem dX12_init_194 : decode cX12_init 194 = .ok (.aload_n 0, 1) := by decide +kernel
theorem dX12_init_195 : decode cX12_init 195 = .ok (.sipush 20000, 3) := by decide +kernel
theorem dX12_init_198 : decode cX12_init 198 = .ok (.newarray .int, 2) := by decide +kernel
theorem dX12_init_200 : decode cX12_init 200 = .ok (.putfield 85, 3) := by decide +kernel
theorem dX12_init_203 : decode cX12_init 203 = .ok (.aload_n 0, 1) := by decide +kernel
theorem dX12_init_204 : decode cX12_init 204 = .ok (.sipush 20000, 3) := by decide +kernel
theorem dX12_init_207 : decode cX12_init 207 = .ok (.newarray .int, 2) := by decide +kernel
theorem dX12_init_209 : decode cX12_init 209 = .ok (.putfield 88, 3) := by decide +kernel
theorem dX12_init_212 : decode cX12_init 212 = .ok (.aload_n 0, 1) := by decide +kernel
theorem dX12_init_213 : decode cX12_init 213 = .ok (.sipush 9216, 3) := by decide +kernel
theorem dX12_init_216 : decode cX12_init 216 = .ok (.newarray .int, 2) := by decide +kernel
theorem dX12_init_218 : decode cX12_init 218 = .ok (.putfield 91, 3) := by decide +kernel
theorem dX12_init_221 : decode cX12_init 221 = .ok (.aload_n 0, 1) := by decide +kernel
theorem dX12_init_222 : decode cX12_init 222 = .ok (.bipush 96, 2) := by decide +kernel
theorem dX12_init_224 : decode cX12_init 224 = .ok (.newarray .int, 2) := by decide +kernel
theorem dX12_init_226 : decode cX12_init 226 = .ok (.putfield 94, 3) := by decide +kernel
theorem dX12_init_229 : decode cX12_init 229 = .ok (.aload_n 0, 1) := by decide +kernel
theorem dX12_init_230 : decode cX12_init 230 = .ok (.bipush 96, 2) := by decide +kernel
theorem dX12_init_232 : decode cX12_init 232 = .ok (.newarray .int, 2) := by decide +kernel
theorem dX12_init_234 : decode cX12_init 234 = .ok (.putfield 97, 3) := by decide +kernel
theorem dX12_init_237 : decode cX12_init 237 = .ok (.aload_n 0, 1) := by decide +kernel
theorem dX12_init_238 : decode cX12_init 238 = .ok (.bipush 96, 2) := by decide +kernel
theorem dX12_init_240 : decode cX12_init 240 = .ok (.newarray .int, 2) := by decide +kernel
theorem dX12_init_242 : decode cX12_init 242 = .ok (.putfield 100, 3) := by decide +kernel
theorem dX12_init_245 : decode cX12_init 245 = .ok (.aload_n 0, 1) := by decide +kernel
theorem dX12_init_246 : decode cX12_init 246 = .ok (.bipush 96, 2) := by decide +kernel
theorem dX12_init_248 : decode cX12_init 248 = .ok (.newarray .int, 2) := by decide +kernel
theorem dX12_init_250 : decode cX12_init 250 = .ok (.putfield 103, 3) := by decide +kernel
theorem dX12_init_253 : decode cX12_init 253 = .ok (.aload_n 0, 1) := by decide +kernel
theorem dX12_init_254 : decode cX12_init 254 = .ok (.bipush 96, 2) := by decide +kernel
theorem dX12_init_256 : decode cX12_init 256 = .ok (.newarray .int, 2) := by decide +kernel
theorem dX12_init_258 : decode cX12_init 258 = .ok (.putfield 106, 3) := by decide +kernel
theorem dX12_init_261 : decode cX12_init 261 = .ok (.aload_n 0, 1) := by decide +kernel
theorem dX12_init_262 : decode cX12_init 262 = .ok (.sipush 1536, 3) := by decide +kernel
theorem dX12_init_265 : decode cX12_init 265 = .ok (.newarray .int, 2) := by decide +kernel
theorem dX12_init_267 : decode cX12_init 267 = .ok (.putfield 109, 3) := by decide +kernel
theorem dX12_init_270 : decode cX12_init 270 = .ok (.aload_n 0, 1) := by decide +kernel
theorem dX12_init_271 : decode cX12_init 271 = .ok (.iconst 4, 1) := by decide +kernel
theorem dX12_init_272 : decode cX12_init 272 = .ok (.newarray .int, 2) := by decide +kernel
theorem dX12_init_274 : decode cX12_init 274 = .ok (.putfield 112, 3) := by decide +kernel
theorem dX12_init_277 : decode cX12_init 277 = .ok (.aload_n 0, 1) := by decide +kernel
theorem dX12_init_278 : decode cX12_init 278 = .ok (.bipush 64, 2) := by decide +kernel
theorem dX12_init_280 : decode cX12_init 280 = .ok (.newarray .int, 2) := by decide +kernel
theorem dX12_init_282 : decode cX12_init 282 = .ok (.putfield 115, 3) := by decide +kernel
theorem dX12_init_285 : decode cX12_init 285 = .ok (.aload_n 0, 1) := by decide +kernel
theorem dX12_init_286 : decode cX12_init 286 = .ok (.iconst 4, 1) := by decide +kernel
theorem dX12_init_287 : decode cX12_init 287 = .ok (.newarray .int, 2) := by decide +kernel
theorem dX12_init_289 : decode cX12_init 289 = .ok (.putfield 118, 3) := by decide +kernel
theorem dX12_init_292 : decode cX12_init 292 = .ok (.aload_n 0, 1) := by decide +kernel
theorem dX12_init_293 : decode cX12_init 293 = .ok (.iconst 4, 1) := by decide +kernel
theorem dX12_init_294 : decode cX12_init 294 = .ok (.newarray .int, 2) := by decide +kernel
theorem dX12_init_296 : decode cX12_init 296 = .ok (.putfield 121, 3) := by decide +kernel
theorem dX12_init_299 : decode cX12_init 299 = .ok (.aload_n 0, 1) := by decide +kernel
theorem dX12_init_300 : decode cX12_init 300 = .ok (.iconst 4, 1) := by decide +kernel
theorem dX12_init_301 : decode cX12_init 301 = .ok (.newarray .int, 2) := by decide +kernel
theorem dX12_init_303 : decode cX12_init 303 = .ok (.putfield 124, 3) := by decide +kernel
theorem dX12_init_306 : decode cX12_init 306 = .ok (.iconst 0, 1) := by decide +kernel
theorem dX12_init_307 : decode cX12_init 307 = .ok (.istore_n 1, 1) := by decide +kernel
theorem dX12_init_308 : decode cX12_init 308 = .ok (.iload_n 1, 1) := by decide +kernel
theorem dX12_init_309 : decode cX12_init 309 = .ok (.bipush 7, 2) := by decide +kernel
theorem dX12_init_311 : decode cX12_init 311 = .ok (.if_icmp .ge 23, 3) := by decide +kernel
theorem dX12_init_314 : decode cX12_init 314 = .ok (.aload_n 0, 1) := by decide +kernel
theorem dX12_init_315 : decode cX12_init 315 = .ok (.getfield 36, 3) := by decide +kernel
theorem dX12_init_318 : decode cX12_init 318 = .ok (.iload_n 1, 1) := by decide +kernel
theorem dX12_init_319 : decode cX12_init 319 = .ok (.iconst 1, 1) := by decide +kernel
theorem dX12_init_320 : decode cX12_init 320 = .ok (.iastore, 1) := by decide +kernel
theorem dX12_init_321 : decode cX12_init 321 = .ok (.aload_n 0, 1) := by decide +kernel
theorem dX12_init_322 : decode cX12_init 322 = .ok (.getfield 39, 3) := by decide +kernel
theorem dX12_init_325 : decode cX12_init 325 = .ok (.iload_n 1, 1) := by decide +kernel
theorem dX12_init_326 : decode cX12_init 326 = .ok (.iconst 1, 1) := by decide +kernel
theorem dX12_init_327 : decode cX12_init 327 = .ok (.iastore, 1) := by decide +kernel
theorem dX12_init_328 : decode cX12_init 328 = .ok (.iinc 1 1, 3) := by decide +kernel
theorem dX12_init_331 : decode cX12_init 331 = .ok (.goto (-23), 3) := by decide +kernel
theorem dX12_init_334 : decode cX12_init 334 = .ok (.iconst 0, 1) := by decide +kernel
theorem dX12_init_335 : decode cX12_init 335 = .ok (.istore_n 1, 1) := by decide +kernel
theorem dX12_init_336 : decode cX12_init 336 = .ok (.iload_n 1, 1) := by decide +kernel
theorem dX12_init_337 : decode cX12_init 337 = .ok (.iconst 4, 1) := by decide +kernel
theorem dX12_init_338 : decode cX12_init 338 = .ok (.if_icmp .ge 16, 3) := by decide +kernel
theorem dX12_init_341 : decode cX12_init 341 = .ok (.aload_n 0, 1) := by decide +kernel
theorem dX12_init_342 : decode cX12_init 342 = .ok (.getfield 118, 3) := by decide +kernel
theorem dX12_init_345 : decode cX12_init 345 = .ok (.iload_n 1, 1) := by decide +kernel
theorem dX12_init_346 : decode cX12_init 346 = .ok (.iconst 1, 1) := by decide +kernel
theorem dX12_init_347 : decode cX12_init 347 = .ok (.iastore, 1) := by decide +kernel
theorem dX12_init_348 : decode cX12_init 348 = .ok (.iinc 1 1, 3) := by decide +kernel
theorem dX12_init_351 : decode cX12_init 351 = .ok (.goto (-15), 3) := by decide +kernel
theorem dX12_init_354 : decode cX12_init 354 = .ok (.return_, 1) := by decide +kernel
theorem dX12_thrown_0 : decode cX12_thrown 0 = .ok (.aload_n 0, 1) := by decide +kernel
theorem dX12_thrown_1 : decode cX12_thrown 1 = .ok (.getfield 127, 3) := by decide +kernel
theorem dX12_thrown_4 : decode cX12_thrown 4 = .ok (.ireturn, 1) := by decide +kernel
theorem dX12_in_0 : decode cX12_in 0 = .ok (.iload_n 0, 1) := by decide +kernel
theorem dX12_in_1 : decode cX12_in 1 = .ok (.iload_n 1, 1) := by decide +kernel
theorem dX12_in_2 : decode cX12_in 2 = .ok (.if_icmp .lt 12, 3) := by decide +kernel
theorem dX12_in_5 : decode cX12_in 5 = .ok (.iload_n 0, 1) := by decide +kernel
theorem dX12_in_6 : decode cX12_in 6 = .ok (.iload_n 2, 1) := by decide +kernel
theorem dX12_in_7 : decode cX12_in 7 = .ok (.if_icmp .gt 7, 3) := by decide +kernel
theorem dX12_in_10 : decode cX12_in 10 = .ok (.iconst 1, 1) := by decide +kernel
theorem dX12_in_11 : decode cX12_in 11 = .ok (.goto 4, 3) := by decide +kernel
theorem dX12_in_14 : decode cX12_in 14 = .ok (.iconst 0, 1) := by decide +kernel
theorem dX12_in_15 : decode cX12_in 15 = .ok (.ireturn, 1) := by decide +kernel
theorem dX12_fails_0 : decode cX12_fails 0 = .ok (.iload_n 1, 1) := by decide +kernel
theorem dX12_fails_1 : decode cX12_fails 1 = .ok (.ifCond .eq 15, 3) := by decide +kernel
theorem dX12_fails_4 : decode cX12_fails 4 = .ok (.aload_n 0, 1) := by decide +kernel
theorem dX12_fails_5 : decode cX12_fails 5 = .ok (.getfield 127, 3) := by decide +kernel
theorem dX12_fails_8 : decode cX12_fails 8 = .ok (.ifCond .ne 8, 3) := by decide +kernel
theorem dX12_fails_11 : decode cX12_fails 11 = .ok (.aload_n 0, 1) := by decide +kernel
theorem dX12_fails_12 : decode cX12_fails 12 = .ok (.iload_n 2, 1) := by decide +kernel
theorem dX12_fails_13 : decode cX12_fails 13 = .ok (.putfield 127, 3) := by decide +kernel
theorem dX12_fails_16 : decode cX12_fails 16 = .ok (.aload_n 0, 1) := by decide +kernel
theorem dX12_fails_17 : decode cX12_fails 17 = .ok (.getfield 127, 3) := by decide +kernel
theorem dX12_fails_20 : decode cX12_fails 20 = .ok (.ifCond .eq 7, 3) := by decide +kernel
theorem dX12_fails_23 : decode cX12_fails 23 = .ok (.iconst 1, 1) := by decide +kernel
theorem dX12_fails_24 : decode cX12_fails 24 = .ok (.goto 4, 3) := by decide +kernel
theorem dX12_fails_27 : decode cX12_fails 27 = .ok (.iconst 0, 1) := by decide +kernel
theorem dX12_fails_28 : decode cX12_fails 28 = .ok (.ireturn, 1) := by decide +kernel
theorem dX12_taken_0 : decode cX12_taken 0 = .ok (.iload_n 1, 1) := by decide +kernel
theorem dX12_taken_1 : decode cX12_taken 1 = .ok (.iconst 1, 1) := by decide +kernel
theorem dX12_taken_2 : decode cX12_taken 2 = .ok (.aload_n 0, 1) := by decide +kernel
theorem dX12_taken_3 : decode cX12_taken 3 = .ok (.getfield 24, 3) := by decide +kernel
theorem dX12_taken_6 : decode cX12_taken 6 = .ok (.ishl, 1) := by decide +kernel
theorem dX12_taken_7 : decode cX12_taken 7 = .ok (.iconst 1, 1) := by decide +kernel
theorem dX12_taken_8 : decode cX12_taken 8 = .ok (.isub, 1) := by decide +kernel
theorem dX12_taken_9 : decode cX12_taken 9 = .ok (.iand, 1) := by decide +kernel
theorem dX12_taken_10 : decode cX12_taken 10 = .ok (.ireturn, 1) := by decide +kernel
theorem dX12_type_0 : decode cX12_type 0 = .ok (.aload_n 0, 1) := by decide +kernel
theorem dX12_type_1 : decode cX12_type 1 = .ok (.iconst 0, 1) := by decide +kernel
theorem dX12_type_2 : decode cX12_type 2 = .ok (.putfield 127, 3) := by decide +kernel
theorem dX12_type_5 : decode cX12_type 5 = .ok (.aload_n 0, 1) := by decide +kernel
theorem dX12_type_6 : decode cX12_type 6 = .ok (.iload_n 1, 1) := by decide +kernel
theorem dX12_type_7 : decode cX12_type 7 = .ok (.bipush 48, 2) := by decide +kernel
theorem dX12_type_9 : decode cX12_type 9 = .ok (.bipush 57, 2) := by decide +kernel
theorem dX12_type_11 : decode cX12_type 11 = .ok (.invokestatic 130, 3) := by decide +kernel
theorem dX12_type_14 : decode cX12_type 14 = .ok (.ifCond .ne 16, 3) := by decide +kernel
theorem dX12_type_17 : decode cX12_type 17 = .ok (.ldc 134, 2) := by decide +kernel
theorem dX12_type_19 : decode cX12_type 19 = .ok (.iload_n 1, 1) := by decide +kernel
theorem dX12_type_20 : decode cX12_type 20 = .ok (.invokevirtual 136, 3) := by decide +kernel
theorem dX12_type_23 : decode cX12_type 23 = .ok (.ifCond .ge 7, 3) := by decide +kernel
theorem dX12_type_26 : decode cX12_type 26 = .ok (.iconst 1, 1) := by decide +kernel
theorem dX12_type_27 : decode cX12_type 27 = .ok (.goto 4, 3) := by decide +kernel
theorem dX12_type_30 : decode cX12_type 30 = .ok (.iconst 0, 1) := by decide +kernel
theorem dX12_type_31 : decode cX12_type 31 = .ok (.iconst 1, 1) := by decide +kernel
theorem dX12_type_32 : decode cX12_type 32 = .ok (.invokevirtual 142, 3) := by decide +kernel
theorem dX12_type_35 : decode cX12_type 35 = .ok (.ifCond .ne 25, 3) := by decide +kernel
theorem dX12_type_38 : decode cX12_type 38 = .ok (.aload_n 0, 1) := by decide +kernel
theorem dX12_type_39 : decode cX12_type 39 = .ok (.aload_n 0, 1) := by decide +kernel
theorem dX12_type_40 : decode cX12_type 40 = .ok (.getfield 146, 3) := by decide +kernel
theorem dX12_type_43 : decode cX12_type 43 = .ok (.bipush 24, 2) := by decide +kernel
theorem dX12_type_45 : decode cX12_type 45 = .ok (.if_icmp .ne 7, 3) := by decide +kernel
theorem dX12_type_48 : decode cX12_type 48 = .ok (.iconst 1, 1) := by decide +kernel
theorem dX12_type_49 : decode cX12_type 49 = .ok (.goto 4, 3) := by decide +kernel
theorem dX12_type_52 : decode cX12_type 52 = .ok (.iconst 0, 1) := by decide +kernel
theorem dX12_type_53 : decode cX12_type 53 = .ok (.iconst 2, 1) := by decide +kernel
theorem dX12_type_54 : decode cX12_type 54 = .ok (.invokevirtual 142, 3) := by decide +kernel
theorem dX12_type_57 : decode cX12_type 57 = .ok (.ifCond .eq 5, 3) := by decide +kernel
theorem dX12_type_60 : decode cX12_type 60 = .ok (.iconst 0, 1) := by decide +kernel
theorem dX12_type_61 : decode cX12_type 61 = .ok (.ireturn, 1) := by decide +kernel
theorem dX12_type_62 : decode cX12_type 62 = .ok (.aload_n 0, 1) := by decide +kernel
theorem dX12_type_63 : decode cX12_type 63 = .ok (.getfield 7, 3) := by decide +kernel
theorem dX12_type_66 : decode cX12_type 66 = .ok (.aload_n 0, 1) := by decide +kernel
theorem dX12_type_67 : decode cX12_type 67 = .ok (.getfield 146, 3) := by decide +kernel
theorem dX12_type_70 : decode cX12_type 70 = .ok (.iload_n 1, 1) := by decide +kernel
theorem dX12_type_71 : decode cX12_type 71 = .ok (.castore, 1) := by decide +kernel
theorem dX12_type_72 : decode cX12_type 72 = .ok (.aload_n 0, 1) := by decide +kernel
theorem dX12_type_73 : decode cX12_type 73 = .ok (.dup, 1) := by decide +kernel
theorem dX12_type_74 : decode cX12_type 74 = .ok (.getfield 146, 3) := by decide +kernel
theorem dX12_type_77 : decode cX12_type 77 = .ok (.iconst 1, 1) := by decide +kernel
theorem dX12_type_78 : decode cX12_type 78 = .ok (.iadd, 1) := by decide +kernel
theorem dX12_type_79 : decode cX12_type 79 = .ok (.putfield 146, 3) := by decide +kernel
theorem dX12_type_82 : decode cX12_type 82 = .ok (.aload_n 0, 1) := by decide +kernel
theorem dX12_type_83 : decode cX12_type 83 = .ok (.getfield 146, 3) := by decide +kernel
theorem dX12_type_86 : decode cX12_type 86 = .ok (.ireturn, 1) := by decide +kernel
theorem dX12_clear_0 : decode cX12_clear 0 = .ok (.aload_n 0, 1) := by decide +kernel
theorem dX12_clear_1 : decode cX12_clear 1 = .ok (.iconst 0, 1) := by decide +kernel
theorem dX12_clear_2 : decode cX12_clear 2 = .ok (.putfield 127, 3) := by decide +kernel
theorem dX12_clear_5 : decode cX12_clear 5 = .ok (.aload_n 0, 1) := by decide +kernel
theorem dX12_clear_6 : decode cX12_clear 6 = .ok (.getfield 146, 3) := by decide +kernel
theorem dX12_clear_9 : decode cX12_clear 9 = .ok (.istore_n 1, 1) := by decide +kernel
theorem dX12_clear_10 : decode cX12_clear 10 = .ok (.aload_n 0, 1) := by decide +kernel
theorem dX12_clear_11 : decode cX12_clear 11 = .ok (.iconst 0, 1) := by decide +kernel
theorem dX12_clear_12 : decode cX12_clear 12 = .ok (.putfield 146, 3) := by decide +kernel
theorem dX12_clear_15 : decode cX12_clear 15 = .ok (.iload_n 1, 1) := by decide +kernel
theorem dX12_clear_16 : decode cX12_clear 16 = .ok (.ireturn, 1) := by decide +kernel
theorem dX12_is_0 : decode cX12_is 0 = .ok (.aload_n 0, 1) := by decide +kernel
theorem dX12_is_1 : decode cX12_is 1 = .ok (.getfield 149, 3) := by decide +kernel
theorem dX12_is_4 : decode cX12_is 4 = .ok (.aload_n 0, 1) := by decide +kernel
theorem dX12_is_5 : decode cX12_is 5 = .ok (.getfield 146, 3) := by decide +kernel
theorem dX12_is_8 : decode cX12_is 8 = .ok (.if_icmp .ge 20, 3) := by decide +kernel
theorem dX12_is_11 : decode cX12_is 11 = .ok (.aload_n 0, 1) := by decide +kernel
theorem dX12_is_12 : decode cX12_is 12 = .ok (.getfield 7, 3) := by decide +kernel
theorem dX12_is_15 : decode cX12_is 15 = .ok (.aload_n 0, 1) := by decide +kernel
theorem dX12_is_16 : decode cX12_is 16 = .ok (.getfield 149, 3) := by decide +kernel
theorem dX12_is_19 : decode cX12_is 19 = .ok (.caload, 1) := by decide +kernel
theorem dX12_is_20 : decode cX12_is 20 = .ok (.iload_n 1, 1) := by decide +kernel
theorem dX12_is_21 : decode cX12_is 21 = .ok (.if_icmp .ne 7, 3) := by decide +kernel
theorem dX12_is_24 : decode cX12_is 24 = .ok (.iconst 1, 1) := by decide +kernel
theorem dX12_is_25 : decode cX12_is 25 = .ok (.goto 4, 3) := by decide +kernel
theorem dX12_is_28 : decode cX12_is 28 = .ok (.iconst 0, 1) := by decide +kernel
theorem dX12_is_29 : decode cX12_is 29 = .ok (.ireturn, 1) := by decide +kernel
theorem dX12_isDigit_0 : decode cX12_isDigit 0 = .ok (.aload_n 0, 1) := by decide +kernel
theorem dX12_isDigit_1 : decode cX12_isDigit 1 = .ok (.getfield 149, 3) := by decide +kernel
theorem dX12_isDigit_4 : decode cX12_isDigit 4 = .ok (.aload_n 0, 1) := by decide +kernel
theorem dX12_isDigit_5 : decode cX12_isDigit 5 = .ok (.getfield 146, 3) := by decide +kernel
theorem dX12_isDigit_8 : decode cX12_isDigit 8 = .ok (.if_icmp .ge 26, 3) := by decide +kernel
theorem dX12_isDigit_11 : decode cX12_isDigit 11 = .ok (.aload_n 0, 1) := by decide +kernel
theorem dX12_isDigit_12 : decode cX12_isDigit 12 = .ok (.getfield 7, 3) := by decide +kernel
theorem dX12_isDigit_15 : decode cX12_isDigit 15 = .ok (.aload_n 0, 1) := by decide +kernel
theorem dX12_isDigit_16 : decode cX12_isDigit 16 = .ok (.getfield 149, 3) := by decide +kernel
theorem dX12_isDigit_19 : decode cX12_isDigit 19 = .ok (.caload, 1) := by decide +kernel
theorem dX12_isDigit_20 : decode cX12_isDigit 20 = .ok (.bipush 48, 2) := by decide +kernel
theorem dX12_isDigit_22 : decode cX12_isDigit 22 = .ok (.bipush 57, 2) := by decide +kernel
theorem dX12_isDigit_24 : decode cX12_isDigit 24 = .ok (.invokestatic 130, 3) := by decide +kernel
theorem dX12_isDigit_27 : decode cX12_isDigit 27 = .ok (.ifCond .eq 7, 3) := by decide +kernel
theorem dX12_isDigit_30 : decode cX12_isDigit 30 = .ok (.iconst 1, 1) := by decide +kernel
theorem dX12_isDigit_31 : decode cX12_isDigit 31 = .ok (.goto 4, 3) := by decide +kernel
theorem dX12_isDigit_34 : decode cX12_isDigit 34 = .ok (.iconst 0, 1) := by decide +kernel
theorem dX12_isDigit_35 : decode cX12_isDigit 35 = .ok (.ireturn, 1) := by decide +kernel
theorem dX12_wrong_0 : decode cX12_wrong 0 = .ok (.aload_n 0, 1) := by decide +kernel
theorem dX12_wrong_1 : decode cX12_wrong 1 = .ok (.aload_n 0, 1) := by decide +kernel
theorem dX12_wrong_2 : decode cX12_wrong 2 = .ok (.getfield 152, 3) := by decide +kernel
theorem dX12_wrong_5 : decode cX12_wrong 5 = .ok (.iconst (-1), 1) := by decide +kernel
theorem dX12_wrong_6 : decode cX12_wrong 6 = .ok (.if_icmp .ne 10, 3) := by decide +kernel
theorem dX12_wrong_9 : decode cX12_wrong 9 = .ok (.aload_n 0, 1) := by decide +kernel
theorem dX12_wrong_10 : decode cX12_wrong 10 = .ok (.getfield 149, 3) := by decide +kernel
theorem dX12_wrong_13 : decode cX12_wrong 13 = .ok (.goto 7, 3) := by decide +kernel
theorem dX12_wrong_16 : decode cX12_wrong 16 = .ok (.aload_n 0, 1) := by decide +kernel
theorem dX12_wrong_17 : decode cX12_wrong 17 = .ok (.getfield 152, 3) := by decide +kernel
theorem dX12_wrong_20 : decode cX12_wrong 20 = .ok (.putfield 152, 3) := by decide +kernel
theorem dX12_wrong_23 : decode cX12_wrong 23 = .ok (.iconst 0, 1) := by decide +kernel
theorem dX12_wrong_24 : decode cX12_wrong 24 = .ok (.ireturn, 1) := by decide +kernel
theorem dX12_eats_0 : decode cX12_eats 0 = .ok (.aload_n 0, 1) := by decide +kernel
theorem dX12_eats_1 : decode cX12_eats 1 = .ok (.iload_n 1, 1) := by decide +kernel
theorem dX12_eats_2 : decode cX12_eats 2 = .ok (.invokevirtual 155, 3) := by decide +kernel
theorem dX12_eats_5 : decode cX12_eats 5 = .ok (.ifCond .ne 8, 3) := by decide +kernel
theorem dX12_eats_8 : decode cX12_eats 8 = .ok (.aload_n 0, 1) := by decide +kernel
theorem dX12_eats_9 : decode cX12_eats 9 = .ok (.invokevirtual 159, 3) := by decide +kernel
theorem dX12_eats_12 : decode cX12_eats 12 = .ok (.ireturn, 1) := by decide +kernel
theorem dX12_eats_13 : decode cX12_eats 13 = .ok (.aload_n 0, 1) := by decide +kernel
theorem dX12_eats_14 : decode cX12_eats 14 = .ok (.dup, 1) := by decide +kernel
theorem dX12_eats_15 : decode cX12_eats 15 = .ok (.getfield 149, 3) := by decide +kernel
theorem dX12_eats_18 : decode cX12_eats 18 = .ok (.iconst 1, 1) := by decide +kernel
theorem dX12_eats_19 : decode cX12_eats 19 = .ok (.iadd, 1) := by decide +kernel
theorem dX12_eats_20 : decode cX12_eats 20 = .ok (.putfield 149, 3) := by decide +kernel
theorem dX12_eats_23 : decode cX12_eats 23 = .ok (.iconst 1, 1) := by decide +kernel
theorem dX12_eats_24 : decode cX12_eats 24 = .ok (.ireturn, 1) := by decide +kernel
theorem dX12_number_0 : decode cX12_number 0 = .ok (.iconst 0, 1) := by decide +kernel
theorem dX12_number_1 : decode cX12_number 1 = .ok (.istore_n 2, 1) := by decide +kernel
theorem dX12_number_2 : decode cX12_number 2 = .ok (.iconst 0, 1) := by decide +kernel
theorem dX12_number_3 : decode cX12_number 3 = .ok (.istore_n 3, 1) := by decide +kernel
theorem dX12_number_4 : decode cX12_number 4 = .ok (.iload_n 3, 1) := by decide +kernel
theorem dX12_number_5 : decode cX12_number 5 = .ok (.iload_n 1, 1) := by decide +kernel
theorem dX12_number_6 : decode cX12_number 6 = .ok (.if_icmp .ge 44, 3) := by decide +kernel
theorem dX12_number_9 : decode cX12_number 9 = .ok (.aload_n 0, 1) := by decide +kernel
theorem dX12_number_10 : decode cX12_number 10 = .ok (.invokevirtual 163, 3) := by decide +kernel
theorem dX12_number_13 : decode cX12_number 13 = .ok (.ifCond .eq 37, 3) := by decide +kernel
theorem dX12_number_16 : decode cX12_number 16 = .ok (.bipush 10, 2) := by decide +kernel
theorem dX12_number_18 : decode cX12_number 18 = .ok (.iload_n 2, 1) := by decide +kernel
theorem dX12_number_19 : decode cX12_number 19 = .ok (.imul, 1) := by decide +kernel
theorem dX12_number_20 : decode cX12_number 20 = .ok (.aload_n 0, 1) := by decide +kernel
theorem dX12_number_21 : decode cX12_number 21 = .ok (.getfield 7, 3) := by decide +kernel
theorem dX12_number_24 : decode cX12_number 24 = .ok (.aload_n 0, 1) := by decide +kernel
theorem dX12_number_25 : decode cX12_number 25 = .ok (.getfield 149, 3) := by decide +kernel
theorem dX12_number_28 : decode cX12_number 28 = .ok (.caload, 1) := by decide +kernel
theorem dX12_number_29 : decode cX12_number 29 = .ok (.iadd, 1) := by decide +kernel
theorem dX12_number_30 : decode cX12_number 30 = .ok (.bipush 48, 2) := by decide +kernel
theorem dX12_number_32 : decode cX12_number 32 = .ok (.isub, 1) := by decide +kernel
theorem dX12_number_33 : decode cX12_number 33 = .ok (.istore_n 2, 1) := by decide +kernel
theorem dX12_number_34 : decode cX12_number 34 = .ok (.aload_n 0, 1) := by decide +kernel
theorem dX12_number_35 : decode cX12_number 35 = .ok (.dup, 1) := by decide +kernel
theorem dX12_number_36 : decode cX12_number 36 = .ok (.getfield 149, 3) := by decide +kernel
theorem dX12_number_39 : decode cX12_number 39 = .ok (.iconst 1, 1) := by decide +kernel
theorem dX12_number_40 : decode cX12_number 40 = .ok (.iadd, 1) := by decide +kernel
theorem dX12_number_41 : decode cX12_number 41 = .ok (.putfield 149, 3) := by decide +kernel
theorem dX12_number_44 : decode cX12_number 44 = .ok (.iinc 3 1, 3) := by decide +kernel
theorem dX12_number_47 : decode cX12_number 47 = .ok (.goto (-43), 3) := by decide +kernel
theorem dX12_number_50 : decode cX12_number 50 = .ok (.iload_n 2, 1) := by decide +kernel
theorem dX12_number_51 : decode cX12_number 51 = .ok (.ireturn, 1) := by decide +kernel
theorem dX12_index_0 : decode cX12_index 0 = .ok (.aload_n 0, 1) := by decide +kernel
theorem dX12_index_1 : decode cX12_index 1 = .ok (.getfield 13, 3) := by decide +kernel
theorem dX12_index_4 : decode cX12_index 4 = .ok (.iload_n 1, 1) := by decide +kernel
theorem dX12_index_5 : decode cX12_index 5 = .ok (.iconst 1, 1) := by decide +kernel
theorem dX12_index_6 : decode cX12_index 6 = .ok (.iadd, 1) := by decide +kernel
theorem dX12_index_7 : decode cX12_index 7 = .ok (.iconst 0, 1) := by decide +kernel
theorem dX12_index_8 : decode cX12_index 8 = .ok (.iastore, 1) := by decide +kernel
theorem dX12_index_9 : decode cX12_index 9 = .ok (.aload_n 0, 1) := by decide +kernel
theorem dX12_index_10 : decode cX12_index 10 = .ok (.bipush 105, 2) := by decide +kernel
theorem dX12_index_12 : decode cX12_index 12 = .ok (.invokevirtual 155, 3) := by decide +kernel
theorem dX12_index_15 : decode cX12_index 15 = .ok (.ifCond .eq 93, 3) := by decide +kernel
theorem dX12_index_18 : decode cX12_index 18 = .ok (.aload_n 0, 1) := by decide +kernel
theorem dX12_index_19 : decode cX12_index 19 = .ok (.dup, 1) := by decide +kernel
theorem dX12_index_20 : decode cX12_index 20 = .ok (.getfield 149, 3) := by decide +kernel
theorem dX12_index_23 : decode cX12_index 23 = .ok (.iconst 1, 1) := by decide +kernel
theorem dX12_index_24 : decode cX12_index 24 = .ok (.iadd, 1) := by decide +kernel
theorem dX12_index_25 : decode cX12_index 25 = .ok (.putfield 149, 3) := by decide +kernel
theorem dX12_index_28 : decode cX12_index 28 = .ok (.aload_n 0, 1) := by decide +kernel
theorem dX12_index_29 : decode cX12_index 29 = .ok (.getfield 13, 3) := by decide +kernel
theorem dX12_index_32 : decode cX12_index 32 = .ok (.iload_n 1, 1) := by decide +kernel
theorem dX12_index_33 : decode cX12_index 33 = .ok (.iconst 1, 1) := by decide +kernel
theorem dX12_index_34 : decode cX12_index 34 = .ok (.iastore, 1) := by decide +kernel
theorem dX12_index_35 : decode cX12_index 35 = .ok (.aload_n 0, 1) := by decide +kernel
theorem dX12_index_36 : decode cX12_index 36 = .ok (.bipush 43, 2) := by decide +kernel
theorem dX12_index_38 : decode cX12_index 38 = .ok (.invokevirtual 155, 3) := by decide +kernel
theorem dX12_index_41 : decode cX12_index 41 = .ok (.ifCond .ne 12, 3) := by decide +kernel
theorem dX12_index_44 : decode cX12_index 44 = .ok (.aload_n 0, 1) := by decide +kernel
theorem dX12_index_45 : decode cX12_index 45 = .ok (.bipush 45, 2) := by decide +kernel
theorem dX12_index_47 : decode cX12_index 47 = .ok (.invokevirtual 155, 3) := by decide +kernel
theorem dX12_index_50 : decode cX12_index 50 = .ok (.ifCond .eq 93, 3) := by decide +kernel
theorem dX12_index_53 : decode cX12_index 53 = .ok (.aload_n 0, 1) := by decide +kernel
theorem dX12_index_54 : decode cX12_index 54 = .ok (.bipush 43, 2) := by decide +kernel
theorem dX12_index_56 : decode cX12_index 56 = .ok (.invokevirtual 155, 3) := by decide +kernel
theorem dX12_index_59 : decode cX12_index 59 = .ok (.ifCond .eq 7, 3) := by decide +kernel
theorem dX12_index_62 : decode cX12_index 62 = .ok (.iconst 1, 1) := by decide +kernel
theorem dX12_index_63 : decode cX12_index 63 = .ok (.goto 4, 3) := by decide +kernel
theorem dX12_index_66 : decode cX12_index 66 = .ok (.iconst (-1), 1) := by decide +kernel
theorem dX12_index_67 : decode cX12_index 67 = .ok (.istore_n 2, 1) := by decide +kernel
theorem dX12_index_68 : decode cX12_index 68 = .ok (.aload_n 0, 1) := by decide +kernel
theorem dX12_index_69 : decode cX12_index 69 = .ok (.dup, 1) := by decide +kernel
theorem dX12_index_70 : decode cX12_index 70 = .ok (.getfield 149, 3) := by decide +kernel
theorem dX12_index_73 : decode cX12_index 73 = .ok (.iconst 1, 1) := by decide +kernel
theorem dX12_index_74 : decode cX12_index 74 = .ok (.iadd, 1) := by decide +kernel
theorem dX12_index_75 : decode cX12_index 75 = .ok (.putfield 149, 3) := by decide +kernel
theorem dX12_index_78 : decode cX12_index 78 = .ok (.aload_n 0, 1) := by decide +kernel
theorem dX12_index_79 : decode cX12_index 79 = .ok (.invokevirtual 163, 3) := by decide +kernel
theorem dX12_index_82 : decode cX12_index 82 = .ok (.ifCond .ne 8, 3) := by decide +kernel
theorem dX12_index_85 : decode cX12_index 85 = .ok (.aload_n 0, 1) := by decide +kernel
theorem dX12_index_86 : decode cX12_index 86 = .ok (.invokevirtual 159, 3) := by decide +kernel
theorem dX12_index_89 : decode cX12_index 89 = .ok (.ireturn, 1) := by decide +kernel
theorem dX12_index_90 : decode cX12_index 90 = .ok (.aload_n 0, 1) := by decide +kernel
theorem dX12_index_91 : decode cX12_index 91 = .ok (.getfield 13, 3) := by decide +kernel
theorem dX12_index_94 : decode cX12_index 94 = .ok (.iload_n 1, 1) := by decide +kernel
theorem dX12_index_95 : decode cX12_index 95 = .ok (.iconst 1, 1) := by decide +kernel
theorem dX12_index_96 : decode cX12_index 96 = .ok (.iadd, 1) := by decide +kernel
theorem dX12_index_97 : decode cX12_index 97 = .ok (.iload_n 2, 1) := by decide +kernel
theorem dX12_index_98 : decode cX12_index 98 = .ok (.aload_n 0, 1) := by decide +kernel
theorem dX12_index_99 : decode cX12_index 99 = .ok (.iconst 1, 1) := by decide +kernel
theorem dX12_index_100 : decode cX12_index 100 = .ok (.invokevirtual 166, 3) := by decide +kernel
theorem dX12_index_103 : decode cX12_index 103 = .ok (.imul, 1) := by decide +kernel
theorem dX12_index_104 : decode cX12_index 104 = .ok (.iastore, 1) := by decide +kernel
theorem dX12_index_105 : decode cX12_index 105 = .ok (.goto 38, 3) := by decide +kernel
theorem dX12_index_108 : decode cX12_index 108 = .ok (.aload_n 0, 1) := by decide +kernel
theorem dX12_index_109 : decode cX12_index 109 = .ok (.invokevirtual 163, 3) := by decide +kernel
theorem dX12_index_112 : decode cX12_index 112 = .ok (.ifCond .eq 26, 3) := by decide +kernel
theorem dX12_index_115 : decode cX12_index 115 = .ok (.aload_n 0, 1) := by decide +kernel
theorem dX12_index_116 : decode cX12_index 116 = .ok (.getfield 13, 3) := by decide +kernel
theorem dX12_index_119 : decode cX12_index 119 = .ok (.iload_n 1, 1) := by decide +kernel
theorem dX12_index_120 : decode cX12_index 120 = .ok (.iconst 0, 1) := by decide +kernel
theorem dX12_index_121 : decode cX12_index 121 = .ok (.iastore, 1) := by decide +kernel
theorem dX12_index_122 : decode cX12_index 122 = .ok (.aload_n 0, 1) := by decide +kernel
theorem dX12_index_123 : decode cX12_index 123 = .ok (.getfield 13, 3) := by decide +kernel
theorem dX12_index_126 : decode cX12_index 126 = .ok (.iload_n 1, 1) := by decide +kernel
theorem dX12_index_127 : decode cX12_index 127 = .ok (.iconst 1, 1) := by decide +kernel
theorem dX12_index_128 : decode cX12_index 128 = .ok (.iadd, 1) := by decide +kernel
theorem dX12_index_129 : decode cX12_index 129 = .ok (.aload_n 0, 1) := by decide +kernel
theorem dX12_index_130 : decode cX12_index 130 = .ok (.iconst 2, 1) := by decide +kernel
theorem dX12_index_131 : decode cX12_index 131 = .ok (.invokevirtual 166, 3) := by decide +kernel
theorem dX12_index_134 : decode cX12_index 134 = .ok (.iastore, 1) := by decide +kernel
theorem dX12_index_135 : decode cX12_index 135 = .ok (.goto 8, 3) := by decide +kernel
theorem dX12_index_138 : decode cX12_index 138 = .ok (.aload_n 0, 1) := by decide +kernel
theorem dX12_index_139 : decode cX12_index 139 = .ok (.invokevirtual 159, 3) := by decide +kernel
theorem dX12_index_142 : decode cX12_index 142 = .ok (.ireturn, 1) := by decide +kernel
theorem dX12_index_143 : decode cX12_index 143 = .ok (.aload_n 0, 1) := by decide +kernel
theorem dX12_index_144 : decode cX12_index 144 = .ok (.bipush 93, 2) := by decide +kernel
theorem dX12_index_146 : decode cX12_index 146 = .ok (.invokevirtual 169, 3) := by decide +kernel
theorem dX12_index_149 : decode cX12_index 149 = .ok (.ireturn, 1) := by decide +kernel
theorem dX12_part_0 : decode cX12_part 0 = .ok (.aload_n 0, 1) := by decide +kernel
theorem dX12_part_1 : decode cX12_part 1 = .ok (.getfield 13, 3) := by decide +kernel
theorem dX12_part_4 : decode cX12_part 4 = .ok (.iload_n 1, 1) := by decide +kernel
theorem dX12_part_5 : decode cX12_part 5 = .ok (.iconst 1, 1) := by decide +kernel
theorem dX12_part_6 : decode cX12_part 6 = .ok (.iadd, 1) := by decide +kernel
theorem dX12_part_7 : decode cX12_part 7 = .ok (.iconst 0, 1) := by decide +kernel
theorem dX12_part_8 : decode cX12_part 8 = .ok (.iastore, 1) := by decide +kernel
theorem dX12_part_9 : decode cX12_part 9 = .ok (.aload_n 0, 1) := by decide +kernel
theorem dX12_part_10 : decode cX12_part 10 = .ok (.getfield 149, 3) := by decide +kernel
theorem dX12_part_13 : decode cX12_part 13 = .ok (.aload_n 0, 1) := by decide +kernel
theorem dX12_part_14 : decode cX12_part 14 = .ok (.getfield 146, 3) := by decide +kernel
theorem dX12_part_17 : decode cX12_part 17 = .ok (.if_icmp .ge 61, 3) := by decide +kernel
theorem dX12_part_20 : decode cX12_part 20 = .ok (.aload_n 0, 1) := by decide +kernel
theorem dX12_part_21 : decode cX12_part 21 = .ok (.getfield 7, 3) := by decide +kernel
theorem dX12_part_24 : decode cX12_part 24 = .ok (.aload_n 0, 1) := by decide +kernel
theorem dX12_part_25 : decode cX12_part 25 = .ok (.getfield 149, 3) := by decide +kernel
theorem dX12_part_28 : decode cX12_part 28 = .ok (.caload, 1) := by decide +kernel
theorem dX12_part_29 : decode cX12_part 29 = .ok (.bipush 97, 2) := by decide +kernel
theorem dX12_part_31 : decode cX12_part 31 = .ok (.bipush 104, 2) := by decide +kernel
theorem dX12_part_33 : decode cX12_part 33 = .ok (.invokestatic 130, 3) := by decide +kernel
theorem dX12_part_36 : decode cX12_part 36 = .ok (.ifCond .eq 42, 3) := by decide +kernel
theorem dX12_part_39 : decode cX12_part 39 = .ok (.aload_n 0, 1) := by decide +kernel
theorem dX12_part_40 : decode cX12_part 40 = .ok (.getfield 13, 3) := by decide +kernel
theorem dX12_part_43 : decode cX12_part 43 = .ok (.iload_n 1, 1) := by decide +kernel
theorem dX12_part_44 : decode cX12_part 44 = .ok (.iconst 0, 1) := by decide +kernel
theorem dX12_part_45 : decode cX12_part 45 = .ok (.iastore, 1) := by decide +kernel
theorem dX12_part_46 : decode cX12_part 46 = .ok (.aload_n 0, 1) := by decide +kernel
theorem dX12_part_47 : decode cX12_part 47 = .ok (.getfield 13, 3) := by decide +kernel
theorem dX12_part_50 : decode cX12_part 50 = .ok (.iload_n 1, 1) := by decide +kernel
theorem dX12_part_51 : decode cX12_part 51 = .ok (.iconst 1, 1) := by decide +kernel
theorem dX12_part_52 : decode cX12_part 52 = .ok (.iadd, 1) := by decide +kernel
theorem dX12_part_53 : decode cX12_part 53 = .ok (.aload_n 0, 1) := by decide +kernel
theorem dX12_part_54 : decode cX12_part 54 = .ok (.getfield 7, 3) := by decide +kernel
theorem dX12_part_57 : decode cX12_part 57 = .ok (.aload_n 0, 1) := by decide +kernel
theorem dX12_part_58 : decode cX12_part 58 = .ok (.getfield 149, 3) := by decide +kernel
theorem dX12_part_61 : decode cX12_part 61 = .ok (.caload, 1) := by decide +kernel
theorem dX12_part_62 : decode cX12_part 62 = .ok (.bipush 97, 2) := by decide +kernel
theorem dX12_part_64 : decode cX12_part 64 = .ok (.isub, 1) := by decide +kernel
theorem dX12_part_65 : decode cX12_part 65 = .ok (.iastore, 1) := by decide +kernel
theorem dX12_part_66 : decode cX12_part 66 = .ok (.aload_n 0, 1) := by decide +kernel
theorem dX12_part_67 : decode cX12_part 67 = .ok (.dup, 1) := by decide +kernel
theorem dX12_part_68 : decode cX12_part 68 = .ok (.getfield 149, 3) := by decide +kernel
theorem dX12_part_71 : decode cX12_part 71 = .ok (.iconst 1, 1) := by decide +kernel
theorem dX12_part_72 : decode cX12_part 72 = .ok (.iadd, 1) := by decide +kernel
theorem dX12_part_73 : decode cX12_part 73 = .ok (.putfield 149, 3) := by decide +kernel
theorem dX12_part_76 : decode cX12_part 76 = .ok (.iconst 1, 1) := by decide +kernel
theorem dX12_part_77 : decode cX12_part 77 = .ok (.ireturn, 1) := by decide +kernel
theorem dX12_part_78 : decode cX12_part 78 = .ok (.aload_n 0, 1) := by decide +kernel
theorem dX12_part_79 : decode cX12_part 79 = .ok (.bipush 77, 2) := by decide +kernel
theorem dX12_part_81 : decode cX12_part 81 = .ok (.invokevirtual 155, 3) := by decide +kernel
theorem dX12_part_84 : decode cX12_part 84 = .ok (.ifCond .ne 12, 3) := by decide +kernel
theorem dX12_part_87 : decode cX12_part 87 = .ok (.aload_n 0, 1) := by decide +kernel
theorem dX12_part_88 : decode cX12_part 88 = .ok (.bipush 78, 2) := by decide +kernel
theorem dX12_part_90 : decode cX12_part 90 = .ok (.invokevirtual 155, 3) := by decide +kernel
theorem dX12_part_93 : decode cX12_part 93 = .ok (.ifCond .eq 58, 3) := by decide +kernel
theorem dX12_part_96 : decode cX12_part 96 = .ok (.aload_n 0, 1) := by decide +kernel
theorem dX12_part_97 : decode cX12_part 97 = .ok (.getfield 13, 3) := by decide +kernel
theorem dX12_part_100 : decode cX12_part 100 = .ok (.iload_n 1, 1) := by decide +kernel
theorem dX12_part_101 : decode cX12_part 101 = .ok (.aload_n 0, 1) := by decide +kernel
theorem dX12_part_102 : decode cX12_part 102 = .ok (.bipush 77, 2) := by decide +kernel
theorem dX12_part_104 : decode cX12_part 104 = .ok (.invokevirtual 155, 3) := by decide +kernel
theorem dX12_part_107 : decode cX12_part 107 = .ok (.ifCond .eq 7, 3) := by decide +kernel
theorem dX12_part_110 : decode cX12_part 110 = .ok (.iconst 3, 1) := by decide +kernel
theorem dX12_part_111 : decode cX12_part 111 = .ok (.goto 4, 3) := by decide +kernel
theorem dX12_part_114 : decode cX12_part 114 = .ok (.iconst 4, 1) := by decide +kernel
theorem dX12_part_115 : decode cX12_part 115 = .ok (.iastore, 1) := by decide +kernel
theorem dX12_part_116 : decode cX12_part 116 = .ok (.aload_n 0, 1) := by decide +kernel
theorem dX12_part_117 : decode cX12_part 117 = .ok (.dup, 1) := by decide +kernel
theorem dX12_part_118 : decode cX12_part 118 = .ok (.getfield 149, 3) := by decide +kernel
theorem dX12_part_121 : decode cX12_part 121 = .ok (.iconst 1, 1) := by decide +kernel
theorem dX12_part_122 : decode cX12_part 122 = .ok (.iadd, 1) := by decide +kernel
theorem dX12_part_123 : decode cX12_part 123 = .ok (.putfield 149, 3) := by decide +kernel
theorem dX12_part_126 : decode cX12_part 126 = .ok (.aload_n 0, 1) := by decide +kernel
theorem dX12_part_127 : decode cX12_part 127 = .ok (.bipush 91, 2) := by decide +kernel
theorem dX12_part_129 : decode cX12_part 129 = .ok (.invokevirtual 169, 3) := by decide +kernel
theorem dX12_part_132 : decode cX12_part 132 = .ok (.ifCond .eq 17, 3) := by decide +kernel
theorem dX12_part_135 : decode cX12_part 135 = .ok (.aload_n 0, 1) := by decide +kernel
theorem dX12_part_136 : decode cX12_part 136 = .ok (.iload_n 1, 1) := by decide +kernel
theorem dX12_part_137 : decode cX12_part 137 = .ok (.iconst 2, 1) := by decide +kernel
theorem dX12_part_138 : decode cX12_part 138 = .ok (.iadd, 1) := by decide +kernel
theorem dX12_part_139 : decode cX12_part 139 = .ok (.invokevirtual 172, 3) := by decide +kernel
theorem dX12_part_142 : decode cX12_part 142 = .ok (.ifCond .eq 7, 3) := by decide +kernel
theorem dX12_part_145 : decode cX12_part 145 = .ok (.iconst 1, 1) := by decide +kernel
theorem dX12_part_146 : decode cX12_part 146 = .ok (.goto 4, 3) := by decide +kernel
theorem dX12_part_149 : decode cX12_part 149 = .ok (.iconst 0, 1) := by decide +kernel
theorem dX12_part_150 : decode cX12_part 150 = .ok (.ireturn, 1) := by decide +kernel
theorem dX12_part_151 : decode cX12_part 151 = .ok (.aload_n 0, 1) := by decide +kernel
theorem dX12_part_152 : decode cX12_part 152 = .ok (.iload_n 2, 1) := by decide +kernel
theorem dX12_part_153 : decode cX12_part 153 = .ok (.ifCond .eq 8, 3) := by decide +kernel
theorem dX12_part_156 : decode cX12_part 156 = .ok (.bipush 62, 2) := by decide +kernel
theorem dX12_part_158 : decode cX12_part 158 = .ok (.goto 5, 3) := by decide +kernel
theorem dX12_part_161 : decode cX12_part 161 = .ok (.bipush 60, 2) := by decide +kernel
theorem dX12_part_163 : decode cX12_part 163 = .ok (.invokevirtual 155, 3) := by decide +kernel
theorem dX12_part_166 : decode cX12_part 166 = .ok (.ifCond .eq 22, 3) := by decide +kernel
theorem dX12_part_169 : decode cX12_part 169 = .ok (.aload_n 0, 1) := by decide +kernel
theorem dX12_part_170 : decode cX12_part 170 = .ok (.getfield 13, 3) := by decide +kernel
theorem dX12_part_173 : decode cX12_part 173 = .ok (.iload_n 1, 1) := by decide +kernel
theorem dX12_part_174 : decode cX12_part 174 = .ok (.iconst 5, 1) := by decide +kernel
theorem dX12_part_175 : decode cX12_part 175 = .ok (.iastore, 1) := by decide +kernel
theorem dX12_part_176 : decode cX12_part 176 = .ok (.aload_n 0, 1) := by decide +kernel
theorem dX12_part_177 : decode cX12_part 177 = .ok (.dup, 1) := by decide +kernel
theorem dX12_part_178 : decode cX12_part 178 = .ok (.getfield 149, 3) := by decide +kernel
theorem dX12_part_181 : decode cX12_part 181 = .ok (.iconst 1, 1) := by decide +kernel
theorem dX12_part_182 : decode cX12_part 182 = .ok (.iadd, 1) := by decide +kernel
theorem dX12_part_183 : decode cX12_part 183 = .ok (.putfield 149, 3) := by decide +kernel
theorem dX12_part_186 : decode cX12_part 186 = .ok (.iconst 1, 1) := by decide +kernel
theorem dX12_part_187 : decode cX12_part 187 = .ok (.ireturn, 1) := by decide +kernel
theorem dX12_part_188 : decode cX12_part 188 = .ok (.iload_n 2, 1) := by decide +kernel
theorem dX12_part_189 : decode cX12_part 189 = .ok (.ifCond .ne 31, 3) := by decide +kernel
theorem dX12_part_192 : decode cX12_part 192 = .ok (.aload_n 0, 1) := by decide +kernel
theorem dX12_part_193 : decode cX12_part 193 = .ok (.bipush 105, 2) := by decide +kernel
theorem dX12_part_195 : decode cX12_part 195 = .ok (.invokevirtual 155, 3) := by decide +kernel
theorem dX12_part_198 : decode cX12_part 198 = .ok (.ifCond .eq 22, 3) := by decide +kernel
theorem dX12_part_201 : decode cX12_part 201 = .ok (.aload_n 0, 1) := by decide +kernel
theorem dX12_part_202 : decode cX12_part 202 = .ok (.getfield 13, 3) := by decide +kernel
theorem dX12_part_205 : decode cX12_part 205 = .ok (.iload_n 1, 1) := by decide +kernel
theorem dX12_part_206 : decode cX12_part 206 = .ok (.iconst 2, 1) := by decide +kernel
theorem dX12_part_207 : decode cX12_part 207 = .ok (.iastore, 1) := by decide +kernel
theorem dX12_part_208 : decode cX12_part 208 = .ok (.aload_n 0, 1) := by decide +kernel
theorem dX12_part_209 : decode cX12_part 209 = .ok (.dup, 1) := by decide +kernel
theorem dX12_part_210 : decode cX12_part 210 = .ok (.getfield 149, 3) := by decide +kernel
theorem dX12_part_213 : decode cX12_part 213 = .ok (.iconst 1, 1) := by decide +kernel
theorem dX12_part_214 : decode cX12_part 214 = .ok (.iadd, 1) := by decide +kernel
theorem dX12_part_215 : decode cX12_part 215 = .ok (.putfield 149, 3) := by decide +kernel
theorem dX12_part_218 : decode cX12_part 218 = .ok (.iconst 1, 1) := by decide +kernel
theorem dX12_part_219 : decode cX12_part 219 = .ok (.ireturn, 1) := by decide +kernel
theorem dX12_part_220 : decode cX12_part 220 = .ok (.iload_n 2, 1) := by decide +kernel
theorem dX12_part_221 : decode cX12_part 221 = .ok (.ifCond .ne 32, 3) := by decide +kernel
theorem dX12_part_224 : decode cX12_part 224 = .ok (.aload_n 0, 1) := by decide +kernel
theorem dX12_part_225 : decode cX12_part 225 = .ok (.invokevirtual 163, 3) := by decide +kernel
theorem dX12_part_228 : decode cX12_part 228 = .ok (.ifCond .eq 25, 3) := by decide +kernel
theorem dX12_part_231 : decode cX12_part 231 = .ok (.aload_n 0, 1) := by decide +kernel
theorem dX12_part_232 : decode cX12_part 232 = .ok (.getfield 13, 3) := by decide +kernel
theorem dX12_part_235 : decode cX12_part 235 = .ok (.iload_n 1, 1) := by decide +kernel
theorem dX12_part_236 : decode cX12_part 236 = .ok (.iconst 1, 1) := by decide +kernel
theorem dX12_part_237 : decode cX12_part 237 = .ok (.iastore, 1) := by decide +kernel
theorem dX12_part_238 : decode cX12_part 238 = .ok (.aload_n 0, 1) := by decide +kernel
theorem dX12_part_239 : decode cX12_part 239 = .ok (.getfield 13, 3) := by decide +kernel
theorem dX12_part_242 : decode cX12_part 242 = .ok (.iload_n 1, 1) := by decide +kernel
theorem dX12_part_243 : decode cX12_part 243 = .ok (.iconst 1, 1) := by decide +kernel
theorem dX12_part_244 : decode cX12_part 244 = .ok (.iadd, 1) := by decide +kernel
theorem dX12_part_245 : decode cX12_part 245 = .ok (.aload_n 0, 1) := by decide +kernel
theorem dX12_part_246 : decode cX12_part 246 = .ok (.iconst 2, 1) := by decide +kernel
theorem dX12_part_247 : decode cX12_part 247 = .ok (.invokevirtual 166, 3) := by decide +kernel
theorem dX12_part_250 : decode cX12_part 250 = .ok (.iastore, 1) := by decide +kernel
theorem dX12_part_251 : decode cX12_part 251 = .ok (.iconst 1, 1) := by decide +kernel
theorem dX12_part_252 : decode cX12_part 252 = .ok (.ireturn, 1) := by decide +kernel
theorem dX12_part_253 : decode cX12_part 253 = .ok (.aload_n 0, 1) := by decide +kernel
theorem dX12_part_254 : decode cX12_part 254 = .ok (.invokevirtual 159, 3) := by decide +kernel
theorem dX12_part_257 : decode cX12_part 257 = .ok (.ireturn, 1) := by decide +kernel
theorem dX12_parse_0 : decode cX12_parse 0 = .ok (.aload_n 0, 1) := by decide +kernel
theorem dX12_parse_1 : decode cX12_parse 1 = .ok (.iconst 0, 1) := by decide +kernel
theorem dX12_parse_2 : decode cX12_parse 2 = .ok (.putfield 149, 3) := by decide +kernel
theorem dX12_parse_5 : decode cX12_parse 5 = .ok (.aload_n 0, 1) := by decide +kernel
theorem dX12_parse_6 : decode cX12_parse 6 = .ok (.iconst (-1), 1) := by decide +kernel
theorem dX12_parse_7 : decode cX12_parse 7 = .ok (.putfield 152, 3) := by decide +kernel
theorem dX12_parse_10 : decode cX12_parse 10 = .ok (.aload_n 0, 1) := by decide +kernel
theorem dX12_parse_11 : decode cX12_parse 11 = .ok (.getfield 13, 3) := by decide +kernel
theorem dX12_parse_14 : decode cX12_parse 14 = .ok (.bipush 12, 2) := by decide +kernel
theorem dX12_parse_16 : decode cX12_parse 16 = .ok (.iconst 0, 1) := by decide +kernel
theorem dX12_parse_17 : decode cX12_parse 17 = .ok (.iastore, 1) := by decide +kernel
theorem dX12_parse_18 : decode cX12_parse 18 = .ok (.aload_n 0, 1) := by decide +kernel
theorem dX12_parse_19 : decode cX12_parse 19 = .ok (.iconst 0, 1) := by decide +kernel
theorem dX12_parse_20 : decode cX12_parse 20 = .ok (.iconst 1, 1) := by decide +kernel
theorem dX12_parse_21 : decode cX12_parse 21 = .ok (.invokevirtual 176, 3) := by decide +kernel
theorem dX12_parse_24 : decode cX12_parse 24 = .ok (.ifCond .eq 109, 3) := by decide +kernel
theorem dX12_parse_27 : decode cX12_parse 27 = .ok (.aload_n 0, 1) := by decide +kernel
theorem dX12_parse_28 : decode cX12_parse 28 = .ok (.bipush 61, 2) := by decide +kernel
theorem dX12_parse_30 : decode cX12_parse 30 = .ok (.invokevirtual 169, 3) := by decide +kernel
theorem dX12_parse_33 : decode cX12_parse 33 = .ok (.ifCond .eq 100, 3) := by decide +kernel
theorem dX12_parse_36 : decode cX12_parse 36 = .ok (.aload_n 0, 1) := by decide +kernel
theorem dX12_parse_37 : decode cX12_parse 37 = .ok (.iconst 4, 1) := by decide +kernel
theorem dX12_parse_38 : decode cX12_parse 38 = .ok (.iconst 0, 1) := by decide +kernel
theorem dX12_parse_39 : decode cX12_parse 39 = .ok (.invokevirtual 176, 3) := by decide +kernel
theorem dX12_parse_42 : decode cX12_parse 42 = .ok (.ifCond .eq 91, 3) := by decide +kernel
theorem dX12_parse_45 : decode cX12_parse 45 = .ok (.aload_n 0, 1) := by decide +kernel
theorem dX12_parse_46 : decode cX12_parse 46 = .ok (.getfield 149, 3) := by decide +kernel
theorem dX12_parse_49 : decode cX12_parse 49 = .ok (.aload_n 0, 1) := by decide +kernel
theorem dX12_parse_50 : decode cX12_parse 50 = .ok (.getfield 146, 3) := by decide +kernel
theorem dX12_parse_53 : decode cX12_parse 53 = .ok (.if_icmp .ge 80, 3) := by decide +kernel
theorem dX12_parse_56 : decode cX12_parse 56 = .ok (.ldc 180, 2) := by decide +kernel
theorem dX12_parse_58 : decode cX12_parse 58 = .ok (.aload_n 0, 1) := by decide +kernel
theorem dX12_parse_59 : decode cX12_parse 59 = .ok (.getfield 7, 3) := by decide +kernel
theorem dX12_parse_62 : decode cX12_parse 62 = .ok (.aload_n 0, 1) := by decide +kernel
theorem dX12_parse_63 : decode cX12_parse 63 = .ok (.getfield 149, 3) := by decide +kernel
theorem dX12_parse_66 : decode cX12_parse 66 = .ok (.caload, 1) := by decide +kernel
theorem dX12_parse_67 : decode cX12_parse 67 = .ok (.invokevirtual 136, 3) := by decide +kernel
theorem dX12_parse_70 : decode cX12_parse 70 = .ok (.ifCond .ge 11, 3) := by decide +kernel
theorem dX12_parse_73 : decode cX12_parse 73 = .ok (.aload_n 0, 1) := by decide +kernel
theorem dX12_parse_74 : decode cX12_parse 74 = .ok (.invokevirtual 159, 3) := by decide +kernel
theorem dX12_parse_77 : decode cX12_parse 77 = .ok (.pop, 1) := by decide +kernel
theorem dX12_parse_78 : decode cX12_parse 78 = .ok (.goto 55, 3) := by decide +kernel
theorem dX12_parse_81 : decode cX12_parse 81 = .ok (.aload_n 0, 1) := by decide +kernel
theorem dX12_parse_82 : decode cX12_parse 82 = .ok (.getfield 13, 3) := by decide +kernel
theorem dX12_parse_85 : decode cX12_parse 85 = .ok (.bipush 12, 2) := by decide +kernel
theorem dX12_parse_87 : decode cX12_parse 87 = .ok (.aload_n 0, 1) := by decide +kernel
theorem dX12_parse_88 : decode cX12_parse 88 = .ok (.getfield 7, 3) := by decide +kernel
theorem dX12_parse_91 : decode cX12_parse 91 = .ok (.aload_n 0, 1) := by decide +kernel
theorem dX12_parse_92 : decode cX12_parse 92 = .ok (.getfield 149, 3) := by decide +kernel
theorem dX12_parse_95 : decode cX12_parse 95 = .ok (.caload, 1) := by decide +kernel
theorem dX12_parse_96 : decode cX12_parse 96 = .ok (.iastore, 1) := by decide +kernel
theorem dX12_parse_97 : decode cX12_parse 97 = .ok (.aload_n 0, 1) := by decide +kernel
theorem dX12_parse_98 : decode cX12_parse 98 = .ok (.dup, 1) := by decide +kernel
theorem dX12_parse_99 : decode cX12_parse 99 = .ok (.getfield 149, 3) := by decide +kernel
theorem dX12_parse_102 : decode cX12_parse 102 = .ok (.iconst 1, 1) := by decide +kernel
theorem dX12_parse_103 : decode cX12_parse 103 = .ok (.iadd, 1) := by decide +kernel
theorem dX12_parse_104 : decode cX12_parse 104 = .ok (.putfield 149, 3) := by decide +kernel
theorem dX12_parse_107 : decode cX12_parse 107 = .ok (.aload_n 0, 1) := by decide +kernel
theorem dX12_parse_108 : decode cX12_parse 108 = .ok (.bipush 8, 2) := by decide +kernel
theorem dX12_parse_110 : decode cX12_parse 110 = .ok (.iconst 0, 1) := by decide +kernel
theorem dX12_parse_111 : decode cX12_parse 111 = .ok (.invokevirtual 176, 3) := by decide +kernel
theorem dX12_parse_114 : decode cX12_parse 114 = .ok (.ifCond .eq 19, 3) := by decide +kernel
theorem dX12_parse_117 : decode cX12_parse 117 = .ok (.aload_n 0, 1) := by decide +kernel
theorem dX12_parse_118 : decode cX12_parse 118 = .ok (.getfield 149, 3) := by decide +kernel
theorem dX12_parse_121 : decode cX12_parse 121 = .ok (.aload_n 0, 1) := by decide +kernel
theorem dX12_parse_122 : decode cX12_parse 122 = .ok (.getfield 146, 3) := by decide +kernel
theorem dX12_parse_125 : decode cX12_parse 125 = .ok (.if_icmp .ge 8, 3) := by decide +kernel
theorem dX12_parse_128 : decode cX12_parse 128 = .ok (.aload_n 0, 1) := by decide +kernel
theorem dX12_parse_129 : decode cX12_parse 129 = .ok (.invokevirtual 159, 3) := by decide +kernel
theorem dX12_parse_132 : decode cX12_parse 132 = .ok (.pop, 1) := by decide +kernel
theorem dX12_parse_133 : decode cX12_parse 133 = .ok (.aload_n 0, 1) := by decide +kernel
theorem dX12_parse_134 : decode cX12_parse 134 = .ok (.getfield 152, 3) := by decide +kernel
theorem dX12_parse_137 : decode cX12_parse 137 = .ok (.ireturn, 1) := by decide +kernel
theorem dX12_fault_0 : decode cX12_fault 0 = .ok (.aload_n 0, 1) := by decide +kernel
theorem dX12_fault_1 : decode cX12_fault 1 = .ok (.iconst 0, 1) := by decide +kernel
theorem dX12_fault_2 : decode cX12_fault 2 = .ok (.putfield 127, 3) := by decide +kernel
theorem dX12_fault_5 : decode cX12_fault 5 = .ok (.aload_n 0, 1) := by decide +kernel
theorem dX12_fault_6 : decode cX12_fault 6 = .ok (.invokevirtual 182, 3) := by decide +kernel
theorem dX12_fault_9 : decode cX12_fault 9 = .ok (.ireturn, 1) := by decide +kernel
theorem dX12_keep_0 : decode cX12_keep 0 = .ok (.iconst 0, 1) := by decide +kernel
theorem dX12_keep_1 : decode cX12_keep 1 = .ok (.istore_n 2, 1) := by decide +kernel
theorem dX12_keep_2 : decode cX12_keep 2 = .ok (.iload_n 2, 1) := by decide +kernel
theorem dX12_keep_3 : decode cX12_keep 3 = .ok (.bipush 13, 2) := by decide +kernel
theorem dX12_keep_5 : decode cX12_keep 5 = .ok (.if_icmp .ge 26, 3) := by decide +kernel
theorem dX12_keep_8 : decode cX12_keep 8 = .ok (.aload_n 0, 1) := by decide +kernel
theorem dX12_keep_9 : decode cX12_keep 9 = .ok (.getfield 17, 3) := by decide +kernel
theorem dX12_keep_12 : decode cX12_keep 12 = .ok (.bipush 13, 2) := by decide +kernel
theorem dX12_keep_14 : decode cX12_keep 14 = .ok (.iload_n 1, 1) := by decide +kernel
theorem dX12_keep_15 : decode cX12_keep 15 = .ok (.imul, 1) := by decide +kernel
theorem dX12_keep_16 : decode cX12_keep 16 = .ok (.iload_n 2, 1) := by decide +kernel
theorem dX12_keep_17 : decode cX12_keep 17 = .ok (.iadd, 1) := by decide +kernel
theorem dX12_keep_18 : decode cX12_keep 18 = .ok (.aload_n 0, 1) := by decide +kernel
theorem dX12_keep_19 : decode cX12_keep 19 = .ok (.getfield 13, 3) := by decide +kernel
theorem dX12_keep_22 : decode cX12_keep 22 = .ok (.iload_n 2, 1) := by decide +kernel
theorem dX12_keep_23 : decode cX12_keep 23 = .ok (.iaload, 1) := by decide +kernel
theorem dX12_keep_24 : decode cX12_keep 24 = .ok (.iastore, 1) := by decide +kernel
theorem dX12_keep_25 : decode cX12_keep 25 = .ok (.iinc 2 1, 3) := by decide +kernel
theorem dX12_keep_28 : decode cX12_keep 28 = .ok (.goto (-26), 3) := by decide +kernel
theorem dX12_keep_31 : decode cX12_keep 31 = .ok (.aload_n 0, 1) := by decide +kernel
theorem dX12_keep_32 : decode cX12_keep 32 = .ok (.iconst 0, 1) := by decide +kernel
theorem dX12_keep_33 : decode cX12_keep 33 = .ok (.putfield 146, 3) := by decide +kernel
theorem dX12_keep_36 : decode cX12_keep 36 = .ok (.return_, 1) := by decide +kernel
theorem dX12_add_0 : decode cX12_add 0 = .ok (.aload_n 0, 1) := by decide +kernel
theorem dX12_add_1 : decode cX12_add 1 = .ok (.iconst 0, 1) := by decide +kernel
theorem dX12_add_2 : decode cX12_add 2 = .ok (.putfield 127, 3) := by decide +kernel
theorem dX12_add_5 : decode cX12_add 5 = .ok (.aload_n 0, 1) := by decide +kernel
theorem dX12_add_6 : decode cX12_add 6 = .ok (.aload_n 0, 1) := by decide +kernel
theorem dX12_add_7 : decode cX12_add 7 = .ok (.invokevirtual 182, 3) := by decide +kernel
theorem dX12_add_10 : decode cX12_add 10 = .ok (.iconst (-1), 1) := by decide +kernel
theorem dX12_add_11 : decode cX12_add 11 = .ok (.if_icmp .eq 7, 3) := by decide +kernel
theorem dX12_add_14 : decode cX12_add 14 = .ok (.iconst 1, 1) := by decide +kernel
theorem dX12_add_15 : decode cX12_add 15 = .ok (.goto 4, 3) := by decide +kernel
theorem dX12_add_18 : decode cX12_add 18 = .ok (.iconst 0, 1) := by decide +kernel
theorem dX12_add_19 : decode cX12_add 19 = .ok (.iconst 1, 1) := by decide +kernel
theorem dX12_add_20 : decode cX12_add 20 = .ok (.invokevirtual 142, 3) := by decide +kernel
theorem dX12_add_23 : decode cX12_add 23 = .ok (.ifCond .ne 41, 3) := by decide +kernel
theorem dX12_add_26 : decode cX12_add 26 = .ok (.aload_n 0, 1) := by decide +kernel
theorem dX12_add_27 : decode cX12_add 27 = .ok (.aload_n 0, 1) := by decide +kernel
theorem dX12_add_28 : decode cX12_add 28 = .ok (.getfield 186, 3) := by decide +kernel
theorem dX12_add_31 : decode cX12_add 31 = .ok (.bipush 12, 2) := by decide +kernel
theorem dX12_add_33 : decode cX12_add 33 = .ok (.if_icmp .eq 19, 3) := by decide +kernel
theorem dX12_add_36 : decode cX12_add 36 = .ok (.aload_n 0, 1) := by decide +kernel
theorem dX12_add_37 : decode cX12_add 37 = .ok (.getfield 186, 3) := by decide +kernel
theorem dX12_add_40 : decode cX12_add 40 = .ok (.iconst 1, 1) := by decide +kernel
theorem dX12_add_41 : decode cX12_add 41 = .ok (.iadd, 1) := by decide +kernel
theorem dX12_add_42 : decode cX12_add 42 = .ok (.aload_n 0, 1) := by decide +kernel
theorem dX12_add_43 : decode cX12_add 43 = .ok (.getfield 27, 3) := by decide +kernel
theorem dX12_add_46 : decode cX12_add 46 = .ok (.imul, 1) := by decide +kernel
theorem dX12_add_47 : decode cX12_add 47 = .ok (.bipush 24, 2) := by decide +kernel
theorem dX12_add_49 : decode cX12_add 49 = .ok (.if_icmp .le 7, 3) := by decide +kernel
theorem dX12_add_52 : decode cX12_add 52 = .ok (.iconst 1, 1) := by decide +kernel
theorem dX12_add_53 : decode cX12_add 53 = .ok (.goto 4, 3) := by decide +kernel
theorem dX12_add_56 : decode cX12_add 56 = .ok (.iconst 0, 1) := by decide +kernel
theorem dX12_add_57 : decode cX12_add 57 = .ok (.iconst 2, 1) := by decide +kernel
theorem dX12_add_58 : decode cX12_add 58 = .ok (.invokevirtual 142, 3) := by decide +kernel
theorem dX12_add_61 : decode cX12_add 61 = .ok (.ifCond .eq 5, 3) := by decide +kernel
theorem dX12_add_64 : decode cX12_add 64 = .ok (.iconst 0, 1) := by decide +kernel
theorem dX12_add_65 : decode cX12_add 65 = .ok (.ireturn, 1) := by decide +kernel
theorem dX12_add_66 : decode cX12_add 66 = .ok (.aload_n 0, 1) := by decide +kernel
theorem dX12_add_67 : decode cX12_add 67 = .ok (.aload_n 0, 1) := by decide +kernel
theorem dX12_add_68 : decode cX12_add 68 = .ok (.getfield 186, 3) := by decide +kernel
theorem dX12_add_71 : decode cX12_add 71 = .ok (.invokevirtual 189, 3) := by decide +kernel
theorem dX12_add_74 : decode cX12_add 74 = .ok (.aload_n 0, 1) := by decide +kernel
theorem dX12_add_75 : decode cX12_add 75 = .ok (.dup, 1) := by decide +kernel
theorem dX12_add_76 : decode cX12_add 76 = .ok (.getfield 186, 3) := by decide +kernel
theorem dX12_add_79 : decode cX12_add 79 = .ok (.iconst 1, 1) := by decide +kernel
theorem dX12_add_80 : decode cX12_add 80 = .ok (.iadd, 1) := by decide +kernel
theorem dX12_add_81 : decode cX12_add 81 = .ok (.putfield 186, 3) := by decide +kernel
theorem dX12_add_84 : decode cX12_add 84 = .ok (.aload_n 0, 1) := by decide +kernel
theorem dX12_add_85 : decode cX12_add 85 = .ok (.getfield 186, 3) := by decide +kernel
theorem dX12_add_88 : decode cX12_add 88 = .ok (.ireturn, 1) := by decide +kernel
theorem dX12_replace_0 : decode cX12_replace 0 = .ok (.aload_n 0, 1) := by decide +kernel
theorem dX12_replace_1 : decode cX12_replace 1 = .ok (.iconst 0, 1) := by decide +kernel
theorem dX12_replace_2 : decode cX12_replace 2 = .ok (.putfield 127, 3) := by decide +kernel
theorem dX12_replace_5 : decode cX12_replace 5 = .ok (.aload_n 0, 1) := by decide +kernel
theorem dX12_replace_6 : decode cX12_replace 6 = .ok (.iload_n 1, 1) := by decide +kernel
theorem dX12_replace_7 : decode cX12_replace 7 = .ok (.iconst 0, 1) := by decide +kernel
theorem dX12_replace_8 : decode cX12_replace 8 = .ok (.aload_n 0, 1) := by decide +kernel
theorem dX12_replace_9 : decode cX12_replace 9 = .ok (.getfield 186, 3) := by decide +kernel
theorem dX12_replace_12 : decode cX12_replace 12 = .ok (.iconst 1, 1) := by decide +kernel
theorem dX12_replace_13 : decode cX12_replace 13 = .ok (.isub, 1) := by decide +kernel
theorem dX12_replace_14 : decode cX12_replace 14 = .ok (.invokestatic 130, 3) := by decide +kernel
theorem dX12_replace_17 : decode cX12_replace 17 = .ok (.ifCond .ne 7, 3) := by decide +kernel
theorem dX12_replace_20 : decode cX12_replace 20 = .ok (.iconst 1, 1) := by decide +kernel
theorem dX12_replace_21 : decode cX12_replace 21 = .ok (.goto 4, 3) := by decide +kernel
theorem dX12_replace_24 : decode cX12_replace 24 = .ok (.iconst 0, 1) := by decide +kernel
theorem dX12_replace_25 : decode cX12_replace 25 = .ok (.iconst 1, 1) := by decide +kernel
theorem dX12_replace_26 : decode cX12_replace 26 = .ok (.invokevirtual 142, 3) := by decide +kernel
theorem dX12_replace_29 : decode cX12_replace 29 = .ok (.ifCond .ne 24, 3) := by decide +kernel
theorem dX12_replace_32 : decode cX12_replace 32 = .ok (.aload_n 0, 1) := by decide +kernel
theorem dX12_replace_33 : decode cX12_replace 33 = .ok (.aload_n 0, 1) := by decide +kernel
theorem dX12_replace_34 : decode cX12_replace 34 = .ok (.invokevirtual 182, 3) := by decide +kernel
theorem dX12_replace_37 : decode cX12_replace 37 = .ok (.iconst (-1), 1) := by decide +kernel
theorem dX12_replace_38 : decode cX12_replace 38 = .ok (.if_icmp .eq 7, 3) := by decide +kernel
theorem dX12_replace_41 : decode cX12_replace 41 = .ok (.iconst 1, 1) := by decide +kernel
theorem dX12_replace_42 : decode cX12_replace 42 = .ok (.goto 4, 3) := by decide +kernel
theorem dX12_replace_45 : decode cX12_replace 45 = .ok (.iconst 0, 1) := by decide +kernel
theorem dX12_replace_46 : decode cX12_replace 46 = .ok (.iconst 2, 1) := by decide +kernel
theorem dX12_replace_47 : decode cX12_replace 47 = .ok (.invokevirtual 142, 3) := by decide +kernel
theorem dX12_replace_50 : decode cX12_replace 50 = .ok (.ifCond .eq 5, 3) := by decide +kernel
theorem dX12_replace_53 : decode cX12_replace 53 = .ok (.iconst 0, 1) := by decide +kernel
theorem dX12_replace_54 : decode cX12_replace 54 = .ok (.ireturn, 1) := by decide +kernel
theorem dX12_replace_55 : decode cX12_replace 55 = .ok (.aload_n 0, 1) := by decide +kernel
theorem dX12_replace_56 : decode cX12_replace 56 = .ok (.iload_n 1, 1) := by decide +kernel
theorem dX12_replace_57 : decode cX12_replace 57 = .ok (.invokevirtual 189, 3) := by decide +kernel
theorem dX12_replace_60 : decode cX12_replace 60 = .ok (.aload_n 0, 1) := by decide +kernel
theorem dX12_replace_61 : decode cX12_replace 61 = .ok (.invokevirtual 193, 3) := by decide +kernel
theorem dX12_replace_64 : decode cX12_replace 64 = .ok (.aload_n 0, 1) := by decide +kernel
theorem dX12_replace_65 : decode cX12_replace 65 = .ok (.getfield 196, 3) := by decide +kernel
theorem dX12_replace_68 : decode cX12_replace 68 = .ok (.ireturn, 1) := by decide +kernel
theorem dX12_setTurns_0 : decode cX12_setTurns 0 = .ok (.aload_n 0, 1) := by decide +kernel
theorem dX12_setTurns_1 : decode cX12_setTurns 1 = .ok (.iconst 0, 1) := by decide +kernel
theorem dX12_setTurns_2 : decode cX12_setTurns 2 = .ok (.putfield 127, 3) := by decide +kernel
theorem dX12_setTurns_5 : decode cX12_setTurns 5 = .ok (.aload_n 0, 1) := by decide +kernel
theorem dX12_setTurns_6 : decode cX12_setTurns 6 = .ok (.iload_n 1, 1) := by decide +kernel
theorem dX12_setTurns_7 : decode cX12_setTurns 7 = .ok (.iconst 1, 1) := by decide +kernel
theorem dX12_setTurns_8 : decode cX12_setTurns 8 = .ok (.bipush 16, 2) := by decide +kernel
theorem dX12_setTurns_10 : decode cX12_setTurns 10 = .ok (.invokestatic 130, 3) := by decide +kernel
theorem dX12_setTurns_13 : decode cX12_setTurns 13 = .ok (.ifCond .ne 7, 3) := by decide +kernel
theorem dX12_setTurns_16 : decode cX12_setTurns 16 = .ok (.iconst 1, 1) := by decide +kernel
theorem dX12_setTurns_17 : decode cX12_setTurns 17 = .ok (.goto 4, 3) := by decide +kernel
theorem dX12_setTurns_20 : decode cX12_setTurns 20 = .ok (.iconst 0, 1) := by decide +kernel
theorem dX12_setTurns_21 : decode cX12_setTurns 21 = .ok (.iconst 1, 1) := by decide +kernel
theorem dX12_setTurns_22 : decode cX12_setTurns 22 = .ok (.invokevirtual 142, 3) := by decide +kernel
theorem dX12_setTurns_25 : decode cX12_setTurns 25 = .ok (.ifCond .ne 25, 3) := by decide +kernel
theorem dX12_setTurns_28 : decode cX12_setTurns 28 = .ok (.aload_n 0, 1) := by decide +kernel
theorem dX12_setTurns_29 : decode cX12_setTurns 29 = .ok (.iload_n 1, 1) := by decide +kernel
theorem dX12_setTurns_30 : decode cX12_setTurns 30 = .ok (.aload_n 0, 1) := by decide +kernel
theorem dX12_setTurns_31 : decode cX12_setTurns 31 = .ok (.getfield 27, 3) := by decide +kernel
theorem dX12_setTurns_34 : decode cX12_setTurns 34 = .ok (.irem, 1) := by decide +kernel
theorem dX12_setTurns_35 : decode cX12_setTurns 35 = .ok (.ifCond .eq 7, 3) := by decide +kernel
theorem dX12_setTurns_38 : decode cX12_setTurns 38 = .ok (.iconst 1, 1) := by decide +kernel
theorem dX12_setTurns_39 : decode cX12_setTurns 39 = .ok (.goto 4, 3) := by decide +kernel
theorem dX12_setTurns_42 : decode cX12_setTurns 42 = .ok (.iconst 0, 1) := by decide +kernel
theorem dX12_setTurns_43 : decode cX12_setTurns 43 = .ok (.iconst 2, 1) := by decide +kernel
theorem dX12_setTurns_44 : decode cX12_setTurns 44 = .ok (.invokevirtual 142, 3) := by decide +kernel
theorem dX12_setTurns_47 : decode cX12_setTurns 47 = .ok (.ifCond .eq 5, 3) := by decide +kernel
theorem dX12_setTurns_50 : decode cX12_setTurns 50 = .ok (.iconst 0, 1) := by decide +kernel
theorem dX12_setTurns_51 : decode cX12_setTurns 51 = .ok (.ireturn, 1) := by decide +kernel
theorem dX12_setTurns_52 : decode cX12_setTurns 52 = .ok (.aload_n 0, 1) := by decide +kernel
theorem dX12_setTurns_53 : decode cX12_setTurns 53 = .ok (.getfield 20, 3) := by decide +kernel
theorem dX12_setTurns_56 : decode cX12_setTurns 56 = .ok (.istore_n 2, 1) := by decide +kernel
theorem dX12_setTurns_57 : decode cX12_setTurns 57 = .ok (.aload_n 0, 1) := by decide +kernel
theorem dX12_setTurns_58 : decode cX12_setTurns 58 = .ok (.iload_n 1, 1) := by decide +kernel
theorem dX12_setTurns_59 : decode cX12_setTurns 59 = .ok (.putfield 20, 3) := by decide +kernel
theorem dX12_setTurns_62 : decode cX12_setTurns 62 = .ok (.iload_n 2, 1) := by decide +kernel
theorem dX12_setTurns_63 : decode cX12_setTurns 63 = .ok (.ireturn, 1) := by decide +kernel
theorem dX12_setBits_0 : decode cX12_setBits 0 = .ok (.aload_n 0, 1) := by decide +kernel
theorem dX12_setBits_1 : decode cX12_setBits 1 = .ok (.iconst 0, 1) := by decide +kernel
theorem dX12_setBits_2 : decode cX12_setBits 2 = .ok (.putfield 127, 3) := by decide +kernel
theorem dX12_setBits_5 : decode cX12_setBits 5 = .ok (.aload_n 0, 1) := by decide +kernel
theorem dX12_setBits_6 : decode cX12_setBits 6 = .ok (.iload_n 1, 1) := by decide +kernel
theorem dX12_setBits_7 : decode cX12_setBits 7 = .ok (.iconst 1, 1) := by decide +kernel
theorem dX12_setBits_8 : decode cX12_setBits 8 = .ok (.bipush 16, 2) := by decide +kernel
theorem dX12_setBits_10 : decode cX12_setBits 10 = .ok (.invokestatic 130, 3) := by decide +kernel
theorem dX12_setBits_13 : decode cX12_setBits 13 = .ok (.ifCond .ne 7, 3) := by decide +kernel
theorem dX12_setBits_16 : decode cX12_setBits 16 = .ok (.iconst 1, 1) := by decide +kernel
theorem dX12_setBits_17 : decode cX12_setBits 17 = .ok (.goto 4, 3) := by decide +kernel
theorem dX12_setBits_20 : decode cX12_setBits 20 = .ok (.iconst 0, 1) := by decide +kernel
theorem dX12_setBits_21 : decode cX12_setBits 21 = .ok (.iconst 1, 1) := by decide +kernel
theorem dX12_setBits_22 : decode cX12_setBits 22 = .ok (.invokevirtual 142, 3) := by decide +kernel
theorem dX12_setBits_25 : decode cX12_setBits 25 = .ok (.ifCond .eq 5, 3) := by decide +kernel
theorem dX12_setBits_28 : decode cX12_setBits 28 = .ok (.iconst 0, 1) := by decide +kernel
theorem dX12_setBits_29 : decode cX12_setBits 29 = .ok (.ireturn, 1) := by decide +kernel
theorem dX12_setBits_30 : decode cX12_setBits 30 = .ok (.aload_n 0, 1) := by decide +kernel
theorem dX12_setBits_31 : decode cX12_setBits 31 = .ok (.getfield 24, 3) := by decide +kernel
theorem dX12_setBits_34 : decode cX12_setBits 34 = .ok (.istore_n 2, 1) := by decide +kernel
theorem dX12_setBits_35 : decode cX12_setBits 35 = .ok (.aload_n 0, 1) := by decide +kernel
theorem dX12_setBits_36 : decode cX12_setBits 36 = .ok (.iload_n 1, 1) := by decide +kernel
theorem dX12_setBits_37 : decode cX12_setBits 37 = .ok (.putfield 24, 3) := by decide +kernel
theorem dX12_setBits_40 : decode cX12_setBits 40 = .ok (.iload_n 2, 1) := by decide +kernel
theorem dX12_setBits_41 : decode cX12_setBits 41 = .ok (.ireturn, 1) := by decide +kernel
theorem dX12_unroll_0 : decode cX12_unroll 0 = .ok (.aload_n 0, 1) := by decide +kernel
theorem dX12_unroll_1 : decode cX12_unroll 1 = .ok (.iconst 0, 1) := by decide +kernel
theorem dX12_unroll_2 : decode cX12_unroll 2 = .ok (.putfield 127, 3) := by decide +kernel
theorem dX12_unroll_5 : decode cX12_unroll 5 = .ok (.aload_n 0, 1) := by decide +kernel
theorem dX12_unroll_6 : decode cX12_unroll 6 = .ok (.iload_n 1, 1) := by decide +kernel
theorem dX12_unroll_7 : decode cX12_unroll 7 = .ok (.iconst 1, 1) := by decide +kernel
theorem dX12_unroll_8 : decode cX12_unroll 8 = .ok (.iconst 4, 1) := by decide +kernel
theorem dX12_unroll_9 : decode cX12_unroll 9 = .ok (.invokestatic 130, 3) := by decide +kernel
theorem dX12_unroll_12 : decode cX12_unroll 12 = .ok (.ifCond .ne 7, 3) := by decide +kernel
theorem dX12_unroll_15 : decode cX12_unroll 15 = .ok (.iconst 1, 1) := by decide +kernel
theorem dX12_unroll_16 : decode cX12_unroll 16 = .ok (.goto 4, 3) := by decide +kernel
theorem dX12_unroll_19 : decode cX12_unroll 19 = .ok (.iconst 0, 1) := by decide +kernel
theorem dX12_unroll_20 : decode cX12_unroll 20 = .ok (.iconst 1, 1) := by decide +kernel
theorem dX12_unroll_21 : decode cX12_unroll 21 = .ok (.invokevirtual 142, 3) := by decide +kernel
theorem dX12_unroll_24 : decode cX12_unroll 24 = .ok (.ifCond .ne 49, 3) := by decide +kernel
theorem dX12_unroll_27 : decode cX12_unroll 27 = .ok (.aload_n 0, 1) := by decide +kernel
theorem dX12_unroll_28 : decode cX12_unroll 28 = .ok (.aload_n 0, 1) := by decide +kernel
theorem dX12_unroll_29 : decode cX12_unroll 29 = .ok (.getfield 20, 3) := by decide +kernel
theorem dX12_unroll_32 : decode cX12_unroll 32 = .ok (.iload_n 1, 1) := by decide +kernel
theorem dX12_unroll_33 : decode cX12_unroll 33 = .ok (.irem, 1) := by decide +kernel
theorem dX12_unroll_34 : decode cX12_unroll 34 = .ok (.ifCond .eq 7, 3) := by decide +kernel
theorem dX12_unroll_37 : decode cX12_unroll 37 = .ok (.iconst 1, 1) := by decide +kernel
theorem dX12_unroll_38 : decode cX12_unroll 38 = .ok (.goto 4, 3) := by decide +kernel
theorem dX12_unroll_41 : decode cX12_unroll 41 = .ok (.iconst 0, 1) := by decide +kernel
theorem dX12_unroll_42 : decode cX12_unroll 42 = .ok (.iconst 2, 1) := by decide +kernel
theorem dX12_unroll_43 : decode cX12_unroll 43 = .ok (.invokevirtual 142, 3) := by decide +kernel
theorem dX12_unroll_46 : decode cX12_unroll 46 = .ok (.ifCond .ne 27, 3) := by decide +kernel
theorem dX12_unroll_49 : decode cX12_unroll 49 = .ok (.aload_n 0, 1) := by decide +kernel
theorem dX12_unroll_50 : decode cX12_unroll 50 = .ok (.aload_n 0, 1) := by decide +kernel
theorem dX12_unroll_51 : decode cX12_unroll 51 = .ok (.getfield 186, 3) := by decide +kernel
theorem dX12_unroll_54 : decode cX12_unroll 54 = .ok (.iload_n 1, 1) := by decide +kernel
theorem dX12_unroll_55 : decode cX12_unroll 55 = .ok (.imul, 1) := by decide +kernel
theorem dX12_unroll_56 : decode cX12_unroll 56 = .ok (.bipush 24, 2) := by decide +kernel
theorem dX12_unroll_58 : decode cX12_unroll 58 = .ok (.if_icmp .le 7, 3) := by decide +kernel
theorem dX12_unroll_61 : decode cX12_unroll 61 = .ok (.iconst 1, 1) := by decide +kernel
theorem dX12_unroll_62 : decode cX12_unroll 62 = .ok (.goto 4, 3) := by decide +kernel
theorem dX12_unroll_65 : decode cX12_unroll 65 = .ok (.iconst 0, 1) := by decide +kernel
theorem dX12_unroll_66 : decode cX12_unroll 66 = .ok (.iconst 3, 1) := by decide +kernel
theorem dX12_unroll_67 : decode cX12_unroll 67 = .ok (.invokevirtual 142, 3) := by decide +kernel
theorem dX12_unroll_70 : decode cX12_unroll 70 = .ok (.ifCond .eq 5, 3) := by decide +kernel
theorem dX12_unroll_73 : decode cX12_unroll 73 = .ok (.iconst 0, 1) := by decide +kernel
theorem dX12_unroll_74 : decode cX12_unroll 74 = .ok (.ireturn, 1) := by decide +kernel
theorem dX12_unroll_75 : decode cX12_unroll 75 = .ok (.aload_n 0, 1) := by decide +kernel
theorem dX12_unroll_76 : decode cX12_unroll 76 = .ok (.iload_n 1, 1) := by decide +kernel
theorem dX12_unroll_77 : decode cX12_unroll 77 = .ok (.putfield 27, 3) := by decide +kernel
theorem dX12_unroll_80 : decode cX12_unroll 80 = .ok (.aload_n 0, 1) := by decide +kernel
theorem dX12_unroll_81 : decode cX12_unroll 81 = .ok (.invokevirtual 193, 3) := by decide +kernel
theorem dX12_unroll_84 : decode cX12_unroll 84 = .ok (.aload_n 0, 1) := by decide +kernel
theorem dX12_unroll_85 : decode cX12_unroll 85 = .ok (.getfield 196, 3) := by decide +kernel
theorem dX12_unroll_88 : decode cX12_unroll 88 = .ok (.ireturn, 1) := by decide +kernel
theorem dX12_input_0 : decode cX12_input 0 = .ok (.aload_n 0, 1) := by decide +kernel
theorem dX12_input_1 : decode cX12_input 1 = .ok (.iconst 0, 1) := by decide +kernel
theorem dX12_input_2 : decode cX12_input 2 = .ok (.putfield 127, 3) := by decide +kernel
theorem dX12_input_5 : decode cX12_input 5 = .ok (.aload_n 0, 1) := by decide +kernel
theorem dX12_input_6 : decode cX12_input 6 = .ok (.iload_n 1, 1) := by decide +kernel
theorem dX12_input_7 : decode cX12_input 7 = .ok (.iconst 0, 1) := by decide +kernel
theorem dX12_input_8 : decode cX12_input 8 = .ok (.ldc 199, 2) := by decide +kernel
theorem dX12_input_10 : decode cX12_input 10 = .ok (.invokestatic 130, 3) := by decide +kernel
theorem dX12_input_13 : decode cX12_input 13 = .ok (.ifCond .ne 7, 3) := by decide +kernel
theorem dX12_input_16 : decode cX12_input 16 = .ok (.iconst 1, 1) := by decide +kernel
theorem dX12_input_17 : decode cX12_input 17 = .ok (.goto 4, 3) := by decide +kernel
theorem dX12_input_20 : decode cX12_input 20 = .ok (.iconst 0, 1) := by decide +kernel
theorem dX12_input_21 : decode cX12_input 21 = .ok (.iconst 1, 1) := by decide +kernel
theorem dX12_input_22 : decode cX12_input 22 = .ok (.invokevirtual 142, 3) := by decide +kernel
theorem dX12_input_25 : decode cX12_input 25 = .ok (.ifCond .ne 25, 3) := by decide +kernel
theorem dX12_input_28 : decode cX12_input 28 = .ok (.aload_n 0, 1) := by decide +kernel
theorem dX12_input_29 : decode cX12_input 29 = .ok (.aload_n 0, 1) := by decide +kernel
theorem dX12_input_30 : decode cX12_input 30 = .ok (.getfield 200, 3) := by decide +kernel
theorem dX12_input_33 : decode cX12_input 33 = .ok (.bipush 32, 2) := by decide +kernel
theorem dX12_input_35 : decode cX12_input 35 = .ok (.if_icmp .ne 7, 3) := by decide +kernel
theorem dX12_input_38 : decode cX12_input 38 = .ok (.iconst 1, 1) := by decide +kernel
theorem dX12_input_39 : decode cX12_input 39 = .ok (.goto 4, 3) := by decide +kernel
theorem dX12_input_42 : decode cX12_input 42 = .ok (.iconst 0, 1) := by decide +kernel
theorem dX12_input_43 : decode cX12_input 43 = .ok (.iconst 2, 1) := by decide +kernel
theorem dX12_input_44 : decode cX12_input 44 = .ok (.invokevirtual 142, 3) := by decide +kernel
theorem dX12_input_47 : decode cX12_input 47 = .ok (.ifCond .eq 5, 3) := by decide +kernel
theorem dX12_input_50 : decode cX12_input 50 = .ok (.iconst 0, 1) := by decide +kernel
theorem dX12_input_51 : decode cX12_input 51 = .ok (.ireturn, 1) := by decide +kernel
theorem dX12_input_52 : decode cX12_input 52 = .ok (.aload_n 0, 1) := by decide +kernel
theorem dX12_input_53 : decode cX12_input 53 = .ok (.getfield 30, 3) := by decide +kernel
theorem dX12_input_56 : decode cX12_input 56 = .ok (.aload_n 0, 1) := by decide +kernel
theorem dX12_input_57 : decode cX12_input 57 = .ok (.getfield 200, 3) := by decide +kernel
theorem dX12_input_60 : decode cX12_input 60 = .ok (.iload_n 1, 1) := by decide +kernel
theorem dX12_input_61 : decode cX12_input 61 = .ok (.iastore, 1) := by decide +kernel
theorem dX12_input_62 : decode cX12_input 62 = .ok (.aload_n 0, 1) := by decide +kernel
theorem dX12_input_63 : decode cX12_input 63 = .ok (.dup, 1) := by decide +kernel
theorem dX12_input_64 : decode cX12_input 64 = .ok (.getfield 200, 3) := by decide +kernel
theorem dX12_input_67 : decode cX12_input 67 = .ok (.iconst 1, 1) := by decide +kernel
theorem dX12_input_68 : decode cX12_input 68 = .ok (.iadd, 1) := by decide +kernel
theorem dX12_input_69 : decode cX12_input 69 = .ok (.putfield 200, 3) := by decide +kernel
theorem dX12_input_72 : decode cX12_input 72 = .ok (.aload_n 0, 1) := by decide +kernel
theorem dX12_input_73 : decode cX12_input 73 = .ok (.getfield 200, 3) := by decide +kernel
theorem dX12_input_76 : decode cX12_input 76 = .ok (.ireturn, 1) := by decide +kernel
theorem dX12_noMemory_0 : decode cX12_noMemory 0 = .ok (.iload_n 0, 1) := by decide +kernel
theorem dX12_noMemory_1 : decode cX12_noMemory 1 = .ok (.bipush 77, 2) := by decide +kernel
theorem dX12_noMemory_3 : decode cX12_noMemory 3 = .ok (.if_icmp .eq 9, 3) := by decide +kernel
theorem dX12_noMemory_6 : decode cX12_noMemory 6 = .ok (.iload_n 0, 1) := by decide +kernel
theorem dX12_noMemory_7 : decode cX12_noMemory 7 = .ok (.bipush 78, 2) := by decide +kernel
theorem dX12_noMemory_9 : decode cX12_noMemory 9 = .ok (.if_icmp .ne 13, 3) := by decide +kernel
theorem dX12_noMemory_12 : decode cX12_noMemory 12 = .ok (.iload_n 1, 1) := by decide +kernel
theorem dX12_noMemory_13 : decode cX12_noMemory 13 = .ok (.iconst 0, 1) := by decide +kernel
theorem dX12_noMemory_14 : decode cX12_noMemory 14 = .ok (.bipush 15, 2) := by decide +kernel
theorem dX12_noMemory_16 : decode cX12_noMemory 16 = .ok (.invokestatic 130, 3) := by decide +kernel
theorem dX12_noMemory_19 : decode cX12_noMemory 19 = .ok (.ifCond .ne 7, 3) := by decide +kernel
theorem dX12_noMemory_22 : decode cX12_noMemory 22 = .ok (.iconst 1, 1) := by decide +kernel
theorem dX12_noMemory_23 : decode cX12_noMemory 23 = .ok (.goto 4, 3) := by decide +kernel
theorem dX12_noMemory_26 : decode cX12_noMemory 26 = .ok (.iconst 0, 1) := by decide +kernel
theorem dX12_noMemory_27 : decode cX12_noMemory 27 = .ok (.ireturn, 1) := by decide +kernel
theorem dX12_cell_0 : decode cX12_cell 0 = .ok (.iload_n 0, 1) := by decide +kernel
theorem dX12_cell_1 : decode cX12_cell 1 = .ok (.bipush 77, 2) := by decide +kernel
theorem dX12_cell_3 : decode cX12_cell 3 = .ok (.if_icmp .ne 7, 3) := by decide +kernel
theorem dX12_cell_6 : decode cX12_cell 6 = .ok (.iconst 0, 1) := by decide +kernel
theorem dX12_cell_7 : decode cX12_cell 7 = .ok (.goto 5, 3) := by decide +kernel
theorem dX12_cell_10 : decode cX12_cell 10 = .ok (.bipush 16, 2) := by decide +kernel
theorem dX12_cell_12 : decode cX12_cell 12 = .ok (.iload_n 1, 1) := by decide +kernel
theorem dX12_cell_13 : decode cX12_cell 13 = .ok (.iadd, 1) := by decide +kernel
theorem dX12_cell_14 : decode cX12_cell 14 = .ok (.ireturn, 1) := by decide +kernel
theorem dX12_setMemory_0 : decode cX12_setMemory 0 = .ok (.aload_n 0, 1) := by decide +kernel
theorem dX12_setMemory_1 : decode cX12_setMemory 1 = .ok (.iconst 0, 1) := by decide +kernel
theorem dX12_setMemory_2 : decode cX12_setMemory 2 = .ok (.putfield 127, 3) := by decide +kernel
theorem dX12_setMemory_5 : decode cX12_setMemory 5 = .ok (.aload_n 0, 1) := by decide +kernel
theorem dX12_setMemory_6 : decode cX12_setMemory 6 = .ok (.iload_n 1, 1) := by decide +kernel
theorem dX12_setMemory_7 : decode cX12_setMemory 7 = .ok (.iload_n 2, 1) := by decide +kernel
theorem dX12_setMemory_8 : decode cX12_setMemory 8 = .ok (.invokestatic 203, 3) := by decide +kernel
theorem dX12_setMemory_11 : decode cX12_setMemory 11 = .ok (.ifCond .ne 13, 3) := by decide +kernel
theorem dX12_setMemory_14 : decode cX12_setMemory 14 = .ok (.iload_n 3, 1) := by decide +kernel
theorem dX12_setMemory_15 : decode cX12_setMemory 15 = .ok (.iconst 0, 1) := by decide +kernel
theorem dX12_setMemory_16 : decode cX12_setMemory 16 = .ok (.ldc 199, 2) := by decide +kernel
theorem dX12_setMemory_18 : decode cX12_setMemory 18 = .ok (.invokestatic 130, 3) := by decide +kernel
theorem dX12_setMemory_21 : decode cX12_setMemory 21 = .ok (.ifCond .ne 7, 3) := by decide +kernel
theorem dX12_setMemory_24 : decode cX12_setMemory 24 = .ok (.iconst 1, 1) := by decide +kernel
theorem dX12_setMemory_25 : decode cX12_setMemory 25 = .ok (.goto 4, 3) := by decide +kernel
theorem dX12_setMemory_28 : decode cX12_setMemory 28 = .ok (.iconst 0, 1) := by decide +kernel
theorem dX12_setMemory_29 : decode cX12_setMemory 29 = .ok (.iconst 1, 1) := by decide +kernel
theorem dX12_setMemory_30 : decode cX12_setMemory 30 = .ok (.invokevirtual 142, 3) := by decide +kernel
theorem dX12_setMemory_33 : decode cX12_setMemory 33 = .ok (.ifCond .eq 5, 3) := by decide +kernel
theorem dX12_setMemory_36 : decode cX12_setMemory 36 = .ok (.iconst 0, 1) := by decide +kernel
theorem dX12_setMemory_37 : decode cX12_setMemory 37 = .ok (.ireturn, 1) := by decide +kernel
theorem dX12_setMemory_38 : decode cX12_setMemory 38 = .ok (.aload_n 0, 1) := by decide +kernel
theorem dX12_setMemory_39 : decode cX12_setMemory 39 = .ok (.getfield 33, 3) := by decide +kernel
theorem dX12_setMemory_42 : decode cX12_setMemory 42 = .ok (.iload_n 1, 1) := by decide +kernel
theorem dX12_setMemory_43 : decode cX12_setMemory 43 = .ok (.iload_n 2, 1) := by decide +kernel
theorem dX12_setMemory_44 : decode cX12_setMemory 44 = .ok (.invokestatic 207, 3) := by decide +kernel
theorem dX12_setMemory_47 : decode cX12_setMemory 47 = .ok (.iaload, 1) := by decide +kernel
theorem dX12_setMemory_48 : decode cX12_setMemory 48 = .ok (.istore 4, 2) := by decide +kernel
theorem dX12_setMemory_50 : decode cX12_setMemory 50 = .ok (.aload_n 0, 1) := by decide +kernel
theorem dX12_setMemory_51 : decode cX12_setMemory 51 = .ok (.getfield 33, 3) := by decide +kernel
theorem dX12_setMemory_54 : decode cX12_setMemory 54 = .ok (.iload_n 1, 1) := by decide +kernel
theorem dX12_setMemory_55 : decode cX12_setMemory 55 = .ok (.iload_n 2, 1) := by decide +kernel
theorem dX12_setMemory_56 : decode cX12_setMemory 56 = .ok (.invokestatic 207, 3) := by decide +kernel
theorem dX12_setMemory_59 : decode cX12_setMemory 59 = .ok (.iload_n 3, 1) := by decide +kernel
theorem dX12_setMemory_60 : decode cX12_setMemory 60 = .ok (.iastore, 1) := by decide +kernel
theorem dX12_setMemory_61 : decode cX12_setMemory 61 = .ok (.iload 4, 2) := by decide +kernel
theorem dX12_setMemory_63 : decode cX12_setMemory 63 = .ok (.ireturn, 1) := by decide +kernel
theorem dX12_setUnits_0 : decode cX12_setUnits 0 = .ok (.aload_n 0, 1) := by decide +kernel
theorem dX12_setUnits_1 : decode cX12_setUnits 1 = .ok (.iconst 0, 1) := by decide +kernel
theorem dX12_setUnits_2 : decode cX12_setUnits 2 = .ok (.putfield 127, 3) := by decide +kernel
theorem dX12_setUnits_5 : decode cX12_setUnits 5 = .ok (.aload_n 0, 1) := by decide +kernel
theorem dX12_setUnits_6 : decode cX12_setUnits 6 = .ok (.ldc 211, 2) := by decide +kernel
theorem dX12_setUnits_8 : decode cX12_setUnits 8 = .ok (.iload_n 1, 1) := by decide +kernel
theorem dX12_setUnits_9 : decode cX12_setUnits 9 = .ok (.invokevirtual 136, 3) := by decide +kernel
theorem dX12_setUnits_12 : decode cX12_setUnits 12 = .ok (.ifCond .lt 12, 3) := by decide +kernel
theorem dX12_setUnits_15 : decode cX12_setUnits 15 = .ok (.iload_n 2, 1) := by decide +kernel
theorem dX12_setUnits_16 : decode cX12_setUnits 16 = .ok (.iconst 1, 1) := by decide +kernel
theorem dX12_setUnits_17 : decode cX12_setUnits 17 = .ok (.iconst 4, 1) := by decide +kernel
theorem dX12_setUnits_18 : decode cX12_setUnits 18 = .ok (.invokestatic 130, 3) := by decide +kernel
theorem dX12_setUnits_21 : decode cX12_setUnits 21 = .ok (.ifCond .ne 7, 3) := by decide +kernel
theorem dX12_setUnits_24 : decode cX12_setUnits 24 = .ok (.iconst 1, 1) := by decide +kernel
theorem dX12_setUnits_25 : decode cX12_setUnits 25 = .ok (.goto 4, 3) := by decide +kernel
theorem dX12_setUnits_28 : decode cX12_setUnits 28 = .ok (.iconst 0, 1) := by decide +kernel
theorem dX12_setUnits_29 : decode cX12_setUnits 29 = .ok (.iconst 1, 1) := by decide +kernel
theorem dX12_setUnits_30 : decode cX12_setUnits 30 = .ok (.invokevirtual 142, 3) := by decide +kernel
theorem dX12_setUnits_33 : decode cX12_setUnits 33 = .ok (.ifCond .ne 31, 3) := by decide +kernel
theorem dX12_setUnits_36 : decode cX12_setUnits 36 = .ok (.aload_n 0, 1) := by decide +kernel
theorem dX12_setUnits_37 : decode cX12_setUnits 37 = .ok (.iload_n 2, 1) := by decide +kernel
theorem dX12_setUnits_38 : decode cX12_setUnits 38 = .ok (.iconst 1, 1) := by decide +kernel
theorem dX12_setUnits_39 : decode cX12_setUnits 39 = .ok (.if_icmp .le 17, 3) := by decide +kernel
theorem dX12_setUnits_42 : decode cX12_setUnits 42 = .ok (.ldc 211, 2) := by decide +kernel
theorem dX12_setUnits_44 : decode cX12_setUnits 44 = .ok (.iload_n 1, 1) := by decide +kernel
theorem dX12_setUnits_45 : decode cX12_setUnits 45 = .ok (.invokevirtual 136, 3) := by decide +kernel
theorem dX12_setUnits_48 : decode cX12_setUnits 48 = .ok (.iconst 4, 1) := by decide +kernel
theorem dX12_setUnits_49 : decode cX12_setUnits 49 = .ok (.if_icmp .le 7, 3) := by decide +kernel
theorem dX12_setUnits_52 : decode cX12_setUnits 52 = .ok (.iconst 1, 1) := by decide +kernel
theorem dX12_setUnits_53 : decode cX12_setUnits 53 = .ok (.goto 4, 3) := by decide +kernel
theorem dX12_setUnits_56 : decode cX12_setUnits 56 = .ok (.iconst 0, 1) := by decide +kernel
theorem dX12_setUnits_57 : decode cX12_setUnits 57 = .ok (.iconst 2, 1) := by decide +kernel
theorem dX12_setUnits_58 : decode cX12_setUnits 58 = .ok (.invokevirtual 142, 3) := by decide +kernel
theorem dX12_setUnits_61 : decode cX12_setUnits 61 = .ok (.ifCond .eq 5, 3) := by decide +kernel
theorem dX12_setUnits_64 : decode cX12_setUnits 64 = .ok (.iconst 0, 1) := by decide +kernel
theorem dX12_setUnits_65 : decode cX12_setUnits 65 = .ok (.ireturn, 1) := by decide +kernel
theorem dX12_setUnits_66 : decode cX12_setUnits 66 = .ok (.aload_n 0, 1) := by decide +kernel
theorem dX12_setUnits_67 : decode cX12_setUnits 67 = .ok (.getfield 36, 3) := by decide +kernel
theorem dX12_setUnits_70 : decode cX12_setUnits 70 = .ok (.ldc 211, 2) := by decide +kernel
theorem dX12_setUnits_72 : decode cX12_setUnits 72 = .ok (.iload_n 1, 1) := by decide +kernel
theorem dX12_setUnits_73 : decode cX12_setUnits 73 = .ok (.invokevirtual 136, 3) := by decide +kernel
theorem dX12_setUnits_76 : decode cX12_setUnits 76 = .ok (.iaload, 1) := by decide +kernel
theorem dX12_setUnits_77 : decode cX12_setUnits 77 = .ok (.istore_n 3, 1) := by decide +kernel
theorem dX12_setUnits_78 : decode cX12_setUnits 78 = .ok (.aload_n 0, 1) := by decide +kernel
theorem dX12_setUnits_79 : decode cX12_setUnits 79 = .ok (.getfield 36, 3) := by decide +kernel
theorem dX12_setUnits_82 : decode cX12_setUnits 82 = .ok (.ldc 211, 2) := by decide +kernel
theorem dX12_setUnits_84 : decode cX12_setUnits 84 = .ok (.iload_n 1, 1) := by decide +kernel
theorem dX12_setUnits_85 : decode cX12_setUnits 85 = .ok (.invokevirtual 136, 3) := by decide +kernel
theorem dX12_setUnits_88 : decode cX12_setUnits 88 = .ok (.iload_n 2, 1) := by decide +kernel
theorem dX12_setUnits_89 : decode cX12_setUnits 89 = .ok (.iastore, 1) := by decide +kernel
theorem dX12_setUnits_90 : decode cX12_setUnits 90 = .ok (.iload_n 3, 1) := by decide +kernel
theorem dX12_setUnits_91 : decode cX12_setUnits 91 = .ok (.ireturn, 1) := by decide +kernel
theorem dX12_setCycles_0 : decode cX12_setCycles 0 = .ok (.aload_n 0, 1) := by decide +kernel
theorem dX12_setCycles_1 : decode cX12_setCycles 1 = .ok (.iconst 0, 1) := by decide +kernel
theorem dX12_setCycles_2 : decode cX12_setCycles 2 = .ok (.putfield 127, 3) := by decide +kernel
theorem dX12_setCycles_5 : decode cX12_setCycles 5 = .ok (.aload_n 0, 1) := by decide +kernel
theorem dX12_setCycles_6 : decode cX12_setCycles 6 = .ok (.ldc 211, 2) := by decide +kernel
theorem dX12_setCycles_8 : decode cX12_setCycles 8 = .ok (.iload_n 1, 1) := by decide +kernel
theorem dX12_setCycles_9 : decode cX12_setCycles 9 = .ok (.invokevirtual 136, 3) := by decide +kernel
theorem dX12_setCycles_12 : decode cX12_setCycles 12 = .ok (.ifCond .lt 12, 3) := by decide +kernel
theorem dX12_setCycles_15 : decode cX12_setCycles 15 = .ok (.iload_n 2, 1) := by decide +kernel
theorem dX12_setCycles_16 : decode cX12_setCycles 16 = .ok (.iconst 1, 1) := by decide +kernel
theorem dX12_setCycles_17 : decode cX12_setCycles 17 = .ok (.iconst 5, 1) := by decide +kernel
theorem dX12_setCycles_18 : decode cX12_setCycles 18 = .ok (.invokestatic 130, 3) := by decide +kernel
theorem dX12_setCycles_21 : decode cX12_setCycles 21 = .ok (.ifCond .ne 7, 3) := by decide +kernel
theorem dX12_setCycles_24 : decode cX12_setCycles 24 = .ok (.iconst 1, 1) := by decide +kernel
theorem dX12_setCycles_25 : decode cX12_setCycles 25 = .ok (.goto 4, 3) := by decide +kernel
theorem dX12_setCycles_28 : decode cX12_setCycles 28 = .ok (.iconst 0, 1) := by decide +kernel
theorem dX12_setCycles_29 : decode cX12_setCycles 29 = .ok (.iconst 1, 1) := by decide +kernel
theorem dX12_setCycles_30 : decode cX12_setCycles 30 = .ok (.invokevirtual 142, 3) := by decide +kernel
theorem dX12_setCycles_33 : decode cX12_setCycles 33 = .ok (.ifCond .eq 5, 3) := by decide +kernel
theorem dX12_setCycles_36 : decode cX12_setCycles 36 = .ok (.iconst 0, 1) := by decide +kernel
theorem dX12_setCycles_37 : decode cX12_setCycles 37 = .ok (.ireturn, 1) := by decide +kernel
theorem dX12_setCycles_38 : decode cX12_setCycles 38 = .ok (.aload_n 0, 1) := by decide +kernel
theorem dX12_setCycles_39 : decode cX12_setCycles 39 = .ok (.getfield 39, 3) := by decide +kernel
theorem dX12_setCycles_42 : decode cX12_setCycles 42 = .ok (.ldc 211, 2) := by decide +kernel
theorem dX12_setCycles_44 : decode cX12_setCycles 44 = .ok (.iload_n 1, 1) := by decide +kernel
theorem dX12_setCycles_45 : decode cX12_setCycles 45 = .ok (.invokevirtual 136, 3) := by decide +kernel
theorem dX12_setCycles_48 : decode cX12_setCycles 48 = .ok (.iaload, 1) := by decide +kernel
theorem dX12_setCycles_49 : decode cX12_setCycles 49 = .ok (.istore_n 3, 1) := by decide +kernel
theorem dX12_setCycles_50 : decode cX12_setCycles 50 = .ok (.aload_n 0, 1) := by decide +kernel
theorem dX12_setCycles_51 : decode cX12_setCycles 51 = .ok (.getfield 39, 3) := by decide +kernel
theorem dX12_setCycles_54 : decode cX12_setCycles 54 = .ok (.ldc 211, 2) := by decide +kernel
theorem dX12_setCycles_56 : decode cX12_setCycles 56 = .ok (.iload_n 1, 1) := by decide +kernel
theorem dX12_setCycles_57 : decode cX12_setCycles 57 = .ok (.invokevirtual 136, 3) := by decide +kernel
theorem dX12_setCycles_60 : decode cX12_setCycles 60 = .ok (.iload_n 2, 1) := by decide +kernel
theorem dX12_setCycles_61 : decode cX12_setCycles 61 = .ok (.iastore, 1) := by decide +kernel
theorem dX12_setCycles_62 : decode cX12_setCycles 62 = .ok (.iload_n 3, 1) := by decide +kernel
theorem dX12_setCycles_63 : decode cX12_setCycles 63 = .ok (.ireturn, 1) := by decide +kernel
theorem dX12_begin_0 : decode cX12_begin 0 = .ok (.iconst 0, 1) := by decide +kernel
theorem dX12_begin_1 : decode cX12_begin 1 = .ok (.istore_n 1, 1) := by decide +kernel
theorem dX12_begin_2 : decode cX12_begin 2 = .ok (.iload_n 1, 1) := by decide +kernel
theorem dX12_begin_3 : decode cX12_begin 3 = .ok (.bipush 8, 2) := by decide +kernel
theorem dX12_begin_5 : decode cX12_begin 5 = .ok (.if_icmp .ge 16, 3) := by decide +kernel
theorem dX12_begin_8 : decode cX12_begin 8 = .ok (.aload_n 0, 1) := by decide +kernel
theorem dX12_begin_9 : decode cX12_begin 9 = .ok (.getfield 42, 3) := by decide +kernel
theorem dX12_begin_12 : decode cX12_begin 12 = .ok (.iload_n 1, 1) := by decide +kernel
theorem dX12_begin_13 : decode cX12_begin 13 = .ok (.iconst 0, 1) := by decide +kernel
theorem dX12_begin_14 : decode cX12_begin 14 = .ok (.iastore, 1) := by decide +kernel
theorem dX12_begin_15 : decode cX12_begin 15 = .ok (.iinc 1 1, 3) := by decide +kernel
theorem dX12_begin_18 : decode cX12_begin 18 = .ok (.goto (-16), 3) := by decide +kernel
theorem dX12_begin_21 : decode cX12_begin 21 = .ok (.iconst 0, 1) := by decide +kernel
theorem dX12_begin_22 : decode cX12_begin 22 = .ok (.istore_n 1, 1) := by decide +kernel
theorem dX12_begin_23 : decode cX12_begin 23 = .ok (.iload_n 1, 1) := by decide +kernel
theorem dX12_begin_24 : decode cX12_begin 24 = .ok (.bipush 32, 2) := by decide +kernel
theorem dX12_begin_26 : decode cX12_begin 26 = .ok (.if_icmp .ge 25, 3) := by decide +kernel
theorem dX12_begin_29 : decode cX12_begin 29 = .ok (.aload_n 0, 1) := by decide +kernel
theorem dX12_begin_30 : decode cX12_begin 30 = .ok (.getfield 45, 3) := by decide +kernel
theorem dX12_begin_33 : decode cX12_begin 33 = .ok (.iload_n 1, 1) := by decide +kernel
theorem dX12_begin_34 : decode cX12_begin 34 = .ok (.aload_n 0, 1) := by decide +kernel
theorem dX12_begin_35 : decode cX12_begin 35 = .ok (.aload_n 0, 1) := by decide +kernel
theorem dX12_begin_36 : decode cX12_begin 36 = .ok (.getfield 33, 3) := by decide +kernel
theorem dX12_begin_39 : decode cX12_begin 39 = .ok (.iload_n 1, 1) := by decide +kernel
theorem dX12_begin_40 : decode cX12_begin 40 = .ok (.iaload, 1) := by decide +kernel
theorem dX12_begin_41 : decode cX12_begin 41 = .ok (.invokevirtual 213, 3) := by decide +kernel
theorem dX12_begin_44 : decode cX12_begin 44 = .ok (.iastore, 1) := by decide +kernel
theorem dX12_begin_45 : decode cX12_begin 45 = .ok (.iinc 1 1, 3) := by decide +kernel
theorem dX12_begin_48 : decode cX12_begin 48 = .ok (.goto (-25), 3) := by decide +kernel
theorem dX12_begin_51 : decode cX12_begin 51 = .ok (.aload_n 0, 1) := by decide +kernel
theorem dX12_begin_52 : decode cX12_begin 52 = .ok (.iconst 0, 1) := by decide +kernel
theorem dX12_begin_53 : decode cX12_begin 53 = .ok (.putfield 216, 3) := by decide +kernel
theorem dX12_begin_56 : decode cX12_begin 56 = .ok (.aload_n 0, 1) := by decide +kernel
theorem dX12_begin_57 : decode cX12_begin 57 = .ok (.iconst 0, 1) := by decide +kernel
theorem dX12_begin_58 : decode cX12_begin 58 = .ok (.putfield 219, 3) := by decide +kernel
theorem dX12_begin_61 : decode cX12_begin 61 = .ok (.return_, 1) := by decide +kernel
theorem dX12_where_0 : decode cX12_where 0 = .ok (.iload_n 1, 1) := by decide +kernel
theorem dX12_where_1 : decode cX12_where 1 = .ok (.iconst 1, 1) := by decide +kernel
theorem dX12_where_2 : decode cX12_where 2 = .ok (.if_icmp .ne 9, 3) := by decide +kernel
theorem dX12_where_5 : decode cX12_where 5 = .ok (.iload_n 3, 1) := by decide +kernel
theorem dX12_where_6 : decode cX12_where 6 = .ok (.iload_n 2, 1) := by decide +kernel
theorem dX12_where_7 : decode cX12_where 7 = .ok (.iadd, 1) := by decide +kernel
theorem dX12_where_8 : decode cX12_where 8 = .ok (.goto 4, 3) := by decide +kernel
theorem dX12_where_11 : decode cX12_where 11 = .ok (.iload_n 2, 1) := by decide +kernel
theorem dX12_where_12 : decode cX12_where 12 = .ok (.istore 4, 2) := by decide +kernel
theorem dX12_where_14 : decode cX12_where 14 = .ok (.iload 4, 2) := by decide +kernel
theorem dX12_where_16 : decode cX12_where 16 = .ok (.iconst 0, 1) := by decide +kernel
theorem dX12_where_17 : decode cX12_where 17 = .ok (.bipush 15, 2) := by decide +kernel
theorem dX12_where_19 : decode cX12_where 19 = .ok (.invokestatic 130, 3) := by decide +kernel
theorem dX12_where_22 : decode cX12_where 22 = .ok (.ifCond .eq 20, 3) := by decide +kernel
theorem dX12_where_25 : decode cX12_where 25 = .ok (.iload_n 0, 1) := by decide +kernel
theorem dX12_where_26 : decode cX12_where 26 = .ok (.iconst 3, 1) := by decide +kernel
theorem dX12_where_27 : decode cX12_where 27 = .ok (.if_icmp .ne 7, 3) := by decide +kernel
theorem dX12_where_30 : decode cX12_where 30 = .ok (.iconst 0, 1) := by decide +kernel
theorem dX12_where_31 : decode cX12_where 31 = .ok (.goto 5, 3) := by decide +kernel
theorem dX12_where_34 : decode cX12_where 34 = .ok (.bipush 16, 2) := by decide +kernel
theorem dX12_where_36 : decode cX12_where 36 = .ok (.iload 4, 2) := by decide +kernel
theorem dX12_where_38 : decode cX12_where 38 = .ok (.iadd, 1) := by decide +kernel
theorem dX12_where_39 : decode cX12_where 39 = .ok (.goto 4, 3) := by decide +kernel
theorem dX12_where_42 : decode cX12_where 42 = .ok (.iconst (-1), 1) := by decide +kernel
theorem dX12_where_43 : decode cX12_where 43 = .ok (.ireturn, 1) := by decide +kernel
theorem dX12_fromChannel_0 : decode cX12_fromChannel 0 = .ok (.aload_n 0, 1) := by decide +kernel
theorem dX12_fromChannel_1 : decode cX12_fromChannel 1 = .ok (.dup, 1) := by decide +kernel
theorem dX12_fromChannel_2 : decode cX12_fromChannel 2 = .ok (.getfield 219, 3) := by decide +kernel
theorem dX12_fromChannel_5 : decode cX12_fromChannel 5 = .ok (.iconst 1, 1) := by decide +kernel
theorem dX12_fromChannel_6 : decode cX12_fromChannel 6 = .ok (.iadd, 1) := by decide +kernel
theorem dX12_fromChannel_7 : decode cX12_fromChannel 7 = .ok (.putfield 219, 3) := by decide +kernel
theorem dX12_fromChannel_10 : decode cX12_fromChannel 10 = .ok (.aload_n 0, 1) := by decide +kernel
theorem dX12_fromChannel_11 : decode cX12_fromChannel 11 = .ok (.getfield 219, 3) := by decide +kernel
theorem dX12_fromChannel_14 : decode cX12_fromChannel 14 = .ok (.aload_n 0, 1) := by decide +kernel
theorem dX12_fromChannel_15 : decode cX12_fromChannel 15 = .ok (.getfield 200, 3) := by decide +kernel
theorem dX12_fromChannel_18 : decode cX12_fromChannel 18 = .ok (.if_icmp .gt 21, 3) := by decide +kernel
theorem dX12_fromChannel_21 : decode cX12_fromChannel 21 = .ok (.aload_n 0, 1) := by decide +kernel
theorem dX12_fromChannel_22 : decode cX12_fromChannel 22 = .ok (.aload_n 0, 1) := by decide +kernel
theorem dX12_fromChannel_23 : decode cX12_fromChannel 23 = .ok (.getfield 30, 3) := by decide +kernel
theorem dX12_fromChannel_26 : decode cX12_fromChannel 26 = .ok (.aload_n 0, 1) := by decide +kernel
theorem dX12_fromChannel_27 : decode cX12_fromChannel 27 = .ok (.getfield 219, 3) := by decide +kernel
theorem dX12_fromChannel_30 : decode cX12_fromChannel 30 = .ok (.iconst 1, 1) := by decide +kernel
theorem dX12_fromChannel_31 : decode cX12_fromChannel 31 = .ok (.isub, 1) := by decide +kernel
theorem dX12_fromChannel_32 : decode cX12_fromChannel 32 = .ok (.iaload, 1) := by decide +kernel
theorem dX12_fromChannel_33 : decode cX12_fromChannel 33 = .ok (.invokevirtual 213, 3) := by decide +kernel
theorem dX12_fromChannel_36 : decode cX12_fromChannel 36 = .ok (.goto 4, 3) := by decide +kernel
theorem dX12_fromChannel_39 : decode cX12_fromChannel 39 = .ok (.iconst 0, 1) := by decide +kernel
theorem dX12_fromChannel_40 : decode cX12_fromChannel 40 = .ok (.ireturn, 1) := by decide +kernel
theorem dX12_operand_0 : decode cX12_operand 0 = .ok (.aload_n 0, 1) := by decide +kernel
theorem dX12_operand_1 : decode cX12_operand 1 = .ok (.getfield 17, 3) := by decide +kernel
theorem dX12_operand_4 : decode cX12_operand 4 = .ok (.iload_n 1, 1) := by decide +kernel
theorem dX12_operand_5 : decode cX12_operand 5 = .ok (.iaload, 1) := by decide +kernel
theorem dX12_operand_6 : decode cX12_operand 6 = .ok (.istore_n 3, 1) := by decide +kernel
theorem dX12_operand_7 : decode cX12_operand 7 = .ok (.iload_n 3, 1) := by decide +kernel
theorem dX12_operand_8 : decode cX12_operand 8 = .ok (.tableswitch 78 0 5 #[40, 54, 67, 78, 78, 73], 40) := by decide +kernel
theorem dX12_operand_48 : decode cX12_operand 48 = .ok (.aload_n 0, 1) := by decide +kernel
theorem dX12_operand_49 : decode cX12_operand 49 = .ok (.getfield 42, 3) := by decide +kernel
theorem dX12_operand_52 : decode cX12_operand 52 = .ok (.aload_n 0, 1) := by decide +kernel
theorem dX12_operand_53 : decode cX12_operand 53 = .ok (.getfield 17, 3) := by decide +kernel
theorem dX12_operand_56 : decode cX12_operand 56 = .ok (.iload_n 1, 1) := by decide +kernel
theorem dX12_operand_57 : decode cX12_operand 57 = .ok (.iconst 1, 1) := by decide +kernel
theorem dX12_operand_58 : decode cX12_operand 58 = .ok (.iadd, 1) := by decide +kernel
theorem dX12_operand_59 : decode cX12_operand 59 = .ok (.iaload, 1) := by decide +kernel
theorem dX12_operand_60 : decode cX12_operand 60 = .ok (.iaload, 1) := by decide +kernel
theorem dX12_operand_61 : decode cX12_operand 61 = .ok (.ireturn, 1) := by decide +kernel
theorem dX12_operand_62 : decode cX12_operand 62 = .ok (.aload_n 0, 1) := by decide +kernel
theorem dX12_operand_63 : decode cX12_operand 63 = .ok (.aload_n 0, 1) := by decide +kernel
theorem dX12_operand_64 : decode cX12_operand 64 = .ok (.getfield 17, 3) := by decide +kernel
theorem dX12_operand_67 : decode cX12_operand 67 = .ok (.iload_n 1, 1) := by decide +kernel
theorem dX12_operand_68 : decode cX12_operand 68 = .ok (.iconst 1, 1) := by decide +kernel
theorem dX12_operand_69 : decode cX12_operand 69 = .ok (.iadd, 1) := by decide +kernel
theorem dX12_operand_70 : decode cX12_operand 70 = .ok (.iaload, 1) := by decide +kernel
theorem dX12_operand_71 : decode cX12_operand 71 = .ok (.invokevirtual 213, 3) := by decide +kernel
theorem dX12_operand_74 : decode cX12_operand 74 = .ok (.ireturn, 1) := by decide +kernel
theorem dX12_operand_75 : decode cX12_operand 75 = .ok (.aload_n 0, 1) := by decide +kernel
theorem dX12_operand_76 : decode cX12_operand 76 = .ok (.iload_n 2, 1) := by decide +kernel
theorem dX12_operand_77 : decode cX12_operand 77 = .ok (.invokevirtual 213, 3) := by decide +kernel
theorem dX12_operand_80 : decode cX12_operand 80 = .ok (.ireturn, 1) := by decide +kernel
theorem dX12_operand_81 : decode cX12_operand 81 = .ok (.aload_n 0, 1) := by decide +kernel
theorem dX12_operand_82 : decode cX12_operand 82 = .ok (.invokevirtual 221, 3) := by decide +kernel
theorem dX12_operand_85 : decode cX12_operand 85 = .ok (.ireturn, 1) := by decide +kernel
theorem dX12_operand_86 : decode cX12_operand 86 = .ok (.iload_n 3, 1) := by decide +kernel
theorem dX12_operand_87 : decode cX12_operand 87 = .ok (.aload_n 0, 1) := by decide +kernel
theorem dX12_operand_88 : decode cX12_operand 88 = .ok (.getfield 17, 3) := by decide +kernel
theorem dX12_operand_91 : decode cX12_operand 91 = .ok (.iload_n 1, 1) := by decide +kernel
theorem dX12_operand_92 : decode cX12_operand 92 = .ok (.iconst 2, 1) := by decide +kernel
theorem dX12_operand_93 : decode cX12_operand 93 = .ok (.iadd, 1) := by decide +kernel
theorem dX12_operand_94 : decode cX12_operand 94 = .ok (.iaload, 1) := by decide +kernel
theorem dX12_operand_95 : decode cX12_operand 95 = .ok (.aload_n 0, 1) := by decide +kernel
theorem dX12_operand_96 : decode cX12_operand 96 = .ok (.getfield 17, 3) := by decide +kernel
theorem dX12_operand_99 : decode cX12_operand 99 = .ok (.iload_n 1, 1) := by decide +kernel
theorem dX12_operand_100 : decode cX12_operand 100 = .ok (.iconst 3, 1) := by decide +kernel
theorem dX12_operand_101 : decode cX12_operand 101 = .ok (.iadd, 1) := by decide +kernel
theorem dX12_operand_102 : decode cX12_operand 102 = .ok (.iaload, 1) := by decide +kernel
theorem dX12_operand_103 : decode cX12_operand 103 = .ok (.iload_n 2, 1) := by decide +kernel
theorem dX12_operand_104 : decode cX12_operand 104 = .ok (.invokestatic 224, 3) := by decide +kernel
theorem dX12_operand_107 : decode cX12_operand 107 = .ok (.istore 4, 2) := by decide +kernel
theorem dX12_operand_109 : decode cX12_operand 109 = .ok (.iload 4, 2) := by decide +kernel
theorem dX12_operand_111 : decode cX12_operand 111 = .ok (.iconst (-1), 1) := by decide +kernel
theorem dX12_operand_112 : decode cX12_operand 112 = .ok (.if_icmp .ne 7, 3) := by decide +kernel
theorem dX12_operand_115 : decode cX12_operand 115 = .ok (.iconst 0, 1) := by decide +kernel
theorem dX12_operand_116 : decode cX12_operand 116 = .ok (.goto 10, 3) := by decide +kernel
theorem dX12_operand_119 : decode cX12_operand 119 = .ok (.aload_n 0, 1) := by decide +kernel
theorem dX12_operand_120 : decode cX12_operand 120 = .ok (.getfield 45, 3) := by decide +kernel
theorem dX12_operand_123 : decode cX12_operand 123 = .ok (.iload 4, 2) := by decide +kernel
theorem dX12_operand_125 : decode cX12_operand 125 = .ok (.iaload, 1) := by decide +kernel
theorem dX12_operand_126 : decode cX12_operand 126 = .ok (.ireturn, 1) := by decide +kernel
theorem dX12_operate_0 : decode cX12_operate 0 = .ok (.iload_n 1, 1) := by decide +kernel
theorem dX12_operate_1 : decode cX12_operate 1 = .ok (.lookupswitch 95 #[(38, 83), (42, 75), (43, 59), (45, 67), (94, 91), (124, 87)], 59) := by decide +kernel
theorem dX12_operate_60 : decode cX12_operate 60 = .ok (.aload_n 0, 1) := by decide +kernel
theorem dX12_operate_61 : decode cX12_operate 61 = .ok (.iload_n 2, 1) := by decide +kernel
theorem dX12_operate_62 : decode cX12_operate 62 = .ok (.iload_n 3, 1) := by decide +kernel
theorem dX12_operate_63 : decode cX12_operate 63 = .ok (.iadd, 1) := by decide +kernel
theorem dX12_operate_64 : decode cX12_operate 64 = .ok (.invokevirtual 213, 3) := by decide +kernel
theorem dX12_operate_67 : decode cX12_operate 67 = .ok (.ireturn, 1) := by decide +kernel
theorem dX12_operate_68 : decode cX12_operate 68 = .ok (.aload_n 0, 1) := by decide +kernel
theorem dX12_operate_69 : decode cX12_operate 69 = .ok (.iload_n 2, 1) := by decide +kernel
theorem dX12_operate_70 : decode cX12_operate 70 = .ok (.iload_n 3, 1) := by decide +kernel
theorem dX12_operate_71 : decode cX12_operate 71 = .ok (.isub, 1) := by decide +kernel
theorem dX12_operate_72 : decode cX12_operate 72 = .ok (.invokevirtual 213, 3) := by decide +kernel
theorem dX12_operate_75 : decode cX12_operate 75 = .ok (.ireturn, 1) := by decide +kernel
theorem dX12_operate_76 : decode cX12_operate 76 = .ok (.aload_n 0, 1) := by decide +kernel
theorem dX12_operate_77 : decode cX12_operate 77 = .ok (.iload_n 2, 1) := by decide +kernel
theorem dX12_operate_78 : decode cX12_operate 78 = .ok (.iload_n 3, 1) := by decide +kernel
theorem dX12_operate_79 : decode cX12_operate 79 = .ok (.imul, 1) := by decide +kernel
theorem dX12_operate_80 : decode cX12_operate 80 = .ok (.invokevirtual 213, 3) := by decide +kernel
theorem dX12_operate_83 : decode cX12_operate 83 = .ok (.ireturn, 1) := by decide +kernel
theorem dX12_operate_84 : decode cX12_operate 84 = .ok (.iload_n 2, 1) := by decide +kernel
theorem dX12_operate_85 : decode cX12_operate 85 = .ok (.iload_n 3, 1) := by decide +kernel
theorem dX12_operate_86 : decode cX12_operate 86 = .ok (.iand, 1) := by decide +kernel
theorem dX12_operate_87 : decode cX12_operate 87 = .ok (.ireturn, 1) := by decide +kernel
theorem dX12_operate_88 : decode cX12_operate 88 = .ok (.iload_n 2, 1) := by decide +kernel
theorem dX12_operate_89 : decode cX12_operate 89 = .ok (.iload_n 3, 1) := by decide +kernel
theorem dX12_operate_90 : decode cX12_operate 90 = .ok (.ior, 1) := by decide +kernel
theorem dX12_operate_91 : decode cX12_operate 91 = .ok (.ireturn, 1) := by decide +kernel
theorem dX12_operate_92 : decode cX12_operate 92 = .ok (.iload_n 2, 1) := by decide +kernel
theorem dX12_operate_93 : decode cX12_operate 93 = .ok (.iload_n 3, 1) := by decide +kernel
theorem dX12_operate_94 : decode cX12_operate 94 = .ok (.ixor, 1) := by decide +kernel
theorem dX12_operate_95 : decode cX12_operate 95 = .ok (.ireturn, 1) := by decide +kernel
theorem dX12_operate_96 : decode cX12_operate 96 = .ok (.aload_n 0, 1) := by decide +kernel
theorem dX12_operate_97 : decode cX12_operate 97 = .ok (.iload_n 2, 1) := by decide +kernel
theorem dX12_operate_98 : decode cX12_operate 98 = .ok (.iload_n 3, 1) := by decide +kernel
theorem dX12_operate_99 : decode cX12_operate 99 = .ok (.if_icmp .ge 7, 3) := by decide +kernel
theorem dX12_operate_102 : decode cX12_operate 102 = .ok (.iconst 1, 1) := by decide +kernel
theorem dX12_operate_103 : decode cX12_operate 103 = .ok (.goto 4, 3) := by decide +kernel
theorem dX12_operate_106 : decode cX12_operate 106 = .ok (.iconst 0, 1) := by decide +kernel
theorem dX12_operate_107 : decode cX12_operate 107 = .ok (.invokevirtual 213, 3) := by decide +kernel
theorem dX12_operate_110 : decode cX12_operate 110 = .ok (.ireturn, 1) := by decide +kernel
theorem dX12_write_0 : decode cX12_write 0 = .ok (.bipush 13, 2) := by decide +kernel
theorem dX12_write_2 : decode cX12_write 2 = .ok (.iload_n 1, 1) := by decide +kernel
theorem dX12_write_3 : decode cX12_write 3 = .ok (.imul, 1) := by decide +kernel
theorem dX12_write_4 : decode cX12_write 4 = .ok (.istore 4, 2) := by decide +kernel
theorem dX12_write_6 : decode cX12_write 6 = .ok (.aload_n 0, 1) := by decide +kernel
theorem dX12_write_7 : decode cX12_write 7 = .ok (.getfield 17, 3) := by decide +kernel
theorem dX12_write_10 : decode cX12_write 10 = .ok (.iload 4, 2) := by decide +kernel
theorem dX12_write_12 : decode cX12_write 12 = .ok (.iaload, 1) := by decide +kernel
theorem dX12_write_13 : decode cX12_write 13 = .ok (.istore 5, 2) := by decide +kernel
theorem dX12_write_15 : decode cX12_write 15 = .ok (.iload 5, 2) := by decide +kernel
theorem dX12_write_17 : decode cX12_write 17 = .ok (.ifCond .ne 21, 3) := by decide +kernel
theorem dX12_write_20 : decode cX12_write 20 = .ok (.aload_n 0, 1) := by decide +kernel
theorem dX12_write_21 : decode cX12_write 21 = .ok (.getfield 42, 3) := by decide +kernel
theorem dX12_write_24 : decode cX12_write 24 = .ok (.aload_n 0, 1) := by decide +kernel
theorem dX12_write_25 : decode cX12_write 25 = .ok (.getfield 17, 3) := by decide +kernel
theorem dX12_write_28 : decode cX12_write 28 = .ok (.iload 4, 2) := by decide +kernel
theorem dX12_write_30 : decode cX12_write 30 = .ok (.iconst 1, 1) := by decide +kernel
theorem dX12_write_31 : decode cX12_write 31 = .ok (.iadd, 1) := by decide +kernel
theorem dX12_write_32 : decode cX12_write 32 = .ok (.iaload, 1) := by decide +kernel
theorem dX12_write_33 : decode cX12_write 33 = .ok (.iload_n 3, 1) := by decide +kernel
theorem dX12_write_34 : decode cX12_write 34 = .ok (.iastore, 1) := by decide +kernel
theorem dX12_write_35 : decode cX12_write 35 = .ok (.goto 72, 3) := by decide +kernel
theorem dX12_write_38 : decode cX12_write 38 = .ok (.iload 5, 2) := by decide +kernel
theorem dX12_write_40 : decode cX12_write 40 = .ok (.iconst 5, 1) := by decide +kernel
theorem dX12_write_41 : decode cX12_write 41 = .ok (.if_icmp .ne 26, 3) := by decide +kernel
theorem dX12_write_44 : decode cX12_write 44 = .ok (.aload_n 0, 1) := by decide +kernel
theorem dX12_write_45 : decode cX12_write 45 = .ok (.getfield 48, 3) := by decide +kernel
theorem dX12_write_48 : decode cX12_write 48 = .ok (.aload_n 0, 1) := by decide +kernel
theorem dX12_write_49 : decode cX12_write 49 = .ok (.getfield 216, 3) := by decide +kernel
theorem dX12_write_52 : decode cX12_write 52 = .ok (.iload_n 3, 1) := by decide +kernel
theorem dX12_write_53 : decode cX12_write 53 = .ok (.iastore, 1) := by decide +kernel
theorem dX12_write_54 : decode cX12_write 54 = .ok (.aload_n 0, 1) := by decide +kernel
theorem dX12_write_55 : decode cX12_write 55 = .ok (.dup, 1) := by decide +kernel
theorem dX12_write_56 : decode cX12_write 56 = .ok (.getfield 216, 3) := by decide +kernel
theorem dX12_write_59 : decode cX12_write 59 = .ok (.iconst 1, 1) := by decide +kernel
theorem dX12_write_60 : decode cX12_write 60 = .ok (.iadd, 1) := by decide +kernel
theorem dX12_write_61 : decode cX12_write 61 = .ok (.putfield 216, 3) := by decide +kernel
theorem dX12_write_64 : decode cX12_write 64 = .ok (.goto 43, 3) := by decide +kernel
theorem dX12_write_67 : decode cX12_write 67 = .ok (.iload 5, 2) := by decide +kernel
theorem dX12_write_69 : decode cX12_write 69 = .ok (.aload_n 0, 1) := by decide +kernel
theorem dX12_write_70 : decode cX12_write 70 = .ok (.getfield 17, 3) := by decide +kernel
theorem dX12_write_73 : decode cX12_write 73 = .ok (.iload 4, 2) := by decide +kernel
theorem dX12_write_75 : decode cX12_write 75 = .ok (.iconst 2, 1) := by decide +kernel
theorem dX12_write_76 : decode cX12_write 76 = .ok (.iadd, 1) := by decide +kernel
theorem dX12_write_77 : decode cX12_write 77 = .ok (.iaload, 1) := by decide +kernel
theorem dX12_write_78 : decode cX12_write 78 = .ok (.aload_n 0, 1) := by decide +kernel
theorem dX12_write_79 : decode cX12_write 79 = .ok (.getfield 17, 3) := by decide +kernel
theorem dX12_write_82 : decode cX12_write 82 = .ok (.iload 4, 2) := by decide +kernel
theorem dX12_write_84 : decode cX12_write 84 = .ok (.iconst 3, 1) := by decide +kernel
theorem dX12_write_85 : decode cX12_write 85 = .ok (.iadd, 1) := by decide +kernel
theorem dX12_write_86 : decode cX12_write 86 = .ok (.iaload, 1) := by decide +kernel
theorem dX12_write_87 : decode cX12_write 87 = .ok (.iload_n 2, 1) := by decide +kernel
theorem dX12_write_88 : decode cX12_write 88 = .ok (.invokestatic 224, 3) := by decide +kernel
theorem dX12_write_91 : decode cX12_write 91 = .ok (.istore 6, 2) := by decide +kernel
theorem dX12_write_93 : decode cX12_write 93 = .ok (.iload 6, 2) := by decide +kernel
theorem dX12_write_95 : decode cX12_write 95 = .ok (.iconst (-1), 1) := by decide +kernel
theorem dX12_write_96 : decode cX12_write 96 = .ok (.if_icmp .eq 11, 3) := by decide +kernel
theorem dX12_write_99 : decode cX12_write 99 = .ok (.aload_n 0, 1) := by decide +kernel
theorem dX12_write_100 : decode cX12_write 100 = .ok (.getfield 45, 3) := by decide +kernel
theorem dX12_write_103 : decode cX12_write 103 = .ok (.iload 6, 2) := by decide +kernel
theorem dX12_write_105 : decode cX12_write 105 = .ok (.iload_n 3, 1) := by decide +kernel
theorem dX12_write_106 : decode cX12_write 106 = .ok (.iastore, 1) := by decide +kernel
theorem dX12_write_107 : decode cX12_write 107 = .ok (.return_, 1) := by decide +kernel
theorem dX12_perform_0 : decode cX12_perform 0 = .ok (.aload_n 0, 1) := by decide +kernel
theorem dX12_perform_1 : decode cX12_perform 1 = .ok (.invokevirtual 228, 3) := by decide +kernel
theorem dX12_perform_4 : decode cX12_perform 4 = .ok (.iconst 0, 1) := by decide +kernel
theorem dX12_perform_5 : decode cX12_perform 5 = .ok (.istore_n 1, 1) := by decide +kernel
theorem dX12_perform_6 : decode cX12_perform 6 = .ok (.iload_n 1, 1) := by decide +kernel
theorem dX12_perform_7 : decode cX12_perform 7 = .ok (.aload_n 0, 1) := by decide +kernel
theorem dX12_perform_8 : decode cX12_perform 8 = .ok (.getfield 20, 3) := by decide +kernel
theorem dX12_perform_11 : decode cX12_perform 11 = .ok (.if_icmp .ge 85, 3) := by decide +kernel
theorem dX12_perform_14 : decode cX12_perform 14 = .ok (.iconst 0, 1) := by decide +kernel
theorem dX12_perform_15 : decode cX12_perform 15 = .ok (.istore_n 2, 1) := by decide +kernel
theorem dX12_perform_16 : decode cX12_perform 16 = .ok (.iload_n 2, 1) := by decide +kernel
theorem dX12_perform_17 : decode cX12_perform 17 = .ok (.aload_n 0, 1) := by decide +kernel
theorem dX12_perform_18 : decode cX12_perform 18 = .ok (.getfield 186, 3) := by decide +kernel
theorem dX12_perform_21 : decode cX12_perform 21 = .ok (.if_icmp .ge 69, 3) := by decide +kernel
theorem dX12_perform_24 : decode cX12_perform 24 = .ok (.aload_n 0, 1) := by decide +kernel
theorem dX12_perform_25 : decode cX12_perform 25 = .ok (.bipush 13, 2) := by decide +kernel
theorem dX12_perform_27 : decode cX12_perform 27 = .ok (.iload_n 2, 1) := by decide +kernel
theorem dX12_perform_28 : decode cX12_perform 28 = .ok (.imul, 1) := by decide +kernel
theorem dX12_perform_29 : decode cX12_perform 29 = .ok (.iconst 4, 1) := by decide +kernel
theorem dX12_perform_30 : decode cX12_perform 30 = .ok (.iadd, 1) := by decide +kernel
theorem dX12_perform_31 : decode cX12_perform 31 = .ok (.iload_n 1, 1) := by decide +kernel
theorem dX12_perform_32 : decode cX12_perform 32 = .ok (.invokevirtual 231, 3) := by decide +kernel
theorem dX12_perform_35 : decode cX12_perform 35 = .ok (.istore_n 3, 1) := by decide +kernel
theorem dX12_perform_36 : decode cX12_perform 36 = .ok (.aload_n 0, 1) := by decide +kernel
theorem dX12_perform_37 : decode cX12_perform 37 = .ok (.getfield 17, 3) := by decide +kernel
theorem dX12_perform_40 : decode cX12_perform 40 = .ok (.bipush 13, 2) := by decide +kernel
theorem dX12_perform_42 : decode cX12_perform 42 = .ok (.iload_n 2, 1) := by decide +kernel
theorem dX12_perform_43 : decode cX12_perform 43 = .ok (.imul, 1) := by decide +kernel
theorem dX12_perform_44 : decode cX12_perform 44 = .ok (.bipush 12, 2) := by decide +kernel
theorem dX12_perform_46 : decode cX12_perform 46 = .ok (.iadd, 1) := by decide +kernel
theorem dX12_perform_47 : decode cX12_perform 47 = .ok (.iaload, 1) := by decide +kernel
theorem dX12_perform_48 : decode cX12_perform 48 = .ok (.istore 4, 2) := by decide +kernel
theorem dX12_perform_50 : decode cX12_perform 50 = .ok (.aload_n 0, 1) := by decide +kernel
theorem dX12_perform_51 : decode cX12_perform 51 = .ok (.iload_n 2, 1) := by decide +kernel
theorem dX12_perform_52 : decode cX12_perform 52 = .ok (.iload_n 1, 1) := by decide +kernel
theorem dX12_perform_53 : decode cX12_perform 53 = .ok (.iload 4, 2) := by decide +kernel
theorem dX12_perform_55 : decode cX12_perform 55 = .ok (.ifCond .ne 7, 3) := by decide +kernel
theorem dX12_perform_58 : decode cX12_perform 58 = .ok (.iload_n 3, 1) := by decide +kernel
theorem dX12_perform_59 : decode cX12_perform 59 = .ok (.goto 22, 3) := by decide +kernel
theorem dX12_perform_62 : decode cX12_perform 62 = .ok (.aload_n 0, 1) := by decide +kernel
theorem dX12_perform_63 : decode cX12_perform 63 = .ok (.iload 4, 2) := by decide +kernel
theorem dX12_perform_65 : decode cX12_perform 65 = .ok (.iload_n 3, 1) := by decide +kernel
theorem dX12_perform_66 : decode cX12_perform 66 = .ok (.aload_n 0, 1) := by decide +kernel
theorem dX12_perform_67 : decode cX12_perform 67 = .ok (.bipush 13, 2) := by decide +kernel
theorem dX12_perform_69 : decode cX12_perform 69 = .ok (.iload_n 2, 1) := by decide +kernel
theorem dX12_perform_70 : decode cX12_perform 70 = .ok (.imul, 1) := by decide +kernel
theorem dX12_perform_71 : decode cX12_perform 71 = .ok (.bipush 8, 2) := by decide +kernel
theorem dX12_perform_73 : decode cX12_perform 73 = .ok (.iadd, 1) := by decide +kernel
theorem dX12_perform_74 : decode cX12_perform 74 = .ok (.iload_n 1, 1) := by decide +kernel
theorem dX12_perform_75 : decode cX12_perform 75 = .ok (.invokevirtual 231, 3) := by decide +kernel
theorem dX12_perform_78 : decode cX12_perform 78 = .ok (.invokevirtual 235, 3) := by decide +kernel
theorem dX12_perform_81 : decode cX12_perform 81 = .ok (.invokevirtual 239, 3) := by decide +kernel
theorem dX12_perform_84 : decode cX12_perform 84 = .ok (.iinc 2 1, 3) := by decide +kernel
theorem dX12_perform_87 : decode cX12_perform 87 = .ok (.goto (-71), 3) := by decide +kernel
theorem dX12_perform_90 : decode cX12_perform 90 = .ok (.iinc 1 1, 3) := by decide +kernel
theorem dX12_perform_93 : decode cX12_perform 93 = .ok (.goto (-87), 3) := by decide +kernel
theorem dX12_perform_96 : decode cX12_perform 96 = .ok (.return_, 1) := by decide +kernel
theorem dX12_outputs_0 : decode cX12_outputs 0 = .ok (.aload_n 0, 1) := by decide +kernel
theorem dX12_outputs_1 : decode cX12_outputs 1 = .ok (.iconst 0, 1) := by decide +kernel
theorem dX12_outputs_2 : decode cX12_outputs 2 = .ok (.putfield 127, 3) := by decide +kernel
theorem dX12_outputs_5 : decode cX12_outputs 5 = .ok (.aload_n 0, 1) := by decide +kernel
theorem dX12_outputs_6 : decode cX12_outputs 6 = .ok (.invokevirtual 243, 3) := by decide +kernel
theorem dX12_outputs_9 : decode cX12_outputs 9 = .ok (.aload_n 0, 1) := by decide +kernel
theorem dX12_outputs_10 : decode cX12_outputs 10 = .ok (.getfield 216, 3) := by decide +kernel
theorem dX12_outputs_13 : decode cX12_outputs 13 = .ok (.ireturn, 1) := by decide +kernel
theorem dX12_output_0 : decode cX12_output 0 = .ok (.aload_n 0, 1) := by decide +kernel
theorem dX12_output_1 : decode cX12_output 1 = .ok (.iconst 0, 1) := by decide +kernel
theorem dX12_output_2 : decode cX12_output 2 = .ok (.putfield 127, 3) := by decide +kernel
theorem dX12_output_5 : decode cX12_output 5 = .ok (.aload_n 0, 1) := by decide +kernel
theorem dX12_output_6 : decode cX12_output 6 = .ok (.invokevirtual 243, 3) := by decide +kernel
theorem dX12_output_9 : decode cX12_output 9 = .ok (.aload_n 0, 1) := by decide +kernel
theorem dX12_output_10 : decode cX12_output 10 = .ok (.iload_n 1, 1) := by decide +kernel
theorem dX12_output_11 : decode cX12_output 11 = .ok (.iconst 0, 1) := by decide +kernel
theorem dX12_output_12 : decode cX12_output 12 = .ok (.aload_n 0, 1) := by decide +kernel
theorem dX12_output_13 : decode cX12_output 13 = .ok (.getfield 216, 3) := by decide +kernel
theorem dX12_output_16 : decode cX12_output 16 = .ok (.iconst 1, 1) := by decide +kernel
theorem dX12_output_17 : decode cX12_output 17 = .ok (.isub, 1) := by decide +kernel
theorem dX12_output_18 : decode cX12_output 18 = .ok (.invokestatic 130, 3) := by decide +kernel
theorem dX12_output_21 : decode cX12_output 21 = .ok (.ifCond .ne 7, 3) := by decide +kernel
theorem dX12_output_24 : decode cX12_output 24 = .ok (.iconst 1, 1) := by decide +kernel
theorem dX12_output_25 : decode cX12_output 25 = .ok (.goto 4, 3) := by decide +kernel
theorem dX12_output_28 : decode cX12_output 28 = .ok (.iconst 0, 1) := by decide +kernel
theorem dX12_output_29 : decode cX12_output 29 = .ok (.iconst 1, 1) := by decide +kernel
theorem dX12_output_30 : decode cX12_output 30 = .ok (.invokevirtual 142, 3) := by decide +kernel
theorem dX12_output_33 : decode cX12_output 33 = .ok (.ifCond .eq 7, 3) := by decide +kernel
theorem dX12_output_36 : decode cX12_output 36 = .ok (.iconst 0, 1) := by decide +kernel
theorem dX12_output_37 : decode cX12_output 37 = .ok (.goto 9, 3) := by decide +kernel
theorem dX12_output_40 : decode cX12_output 40 = .ok (.aload_n 0, 1) := by decide +kernel
theorem dX12_output_41 : decode cX12_output 41 = .ok (.getfield 48, 3) := by decide +kernel
theorem dX12_output_44 : decode cX12_output 44 = .ok (.iload_n 1, 1) := by decide +kernel
theorem dX12_output_45 : decode cX12_output 45 = .ok (.iaload, 1) := by decide +kernel
theorem dX12_output_46 : decode cX12_output 46 = .ok (.ireturn, 1) := by decide +kernel
theorem dX12_memoryAt_0 : decode cX12_memoryAt 0 = .ok (.aload_n 0, 1) := by decide +kernel
theorem dX12_memoryAt_1 : decode cX12_memoryAt 1 = .ok (.iconst 0, 1) := by decide +kernel
theorem dX12_memoryAt_2 : decode cX12_memoryAt 2 = .ok (.putfield 127, 3) := by decide +kernel
theorem dX12_memoryAt_5 : decode cX12_memoryAt 5 = .ok (.aload_n 0, 1) := by decide +kernel
theorem dX12_memoryAt_6 : decode cX12_memoryAt 6 = .ok (.iload_n 1, 1) := by decide +kernel
theorem dX12_memoryAt_7 : decode cX12_memoryAt 7 = .ok (.iload_n 2, 1) := by decide +kernel
theorem dX12_memoryAt_8 : decode cX12_memoryAt 8 = .ok (.invokestatic 203, 3) := by decide +kernel
theorem dX12_memoryAt_11 : decode cX12_memoryAt 11 = .ok (.iconst 1, 1) := by decide +kernel
theorem dX12_memoryAt_12 : decode cX12_memoryAt 12 = .ok (.invokevirtual 142, 3) := by decide +kernel
theorem dX12_memoryAt_15 : decode cX12_memoryAt 15 = .ok (.ifCond .eq 5, 3) := by decide +kernel
theorem dX12_memoryAt_18 : decode cX12_memoryAt 18 = .ok (.iconst 0, 1) := by decide +kernel
theorem dX12_memoryAt_19 : decode cX12_memoryAt 19 = .ok (.ireturn, 1) := by decide +kernel
theorem dX12_memoryAt_20 : decode cX12_memoryAt 20 = .ok (.aload_n 0, 1) := by decide +kernel
theorem dX12_memoryAt_21 : decode cX12_memoryAt 21 = .ok (.invokevirtual 243, 3) := by decide +kernel
theorem dX12_memoryAt_24 : decode cX12_memoryAt 24 = .ok (.aload_n 0, 1) := by decide +kernel
theorem dX12_memoryAt_25 : decode cX12_memoryAt 25 = .ok (.getfield 45, 3) := by decide +kernel
theorem dX12_memoryAt_28 : decode cX12_memoryAt 28 = .ok (.iload_n 1, 1) := by decide +kernel
theorem dX12_memoryAt_29 : decode cX12_memoryAt 29 = .ok (.iload_n 2, 1) := by decide +kernel
theorem dX12_memoryAt_30 : decode cX12_memoryAt 30 = .ok (.invokestatic 207, 3) := by decide +kernel
theorem dX12_memoryAt_33 : decode cX12_memoryAt 33 = .ok (.iaload, 1) := by decide +kernel
theorem dX12_memoryAt_34 : decode cX12_memoryAt 34 = .ok (.ireturn, 1) := by decide +kernel
theorem dX12_register_0 : decode cX12_register 0 = .ok (.aload_n 0, 1) := by decide +kernel
theorem dX12_register_1 : decode cX12_register 1 = .ok (.iconst 0, 1) := by decide +kernel
theorem dX12_register_2 : decode cX12_register 2 = .ok (.putfield 127, 3) := by decide +kernel
theorem dX12_register_5 : decode cX12_register 5 = .ok (.aload_n 0, 1) := by decide +kernel
theorem dX12_register_6 : decode cX12_register 6 = .ok (.iload_n 1, 1) := by decide +kernel
theorem dX12_register_7 : decode cX12_register 7 = .ok (.bipush 97, 2) := by decide +kernel
theorem dX12_register_9 : decode cX12_register 9 = .ok (.bipush 104, 2) := by decide +kernel
theorem dX12_register_11 : decode cX12_register 11 = .ok (.invokestatic 130, 3) := by decide +kernel
theorem dX12_register_14 : decode cX12_register 14 = .ok (.ifCond .ne 7, 3) := by decide +kernel
theorem dX12_register_17 : decode cX12_register 17 = .ok (.iconst 1, 1) := by decide +kernel
theorem dX12_register_18 : decode cX12_register 18 = .ok (.goto 4, 3) := by decide +kernel
theorem dX12_register_21 : decode cX12_register 21 = .ok (.iconst 0, 1) := by decide +kernel
theorem dX12_register_22 : decode cX12_register 22 = .ok (.iconst 1, 1) := by decide +kernel
theorem dX12_register_23 : decode cX12_register 23 = .ok (.invokevirtual 142, 3) := by decide +kernel
theorem dX12_register_26 : decode cX12_register 26 = .ok (.ifCond .eq 5, 3) := by decide +kernel
theorem dX12_register_29 : decode cX12_register 29 = .ok (.iconst 0, 1) := by decide +kernel
theorem dX12_register_30 : decode cX12_register 30 = .ok (.ireturn, 1) := by decide +kernel
theorem dX12_register_31 : decode cX12_register 31 = .ok (.aload_n 0, 1) := by decide +kernel
theorem dX12_register_32 : decode cX12_register 32 = .ok (.invokevirtual 243, 3) := by decide +kernel
theorem dX12_register_35 : decode cX12_register 35 = .ok (.aload_n 0, 1) := by decide +kernel
theorem dX12_register_36 : decode cX12_register 36 = .ok (.getfield 42, 3) := by decide +kernel
theorem dX12_register_39 : decode cX12_register 39 = .ok (.iload_n 1, 1) := by decide +kernel
theorem dX12_register_40 : decode cX12_register 40 = .ok (.bipush 97, 2) := by decide +kernel
theorem dX12_register_42 : decode cX12_register 42 = .ok (.isub, 1) := by decide +kernel
theorem dX12_register_43 : decode cX12_register 43 = .ok (.iaload, 1) := by decide +kernel
theorem dX12_register_44 : decode cX12_register 44 = .ok (.ireturn, 1) := by decide +kernel
theorem dX12_taken__0 : decode cX12_taken_ 0 = .ok (.aload_n 0, 1) := by decide +kernel
theorem dX12_taken__1 : decode cX12_taken_ 1 = .ok (.iconst 0, 1) := by decide +kernel
theorem dX12_taken__2 : decode cX12_taken_ 2 = .ok (.putfield 127, 3) := by decide +kernel
theorem dX12_taken__5 : decode cX12_taken_ 5 = .ok (.aload_n 0, 1) := by decide +kernel
theorem dX12_taken__6 : decode cX12_taken_ 6 = .ok (.invokevirtual 243, 3) := by decide +kernel
theorem dX12_taken__9 : decode cX12_taken_ 9 = .ok (.aload_n 0, 1) := by decide +kernel
theorem dX12_taken__10 : decode cX12_taken_ 10 = .ok (.getfield 219, 3) := by decide +kernel
theorem dX12_taken__13 : decode cX12_taken_ 13 = .ok (.aload_n 0, 1) := by decide +kernel
theorem dX12_taken__14 : decode cX12_taken_ 14 = .ok (.getfield 200, 3) := by decide +kernel
theorem dX12_taken__17 : decode cX12_taken_ 17 = .ok (.invokestatic 246, 3) := by decide +kernel
theorem dX12_taken__20 : decode cX12_taken_ 20 = .ok (.ireturn, 1) := by decide +kernel
theorem dX12_kindOfMemory_0 : decode cX12_kindOfMemory 0 = .ok (.iload_n 0, 1) := by decide +kernel
theorem dX12_kindOfMemory_1 : decode cX12_kindOfMemory 1 = .ok (.iconst 3, 1) := by decide +kernel
theorem dX12_kindOfMemory_2 : decode cX12_kindOfMemory 2 = .ok (.if_icmp .ne 7, 3) := by decide +kernel
theorem dX12_kindOfMemory_5 : decode cX12_kindOfMemory 5 = .ok (.iconst 3, 1) := by decide +kernel
theorem dX12_kindOfMemory_6 : decode cX12_kindOfMemory 6 = .ok (.goto 4, 3) := by decide +kernel
theorem dX12_kindOfMemory_9 : decode cX12_kindOfMemory 9 = .ok (.iconst 4, 1) := by decide +kernel
theorem dX12_kindOfMemory_10 : decode cX12_kindOfMemory 10 = .ok (.ireturn, 1) := by decide +kernel
theorem dX12_addNode_0 : decode cX12_addNode 0 = .ok (.aload_n 0, 1) := by decide +kernel
theorem dX12_addNode_1 : decode cX12_addNode 1 = .ok (.getfield 51, 3) := by decide +kernel
theorem dX12_addNode_4 : decode cX12_addNode 4 = .ok (.aload_n 0, 1) := by decide +kernel
theorem dX12_addNode_5 : decode cX12_addNode 5 = .ok (.getfield 196, 3) := by decide +kernel
theorem dX12_addNode_8 : decode cX12_addNode 8 = .ok (.iload_n 1, 1) := by decide +kernel
theorem dX12_addNode_9 : decode cX12_addNode 9 = .ok (.iastore, 1) := by decide +kernel
theorem dX12_addNode_10 : decode cX12_addNode 10 = .ok (.aload_n 0, 1) := by decide +kernel
theorem dX12_addNode_11 : decode cX12_addNode 11 = .ok (.getfield 54, 3) := by decide +kernel
theorem dX12_addNode_14 : decode cX12_addNode 14 = .ok (.aload_n 0, 1) := by decide +kernel
theorem dX12_addNode_15 : decode cX12_addNode 15 = .ok (.getfield 196, 3) := by decide +kernel
theorem dX12_addNode_18 : decode cX12_addNode 18 = .ok (.iload_n 2, 1) := by decide +kernel
theorem dX12_addNode_19 : decode cX12_addNode 19 = .ok (.iastore, 1) := by decide +kernel
theorem dX12_addNode_20 : decode cX12_addNode 20 = .ok (.aload_n 0, 1) := by decide +kernel
theorem dX12_addNode_21 : decode cX12_addNode 21 = .ok (.getfield 57, 3) := by decide +kernel
theorem dX12_addNode_24 : decode cX12_addNode 24 = .ok (.aload_n 0, 1) := by decide +kernel
theorem dX12_addNode_25 : decode cX12_addNode 25 = .ok (.getfield 196, 3) := by decide +kernel
theorem dX12_addNode_28 : decode cX12_addNode 28 = .ok (.iload_n 3, 1) := by decide +kernel
theorem dX12_addNode_29 : decode cX12_addNode 29 = .ok (.iastore, 1) := by decide +kernel
theorem dX12_addNode_30 : decode cX12_addNode 30 = .ok (.aload_n 0, 1) := by decide +kernel
theorem dX12_addNode_31 : decode cX12_addNode 31 = .ok (.getfield 60, 3) := by decide +kernel
theorem dX12_addNode_34 : decode cX12_addNode 34 = .ok (.aload_n 0, 1) := by decide +kernel
theorem dX12_addNode_35 : decode cX12_addNode 35 = .ok (.getfield 196, 3) := by decide +kernel
theorem dX12_addNode_38 : decode cX12_addNode 38 = .ok (.iconst 0, 1) := by decide +kernel
theorem dX12_addNode_39 : decode cX12_addNode 39 = .ok (.iastore, 1) := by decide +kernel
theorem dX12_addNode_40 : decode cX12_addNode 40 = .ok (.aload_n 0, 1) := by decide +kernel
theorem dX12_addNode_41 : decode cX12_addNode 41 = .ok (.getfield 63, 3) := by decide +kernel
theorem dX12_addNode_44 : decode cX12_addNode 44 = .ok (.aload_n 0, 1) := by decide +kernel
theorem dX12_addNode_45 : decode cX12_addNode 45 = .ok (.getfield 196, 3) := by decide +kernel
theorem dX12_addNode_48 : decode cX12_addNode 48 = .ok (.iconst (-1), 1) := by decide +kernel
theorem dX12_addNode_49 : decode cX12_addNode 49 = .ok (.iastore, 1) := by decide +kernel
theorem dX12_addNode_50 : decode cX12_addNode 50 = .ok (.aload_n 0, 1) := by decide +kernel
theorem dX12_addNode_51 : decode cX12_addNode 51 = .ok (.getfield 66, 3) := by decide +kernel
theorem dX12_addNode_54 : decode cX12_addNode 54 = .ok (.aload_n 0, 1) := by decide +kernel
theorem dX12_addNode_55 : decode cX12_addNode 55 = .ok (.getfield 196, 3) := by decide +kernel
theorem dX12_addNode_58 : decode cX12_addNode 58 = .ok (.iconst (-1), 1) := by decide +kernel
theorem dX12_addNode_59 : decode cX12_addNode 59 = .ok (.iastore, 1) := by decide +kernel
theorem dX12_addNode_60 : decode cX12_addNode 60 = .ok (.aload_n 0, 1) := by decide +kernel
theorem dX12_addNode_61 : decode cX12_addNode 61 = .ok (.dup, 1) := by decide +kernel
theorem dX12_addNode_62 : decode cX12_addNode 62 = .ok (.getfield 196, 3) := by decide +kernel
theorem dX12_addNode_65 : decode cX12_addNode 65 = .ok (.iconst 1, 1) := by decide +kernel
theorem dX12_addNode_66 : decode cX12_addNode 66 = .ok (.iadd, 1) := by decide +kernel
theorem dX12_addNode_67 : decode cX12_addNode 67 = .ok (.putfield 196, 3) := by decide +kernel
theorem dX12_addNode_70 : decode cX12_addNode 70 = .ok (.return_, 1) := by decide +kernel
theorem dX12_remember_0 : decode cX12_remember 0 = .ok (.aload_n 0, 1) := by decide +kernel
theorem dX12_remember_1 : decode cX12_remember 1 = .ok (.getfield 196, 3) := by decide +kernel
theorem dX12_remember_4 : decode cX12_remember 4 = .ok (.iconst 1, 1) := by decide +kernel
theorem dX12_remember_5 : decode cX12_remember 5 = .ok (.isub, 1) := by decide +kernel
theorem dX12_remember_6 : decode cX12_remember 6 = .ok (.istore 4, 2) := by decide +kernel
theorem dX12_remember_8 : decode cX12_remember 8 = .ok (.aload_n 0, 1) := by decide +kernel
theorem dX12_remember_9 : decode cX12_remember 9 = .ok (.getfield 66, 3) := by decide +kernel
theorem dX12_remember_12 : decode cX12_remember 12 = .ok (.iload 4, 2) := by decide +kernel
theorem dX12_remember_14 : decode cX12_remember 14 = .ok (.iload_n 3, 1) := by decide +kernel
theorem dX12_remember_15 : decode cX12_remember 15 = .ok (.ifCond .eq 7, 3) := by decide +kernel
theorem dX12_remember_18 : decode cX12_remember 18 = .ok (.iconst 1, 1) := by decide +kernel
theorem dX12_remember_19 : decode cX12_remember 19 = .ok (.goto 4, 3) := by decide +kernel
theorem dX12_remember_22 : decode cX12_remember 22 = .ok (.iconst 0, 1) := by decide +kernel
theorem dX12_remember_23 : decode cX12_remember 23 = .ok (.iastore, 1) := by decide +kernel
theorem dX12_remember_24 : decode cX12_remember 24 = .ok (.aload_n 0, 1) := by decide +kernel
theorem dX12_remember_25 : decode cX12_remember 25 = .ok (.getfield 69, 3) := by decide +kernel
theorem dX12_remember_28 : decode cX12_remember 28 = .ok (.iload 4, 2) := by decide +kernel
theorem dX12_remember_30 : decode cX12_remember 30 = .ok (.aload_n 0, 1) := by decide +kernel
theorem dX12_remember_31 : decode cX12_remember 31 = .ok (.getfield 17, 3) := by decide +kernel
theorem dX12_remember_34 : decode cX12_remember 34 = .ok (.iload_n 2, 1) := by decide +kernel
theorem dX12_remember_35 : decode cX12_remember 35 = .ok (.iconst 2, 1) := by decide +kernel
theorem dX12_remember_36 : decode cX12_remember 36 = .ok (.iadd, 1) := by decide +kernel
theorem dX12_remember_37 : decode cX12_remember 37 = .ok (.iaload, 1) := by decide +kernel
theorem dX12_remember_38 : decode cX12_remember 38 = .ok (.iconst 1, 1) := by decide +kernel
theorem dX12_remember_39 : decode cX12_remember 39 = .ok (.if_icmp .ne 7, 3) := by decide +kernel
theorem dX12_remember_42 : decode cX12_remember 42 = .ok (.iconst 1, 1) := by decide +kernel
theorem dX12_remember_43 : decode cX12_remember 43 = .ok (.goto 4, 3) := by decide +kernel
theorem dX12_remember_46 : decode cX12_remember 46 = .ok (.iconst 0, 1) := by decide +kernel
theorem dX12_remember_47 : decode cX12_remember 47 = .ok (.bastore, 1) := by decide +kernel
theorem dX12_remember_48 : decode cX12_remember 48 = .ok (.aload_n 0, 1) := by decide +kernel
theorem dX12_remember_49 : decode cX12_remember 49 = .ok (.getfield 73, 3) := by decide +kernel
theorem dX12_remember_52 : decode cX12_remember 52 = .ok (.iload 4, 2) := by decide +kernel
theorem dX12_remember_54 : decode cX12_remember 54 = .ok (.aload_n 0, 1) := by decide +kernel
theorem dX12_remember_55 : decode cX12_remember 55 = .ok (.getfield 17, 3) := by decide +kernel
theorem dX12_remember_58 : decode cX12_remember 58 = .ok (.iload_n 2, 1) := by decide +kernel
theorem dX12_remember_59 : decode cX12_remember 59 = .ok (.iconst 3, 1) := by decide +kernel
theorem dX12_remember_60 : decode cX12_remember 60 = .ok (.iadd, 1) := by decide +kernel
theorem dX12_remember_61 : decode cX12_remember 61 = .ok (.iaload, 1) := by decide +kernel
theorem dX12_remember_62 : decode cX12_remember 62 = .ok (.aload_n 0, 1) := by decide +kernel
theorem dX12_remember_63 : decode cX12_remember 63 = .ok (.getfield 69, 3) := by decide +kernel
theorem dX12_remember_66 : decode cX12_remember 66 = .ok (.iload 4, 2) := by decide +kernel
theorem dX12_remember_68 : decode cX12_remember 68 = .ok (.baload, 1) := by decide +kernel
theorem dX12_remember_69 : decode cX12_remember 69 = .ok (.ifCond .eq 12, 3) := by decide +kernel
theorem dX12_remember_72 : decode cX12_remember 72 = .ok (.iload_n 1, 1) := by decide +kernel
theorem dX12_remember_73 : decode cX12_remember 73 = .ok (.aload_n 0, 1) := by decide +kernel
theorem dX12_remember_74 : decode cX12_remember 74 = .ok (.getfield 186, 3) := by decide +kernel
theorem dX12_remember_77 : decode cX12_remember 77 = .ok (.idiv, 1) := by decide +kernel
theorem dX12_remember_78 : decode cX12_remember 78 = .ok (.goto 4, 3) := by decide +kernel
theorem dX12_remember_81 : decode cX12_remember 81 = .ok (.iconst 0, 1) := by decide +kernel
theorem dX12_remember_82 : decode cX12_remember 82 = .ok (.iadd, 1) := by decide +kernel
theorem dX12_remember_83 : decode cX12_remember 83 = .ok (.iastore, 1) := by decide +kernel
theorem dX12_remember_84 : decode cX12_remember 84 = .ok (.return_, 1) := by decide +kernel
theorem dX12_isRead_0 : decode cX12_isRead 0 = .ok (.iload_n 0, 1) := by decide +kernel
theorem dX12_isRead_1 : decode cX12_isRead 1 = .ok (.iconst 3, 1) := by decide +kernel
theorem dX12_isRead_2 : decode cX12_isRead 2 = .ok (.if_icmp .eq 13, 3) := by decide +kernel
theorem dX12_isRead_5 : decode cX12_isRead 5 = .ok (.iload_n 0, 1) := by decide +kernel
theorem dX12_isRead_6 : decode cX12_isRead 6 = .ok (.iconst 4, 1) := by decide +kernel
theorem dX12_isRead_7 : decode cX12_isRead 7 = .ok (.if_icmp .eq 8, 3) := by decide +kernel
theorem dX12_isRead_10 : decode cX12_isRead 10 = .ok (.iload_n 0, 1) := by decide +kernel
theorem dX12_isRead_11 : decode cX12_isRead 11 = .ok (.iconst 5, 1) := by decide +kernel
theorem dX12_isRead_12 : decode cX12_isRead 12 = .ok (.if_icmp .ne 7, 3) := by decide +kernel
theorem dX12_isRead_15 : decode cX12_isRead 15 = .ok (.iconst 1, 1) := by decide +kernel
theorem dX12_isRead_16 : decode cX12_isRead 16 = .ok (.goto 4, 3) := by decide +kernel
theorem dX12_isRead_19 : decode cX12_isRead 19 = .ok (.iconst 0, 1) := by decide +kernel
theorem dX12_isRead_20 : decode cX12_isRead 20 = .ok (.ireturn, 1) := by decide +kernel
theorem dX12_addRead_0 : decode cX12_addRead 0 = .ok (.aload_n 0, 1) := by decide +kernel
theorem dX12_addRead_1 : decode cX12_addRead 1 = .ok (.getfield 17, 3) := by decide +kernel
theorem dX12_addRead_4 : decode cX12_addRead 4 = .ok (.iload_n 3, 1) := by decide +kernel
theorem dX12_addRead_5 : decode cX12_addRead 5 = .ok (.iaload, 1) := by decide +kernel
theorem dX12_addRead_6 : decode cX12_addRead 6 = .ok (.invokestatic 251, 3) := by decide +kernel
theorem dX12_addRead_9 : decode cX12_addRead 9 = .ok (.ifCond .eq 49, 3) := by decide +kernel
theorem dX12_addRead_12 : decode cX12_addRead 12 = .ok (.aload_n 0, 1) := by decide +kernel
theorem dX12_addRead_13 : decode cX12_addRead 13 = .ok (.iload_n 1, 1) := by decide +kernel
theorem dX12_addRead_14 : decode cX12_addRead 14 = .ok (.iload_n 2, 1) := by decide +kernel
theorem dX12_addRead_15 : decode cX12_addRead 15 = .ok (.aload_n 0, 1) := by decide +kernel
theorem dX12_addRead_16 : decode cX12_addRead 16 = .ok (.getfield 17, 3) := by decide +kernel
theorem dX12_addRead_19 : decode cX12_addRead 19 = .ok (.iload_n 3, 1) := by decide +kernel
theorem dX12_addRead_20 : decode cX12_addRead 20 = .ok (.iaload, 1) := by decide +kernel
theorem dX12_addRead_21 : decode cX12_addRead 21 = .ok (.iconst 5, 1) := by decide +kernel
theorem dX12_addRead_22 : decode cX12_addRead 22 = .ok (.if_icmp .ne 7, 3) := by decide +kernel
theorem dX12_addRead_25 : decode cX12_addRead 25 = .ok (.iconst 5, 1) := by decide +kernel
theorem dX12_addRead_26 : decode cX12_addRead 26 = .ok (.goto 12, 3) := by decide +kernel
theorem dX12_addRead_29 : decode cX12_addRead 29 = .ok (.aload_n 0, 1) := by decide +kernel
theorem dX12_addRead_30 : decode cX12_addRead 30 = .ok (.getfield 17, 3) := by decide +kernel
theorem dX12_addRead_33 : decode cX12_addRead 33 = .ok (.iload_n 3, 1) := by decide +kernel
theorem dX12_addRead_34 : decode cX12_addRead 34 = .ok (.iaload, 1) := by decide +kernel
theorem dX12_addRead_35 : decode cX12_addRead 35 = .ok (.invokestatic 254, 3) := by decide +kernel
theorem dX12_addRead_38 : decode cX12_addRead 38 = .ok (.invokevirtual 257, 3) := by decide +kernel
theorem dX12_addRead_41 : decode cX12_addRead 41 = .ok (.aload_n 0, 1) := by decide +kernel
theorem dX12_addRead_42 : decode cX12_addRead 42 = .ok (.getfield 17, 3) := by decide +kernel
theorem dX12_addRead_45 : decode cX12_addRead 45 = .ok (.iload_n 3, 1) := by decide +kernel
theorem dX12_addRead_46 : decode cX12_addRead 46 = .ok (.iaload, 1) := by decide +kernel
theorem dX12_addRead_47 : decode cX12_addRead 47 = .ok (.iconst 5, 1) := by decide +kernel
theorem dX12_addRead_48 : decode cX12_addRead 48 = .ok (.if_icmp .eq 10, 3) := by decide +kernel
theorem dX12_addRead_51 : decode cX12_addRead 51 = .ok (.aload_n 0, 1) := by decide +kernel
theorem dX12_addRead_52 : decode cX12_addRead 52 = .ok (.iload_n 1, 1) := by decide +kernel
theorem dX12_addRead_53 : decode cX12_addRead 53 = .ok (.iload_n 3, 1) := by decide +kernel
theorem dX12_addRead_54 : decode cX12_addRead 54 = .ok (.iconst 0, 1) := by decide +kernel
theorem dX12_addRead_55 : decode cX12_addRead 55 = .ok (.invokevirtual 260, 3) := by decide +kernel
theorem dX12_addRead_58 : decode cX12_addRead 58 = .ok (.return_, 1) := by decide +kernel
theorem dX12_unit_0 : decode cX12_unit 0 = .ok (.iload_n 0, 1) := by decide +kernel
theorem dX12_unit_1 : decode cX12_unit 1 = .ok (.bipush 43, 2) := by decide +kernel
theorem dX12_unit_3 : decode cX12_unit 3 = .ok (.if_icmp .eq 15, 3) := by decide +kernel
theorem dX12_unit_6 : decode cX12_unit 6 = .ok (.iload_n 0, 1) := by decide +kernel
theorem dX12_unit_7 : decode cX12_unit 7 = .ok (.bipush 45, 2) := by decide +kernel
theorem dX12_unit_9 : decode cX12_unit 9 = .ok (.if_icmp .eq 9, 3) := by decide +kernel
theorem dX12_unit_12 : decode cX12_unit 12 = .ok (.iload_n 0, 1) := by decide +kernel
theorem dX12_unit_13 : decode cX12_unit 13 = .ok (.bipush 108, 2) := by decide +kernel
theorem dX12_unit_15 : decode cX12_unit 15 = .ok (.if_icmp .ne 7, 3) := by decide +kernel
theorem dX12_unit_18 : decode cX12_unit 18 = .ok (.iconst 0, 1) := by decide +kernel
theorem dX12_unit_19 : decode cX12_unit 19 = .ok (.goto 14, 3) := by decide +kernel
theorem dX12_unit_22 : decode cX12_unit 22 = .ok (.iload_n 0, 1) := by decide +kernel
theorem dX12_unit_23 : decode cX12_unit 23 = .ok (.bipush 42, 2) := by decide +kernel
theorem dX12_unit_25 : decode cX12_unit 25 = .ok (.if_icmp .ne 7, 3) := by decide +kernel
theorem dX12_unit_28 : decode cX12_unit 28 = .ok (.iconst 1, 1) := by decide +kernel
theorem dX12_unit_29 : decode cX12_unit 29 = .ok (.goto 4, 3) := by decide +kernel
theorem dX12_unit_32 : decode cX12_unit 32 = .ok (.iconst 2, 1) := by decide +kernel
theorem dX12_unit_33 : decode cX12_unit 33 = .ok (.ireturn, 1) := by decide +kernel
theorem dX12_uses_0 : decode cX12_uses 0 = .ok (.aload_n 0, 1) := by decide +kernel
theorem dX12_uses_1 : decode cX12_uses 1 = .ok (.getfield 60, 3) := by decide +kernel
theorem dX12_uses_4 : decode cX12_uses 4 = .ok (.aload_n 0, 1) := by decide +kernel
theorem dX12_uses_5 : decode cX12_uses 5 = .ok (.getfield 196, 3) := by decide +kernel
theorem dX12_uses_8 : decode cX12_uses 8 = .ok (.iconst 1, 1) := by decide +kernel
theorem dX12_uses_9 : decode cX12_uses 9 = .ok (.isub, 1) := by decide +kernel
theorem dX12_uses_10 : decode cX12_uses 10 = .ok (.dup2, 1) := by decide +kernel
theorem dX12_uses_11 : decode cX12_uses 11 = .ok (.iaload, 1) := by decide +kernel
theorem dX12_uses_12 : decode cX12_uses 12 = .ok (.aload_n 0, 1) := by decide +kernel
theorem dX12_uses_13 : decode cX12_uses 13 = .ok (.getfield 17, 3) := by decide +kernel
theorem dX12_uses_16 : decode cX12_uses 16 = .ok (.iload_n 1, 1) := by decide +kernel
theorem dX12_uses_17 : decode cX12_uses 17 = .ok (.iaload, 1) := by decide +kernel
theorem dX12_uses_18 : decode cX12_uses 18 = .ok (.ifCond .ne 16, 3) := by decide +kernel
theorem dX12_uses_21 : decode cX12_uses 21 = .ok (.iconst 1, 1) := by decide +kernel
theorem dX12_uses_22 : decode cX12_uses 22 = .ok (.aload_n 0, 1) := by decide +kernel
theorem dX12_uses_23 : decode cX12_uses 23 = .ok (.getfield 17, 3) := by decide +kernel
theorem dX12_uses_26 : decode cX12_uses 26 = .ok (.iload_n 1, 1) := by decide +kernel
theorem dX12_uses_27 : decode cX12_uses 27 = .ok (.iconst 1, 1) := by decide +kernel
theorem dX12_uses_28 : decode cX12_uses 28 = .ok (.iadd, 1) := by decide +kernel
theorem dX12_uses_29 : decode cX12_uses 29 = .ok (.iaload, 1) := by decide +kernel
theorem dX12_uses_30 : decode cX12_uses 30 = .ok (.ishl, 1) := by decide +kernel
theorem dX12_uses_31 : decode cX12_uses 31 = .ok (.goto 4, 3) := by decide +kernel
theorem dX12_uses_34 : decode cX12_uses 34 = .ok (.iconst 0, 1) := by decide +kernel
theorem dX12_uses_35 : decode cX12_uses 35 = .ok (.ior, 1) := by decide +kernel
theorem dX12_uses_36 : decode cX12_uses 36 = .ok (.iastore, 1) := by decide +kernel
theorem dX12_uses_37 : decode cX12_uses 37 = .ok (.return_, 1) := by decide +kernel
theorem dX12_addStatement_0 : decode cX12_addStatement 0 = .ok (.bipush 13, 2) := by decide +kernel
theorem dX12_addStatement_2 : decode cX12_addStatement 2 = .ok (.iload_n 1, 1) := by decide +kernel
theorem dX12_addStatement_3 : decode cX12_addStatement 3 = .ok (.aload_n 0, 1) := by decide +kernel
theorem dX12_addStatement_4 : decode cX12_addStatement 4 = .ok (.getfield 186, 3) := by decide +kernel
theorem dX12_addStatement_7 : decode cX12_addStatement 7 = .ok (.irem, 1) := by decide +kernel
theorem dX12_addStatement_8 : decode cX12_addStatement 8 = .ok (.imul, 1) := by decide +kernel
theorem dX12_addStatement_9 : decode cX12_addStatement 9 = .ok (.istore_n 2, 1) := by decide +kernel
theorem dX12_addStatement_10 : decode cX12_addStatement 10 = .ok (.aload_n 0, 1) := by decide +kernel
theorem dX12_addStatement_11 : decode cX12_addStatement 11 = .ok (.getfield 196, 3) := by decide +kernel
theorem dX12_addStatement_14 : decode cX12_addStatement 14 = .ok (.istore_n 3, 1) := by decide +kernel
theorem dX12_addStatement_15 : decode cX12_addStatement 15 = .ok (.aload_n 0, 1) := by decide +kernel
theorem dX12_addStatement_16 : decode cX12_addStatement 16 = .ok (.getfield 17, 3) := by decide +kernel
theorem dX12_addStatement_19 : decode cX12_addStatement 19 = .ok (.iload_n 2, 1) := by decide +kernel
theorem dX12_addStatement_20 : decode cX12_addStatement 20 = .ok (.bipush 12, 2) := by decide +kernel
theorem dX12_addStatement_22 : decode cX12_addStatement 22 = .ok (.iadd, 1) := by decide +kernel
theorem dX12_addStatement_23 : decode cX12_addStatement 23 = .ok (.iaload, 1) := by decide +kernel
theorem dX12_addStatement_24 : decode cX12_addStatement 24 = .ok (.istore 4, 2) := by decide +kernel
theorem dX12_addStatement_26 : decode cX12_addStatement 26 = .ok (.aload_n 0, 1) := by decide +kernel
theorem dX12_addStatement_27 : decode cX12_addStatement 27 = .ok (.getfield 17, 3) := by decide +kernel
theorem dX12_addStatement_30 : decode cX12_addStatement 30 = .ok (.iload_n 2, 1) := by decide +kernel
theorem dX12_addStatement_31 : decode cX12_addStatement 31 = .ok (.iaload, 1) := by decide +kernel
theorem dX12_addStatement_32 : decode cX12_addStatement 32 = .ok (.istore 5, 2) := by decide +kernel
theorem dX12_addStatement_34 : decode cX12_addStatement 34 = .ok (.aload_n 0, 1) := by decide +kernel
theorem dX12_addStatement_35 : decode cX12_addStatement 35 = .ok (.iload_n 1, 1) := by decide +kernel
theorem dX12_addStatement_36 : decode cX12_addStatement 36 = .ok (.iconst 0, 1) := by decide +kernel
theorem dX12_addStatement_37 : decode cX12_addStatement 37 = .ok (.iload_n 2, 1) := by decide +kernel
theorem dX12_addStatement_38 : decode cX12_addStatement 38 = .ok (.iconst 4, 1) := by decide +kernel
theorem dX12_addStatement_39 : decode cX12_addStatement 39 = .ok (.iadd, 1) := by decide +kernel
theorem dX12_addStatement_40 : decode cX12_addStatement 40 = .ok (.invokevirtual 264, 3) := by decide +kernel
theorem dX12_addStatement_43 : decode cX12_addStatement 43 = .ok (.iload 4, 2) := by decide +kernel
theorem dX12_addStatement_45 : decode cX12_addStatement 45 = .ok (.ifCond .eq 39, 3) := by decide +kernel
theorem dX12_addStatement_48 : decode cX12_addStatement 48 = .ok (.aload_n 0, 1) := by decide +kernel
theorem dX12_addStatement_49 : decode cX12_addStatement 49 = .ok (.iload_n 1, 1) := by decide +kernel
theorem dX12_addStatement_50 : decode cX12_addStatement 50 = .ok (.iconst 1, 1) := by decide +kernel
theorem dX12_addStatement_51 : decode cX12_addStatement 51 = .ok (.iload_n 2, 1) := by decide +kernel
theorem dX12_addStatement_52 : decode cX12_addStatement 52 = .ok (.bipush 8, 2) := by decide +kernel
theorem dX12_addStatement_54 : decode cX12_addStatement 54 = .ok (.iadd, 1) := by decide +kernel
theorem dX12_addStatement_55 : decode cX12_addStatement 55 = .ok (.invokevirtual 264, 3) := by decide +kernel
theorem dX12_addStatement_58 : decode cX12_addStatement 58 = .ok (.aload_n 0, 1) := by decide +kernel
theorem dX12_addStatement_59 : decode cX12_addStatement 59 = .ok (.iload_n 1, 1) := by decide +kernel
theorem dX12_addStatement_60 : decode cX12_addStatement 60 = .ok (.iconst 2, 1) := by decide +kernel
theorem dX12_addStatement_61 : decode cX12_addStatement 61 = .ok (.iload 4, 2) := by decide +kernel
theorem dX12_addStatement_63 : decode cX12_addStatement 63 = .ok (.invokestatic 267, 3) := by decide +kernel
theorem dX12_addStatement_66 : decode cX12_addStatement 66 = .ok (.invokevirtual 257, 3) := by decide +kernel
theorem dX12_addStatement_69 : decode cX12_addStatement 69 = .ok (.aload_n 0, 1) := by decide +kernel
theorem dX12_addStatement_70 : decode cX12_addStatement 70 = .ok (.iload_n 2, 1) := by decide +kernel
theorem dX12_addStatement_71 : decode cX12_addStatement 71 = .ok (.iconst 4, 1) := by decide +kernel
theorem dX12_addStatement_72 : decode cX12_addStatement 72 = .ok (.iadd, 1) := by decide +kernel
theorem dX12_addStatement_73 : decode cX12_addStatement 73 = .ok (.invokevirtual 270, 3) := by decide +kernel
theorem dX12_addStatement_76 : decode cX12_addStatement 76 = .ok (.aload_n 0, 1) := by decide +kernel
theorem dX12_addStatement_77 : decode cX12_addStatement 77 = .ok (.iload_n 2, 1) := by decide +kernel
theorem dX12_addStatement_78 : decode cX12_addStatement 78 = .ok (.bipush 8, 2) := by decide +kernel
theorem dX12_addStatement_80 : decode cX12_addStatement 80 = .ok (.iadd, 1) := by decide +kernel
theorem dX12_addStatement_81 : decode cX12_addStatement 81 = .ok (.invokevirtual 270, 3) := by decide +kernel
theorem dX12_addStatement_84 : decode cX12_addStatement 84 = .ok (.iload 5, 2) := by decide +kernel
theorem dX12_addStatement_86 : decode cX12_addStatement 86 = .ok (.ifCond .eq 41, 3) := by decide +kernel
theorem dX12_addStatement_89 : decode cX12_addStatement 89 = .ok (.aload_n 0, 1) := by decide +kernel
theorem dX12_addStatement_90 : decode cX12_addStatement 90 = .ok (.iload_n 1, 1) := by decide +kernel
theorem dX12_addStatement_91 : decode cX12_addStatement 91 = .ok (.iconst 3, 1) := by decide +kernel
theorem dX12_addStatement_92 : decode cX12_addStatement 92 = .ok (.iload 5, 2) := by decide +kernel
theorem dX12_addStatement_94 : decode cX12_addStatement 94 = .ok (.iconst 5, 1) := by decide +kernel
theorem dX12_addStatement_95 : decode cX12_addStatement 95 = .ok (.if_icmp .ne 8, 3) := by decide +kernel
theorem dX12_addStatement_98 : decode cX12_addStatement 98 = .ok (.bipush 6, 2) := by decide +kernel
theorem dX12_addStatement_100 : decode cX12_addStatement 100 = .ok (.goto 8, 3) := by decide +kernel
theorem dX12_addStatement_103 : decode cX12_addStatement 103 = .ok (.iload 5, 2) := by decide +kernel
theorem dX12_addStatement_105 : decode cX12_addStatement 105 = .ok (.invokestatic 254, 3) := by decide +kernel
theorem dX12_addStatement_108 : decode cX12_addStatement 108 = .ok (.invokevirtual 257, 3) := by decide +kernel
theorem dX12_addStatement_111 : decode cX12_addStatement 111 = .ok (.iload 5, 2) := by decide +kernel
theorem dX12_addStatement_113 : decode cX12_addStatement 113 = .ok (.iconst 5, 1) := by decide +kernel
theorem dX12_addStatement_114 : decode cX12_addStatement 114 = .ok (.if_icmp .eq 28, 3) := by decide +kernel
theorem dX12_addStatement_117 : decode cX12_addStatement 117 = .ok (.aload_n 0, 1) := by decide +kernel
theorem dX12_addStatement_118 : decode cX12_addStatement 118 = .ok (.iload_n 1, 1) := by decide +kernel
theorem dX12_addStatement_119 : decode cX12_addStatement 119 = .ok (.iload_n 2, 1) := by decide +kernel
theorem dX12_addStatement_120 : decode cX12_addStatement 120 = .ok (.iconst 1, 1) := by decide +kernel
theorem dX12_addStatement_121 : decode cX12_addStatement 121 = .ok (.invokevirtual 260, 3) := by decide +kernel
theorem dX12_addStatement_124 : decode cX12_addStatement 124 = .ok (.goto 18, 3) := by decide +kernel
theorem dX12_addStatement_127 : decode cX12_addStatement 127 = .ok (.aload_n 0, 1) := by decide +kernel
theorem dX12_addStatement_128 : decode cX12_addStatement 128 = .ok (.getfield 196, 3) := by decide +kernel
theorem dX12_addStatement_131 : decode cX12_addStatement 131 = .ok (.iload_n 3, 1) := by decide +kernel
theorem dX12_addStatement_132 : decode cX12_addStatement 132 = .ok (.if_icmp .ne 10, 3) := by decide +kernel
theorem dX12_addStatement_135 : decode cX12_addStatement 135 = .ok (.aload_n 0, 1) := by decide +kernel
theorem dX12_addStatement_136 : decode cX12_addStatement 136 = .ok (.iload_n 1, 1) := by decide +kernel
theorem dX12_addStatement_137 : decode cX12_addStatement 137 = .ok (.iconst 4, 1) := by decide +kernel
theorem dX12_addStatement_138 : decode cX12_addStatement 138 = .ok (.iconst 2, 1) := by decide +kernel
theorem dX12_addStatement_139 : decode cX12_addStatement 139 = .ok (.invokevirtual 257, 3) := by decide +kernel
theorem dX12_addStatement_142 : decode cX12_addStatement 142 = .ok (.iload 4, 2) := by decide +kernel
theorem dX12_addStatement_144 : decode cX12_addStatement 144 = .ok (.ifCond .ne 10, 3) := by decide +kernel
theorem dX12_addStatement_147 : decode cX12_addStatement 147 = .ok (.aload_n 0, 1) := by decide +kernel
theorem dX12_addStatement_148 : decode cX12_addStatement 148 = .ok (.iload_n 2, 1) := by decide +kernel
theorem dX12_addStatement_149 : decode cX12_addStatement 149 = .ok (.iconst 4, 1) := by decide +kernel
theorem dX12_addStatement_150 : decode cX12_addStatement 150 = .ok (.iadd, 1) := by decide +kernel
theorem dX12_addStatement_151 : decode cX12_addStatement 151 = .ok (.invokevirtual 270, 3) := by decide +kernel
theorem dX12_addStatement_154 : decode cX12_addStatement 154 = .ok (.aload_n 0, 1) := by decide +kernel
theorem dX12_addStatement_155 : decode cX12_addStatement 155 = .ok (.getfield 63, 3) := by decide +kernel
theorem dX12_addStatement_158 : decode cX12_addStatement 158 = .ok (.aload_n 0, 1) := by decide +kernel
theorem dX12_addStatement_159 : decode cX12_addStatement 159 = .ok (.getfield 196, 3) := by decide +kernel
theorem dX12_addStatement_162 : decode cX12_addStatement 162 = .ok (.iconst 1, 1) := by decide +kernel
theorem dX12_addStatement_163 : decode cX12_addStatement 163 = .ok (.isub, 1) := by decide +kernel
theorem dX12_addStatement_164 : decode cX12_addStatement 164 = .ok (.iload 5, 2) := by decide +kernel
theorem dX12_addStatement_166 : decode cX12_addStatement 166 = .ok (.ifCond .ne 14, 3) := by decide +kernel
theorem dX12_addStatement_169 : decode cX12_addStatement 169 = .ok (.aload_n 0, 1) := by decide +kernel
theorem dX12_addStatement_170 : decode cX12_addStatement 170 = .ok (.getfield 17, 3) := by decide +kernel
theorem dX12_addStatement_173 : decode cX12_addStatement 173 = .ok (.iload_n 2, 1) := by decide +kernel
theorem dX12_addStatement_174 : decode cX12_addStatement 174 = .ok (.iconst 1, 1) := by decide +kernel
theorem dX12_addStatement_175 : decode cX12_addStatement 175 = .ok (.iadd, 1) := by decide +kernel
theorem dX12_addStatement_176 : decode cX12_addStatement 176 = .ok (.iaload, 1) := by decide +kernel
theorem dX12_addStatement_177 : decode cX12_addStatement 177 = .ok (.goto 4, 3) := by decide +kernel
theorem dX12_addStatement_180 : decode cX12_addStatement 180 = .ok (.iconst (-1), 1) := by decide +kernel
theorem dX12_addStatement_181 : decode cX12_addStatement 181 = .ok (.iastore, 1) := by decide +kernel
theorem dX12_addStatement_182 : decode cX12_addStatement 182 = .ok (.return_, 1) := by decide +kernel
theorem dX12_cyclesOf_0 : decode cX12_cyclesOf 0 = .ok (.aload_n 0, 1) := by decide +kernel
theorem dX12_cyclesOf_1 : decode cX12_cyclesOf 1 = .ok (.getfield 39, 3) := by decide +kernel
theorem dX12_cyclesOf_4 : decode cX12_cyclesOf 4 = .ok (.aload_n 0, 1) := by decide +kernel
theorem dX12_cyclesOf_5 : decode cX12_cyclesOf 5 = .ok (.getfield 57, 3) := by decide +kernel
theorem dX12_cyclesOf_8 : decode cX12_cyclesOf 8 = .ok (.iload_n 1, 1) := by decide +kernel
theorem dX12_cyclesOf_9 : decode cX12_cyclesOf 9 = .ok (.iaload, 1) := by decide +kernel
theorem dX12_cyclesOf_10 : decode cX12_cyclesOf 10 = .ok (.iaload, 1) := by decide +kernel
theorem dX12_cyclesOf_11 : decode cX12_cyclesOf 11 = .ok (.ireturn, 1) := by decide +kernel
theorem dX12_build_0 : decode cX12_build 0 = .ok (.aload_n 0, 1) := by decide +kernel
theorem dX12_build_1 : decode cX12_build 1 = .ok (.iconst 0, 1) := by decide +kernel
theorem dX12_build_2 : decode cX12_build 2 = .ok (.putfield 196, 3) := by decide +kernel
theorem dX12_build_5 : decode cX12_build 5 = .ok (.aload_n 0, 1) := by decide +kernel
theorem dX12_build_6 : decode cX12_build 6 = .ok (.iconst 0, 1) := by decide +kernel
theorem dX12_build_7 : decode cX12_build 7 = .ok (.putfield 273, 3) := by decide +kernel
theorem dX12_build_10 : decode cX12_build 10 = .ok (.iconst 0, 1) := by decide +kernel
theorem dX12_build_11 : decode cX12_build 11 = .ok (.istore_n 1, 1) := by decide +kernel
theorem dX12_build_12 : decode cX12_build 12 = .ok (.iload_n 1, 1) := by decide +kernel
theorem dX12_build_13 : decode cX12_build 13 = .ok (.aload_n 0, 1) := by decide +kernel
theorem dX12_build_14 : decode cX12_build 14 = .ok (.getfield 186, 3) := by decide +kernel
theorem dX12_build_17 : decode cX12_build 17 = .ok (.aload_n 0, 1) := by decide +kernel
theorem dX12_build_18 : decode cX12_build 18 = .ok (.getfield 27, 3) := by decide +kernel
theorem dX12_build_21 : decode cX12_build 21 = .ok (.imul, 1) := by decide +kernel
theorem dX12_build_22 : decode cX12_build 22 = .ok (.if_icmp .ge 14, 3) := by decide +kernel
theorem dX12_build_25 : decode cX12_build 25 = .ok (.aload_n 0, 1) := by decide +kernel
theorem dX12_build_26 : decode cX12_build 26 = .ok (.iload_n 1, 1) := by decide +kernel
theorem dX12_build_27 : decode cX12_build 27 = .ok (.invokevirtual 276, 3) := by decide +kernel
theorem dX12_build_30 : decode cX12_build 30 = .ok (.iinc 1 1, 3) := by decide +kernel
theorem dX12_build_33 : decode cX12_build 33 = .ok (.goto (-21), 3) := by decide +kernel
theorem dX12_build_36 : decode cX12_build 36 = .ok (.iconst 0, 1) := by decide +kernel
theorem dX12_build_37 : decode cX12_build 37 = .ok (.istore_n 1, 1) := by decide +kernel
theorem dX12_build_38 : decode cX12_build 38 = .ok (.iload_n 1, 1) := by decide +kernel
theorem dX12_build_39 : decode cX12_build 39 = .ok (.aload_n 0, 1) := by decide +kernel
theorem dX12_build_40 : decode cX12_build 40 = .ok (.getfield 196, 3) := by decide +kernel
theorem dX12_build_43 : decode cX12_build 43 = .ok (.aload_n 0, 1) := by decide +kernel
theorem dX12_build_44 : decode cX12_build 44 = .ok (.getfield 196, 3) := by decide +kernel
theorem dX12_build_47 : decode cX12_build 47 = .ok (.imul, 1) := by decide +kernel
theorem dX12_build_48 : decode cX12_build 48 = .ok (.if_icmp .ge 16, 3) := by decide +kernel
theorem dX12_build_51 : decode cX12_build 51 = .ok (.aload_n 0, 1) := by decide +kernel
theorem dX12_build_52 : decode cX12_build 52 = .ok (.getfield 91, 3) := by decide +kernel
theorem dX12_build_55 : decode cX12_build 55 = .ok (.iload_n 1, 1) := by decide +kernel
theorem dX12_build_56 : decode cX12_build 56 = .ok (.iconst (-1), 1) := by decide +kernel
theorem dX12_build_57 : decode cX12_build 57 = .ok (.iastore, 1) := by decide +kernel
theorem dX12_build_58 : decode cX12_build 58 = .ok (.iinc 1 1, 3) := by decide +kernel
theorem dX12_build_61 : decode cX12_build 61 = .ok (.goto (-23), 3) := by decide +kernel
theorem dX12_build_64 : decode cX12_build 64 = .ok (.iconst 0, 1) := by decide +kernel
theorem dX12_build_65 : decode cX12_build 65 = .ok (.istore_n 1, 1) := by decide +kernel
theorem dX12_build_66 : decode cX12_build 66 = .ok (.iload_n 1, 1) := by decide +kernel
theorem dX12_build_67 : decode cX12_build 67 = .ok (.aload_n 0, 1) := by decide +kernel
theorem dX12_build_68 : decode cX12_build 68 = .ok (.getfield 196, 3) := by decide +kernel
theorem dX12_build_71 : decode cX12_build 71 = .ok (.if_icmp .ge 110, 3) := by decide +kernel
theorem dX12_build_74 : decode cX12_build 74 = .ok (.aload_n 0, 1) := by decide +kernel
theorem dX12_build_75 : decode cX12_build 75 = .ok (.iload_n 1, 1) := by decide +kernel
theorem dX12_build_76 : decode cX12_build 76 = .ok (.invokevirtual 279, 3) := by decide +kernel
theorem dX12_build_79 : decode cX12_build 79 = .ok (.aload_n 0, 1) := by decide +kernel
theorem dX12_build_80 : decode cX12_build 80 = .ok (.getfield 63, 3) := by decide +kernel
theorem dX12_build_83 : decode cX12_build 83 = .ok (.iload_n 1, 1) := by decide +kernel
theorem dX12_build_84 : decode cX12_build 84 = .ok (.iaload, 1) := by decide +kernel
theorem dX12_build_85 : decode cX12_build 85 = .ok (.iconst (-1), 1) := by decide +kernel
theorem dX12_build_86 : decode cX12_build 86 = .ok (.if_icmp .eq 21, 3) := by decide +kernel
theorem dX12_build_89 : decode cX12_build 89 = .ok (.aload_n 0, 1) := by decide +kernel
theorem dX12_build_90 : decode cX12_build 90 = .ok (.iload_n 1, 1) := by decide +kernel
theorem dX12_build_91 : decode cX12_build 91 = .ok (.aload_n 0, 1) := by decide +kernel
theorem dX12_build_92 : decode cX12_build 92 = .ok (.getfield 63, 3) := by decide +kernel
theorem dX12_build_95 : decode cX12_build 95 = .ok (.iload_n 1, 1) := by decide +kernel
theorem dX12_build_96 : decode cX12_build 96 = .ok (.iaload, 1) := by decide +kernel
theorem dX12_build_97 : decode cX12_build 97 = .ok (.iconst 1, 1) := by decide +kernel
theorem dX12_build_98 : decode cX12_build 98 = .ok (.aload_n 0, 1) := by decide +kernel
theorem dX12_build_99 : decode cX12_build 99 = .ok (.iload_n 1, 1) := by decide +kernel
theorem dX12_build_100 : decode cX12_build 100 = .ok (.invokevirtual 282, 3) := by decide +kernel
theorem dX12_build_103 : decode cX12_build 103 = .ok (.iadd, 1) := by decide +kernel
theorem dX12_build_104 : decode cX12_build 104 = .ok (.invokevirtual 285, 3) := by decide +kernel
theorem dX12_build_107 : decode cX12_build 107 = .ok (.iconst 0, 1) := by decide +kernel
theorem dX12_build_108 : decode cX12_build 108 = .ok (.istore_n 2, 1) := by decide +kernel
theorem dX12_build_109 : decode cX12_build 109 = .ok (.iload_n 2, 1) := by decide +kernel
theorem dX12_build_110 : decode cX12_build 110 = .ok (.bipush 8, 2) := by decide +kernel
theorem dX12_build_112 : decode cX12_build 112 = .ok (.if_icmp .ge 36, 3) := by decide +kernel
theorem dX12_build_115 : decode cX12_build 115 = .ok (.aload_n 0, 1) := by decide +kernel
theorem dX12_build_116 : decode cX12_build 116 = .ok (.getfield 60, 3) := by decide +kernel
theorem dX12_build_119 : decode cX12_build 119 = .ok (.iload_n 1, 1) := by decide +kernel
theorem dX12_build_120 : decode cX12_build 120 = .ok (.iaload, 1) := by decide +kernel
theorem dX12_build_121 : decode cX12_build 121 = .ok (.iload_n 2, 1) := by decide +kernel
theorem dX12_build_122 : decode cX12_build 122 = .ok (.ishr, 1) := by decide +kernel
theorem dX12_build_123 : decode cX12_build 123 = .ok (.iconst 1, 1) := by decide +kernel
theorem dX12_build_124 : decode cX12_build 124 = .ok (.iand, 1) := by decide +kernel
theorem dX12_build_125 : decode cX12_build 125 = .ok (.iconst 1, 1) := by decide +kernel
theorem dX12_build_126 : decode cX12_build 126 = .ok (.if_icmp .ne 16, 3) := by decide +kernel
theorem dX12_build_129 : decode cX12_build 129 = .ok (.aload_n 0, 1) := by decide +kernel
theorem dX12_build_130 : decode cX12_build 130 = .ok (.iload_n 1, 1) := by decide +kernel
theorem dX12_build_131 : decode cX12_build 131 = .ok (.iload_n 2, 1) := by decide +kernel
theorem dX12_build_132 : decode cX12_build 132 = .ok (.invokevirtual 288, 3) := by decide +kernel
theorem dX12_build_135 : decode cX12_build 135 = .ok (.aload_n 0, 1) := by decide +kernel
theorem dX12_build_136 : decode cX12_build 136 = .ok (.iload_n 1, 1) := by decide +kernel
theorem dX12_build_137 : decode cX12_build 137 = .ok (.iload_n 2, 1) := by decide +kernel
theorem dX12_build_138 : decode cX12_build 138 = .ok (.iconst 1, 1) := by decide +kernel
theorem dX12_build_139 : decode cX12_build 139 = .ok (.invokevirtual 285, 3) := by decide +kernel
theorem dX12_build_142 : decode cX12_build 142 = .ok (.iinc 2 1, 3) := by decide +kernel
theorem dX12_build_145 : decode cX12_build 145 = .ok (.goto (-36), 3) := by decide +kernel
theorem dX12_build_148 : decode cX12_build 148 = .ok (.iconst 0, 1) := by decide +kernel
theorem dX12_build_149 : decode cX12_build 149 = .ok (.istore_n 2, 1) := by decide +kernel
theorem dX12_build_150 : decode cX12_build 150 = .ok (.iload_n 2, 1) := by decide +kernel
theorem dX12_build_151 : decode cX12_build 151 = .ok (.aload_n 0, 1) := by decide +kernel
theorem dX12_build_152 : decode cX12_build 152 = .ok (.getfield 196, 3) := by decide +kernel
theorem dX12_build_155 : decode cX12_build 155 = .ok (.if_icmp .ge 15, 3) := by decide +kernel
theorem dX12_build_158 : decode cX12_build 158 = .ok (.aload_n 0, 1) := by decide +kernel
theorem dX12_build_159 : decode cX12_build 159 = .ok (.iload_n 1, 1) := by decide +kernel
theorem dX12_build_160 : decode cX12_build 160 = .ok (.iload_n 2, 1) := by decide +kernel
theorem dX12_build_161 : decode cX12_build 161 = .ok (.invokevirtual 292, 3) := by decide +kernel
theorem dX12_build_164 : decode cX12_build 164 = .ok (.iinc 2 1, 3) := by decide +kernel
theorem dX12_build_167 : decode cX12_build 167 = .ok (.goto (-17), 3) := by decide +kernel
theorem dX12_build_170 : decode cX12_build 170 = .ok (.aload_n 0, 1) := by decide +kernel
theorem dX12_build_171 : decode cX12_build 171 = .ok (.iload_n 1, 1) := by decide +kernel
theorem dX12_build_172 : decode cX12_build 172 = .ok (.invokevirtual 295, 3) := by decide +kernel
theorem dX12_build_175 : decode cX12_build 175 = .ok (.iinc 1 1, 3) := by decide +kernel
theorem dX12_build_178 : decode cX12_build 178 = .ok (.goto (-112), 3) := by decide +kernel
theorem dX12_build_181 : decode cX12_build 181 = .ok (.return_, 1) := by decide +kernel
theorem dX12_join_0 : decode cX12_join 0 = .ok (.aload_n 0, 1) := by decide +kernel
theorem dX12_join_1 : decode cX12_join 1 = .ok (.getfield 91, 3) := by decide +kernel
theorem dX12_join_4 : decode cX12_join 4 = .ok (.aload_n 0, 1) := by decide +kernel
theorem dX12_join_5 : decode cX12_join 5 = .ok (.getfield 196, 3) := by decide +kernel
theorem dX12_join_8 : decode cX12_join 8 = .ok (.iload_n 1, 1) := by decide +kernel
theorem dX12_join_9 : decode cX12_join 9 = .ok (.imul, 1) := by decide +kernel
theorem dX12_join_10 : decode cX12_join 10 = .ok (.iload_n 2, 1) := by decide +kernel
theorem dX12_join_11 : decode cX12_join 11 = .ok (.iadd, 1) := by decide +kernel
theorem dX12_join_12 : decode cX12_join 12 = .ok (.iaload, 1) := by decide +kernel
theorem dX12_join_13 : decode cX12_join 13 = .ok (.istore 5, 2) := by decide +kernel
theorem dX12_join_15 : decode cX12_join 15 = .ok (.iload 5, 2) := by decide +kernel
theorem dX12_join_17 : decode cX12_join 17 = .ok (.iconst (-1), 1) := by decide +kernel
theorem dX12_join_18 : decode cX12_join 18 = .ok (.if_icmp .eq 46, 3) := by decide +kernel
theorem dX12_join_21 : decode cX12_join 21 = .ok (.aload_n 0, 1) := by decide +kernel
theorem dX12_join_22 : decode cX12_join 22 = .ok (.getfield 82, 3) := by decide +kernel
theorem dX12_join_25 : decode cX12_join 25 = .ok (.iload 5, 2) := by decide +kernel
theorem dX12_join_27 : decode cX12_join 27 = .ok (.iaload, 1) := by decide +kernel
theorem dX12_join_28 : decode cX12_join 28 = .ok (.iload_n 3, 1) := by decide +kernel
theorem dX12_join_29 : decode cX12_join 29 = .ok (.if_icmp .ne 23, 3) := by decide +kernel
theorem dX12_join_32 : decode cX12_join 32 = .ok (.aload_n 0, 1) := by decide +kernel
theorem dX12_join_33 : decode cX12_join 33 = .ok (.getfield 85, 3) := by decide +kernel
theorem dX12_join_36 : decode cX12_join 36 = .ok (.iload 5, 2) := by decide +kernel
theorem dX12_join_38 : decode cX12_join 38 = .ok (.aload_n 0, 1) := by decide +kernel
theorem dX12_join_39 : decode cX12_join 39 = .ok (.getfield 85, 3) := by decide +kernel
theorem dX12_join_42 : decode cX12_join 42 = .ok (.iload 5, 2) := by decide +kernel
theorem dX12_join_44 : decode cX12_join 44 = .ok (.iaload, 1) := by decide +kernel
theorem dX12_join_45 : decode cX12_join 45 = .ok (.iload 4, 2) := by decide +kernel
theorem dX12_join_47 : decode cX12_join 47 = .ok (.invokestatic 298, 3) := by decide +kernel
theorem dX12_join_50 : decode cX12_join 50 = .ok (.iastore, 1) := by decide +kernel
theorem dX12_join_51 : decode cX12_join 51 = .ok (.return_, 1) := by decide +kernel
theorem dX12_join_52 : decode cX12_join 52 = .ok (.aload_n 0, 1) := by decide +kernel
theorem dX12_join_53 : decode cX12_join 53 = .ok (.getfield 88, 3) := by decide +kernel
theorem dX12_join_56 : decode cX12_join 56 = .ok (.iload 5, 2) := by decide +kernel
theorem dX12_join_58 : decode cX12_join 58 = .ok (.iaload, 1) := by decide +kernel
theorem dX12_join_59 : decode cX12_join 59 = .ok (.istore 5, 2) := by decide +kernel
theorem dX12_join_61 : decode cX12_join 61 = .ok (.goto (-46), 3) := by decide +kernel
theorem dX12_join_64 : decode cX12_join 64 = .ok (.aload_n 0, 1) := by decide +kernel
theorem dX12_join_65 : decode cX12_join 65 = .ok (.getfield 76, 3) := by decide +kernel
theorem dX12_join_68 : decode cX12_join 68 = .ok (.aload_n 0, 1) := by decide +kernel
theorem dX12_join_69 : decode cX12_join 69 = .ok (.getfield 273, 3) := by decide +kernel
theorem dX12_join_72 : decode cX12_join 72 = .ok (.iload_n 1, 1) := by decide +kernel
theorem dX12_join_73 : decode cX12_join 73 = .ok (.iastore, 1) := by decide +kernel
theorem dX12_join_74 : decode cX12_join 74 = .ok (.aload_n 0, 1) := by decide +kernel
theorem dX12_join_75 : decode cX12_join 75 = .ok (.getfield 79, 3) := by decide +kernel
theorem dX12_join_78 : decode cX12_join 78 = .ok (.aload_n 0, 1) := by decide +kernel
theorem dX12_join_79 : decode cX12_join 79 = .ok (.getfield 273, 3) := by decide +kernel
theorem dX12_join_82 : decode cX12_join 82 = .ok (.iload_n 2, 1) := by decide +kernel
theorem dX12_join_83 : decode cX12_join 83 = .ok (.iastore, 1) := by decide +kernel
theorem dX12_join_84 : decode cX12_join 84 = .ok (.aload_n 0, 1) := by decide +kernel
theorem dX12_join_85 : decode cX12_join 85 = .ok (.getfield 82, 3) := by decide +kernel
theorem dX12_join_88 : decode cX12_join 88 = .ok (.aload_n 0, 1) := by decide +kernel
theorem dX12_join_89 : decode cX12_join 89 = .ok (.getfield 273, 3) := by decide +kernel
theorem dX12_join_92 : decode cX12_join 92 = .ok (.iload_n 3, 1) := by decide +kernel
theorem dX12_join_93 : decode cX12_join 93 = .ok (.iastore, 1) := by decide +kernel
theorem dX12_join_94 : decode cX12_join 94 = .ok (.aload_n 0, 1) := by decide +kernel
theorem dX12_join_95 : decode cX12_join 95 = .ok (.getfield 85, 3) := by decide +kernel
theorem dX12_join_98 : decode cX12_join 98 = .ok (.aload_n 0, 1) := by decide +kernel
theorem dX12_join_99 : decode cX12_join 99 = .ok (.getfield 273, 3) := by decide +kernel
theorem dX12_join_102 : decode cX12_join 102 = .ok (.iload 4, 2) := by decide +kernel
theorem dX12_join_104 : decode cX12_join 104 = .ok (.iastore, 1) := by decide +kernel
theorem dX12_join_105 : decode cX12_join 105 = .ok (.aload_n 0, 1) := by decide +kernel
theorem dX12_join_106 : decode cX12_join 106 = .ok (.getfield 88, 3) := by decide +kernel
theorem dX12_join_109 : decode cX12_join 109 = .ok (.aload_n 0, 1) := by decide +kernel
theorem dX12_join_110 : decode cX12_join 110 = .ok (.getfield 273, 3) := by decide +kernel
theorem dX12_join_113 : decode cX12_join 113 = .ok (.aload_n 0, 1) := by decide +kernel
theorem dX12_join_114 : decode cX12_join 114 = .ok (.getfield 91, 3) := by decide +kernel
theorem dX12_join_117 : decode cX12_join 117 = .ok (.aload_n 0, 1) := by decide +kernel
theorem dX12_join_118 : decode cX12_join 118 = .ok (.getfield 196, 3) := by decide +kernel
theorem dX12_join_121 : decode cX12_join 121 = .ok (.iload_n 1, 1) := by decide +kernel
theorem dX12_join_122 : decode cX12_join 122 = .ok (.imul, 1) := by decide +kernel
theorem dX12_join_123 : decode cX12_join 123 = .ok (.iload_n 2, 1) := by decide +kernel
theorem dX12_join_124 : decode cX12_join 124 = .ok (.iadd, 1) := by decide +kernel
theorem dX12_join_125 : decode cX12_join 125 = .ok (.iaload, 1) := by decide +kernel
theorem dX12_join_126 : decode cX12_join 126 = .ok (.iastore, 1) := by decide +kernel
theorem dX12_join_127 : decode cX12_join 127 = .ok (.aload_n 0, 1) := by decide +kernel
theorem dX12_join_128 : decode cX12_join 128 = .ok (.getfield 91, 3) := by decide +kernel
theorem dX12_join_131 : decode cX12_join 131 = .ok (.aload_n 0, 1) := by decide +kernel
theorem dX12_join_132 : decode cX12_join 132 = .ok (.getfield 196, 3) := by decide +kernel
theorem dX12_join_135 : decode cX12_join 135 = .ok (.iload_n 1, 1) := by decide +kernel
theorem dX12_join_136 : decode cX12_join 136 = .ok (.imul, 1) := by decide +kernel
theorem dX12_join_137 : decode cX12_join 137 = .ok (.iload_n 2, 1) := by decide +kernel
theorem dX12_join_138 : decode cX12_join 138 = .ok (.iadd, 1) := by decide +kernel
theorem dX12_join_139 : decode cX12_join 139 = .ok (.aload_n 0, 1) := by decide +kernel
theorem dX12_join_140 : decode cX12_join 140 = .ok (.getfield 273, 3) := by decide +kernel
theorem dX12_join_143 : decode cX12_join 143 = .ok (.iastore, 1) := by decide +kernel
theorem dX12_join_144 : decode cX12_join 144 = .ok (.aload_n 0, 1) := by decide +kernel
theorem dX12_join_145 : decode cX12_join 145 = .ok (.dup, 1) := by decide +kernel
theorem dX12_join_146 : decode cX12_join 146 = .ok (.getfield 273, 3) := by decide +kernel
theorem dX12_join_149 : decode cX12_join 149 = .ok (.iconst 1, 1) := by decide +kernel
theorem dX12_join_150 : decode cX12_join 150 = .ok (.iadd, 1) := by decide +kernel
theorem dX12_join_151 : decode cX12_join 151 = .ok (.putfield 273, 3) := by decide +kernel
theorem dX12_join_154 : decode cX12_join 154 = .ok (.return_, 1) := by decide +kernel
theorem dX12_within_0 : decode cX12_within 0 = .ok (.iload_n 1, 1) := by decide +kernel
theorem dX12_within_1 : decode cX12_within 1 = .ok (.iconst 1, 1) := by decide +kernel
theorem dX12_within_2 : decode cX12_within 2 = .ok (.iadd, 1) := by decide +kernel
theorem dX12_within_3 : decode cX12_within 3 = .ok (.istore_n 2, 1) := by decide +kernel
theorem dX12_within_4 : decode cX12_within 4 = .ok (.iload_n 2, 1) := by decide +kernel
theorem dX12_within_5 : decode cX12_within 5 = .ok (.aload_n 0, 1) := by decide +kernel
theorem dX12_within_6 : decode cX12_within 6 = .ok (.getfield 196, 3) := by decide +kernel
theorem dX12_within_9 : decode cX12_within 9 = .ok (.if_icmp .ge 77, 3) := by decide +kernel
theorem dX12_within_12 : decode cX12_within 12 = .ok (.aload_n 0, 1) := by decide +kernel
theorem dX12_within_13 : decode cX12_within 13 = .ok (.getfield 51, 3) := by decide +kernel
theorem dX12_within_16 : decode cX12_within 16 = .ok (.iload_n 2, 1) := by decide +kernel
theorem dX12_within_17 : decode cX12_within 17 = .ok (.iaload, 1) := by decide +kernel
theorem dX12_within_18 : decode cX12_within 18 = .ok (.aload_n 0, 1) := by decide +kernel
theorem dX12_within_19 : decode cX12_within 19 = .ok (.getfield 51, 3) := by decide +kernel
theorem dX12_within_22 : decode cX12_within 22 = .ok (.iload_n 1, 1) := by decide +kernel
theorem dX12_within_23 : decode cX12_within 23 = .ok (.iaload, 1) := by decide +kernel
theorem dX12_within_24 : decode cX12_within 24 = .ok (.if_icmp .ne 62, 3) := by decide +kernel
theorem dX12_within_27 : decode cX12_within 27 = .ok (.aload_n 0, 1) := by decide +kernel
theorem dX12_within_28 : decode cX12_within 28 = .ok (.getfield 54, 3) := by decide +kernel
theorem dX12_within_31 : decode cX12_within 31 = .ok (.iload_n 2, 1) := by decide +kernel
theorem dX12_within_32 : decode cX12_within 32 = .ok (.iaload, 1) := by decide +kernel
theorem dX12_within_33 : decode cX12_within 33 = .ok (.iconst 2, 1) := by decide +kernel
theorem dX12_within_34 : decode cX12_within 34 = .ok (.if_icmp .eq 13, 3) := by decide +kernel
theorem dX12_within_37 : decode cX12_within 37 = .ok (.aload_n 0, 1) := by decide +kernel
theorem dX12_within_38 : decode cX12_within 38 = .ok (.getfield 54, 3) := by decide +kernel
theorem dX12_within_41 : decode cX12_within 41 = .ok (.iload_n 2, 1) := by decide +kernel
theorem dX12_within_42 : decode cX12_within 42 = .ok (.iaload, 1) := by decide +kernel
theorem dX12_within_43 : decode cX12_within 43 = .ok (.iconst 3, 1) := by decide +kernel
theorem dX12_within_44 : decode cX12_within 44 = .ok (.if_icmp .ne 7, 3) := by decide +kernel
theorem dX12_within_47 : decode cX12_within 47 = .ok (.iconst 1, 1) := by decide +kernel
theorem dX12_within_48 : decode cX12_within 48 = .ok (.goto 4, 3) := by decide +kernel
theorem dX12_within_51 : decode cX12_within 51 = .ok (.iconst 0, 1) := by decide +kernel
theorem dX12_within_52 : decode cX12_within 52 = .ok (.istore_n 3, 1) := by decide +kernel
theorem dX12_within_53 : decode cX12_within 53 = .ok (.iload_n 3, 1) := by decide +kernel
theorem dX12_within_54 : decode cX12_within 54 = .ok (.ifCond .eq 26, 3) := by decide +kernel
theorem dX12_within_57 : decode cX12_within 57 = .ok (.aload_n 0, 1) := by decide +kernel
theorem dX12_within_58 : decode cX12_within 58 = .ok (.getfield 54, 3) := by decide +kernel
theorem dX12_within_61 : decode cX12_within 61 = .ok (.iload_n 1, 1) := by decide +kernel
theorem dX12_within_62 : decode cX12_within 62 = .ok (.iaload, 1) := by decide +kernel
theorem dX12_within_63 : decode cX12_within 63 = .ok (.iconst 3, 1) := by decide +kernel
theorem dX12_within_64 : decode cX12_within 64 = .ok (.if_icmp .eq 16, 3) := by decide +kernel
theorem dX12_within_67 : decode cX12_within 67 = .ok (.aload_n 0, 1) := by decide +kernel
theorem dX12_within_68 : decode cX12_within 68 = .ok (.iload_n 1, 1) := by decide +kernel
theorem dX12_within_69 : decode cX12_within 69 = .ok (.iload_n 2, 1) := by decide +kernel
theorem dX12_within_70 : decode cX12_within 70 = .ok (.iconst 0, 1) := by decide +kernel
theorem dX12_within_71 : decode cX12_within 71 = .ok (.aload_n 0, 1) := by decide +kernel
theorem dX12_within_72 : decode cX12_within 72 = .ok (.iload_n 1, 1) := by decide +kernel
theorem dX12_within_73 : decode cX12_within 73 = .ok (.invokevirtual 282, 3) := by decide +kernel
theorem dX12_within_76 : decode cX12_within 76 = .ok (.invokevirtual 301, 3) := by decide +kernel
theorem dX12_within_79 : decode cX12_within 79 = .ok (.return_, 1) := by decide +kernel
theorem dX12_within_80 : decode cX12_within 80 = .ok (.iinc 2 1, 3) := by decide +kernel
theorem dX12_within_83 : decode cX12_within 83 = .ok (.goto (-79), 3) := by decide +kernel
theorem dX12_within_86 : decode cX12_within 86 = .ok (.return_, 1) := by decide +kernel
theorem dX12_fromMaker_0 : decode cX12_fromMaker 0 = .ok (.iconst (-1), 1) := by decide +kernel
theorem dX12_fromMaker_1 : decode cX12_fromMaker 1 = .ok (.istore_n 3, 1) := by decide +kernel
theorem dX12_fromMaker_2 : decode cX12_fromMaker 2 = .ok (.iconst (-1), 1) := by decide +kernel
theorem dX12_fromMaker_3 : decode cX12_fromMaker 3 = .ok (.istore 4, 2) := by decide +kernel
theorem dX12_fromMaker_5 : decode cX12_fromMaker 5 = .ok (.iconst 0, 1) := by decide +kernel
theorem dX12_fromMaker_6 : decode cX12_fromMaker 6 = .ok (.istore 5, 2) := by decide +kernel
theorem dX12_fromMaker_8 : decode cX12_fromMaker 8 = .ok (.iload 5, 2) := by decide +kernel
theorem dX12_fromMaker_10 : decode cX12_fromMaker 10 = .ok (.aload_n 0, 1) := by decide +kernel
theorem dX12_fromMaker_11 : decode cX12_fromMaker 11 = .ok (.getfield 196, 3) := by decide +kernel
theorem dX12_fromMaker_14 : decode cX12_fromMaker 14 = .ok (.if_icmp .ge 53, 3) := by decide +kernel
theorem dX12_fromMaker_17 : decode cX12_fromMaker 17 = .ok (.aload_n 0, 1) := by decide +kernel
theorem dX12_fromMaker_18 : decode cX12_fromMaker 18 = .ok (.getfield 63, 3) := by decide +kernel
theorem dX12_fromMaker_21 : decode cX12_fromMaker 21 = .ok (.iload 5, 2) := by decide +kernel
theorem dX12_fromMaker_23 : decode cX12_fromMaker 23 = .ok (.iaload, 1) := by decide +kernel
theorem dX12_fromMaker_24 : decode cX12_fromMaker 24 = .ok (.iload_n 2, 1) := by decide +kernel
theorem dX12_fromMaker_25 : decode cX12_fromMaker 25 = .ok (.if_icmp .ne 14, 3) := by decide +kernel
theorem dX12_fromMaker_28 : decode cX12_fromMaker 28 = .ok (.iload 5, 2) := by decide +kernel
theorem dX12_fromMaker_30 : decode cX12_fromMaker 30 = .ok (.iload_n 1, 1) := by decide +kernel
theorem dX12_fromMaker_31 : decode cX12_fromMaker 31 = .ok (.if_icmp .ge 8, 3) := by decide +kernel
theorem dX12_fromMaker_34 : decode cX12_fromMaker 34 = .ok (.iload 5, 2) := by decide +kernel
theorem dX12_fromMaker_36 : decode cX12_fromMaker 36 = .ok (.goto 4, 3) := by decide +kernel
theorem dX12_fromMaker_39 : decode cX12_fromMaker 39 = .ok (.iload_n 3, 1) := by decide +kernel
theorem dX12_fromMaker_40 : decode cX12_fromMaker 40 = .ok (.istore_n 3, 1) := by decide +kernel
theorem dX12_fromMaker_41 : decode cX12_fromMaker 41 = .ok (.aload_n 0, 1) := by decide +kernel
theorem dX12_fromMaker_42 : decode cX12_fromMaker 42 = .ok (.getfield 63, 3) := by decide +kernel
theorem dX12_fromMaker_45 : decode cX12_fromMaker 45 = .ok (.iload 5, 2) := by decide +kernel
theorem dX12_fromMaker_47 : decode cX12_fromMaker 47 = .ok (.iaload, 1) := by decide +kernel
theorem dX12_fromMaker_48 : decode cX12_fromMaker 48 = .ok (.iload_n 2, 1) := by decide +kernel
theorem dX12_fromMaker_49 : decode cX12_fromMaker 49 = .ok (.if_icmp .ne 8, 3) := by decide +kernel
theorem dX12_fromMaker_52 : decode cX12_fromMaker 52 = .ok (.iload 5, 2) := by decide +kernel
theorem dX12_fromMaker_54 : decode cX12_fromMaker 54 = .ok (.goto 5, 3) := by decide +kernel
theorem dX12_fromMaker_57 : decode cX12_fromMaker 57 = .ok (.iload 4, 2) := by decide +kernel
theorem dX12_fromMaker_59 : decode cX12_fromMaker 59 = .ok (.istore 4, 2) := by decide +kernel
theorem dX12_fromMaker_61 : decode cX12_fromMaker 61 = .ok (.iinc 5 1, 3) := by decide +kernel
theorem dX12_fromMaker_64 : decode cX12_fromMaker 64 = .ok (.goto (-56), 3) := by decide +kernel
theorem dX12_fromMaker_67 : decode cX12_fromMaker 67 = .ok (.iload_n 3, 1) := by decide +kernel
theorem dX12_fromMaker_68 : decode cX12_fromMaker 68 = .ok (.iconst (-1), 1) := by decide +kernel
theorem dX12_fromMaker_69 : decode cX12_fromMaker 69 = .ok (.if_icmp .eq 18, 3) := by decide +kernel
theorem dX12_fromMaker_72 : decode cX12_fromMaker 72 = .ok (.aload_n 0, 1) := by decide +kernel
theorem dX12_fromMaker_73 : decode cX12_fromMaker 73 = .ok (.iload_n 3, 1) := by decide +kernel
theorem dX12_fromMaker_74 : decode cX12_fromMaker 74 = .ok (.iload_n 1, 1) := by decide +kernel
theorem dX12_fromMaker_75 : decode cX12_fromMaker 75 = .ok (.iconst 0, 1) := by decide +kernel
theorem dX12_fromMaker_76 : decode cX12_fromMaker 76 = .ok (.aload_n 0, 1) := by decide +kernel
theorem dX12_fromMaker_77 : decode cX12_fromMaker 77 = .ok (.iload_n 3, 1) := by decide +kernel
theorem dX12_fromMaker_78 : decode cX12_fromMaker 78 = .ok (.invokevirtual 282, 3) := by decide +kernel
theorem dX12_fromMaker_81 : decode cX12_fromMaker 81 = .ok (.invokevirtual 301, 3) := by decide +kernel
theorem dX12_fromMaker_84 : decode cX12_fromMaker 84 = .ok (.goto 23, 3) := by decide +kernel
theorem dX12_fromMaker_87 : decode cX12_fromMaker 87 = .ok (.iload 4, 2) := by decide +kernel
theorem dX12_fromMaker_89 : decode cX12_fromMaker 89 = .ok (.iconst (-1), 1) := by decide +kernel
theorem dX12_fromMaker_90 : decode cX12_fromMaker 90 = .ok (.if_icmp .eq 17, 3) := by decide +kernel
theorem dX12_fromMaker_93 : decode cX12_fromMaker 93 = .ok (.aload_n 0, 1) := by decide +kernel
theorem dX12_fromMaker_94 : decode cX12_fromMaker 94 = .ok (.iload 4, 2) := by decide +kernel
theorem dX12_fromMaker_96 : decode cX12_fromMaker 96 = .ok (.iload_n 1, 1) := by decide +kernel
theorem dX12_fromMaker_97 : decode cX12_fromMaker 97 = .ok (.iconst 1, 1) := by decide +kernel
theorem dX12_fromMaker_98 : decode cX12_fromMaker 98 = .ok (.aload_n 0, 1) := by decide +kernel
theorem dX12_fromMaker_99 : decode cX12_fromMaker 99 = .ok (.iload 4, 2) := by decide +kernel
theorem dX12_fromMaker_101 : decode cX12_fromMaker 101 = .ok (.invokevirtual 282, 3) := by decide +kernel
theorem dX12_fromMaker_104 : decode cX12_fromMaker 104 = .ok (.invokevirtual 301, 3) := by decide +kernel
theorem dX12_fromMaker_107 : decode cX12_fromMaker 107 = .ok (.return_, 1) := by decide +kernel
theorem dX12_laterMakers_0 : decode cX12_laterMakers 0 = .ok (.iconst (-1), 1) := by decide +kernel
theorem dX12_laterMakers_1 : decode cX12_laterMakers 1 = .ok (.istore 4, 2) := by decide +kernel
theorem dX12_laterMakers_3 : decode cX12_laterMakers 3 = .ok (.iconst (-1), 1) := by decide +kernel
theorem dX12_laterMakers_4 : decode cX12_laterMakers 4 = .ok (.istore 5, 2) := by decide +kernel
theorem dX12_laterMakers_6 : decode cX12_laterMakers 6 = .ok (.aload_n 0, 1) := by decide +kernel
theorem dX12_laterMakers_7 : decode cX12_laterMakers 7 = .ok (.getfield 196, 3) := by decide +kernel
theorem dX12_laterMakers_10 : decode cX12_laterMakers 10 = .ok (.iconst 1, 1) := by decide +kernel
theorem dX12_laterMakers_11 : decode cX12_laterMakers 11 = .ok (.isub, 1) := by decide +kernel
theorem dX12_laterMakers_12 : decode cX12_laterMakers 12 = .ok (.istore 6, 2) := by decide +kernel
theorem dX12_laterMakers_14 : decode cX12_laterMakers 14 = .ok (.iload 6, 2) := by decide +kernel
theorem dX12_laterMakers_16 : decode cX12_laterMakers 16 = .ok (.ifCond .lt 61, 3) := by decide +kernel
theorem dX12_laterMakers_19 : decode cX12_laterMakers 19 = .ok (.aload_n 0, 1) := by decide +kernel
theorem dX12_laterMakers_20 : decode cX12_laterMakers 20 = .ok (.getfield 63, 3) := by decide +kernel
theorem dX12_laterMakers_23 : decode cX12_laterMakers 23 = .ok (.iload 6, 2) := by decide +kernel
theorem dX12_laterMakers_25 : decode cX12_laterMakers 25 = .ok (.iaload, 1) := by decide +kernel
theorem dX12_laterMakers_26 : decode cX12_laterMakers 26 = .ok (.iload_n 2, 1) := by decide +kernel
theorem dX12_laterMakers_27 : decode cX12_laterMakers 27 = .ok (.if_icmp .ne 14, 3) := by decide +kernel
theorem dX12_laterMakers_30 : decode cX12_laterMakers 30 = .ok (.iload 6, 2) := by decide +kernel
theorem dX12_laterMakers_32 : decode cX12_laterMakers 32 = .ok (.iload_n 1, 1) := by decide +kernel
theorem dX12_laterMakers_33 : decode cX12_laterMakers 33 = .ok (.if_icmp .le 8, 3) := by decide +kernel
theorem dX12_laterMakers_36 : decode cX12_laterMakers 36 = .ok (.iload 6, 2) := by decide +kernel
theorem dX12_laterMakers_38 : decode cX12_laterMakers 38 = .ok (.goto 5, 3) := by decide +kernel
theorem dX12_laterMakers_41 : decode cX12_laterMakers 41 = .ok (.iload 4, 2) := by decide +kernel
theorem dX12_laterMakers_43 : decode cX12_laterMakers 43 = .ok (.istore 4, 2) := by decide +kernel
theorem dX12_laterMakers_45 : decode cX12_laterMakers 45 = .ok (.aload_n 0, 1) := by decide +kernel
theorem dX12_laterMakers_46 : decode cX12_laterMakers 46 = .ok (.getfield 63, 3) := by decide +kernel
theorem dX12_laterMakers_49 : decode cX12_laterMakers 49 = .ok (.iload 6, 2) := by decide +kernel
theorem dX12_laterMakers_51 : decode cX12_laterMakers 51 = .ok (.iaload, 1) := by decide +kernel
theorem dX12_laterMakers_52 : decode cX12_laterMakers 52 = .ok (.iload_n 2, 1) := by decide +kernel
theorem dX12_laterMakers_53 : decode cX12_laterMakers 53 = .ok (.if_icmp .ne 14, 3) := by decide +kernel
theorem dX12_laterMakers_56 : decode cX12_laterMakers 56 = .ok (.iload 6, 2) := by decide +kernel
theorem dX12_laterMakers_58 : decode cX12_laterMakers 58 = .ok (.iload_n 1, 1) := by decide +kernel
theorem dX12_laterMakers_59 : decode cX12_laterMakers 59 = .ok (.if_icmp .eq 8, 3) := by decide +kernel
theorem dX12_laterMakers_62 : decode cX12_laterMakers 62 = .ok (.iload 6, 2) := by decide +kernel
theorem dX12_laterMakers_64 : decode cX12_laterMakers 64 = .ok (.goto 5, 3) := by decide +kernel
theorem dX12_laterMakers_67 : decode cX12_laterMakers 67 = .ok (.iload 5, 2) := by decide +kernel
theorem dX12_laterMakers_69 : decode cX12_laterMakers 69 = .ok (.istore 5, 2) := by decide +kernel
theorem dX12_laterMakers_71 : decode cX12_laterMakers 71 = .ok (.iinc 6 (-1), 3) := by decide +kernel
theorem dX12_laterMakers_74 : decode cX12_laterMakers 74 = .ok (.goto (-60), 3) := by decide +kernel
theorem dX12_laterMakers_77 : decode cX12_laterMakers 77 = .ok (.iload 4, 2) := by decide +kernel
theorem dX12_laterMakers_79 : decode cX12_laterMakers 79 = .ok (.iconst (-1), 1) := by decide +kernel
theorem dX12_laterMakers_80 : decode cX12_laterMakers 80 = .ok (.if_icmp .eq 22, 3) := by decide +kernel
theorem dX12_laterMakers_83 : decode cX12_laterMakers 83 = .ok (.aload_n 0, 1) := by decide +kernel
theorem dX12_laterMakers_84 : decode cX12_laterMakers 84 = .ok (.iload_n 1, 1) := by decide +kernel
theorem dX12_laterMakers_85 : decode cX12_laterMakers 85 = .ok (.iload 4, 2) := by decide +kernel
theorem dX12_laterMakers_87 : decode cX12_laterMakers 87 = .ok (.iconst 0, 1) := by decide +kernel
theorem dX12_laterMakers_88 : decode cX12_laterMakers 88 = .ok (.iload_n 3, 1) := by decide +kernel
theorem dX12_laterMakers_89 : decode cX12_laterMakers 89 = .ok (.aload_n 0, 1) := by decide +kernel
theorem dX12_laterMakers_90 : decode cX12_laterMakers 90 = .ok (.iload 4, 2) := by decide +kernel
theorem dX12_laterMakers_92 : decode cX12_laterMakers 92 = .ok (.invokevirtual 282, 3) := by decide +kernel
theorem dX12_laterMakers_95 : decode cX12_laterMakers 95 = .ok (.isub, 1) := by decide +kernel
theorem dX12_laterMakers_96 : decode cX12_laterMakers 96 = .ok (.invokevirtual 301, 3) := by decide +kernel
theorem dX12_laterMakers_99 : decode cX12_laterMakers 99 = .ok (.goto 25, 3) := by decide +kernel
theorem dX12_laterMakers_102 : decode cX12_laterMakers 102 = .ok (.iload 5, 2) := by decide +kernel
theorem dX12_laterMakers_104 : decode cX12_laterMakers 104 = .ok (.iconst (-1), 1) := by decide +kernel
theorem dX12_laterMakers_105 : decode cX12_laterMakers 105 = .ok (.if_icmp .eq 19, 3) := by decide +kernel
theorem dX12_laterMakers_108 : decode cX12_laterMakers 108 = .ok (.aload_n 0, 1) := by decide +kernel
theorem dX12_laterMakers_109 : decode cX12_laterMakers 109 = .ok (.iload_n 1, 1) := by decide +kernel
theorem dX12_laterMakers_110 : decode cX12_laterMakers 110 = .ok (.iload 5, 2) := by decide +kernel
theorem dX12_laterMakers_112 : decode cX12_laterMakers 112 = .ok (.iconst 1, 1) := by decide +kernel
theorem dX12_laterMakers_113 : decode cX12_laterMakers 113 = .ok (.iload_n 3, 1) := by decide +kernel
theorem dX12_laterMakers_114 : decode cX12_laterMakers 114 = .ok (.aload_n 0, 1) := by decide +kernel
theorem dX12_laterMakers_115 : decode cX12_laterMakers 115 = .ok (.iload 5, 2) := by decide +kernel
theorem dX12_laterMakers_117 : decode cX12_laterMakers 117 = .ok (.invokevirtual 282, 3) := by decide +kernel
theorem dX12_laterMakers_120 : decode cX12_laterMakers 120 = .ok (.isub, 1) := by decide +kernel
theorem dX12_laterMakers_121 : decode cX12_laterMakers 121 = .ok (.invokevirtual 301, 3) := by decide +kernel
theorem dX12_laterMakers_124 : decode cX12_laterMakers 124 = .ok (.return_, 1) := by decide +kernel
theorem dX12_remembered_0 : decode cX12_remembered 0 = .ok (.iload_n 1, 1) := by decide +kernel
theorem dX12_remembered_1 : decode cX12_remembered 1 = .ok (.iload_n 2, 1) := by decide +kernel
theorem dX12_remembered_2 : decode cX12_remembered 2 = .ok (.if_icmp .eq 42, 3) := by decide +kernel
theorem dX12_remembered_5 : decode cX12_remembered 5 = .ok (.aload_n 0, 1) := by decide +kernel
theorem dX12_remembered_6 : decode cX12_remembered 6 = .ok (.getfield 57, 3) := by decide +kernel
theorem dX12_remembered_9 : decode cX12_remembered 9 = .ok (.iload_n 1, 1) := by decide +kernel
theorem dX12_remembered_10 : decode cX12_remembered 10 = .ok (.iaload, 1) := by decide +kernel
theorem dX12_remembered_11 : decode cX12_remembered 11 = .ok (.aload_n 0, 1) := by decide +kernel
theorem dX12_remembered_12 : decode cX12_remembered 12 = .ok (.getfield 57, 3) := by decide +kernel
theorem dX12_remembered_15 : decode cX12_remembered 15 = .ok (.iload_n 2, 1) := by decide +kernel
theorem dX12_remembered_16 : decode cX12_remembered 16 = .ok (.iaload, 1) := by decide +kernel
theorem dX12_remembered_17 : decode cX12_remembered 17 = .ok (.if_icmp .ne 27, 3) := by decide +kernel
theorem dX12_remembered_20 : decode cX12_remembered 20 = .ok (.aload_n 0, 1) := by decide +kernel
theorem dX12_remembered_21 : decode cX12_remembered 21 = .ok (.getfield 66, 3) := by decide +kernel
theorem dX12_remembered_24 : decode cX12_remembered 24 = .ok (.iload_n 1, 1) := by decide +kernel
theorem dX12_remembered_25 : decode cX12_remembered 25 = .ok (.iaload, 1) := by decide +kernel
theorem dX12_remembered_26 : decode cX12_remembered 26 = .ok (.iconst (-1), 1) := by decide +kernel
theorem dX12_remembered_27 : decode cX12_remembered 27 = .ok (.if_icmp .eq 17, 3) := by decide +kernel
theorem dX12_remembered_30 : decode cX12_remembered 30 = .ok (.aload_n 0, 1) := by decide +kernel
theorem dX12_remembered_31 : decode cX12_remembered 31 = .ok (.getfield 66, 3) := by decide +kernel
theorem dX12_remembered_34 : decode cX12_remembered 34 = .ok (.iload_n 2, 1) := by decide +kernel
theorem dX12_remembered_35 : decode cX12_remembered 35 = .ok (.iaload, 1) := by decide +kernel
theorem dX12_remembered_36 : decode cX12_remembered 36 = .ok (.iconst (-1), 1) := by decide +kernel
theorem dX12_remembered_37 : decode cX12_remembered 37 = .ok (.if_icmp .eq 7, 3) := by decide +kernel
theorem dX12_remembered_40 : decode cX12_remembered 40 = .ok (.iconst 1, 1) := by decide +kernel
theorem dX12_remembered_41 : decode cX12_remembered 41 = .ok (.goto 4, 3) := by decide +kernel
theorem dX12_remembered_44 : decode cX12_remembered 44 = .ok (.iconst 0, 1) := by decide +kernel
theorem dX12_remembered_45 : decode cX12_remembered 45 = .ok (.istore_n 3, 1) := by decide +kernel
theorem dX12_remembered_46 : decode cX12_remembered 46 = .ok (.iload_n 3, 1) := by decide +kernel
theorem dX12_remembered_47 : decode cX12_remembered 47 = .ok (.ifCond .eq 19, 3) := by decide +kernel
theorem dX12_remembered_50 : decode cX12_remembered 50 = .ok (.aload_n 0, 1) := by decide +kernel
theorem dX12_remembered_51 : decode cX12_remembered 51 = .ok (.getfield 66, 3) := by decide +kernel
theorem dX12_remembered_54 : decode cX12_remembered 54 = .ok (.iload_n 1, 1) := by decide +kernel
theorem dX12_remembered_55 : decode cX12_remembered 55 = .ok (.iaload, 1) := by decide +kernel
theorem dX12_remembered_56 : decode cX12_remembered 56 = .ok (.aload_n 0, 1) := by decide +kernel
theorem dX12_remembered_57 : decode cX12_remembered 57 = .ok (.getfield 66, 3) := by decide +kernel
theorem dX12_remembered_60 : decode cX12_remembered 60 = .ok (.iload_n 2, 1) := by decide +kernel
theorem dX12_remembered_61 : decode cX12_remembered 61 = .ok (.iaload, 1) := by decide +kernel
theorem dX12_remembered_62 : decode cX12_remembered 62 = .ok (.iadd, 1) := by decide +kernel
theorem dX12_remembered_63 : decode cX12_remembered 63 = .ok (.ifCond .ne 4, 3) := by decide +kernel
theorem dX12_remembered_66 : decode cX12_remembered 66 = .ok (.return_, 1) := by decide +kernel
theorem dX12_remembered_67 : decode cX12_remembered 67 = .ok (.aload_n 0, 1) := by decide +kernel
theorem dX12_remembered_68 : decode cX12_remembered 68 = .ok (.getfield 66, 3) := by decide +kernel
theorem dX12_remembered_71 : decode cX12_remembered 71 = .ok (.iload_n 1, 1) := by decide +kernel
theorem dX12_remembered_72 : decode cX12_remembered 72 = .ok (.iaload, 1) := by decide +kernel
theorem dX12_remembered_73 : decode cX12_remembered 73 = .ok (.aload_n 0, 1) := by decide +kernel
theorem dX12_remembered_74 : decode cX12_remembered 74 = .ok (.getfield 66, 3) := by decide +kernel
theorem dX12_remembered_77 : decode cX12_remembered 77 = .ok (.iload_n 2, 1) := by decide +kernel
theorem dX12_remembered_78 : decode cX12_remembered 78 = .ok (.iaload, 1) := by decide +kernel
theorem dX12_remembered_79 : decode cX12_remembered 79 = .ok (.iadd, 1) := by decide +kernel
theorem dX12_remembered_80 : decode cX12_remembered 80 = .ok (.iconst 2, 1) := by decide +kernel
theorem dX12_remembered_81 : decode cX12_remembered 81 = .ok (.if_icmp .ne 7, 3) := by decide +kernel
theorem dX12_remembered_84 : decode cX12_remembered 84 = .ok (.iconst 1, 1) := by decide +kernel
theorem dX12_remembered_85 : decode cX12_remembered 85 = .ok (.goto 28, 3) := by decide +kernel
theorem dX12_remembered_88 : decode cX12_remembered 88 = .ok (.aload_n 0, 1) := by decide +kernel
theorem dX12_remembered_89 : decode cX12_remembered 89 = .ok (.getfield 66, 3) := by decide +kernel
theorem dX12_remembered_92 : decode cX12_remembered 92 = .ok (.iload_n 1, 1) := by decide +kernel
theorem dX12_remembered_93 : decode cX12_remembered 93 = .ok (.iaload, 1) := by decide +kernel
theorem dX12_remembered_94 : decode cX12_remembered 94 = .ok (.iconst 1, 1) := by decide +kernel
theorem dX12_remembered_95 : decode cX12_remembered 95 = .ok (.if_icmp .ne 11, 3) := by decide +kernel
theorem dX12_remembered_98 : decode cX12_remembered 98 = .ok (.aload_n 0, 1) := by decide +kernel
theorem dX12_remembered_99 : decode cX12_remembered 99 = .ok (.iload_n 1, 1) := by decide +kernel
theorem dX12_remembered_100 : decode cX12_remembered 100 = .ok (.invokevirtual 282, 3) := by decide +kernel
theorem dX12_remembered_103 : decode cX12_remembered 103 = .ok (.goto 10, 3) := by decide +kernel
theorem dX12_remembered_106 : decode cX12_remembered 106 = .ok (.iconst 1, 1) := by decide +kernel
theorem dX12_remembered_107 : decode cX12_remembered 107 = .ok (.aload_n 0, 1) := by decide +kernel
theorem dX12_remembered_108 : decode cX12_remembered 108 = .ok (.iload_n 2, 1) := by decide +kernel
theorem dX12_remembered_109 : decode cX12_remembered 109 = .ok (.invokevirtual 282, 3) := by decide +kernel
theorem dX12_remembered_112 : decode cX12_remembered 112 = .ok (.isub, 1) := by decide +kernel
theorem dX12_remembered_113 : decode cX12_remembered 113 = .ok (.istore 4, 2) := by decide +kernel
theorem dX12_remembered_115 : decode cX12_remembered 115 = .ok (.aload_n 0, 1) := by decide +kernel
theorem dX12_remembered_116 : decode cX12_remembered 116 = .ok (.getfield 69, 3) := by decide +kernel
theorem dX12_remembered_119 : decode cX12_remembered 119 = .ok (.iload_n 1, 1) := by decide +kernel
theorem dX12_remembered_120 : decode cX12_remembered 120 = .ok (.baload, 1) := by decide +kernel
theorem dX12_remembered_121 : decode cX12_remembered 121 = .ok (.ifCond .eq 74, 3) := by decide +kernel
theorem dX12_remembered_124 : decode cX12_remembered 124 = .ok (.aload_n 0, 1) := by decide +kernel
theorem dX12_remembered_125 : decode cX12_remembered 125 = .ok (.getfield 69, 3) := by decide +kernel
theorem dX12_remembered_128 : decode cX12_remembered 128 = .ok (.iload_n 2, 1) := by decide +kernel
theorem dX12_remembered_129 : decode cX12_remembered 129 = .ok (.baload, 1) := by decide +kernel
theorem dX12_remembered_130 : decode cX12_remembered 130 = .ok (.ifCond .eq 65, 3) := by decide +kernel
theorem dX12_remembered_133 : decode cX12_remembered 133 = .ok (.aload_n 0, 1) := by decide +kernel
theorem dX12_remembered_134 : decode cX12_remembered 134 = .ok (.getfield 73, 3) := by decide +kernel
theorem dX12_remembered_137 : decode cX12_remembered 137 = .ok (.iload_n 1, 1) := by decide +kernel
theorem dX12_remembered_138 : decode cX12_remembered 138 = .ok (.iaload, 1) := by decide +kernel
theorem dX12_remembered_139 : decode cX12_remembered 139 = .ok (.aload_n 0, 1) := by decide +kernel
theorem dX12_remembered_140 : decode cX12_remembered 140 = .ok (.getfield 73, 3) := by decide +kernel
theorem dX12_remembered_143 : decode cX12_remembered 143 = .ok (.iload_n 2, 1) := by decide +kernel
theorem dX12_remembered_144 : decode cX12_remembered 144 = .ok (.iaload, 1) := by decide +kernel
theorem dX12_remembered_145 : decode cX12_remembered 145 = .ok (.isub, 1) := by decide +kernel
theorem dX12_remembered_146 : decode cX12_remembered 146 = .ok (.istore 5, 2) := by decide +kernel
theorem dX12_remembered_148 : decode cX12_remembered 148 = .ok (.iload 5, 2) := by decide +kernel
theorem dX12_remembered_150 : decode cX12_remembered 150 = .ok (.aload_n 0, 1) := by decide +kernel
theorem dX12_remembered_151 : decode cX12_remembered 151 = .ok (.getfield 27, 3) := by decide +kernel
theorem dX12_remembered_154 : decode cX12_remembered 154 = .ok (.idiv, 1) := by decide +kernel
theorem dX12_remembered_155 : decode cX12_remembered 155 = .ok (.istore 6, 2) := by decide +kernel
theorem dX12_remembered_157 : decode cX12_remembered 157 = .ok (.iload 5, 2) := by decide +kernel
theorem dX12_remembered_159 : decode cX12_remembered 159 = .ok (.aload_n 0, 1) := by decide +kernel
theorem dX12_remembered_160 : decode cX12_remembered 160 = .ok (.getfield 27, 3) := by decide +kernel
theorem dX12_remembered_163 : decode cX12_remembered 163 = .ok (.irem, 1) := by decide +kernel
theorem dX12_remembered_164 : decode cX12_remembered 164 = .ok (.ifCond .ne 28, 3) := by decide +kernel
theorem dX12_remembered_167 : decode cX12_remembered 167 = .ok (.iload 6, 2) := by decide +kernel
theorem dX12_remembered_169 : decode cX12_remembered 169 = .ok (.ifCond .gt 13, 3) := by decide +kernel
theorem dX12_remembered_172 : decode cX12_remembered 172 = .ok (.iload 6, 2) := by decide +kernel
theorem dX12_remembered_174 : decode cX12_remembered 174 = .ok (.ifCond .ne 18, 3) := by decide +kernel
theorem dX12_remembered_177 : decode cX12_remembered 177 = .ok (.iload_n 2, 1) := by decide +kernel
theorem dX12_remembered_178 : decode cX12_remembered 178 = .ok (.iload_n 1, 1) := by decide +kernel
theorem dX12_remembered_179 : decode cX12_remembered 179 = .ok (.if_icmp .le 13, 3) := by decide +kernel
theorem dX12_remembered_182 : decode cX12_remembered 182 = .ok (.aload_n 0, 1) := by decide +kernel
theorem dX12_remembered_183 : decode cX12_remembered 183 = .ok (.iload_n 1, 1) := by decide +kernel
theorem dX12_remembered_184 : decode cX12_remembered 184 = .ok (.iload_n 2, 1) := by decide +kernel
theorem dX12_remembered_185 : decode cX12_remembered 185 = .ok (.iload 6, 2) := by decide +kernel
theorem dX12_remembered_187 : decode cX12_remembered 187 = .ok (.iload 4, 2) := by decide +kernel
theorem dX12_remembered_189 : decode cX12_remembered 189 = .ok (.invokevirtual 301, 3) := by decide +kernel
theorem dX12_remembered_192 : decode cX12_remembered 192 = .ok (.goto 51, 3) := by decide +kernel
theorem dX12_remembered_195 : decode cX12_remembered 195 = .ok (.aload_n 0, 1) := by decide +kernel
theorem dX12_remembered_196 : decode cX12_remembered 196 = .ok (.getfield 69, 3) := by decide +kernel
theorem dX12_remembered_199 : decode cX12_remembered 199 = .ok (.iload_n 1, 1) := by decide +kernel
theorem dX12_remembered_200 : decode cX12_remembered 200 = .ok (.baload, 1) := by decide +kernel
theorem dX12_remembered_201 : decode cX12_remembered 201 = .ok (.aload_n 0, 1) := by decide +kernel
theorem dX12_remembered_202 : decode cX12_remembered 202 = .ok (.getfield 69, 3) := by decide +kernel
theorem dX12_remembered_205 : decode cX12_remembered 205 = .ok (.iload_n 2, 1) := by decide +kernel
theorem dX12_remembered_206 : decode cX12_remembered 206 = .ok (.baload, 1) := by decide +kernel
theorem dX12_remembered_207 : decode cX12_remembered 207 = .ok (.if_icmp .ne 18, 3) := by decide +kernel
theorem dX12_remembered_210 : decode cX12_remembered 210 = .ok (.aload_n 0, 1) := by decide +kernel
theorem dX12_remembered_211 : decode cX12_remembered 211 = .ok (.getfield 73, 3) := by decide +kernel
theorem dX12_remembered_214 : decode cX12_remembered 214 = .ok (.iload_n 1, 1) := by decide +kernel
theorem dX12_remembered_215 : decode cX12_remembered 215 = .ok (.iaload, 1) := by decide +kernel
theorem dX12_remembered_216 : decode cX12_remembered 216 = .ok (.aload_n 0, 1) := by decide +kernel
theorem dX12_remembered_217 : decode cX12_remembered 217 = .ok (.getfield 73, 3) := by decide +kernel
theorem dX12_remembered_220 : decode cX12_remembered 220 = .ok (.iload_n 2, 1) := by decide +kernel
theorem dX12_remembered_221 : decode cX12_remembered 221 = .ok (.iaload, 1) := by decide +kernel
theorem dX12_remembered_222 : decode cX12_remembered 222 = .ok (.if_icmp .ne 21, 3) := by decide +kernel
theorem dX12_remembered_225 : decode cX12_remembered 225 = .ok (.aload_n 0, 1) := by decide +kernel
theorem dX12_remembered_226 : decode cX12_remembered 226 = .ok (.iload_n 1, 1) := by decide +kernel
theorem dX12_remembered_227 : decode cX12_remembered 227 = .ok (.iload_n 2, 1) := by decide +kernel
theorem dX12_remembered_228 : decode cX12_remembered 228 = .ok (.iload_n 2, 1) := by decide +kernel
theorem dX12_remembered_229 : decode cX12_remembered 229 = .ok (.iload_n 1, 1) := by decide +kernel
theorem dX12_remembered_230 : decode cX12_remembered 230 = .ok (.if_icmp .le 7, 3) := by decide +kernel
theorem dX12_remembered_233 : decode cX12_remembered 233 = .ok (.iconst 0, 1) := by decide +kernel
theorem dX12_remembered_234 : decode cX12_remembered 234 = .ok (.goto 4, 3) := by decide +kernel
theorem dX12_remembered_237 : decode cX12_remembered 237 = .ok (.iconst 1, 1) := by decide +kernel
theorem dX12_remembered_238 : decode cX12_remembered 238 = .ok (.iload 4, 2) := by decide +kernel
theorem dX12_remembered_240 : decode cX12_remembered 240 = .ok (.invokevirtual 301, 3) := by decide +kernel
theorem dX12_remembered_243 : decode cX12_remembered 243 = .ok (.return_, 1) := by decide +kernel
theorem dX12_nextOfChannel_0 : decode cX12_nextOfChannel 0 = .ok (.aload_n 0, 1) := by decide +kernel
theorem dX12_nextOfChannel_1 : decode cX12_nextOfChannel 1 = .ok (.getfield 57, 3) := by decide +kernel
theorem dX12_nextOfChannel_4 : decode cX12_nextOfChannel 4 = .ok (.iload_n 1, 1) := by decide +kernel
theorem dX12_nextOfChannel_5 : decode cX12_nextOfChannel 5 = .ok (.iaload, 1) := by decide +kernel
theorem dX12_nextOfChannel_6 : decode cX12_nextOfChannel 6 = .ok (.iconst 5, 1) := by decide +kernel
theorem dX12_nextOfChannel_7 : decode cX12_nextOfChannel 7 = .ok (.if_icmp .ge 4, 3) := by decide +kernel
theorem dX12_nextOfChannel_10 : decode cX12_nextOfChannel 10 = .ok (.return_, 1) := by decide +kernel
theorem dX12_nextOfChannel_11 : decode cX12_nextOfChannel 11 = .ok (.iconst (-1), 1) := by decide +kernel
theorem dX12_nextOfChannel_12 : decode cX12_nextOfChannel 12 = .ok (.istore_n 2, 1) := by decide +kernel
theorem dX12_nextOfChannel_13 : decode cX12_nextOfChannel 13 = .ok (.iconst (-1), 1) := by decide +kernel
theorem dX12_nextOfChannel_14 : decode cX12_nextOfChannel 14 = .ok (.istore_n 3, 1) := by decide +kernel
theorem dX12_nextOfChannel_15 : decode cX12_nextOfChannel 15 = .ok (.aload_n 0, 1) := by decide +kernel
theorem dX12_nextOfChannel_16 : decode cX12_nextOfChannel 16 = .ok (.getfield 196, 3) := by decide +kernel
theorem dX12_nextOfChannel_19 : decode cX12_nextOfChannel 19 = .ok (.iconst 1, 1) := by decide +kernel
theorem dX12_nextOfChannel_20 : decode cX12_nextOfChannel 20 = .ok (.isub, 1) := by decide +kernel
theorem dX12_nextOfChannel_21 : decode cX12_nextOfChannel 21 = .ok (.istore 4, 2) := by decide +kernel
theorem dX12_nextOfChannel_23 : decode cX12_nextOfChannel 23 = .ok (.iload 4, 2) := by decide +kernel
theorem dX12_nextOfChannel_25 : decode cX12_nextOfChannel 25 = .ok (.ifCond .lt 67, 3) := by decide +kernel
theorem dX12_nextOfChannel_28 : decode cX12_nextOfChannel 28 = .ok (.aload_n 0, 1) := by decide +kernel
theorem dX12_nextOfChannel_29 : decode cX12_nextOfChannel 29 = .ok (.getfield 57, 3) := by decide +kernel
theorem dX12_nextOfChannel_32 : decode cX12_nextOfChannel 32 = .ok (.iload 4, 2) := by decide +kernel
theorem dX12_nextOfChannel_34 : decode cX12_nextOfChannel 34 = .ok (.iaload, 1) := by decide +kernel
theorem dX12_nextOfChannel_35 : decode cX12_nextOfChannel 35 = .ok (.aload_n 0, 1) := by decide +kernel
theorem dX12_nextOfChannel_36 : decode cX12_nextOfChannel 36 = .ok (.getfield 57, 3) := by decide +kernel
theorem dX12_nextOfChannel_39 : decode cX12_nextOfChannel 39 = .ok (.iload_n 1, 1) := by decide +kernel
theorem dX12_nextOfChannel_40 : decode cX12_nextOfChannel 40 = .ok (.iaload, 1) := by decide +kernel
theorem dX12_nextOfChannel_41 : decode cX12_nextOfChannel 41 = .ok (.if_icmp .ne 14, 3) := by decide +kernel
theorem dX12_nextOfChannel_44 : decode cX12_nextOfChannel 44 = .ok (.iload 4, 2) := by decide +kernel
theorem dX12_nextOfChannel_46 : decode cX12_nextOfChannel 46 = .ok (.iload_n 1, 1) := by decide +kernel
theorem dX12_nextOfChannel_47 : decode cX12_nextOfChannel 47 = .ok (.if_icmp .le 8, 3) := by decide +kernel
theorem dX12_nextOfChannel_50 : decode cX12_nextOfChannel 50 = .ok (.iload 4, 2) := by decide +kernel
theorem dX12_nextOfChannel_52 : decode cX12_nextOfChannel 52 = .ok (.goto 4, 3) := by decide +kernel
theorem dX12_nextOfChannel_55 : decode cX12_nextOfChannel 55 = .ok (.iload_n 2, 1) := by decide +kernel
theorem dX12_nextOfChannel_56 : decode cX12_nextOfChannel 56 = .ok (.istore_n 2, 1) := by decide +kernel
theorem dX12_nextOfChannel_57 : decode cX12_nextOfChannel 57 = .ok (.aload_n 0, 1) := by decide +kernel
theorem dX12_nextOfChannel_58 : decode cX12_nextOfChannel 58 = .ok (.getfield 57, 3) := by decide +kernel
theorem dX12_nextOfChannel_61 : decode cX12_nextOfChannel 61 = .ok (.iload 4, 2) := by decide +kernel
theorem dX12_nextOfChannel_63 : decode cX12_nextOfChannel 63 = .ok (.iaload, 1) := by decide +kernel
theorem dX12_nextOfChannel_64 : decode cX12_nextOfChannel 64 = .ok (.aload_n 0, 1) := by decide +kernel
theorem dX12_nextOfChannel_65 : decode cX12_nextOfChannel 65 = .ok (.getfield 57, 3) := by decide +kernel
theorem dX12_nextOfChannel_68 : decode cX12_nextOfChannel 68 = .ok (.iload_n 1, 1) := by decide +kernel
theorem dX12_nextOfChannel_69 : decode cX12_nextOfChannel 69 = .ok (.iaload, 1) := by decide +kernel
theorem dX12_nextOfChannel_70 : decode cX12_nextOfChannel 70 = .ok (.if_icmp .ne 14, 3) := by decide +kernel
theorem dX12_nextOfChannel_73 : decode cX12_nextOfChannel 73 = .ok (.iload 4, 2) := by decide +kernel
theorem dX12_nextOfChannel_75 : decode cX12_nextOfChannel 75 = .ok (.iload_n 1, 1) := by decide +kernel
theorem dX12_nextOfChannel_76 : decode cX12_nextOfChannel 76 = .ok (.if_icmp .eq 8, 3) := by decide +kernel
theorem dX12_nextOfChannel_79 : decode cX12_nextOfChannel 79 = .ok (.iload 4, 2) := by decide +kernel
theorem dX12_nextOfChannel_81 : decode cX12_nextOfChannel 81 = .ok (.goto 4, 3) := by decide +kernel
theorem dX12_nextOfChannel_84 : decode cX12_nextOfChannel 84 = .ok (.iload_n 3, 1) := by decide +kernel
theorem dX12_nextOfChannel_85 : decode cX12_nextOfChannel 85 = .ok (.istore_n 3, 1) := by decide +kernel
theorem dX12_nextOfChannel_86 : decode cX12_nextOfChannel 86 = .ok (.iinc 4 (-1), 3) := by decide +kernel
theorem dX12_nextOfChannel_89 : decode cX12_nextOfChannel 89 = .ok (.goto (-66), 3) := by decide +kernel
theorem dX12_nextOfChannel_92 : decode cX12_nextOfChannel 92 = .ok (.iload_n 2, 1) := by decide +kernel
theorem dX12_nextOfChannel_93 : decode cX12_nextOfChannel 93 = .ok (.iconst (-1), 1) := by decide +kernel
theorem dX12_nextOfChannel_94 : decode cX12_nextOfChannel 94 = .ok (.if_icmp .eq 14, 3) := by decide +kernel
theorem dX12_nextOfChannel_97 : decode cX12_nextOfChannel 97 = .ok (.aload_n 0, 1) := by decide +kernel
theorem dX12_nextOfChannel_98 : decode cX12_nextOfChannel 98 = .ok (.iload_n 1, 1) := by decide +kernel
theorem dX12_nextOfChannel_99 : decode cX12_nextOfChannel 99 = .ok (.iload_n 2, 1) := by decide +kernel
theorem dX12_nextOfChannel_100 : decode cX12_nextOfChannel 100 = .ok (.iconst 0, 1) := by decide +kernel
theorem dX12_nextOfChannel_101 : decode cX12_nextOfChannel 101 = .ok (.iconst 1, 1) := by decide +kernel
theorem dX12_nextOfChannel_102 : decode cX12_nextOfChannel 102 = .ok (.invokevirtual 301, 3) := by decide +kernel
theorem dX12_nextOfChannel_105 : decode cX12_nextOfChannel 105 = .ok (.goto 16, 3) := by decide +kernel
theorem dX12_nextOfChannel_108 : decode cX12_nextOfChannel 108 = .ok (.iload_n 3, 1) := by decide +kernel
theorem dX12_nextOfChannel_109 : decode cX12_nextOfChannel 109 = .ok (.iconst (-1), 1) := by decide +kernel
theorem dX12_nextOfChannel_110 : decode cX12_nextOfChannel 110 = .ok (.if_icmp .eq 11, 3) := by decide +kernel
theorem dX12_nextOfChannel_113 : decode cX12_nextOfChannel 113 = .ok (.aload_n 0, 1) := by decide +kernel
theorem dX12_nextOfChannel_114 : decode cX12_nextOfChannel 114 = .ok (.iload_n 1, 1) := by decide +kernel
theorem dX12_nextOfChannel_115 : decode cX12_nextOfChannel 115 = .ok (.iload_n 3, 1) := by decide +kernel
theorem dX12_nextOfChannel_116 : decode cX12_nextOfChannel 116 = .ok (.iconst 1, 1) := by decide +kernel
theorem dX12_nextOfChannel_117 : decode cX12_nextOfChannel 117 = .ok (.iconst 1, 1) := by decide +kernel
theorem dX12_nextOfChannel_118 : decode cX12_nextOfChannel 118 = .ok (.invokevirtual 301, 3) := by decide +kernel
theorem dX12_nextOfChannel_121 : decode cX12_nextOfChannel 121 = .ok (.return_, 1) := by decide +kernel
theorem dX12_nodes_0 : decode cX12_nodes 0 = .ok (.aload_n 0, 1) := by decide +kernel
theorem dX12_nodes_1 : decode cX12_nodes 1 = .ok (.iconst 0, 1) := by decide +kernel
theorem dX12_nodes_2 : decode cX12_nodes 2 = .ok (.putfield 127, 3) := by decide +kernel
theorem dX12_nodes_5 : decode cX12_nodes 5 = .ok (.aload_n 0, 1) := by decide +kernel
theorem dX12_nodes_6 : decode cX12_nodes 6 = .ok (.invokevirtual 193, 3) := by decide +kernel
theorem dX12_nodes_9 : decode cX12_nodes 9 = .ok (.aload_n 0, 1) := by decide +kernel
theorem dX12_nodes_10 : decode cX12_nodes 10 = .ok (.getfield 196, 3) := by decide +kernel
theorem dX12_nodes_13 : decode cX12_nodes 13 = .ok (.ireturn, 1) := by decide +kernel
theorem dX12_noNode_0 : decode cX12_noNode 0 = .ok (.iload_n 1, 1) := by decide +kernel
theorem dX12_noNode_1 : decode cX12_noNode 1 = .ok (.iconst 0, 1) := by decide +kernel
theorem dX12_noNode_2 : decode cX12_noNode 2 = .ok (.aload_n 0, 1) := by decide +kernel
theorem dX12_noNode_3 : decode cX12_noNode 3 = .ok (.getfield 196, 3) := by decide +kernel
theorem dX12_noNode_6 : decode cX12_noNode 6 = .ok (.iconst 1, 1) := by decide +kernel
theorem dX12_noNode_7 : decode cX12_noNode 7 = .ok (.isub, 1) := by decide +kernel
theorem dX12_noNode_8 : decode cX12_noNode 8 = .ok (.invokestatic 130, 3) := by decide +kernel
theorem dX12_noNode_11 : decode cX12_noNode 11 = .ok (.ifCond .ne 7, 3) := by decide +kernel
theorem dX12_noNode_14 : decode cX12_noNode 14 = .ok (.iconst 1, 1) := by decide +kernel
theorem dX12_noNode_15 : decode cX12_noNode 15 = .ok (.goto 4, 3) := by decide +kernel
theorem dX12_noNode_18 : decode cX12_noNode 18 = .ok (.iconst 0, 1) := by decide +kernel
theorem dX12_noNode_19 : decode cX12_noNode 19 = .ok (.ireturn, 1) := by decide +kernel
theorem dX12_kindOf_0 : decode cX12_kindOf 0 = .ok (.aload_n 0, 1) := by decide +kernel
theorem dX12_kindOf_1 : decode cX12_kindOf 1 = .ok (.iconst 0, 1) := by decide +kernel
theorem dX12_kindOf_2 : decode cX12_kindOf 2 = .ok (.putfield 127, 3) := by decide +kernel
theorem dX12_kindOf_5 : decode cX12_kindOf 5 = .ok (.aload_n 0, 1) := by decide +kernel
theorem dX12_kindOf_6 : decode cX12_kindOf 6 = .ok (.invokevirtual 193, 3) := by decide +kernel
theorem dX12_kindOf_9 : decode cX12_kindOf 9 = .ok (.aload_n 0, 1) := by decide +kernel
theorem dX12_kindOf_10 : decode cX12_kindOf 10 = .ok (.aload_n 0, 1) := by decide +kernel
theorem dX12_kindOf_11 : decode cX12_kindOf 11 = .ok (.iload_n 1, 1) := by decide +kernel
theorem dX12_kindOf_12 : decode cX12_kindOf 12 = .ok (.invokevirtual 305, 3) := by decide +kernel
theorem dX12_kindOf_15 : decode cX12_kindOf 15 = .ok (.iconst 1, 1) := by decide +kernel
theorem dX12_kindOf_16 : decode cX12_kindOf 16 = .ok (.invokevirtual 142, 3) := by decide +kernel
theorem dX12_kindOf_19 : decode cX12_kindOf 19 = .ok (.ifCond .eq 7, 3) := by decide +kernel
theorem dX12_kindOf_22 : decode cX12_kindOf 22 = .ok (.iconst 0, 1) := by decide +kernel
theorem dX12_kindOf_23 : decode cX12_kindOf 23 = .ok (.goto 14, 3) := by decide +kernel
theorem dX12_kindOf_26 : decode cX12_kindOf 26 = .ok (.ldc 211, 2) := by decide +kernel
theorem dX12_kindOf_28 : decode cX12_kindOf 28 = .ok (.aload_n 0, 1) := by decide +kernel
theorem dX12_kindOf_29 : decode cX12_kindOf 29 = .ok (.getfield 57, 3) := by decide +kernel
theorem dX12_kindOf_32 : decode cX12_kindOf 32 = .ok (.iload_n 1, 1) := by decide +kernel
theorem dX12_kindOf_33 : decode cX12_kindOf 33 = .ok (.iaload, 1) := by decide +kernel
theorem dX12_kindOf_34 : decode cX12_kindOf 34 = .ok (.invokevirtual 308, 3) := by decide +kernel
theorem dX12_kindOf_37 : decode cX12_kindOf 37 = .ok (.ireturn, 1) := by decide +kernel
theorem dX12_statementOf_0 : decode cX12_statementOf 0 = .ok (.aload_n 0, 1) := by decide +kernel
theorem dX12_statementOf_1 : decode cX12_statementOf 1 = .ok (.iconst 0, 1) := by decide +kernel
theorem dX12_statementOf_2 : decode cX12_statementOf 2 = .ok (.putfield 127, 3) := by decide +kernel
theorem dX12_statementOf_5 : decode cX12_statementOf 5 = .ok (.aload_n 0, 1) := by decide +kernel
theorem dX12_statementOf_6 : decode cX12_statementOf 6 = .ok (.invokevirtual 193, 3) := by decide +kernel
theorem dX12_statementOf_9 : decode cX12_statementOf 9 = .ok (.aload_n 0, 1) := by decide +kernel
theorem dX12_statementOf_10 : decode cX12_statementOf 10 = .ok (.aload_n 0, 1) := by decide +kernel
theorem dX12_statementOf_11 : decode cX12_statementOf 11 = .ok (.iload_n 1, 1) := by decide +kernel
theorem dX12_statementOf_12 : decode cX12_statementOf 12 = .ok (.invokevirtual 305, 3) := by decide +kernel
theorem dX12_statementOf_15 : decode cX12_statementOf 15 = .ok (.iconst 1, 1) := by decide +kernel
theorem dX12_statementOf_16 : decode cX12_statementOf 16 = .ok (.invokevirtual 142, 3) := by decide +kernel
theorem dX12_statementOf_19 : decode cX12_statementOf 19 = .ok (.ifCond .eq 7, 3) := by decide +kernel
theorem dX12_statementOf_22 : decode cX12_statementOf 22 = .ok (.iconst 0, 1) := by decide +kernel
theorem dX12_statementOf_23 : decode cX12_statementOf 23 = .ok (.goto 9, 3) := by decide +kernel
theorem dX12_statementOf_26 : decode cX12_statementOf 26 = .ok (.aload_n 0, 1) := by decide +kernel
theorem dX12_statementOf_27 : decode cX12_statementOf 27 = .ok (.getfield 51, 3) := by decide +kernel
theorem dX12_statementOf_30 : decode cX12_statementOf 30 = .ok (.iload_n 1, 1) := by decide +kernel
theorem dX12_statementOf_31 : decode cX12_statementOf 31 = .ok (.iaload, 1) := by decide +kernel
theorem dX12_statementOf_32 : decode cX12_statementOf 32 = .ok (.ireturn, 1) := by decide +kernel
theorem dX12_edges_0 : decode cX12_edges 0 = .ok (.aload_n 0, 1) := by decide +kernel
theorem dX12_edges_1 : decode cX12_edges 1 = .ok (.iconst 0, 1) := by decide +kernel
theorem dX12_edges_2 : decode cX12_edges 2 = .ok (.putfield 127, 3) := by decide +kernel
theorem dX12_edges_5 : decode cX12_edges 5 = .ok (.aload_n 0, 1) := by decide +kernel
theorem dX12_edges_6 : decode cX12_edges 6 = .ok (.invokevirtual 193, 3) := by decide +kernel
theorem dX12_edges_9 : decode cX12_edges 9 = .ok (.aload_n 0, 1) := by decide +kernel
theorem dX12_edges_10 : decode cX12_edges 10 = .ok (.getfield 273, 3) := by decide +kernel
theorem dX12_edges_13 : decode cX12_edges 13 = .ok (.ireturn, 1) := by decide +kernel
theorem dX12_weight_0 : decode cX12_weight 0 = .ok (.aload_n 0, 1) := by decide +kernel
theorem dX12_weight_1 : decode cX12_weight 1 = .ok (.iconst 0, 1) := by decide +kernel
theorem dX12_weight_2 : decode cX12_weight 2 = .ok (.putfield 127, 3) := by decide +kernel
theorem dX12_weight_5 : decode cX12_weight 5 = .ok (.aload_n 0, 1) := by decide +kernel
theorem dX12_weight_6 : decode cX12_weight 6 = .ok (.invokevirtual 193, 3) := by decide +kernel
theorem dX12_weight_9 : decode cX12_weight 9 = .ok (.aload_n 0, 1) := by decide +kernel
theorem dX12_weight_10 : decode cX12_weight 10 = .ok (.aload_n 0, 1) := by decide +kernel
theorem dX12_weight_11 : decode cX12_weight 11 = .ok (.iload_n 1, 1) := by decide +kernel
theorem dX12_weight_12 : decode cX12_weight 12 = .ok (.invokevirtual 305, 3) := by decide +kernel
theorem dX12_weight_15 : decode cX12_weight 15 = .ok (.ifCond .ne 11, 3) := by decide +kernel
theorem dX12_weight_18 : decode cX12_weight 18 = .ok (.aload_n 0, 1) := by decide +kernel
theorem dX12_weight_19 : decode cX12_weight 19 = .ok (.iload_n 2, 1) := by decide +kernel
theorem dX12_weight_20 : decode cX12_weight 20 = .ok (.invokevirtual 305, 3) := by decide +kernel
theorem dX12_weight_23 : decode cX12_weight 23 = .ok (.ifCond .eq 7, 3) := by decide +kernel
theorem dX12_weight_26 : decode cX12_weight 26 = .ok (.iconst 1, 1) := by decide +kernel
theorem dX12_weight_27 : decode cX12_weight 27 = .ok (.goto 4, 3) := by decide +kernel
theorem dX12_weight_30 : decode cX12_weight 30 = .ok (.iconst 0, 1) := by decide +kernel
theorem dX12_weight_31 : decode cX12_weight 31 = .ok (.iconst 1, 1) := by decide +kernel
theorem dX12_weight_32 : decode cX12_weight 32 = .ok (.invokevirtual 142, 3) := by decide +kernel
theorem dX12_weight_35 : decode cX12_weight 35 = .ok (.ifCond .eq 5, 3) := by decide +kernel
theorem dX12_weight_38 : decode cX12_weight 38 = .ok (.iconst 0, 1) := by decide +kernel
theorem dX12_weight_39 : decode cX12_weight 39 = .ok (.ireturn, 1) := by decide +kernel
theorem dX12_weight_40 : decode cX12_weight 40 = .ok (.aload_n 0, 1) := by decide +kernel
theorem dX12_weight_41 : decode cX12_weight 41 = .ok (.getfield 91, 3) := by decide +kernel
theorem dX12_weight_44 : decode cX12_weight 44 = .ok (.aload_n 0, 1) := by decide +kernel
theorem dX12_weight_45 : decode cX12_weight 45 = .ok (.getfield 196, 3) := by decide +kernel
theorem dX12_weight_48 : decode cX12_weight 48 = .ok (.iload_n 1, 1) := by decide +kernel
