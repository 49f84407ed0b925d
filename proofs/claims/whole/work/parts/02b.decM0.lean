theorem dX11_init_0 : decode cX11_init 0 = .ok (.aload_n 0, 1) := by decide +kernel
theorem dX11_init_1 : decode cX11_init 1 = .ok (.invokespecial 1, 3) := by decide +kernel
theorem dX11_init_4 : decode cX11_init 4 = .ok (.aload_n 0, 1) := by decide +kernel
theorem dX11_init_5 : decode cX11_init 5 = .ok (.sipush 3328, 3) := by decide +kernel
theorem dX11_init_8 : decode cX11_init 8 = .ok (.newarray .int, 2) := by decide +kernel
theorem dX11_init_10 : decode cX11_init 10 = .ok (.putfield 7, 3) := by decide +kernel
theorem dX11_init_13 : decode cX11_init 13 = .ok (.aload_n 0, 1) := by decide +kernel
theorem dX11_init_14 : decode cX11_init 14 = .ok (.iconst (-1), 1) := by decide +kernel
theorem dX11_init_15 : decode cX11_init 15 = .ok (.putfield 13, 3) := by decide +kernel
theorem dX11_init_18 : decode cX11_init 18 = .ok (.aload_n 0, 1) := by decide +kernel
theorem dX11_init_19 : decode cX11_init 19 = .ok (.sipush 400, 3) := by decide +kernel
theorem dX11_init_22 : decode cX11_init 22 = .ok (.newarray .int, 2) := by decide +kernel
theorem dX11_init_24 : decode cX11_init 24 = .ok (.putfield 17, 3) := by decide +kernel
theorem dX11_init_27 : decode cX11_init 27 = .ok (.aload_n 0, 1) := by decide +kernel
theorem dX11_init_28 : decode cX11_init 28 = .ok (.bipush 32, 2) := by decide +kernel
theorem dX11_init_30 : decode cX11_init 30 = .ok (.newarray .int, 2) := by decide +kernel
theorem dX11_init_32 : decode cX11_init 32 = .ok (.putfield 20, 3) := by decide +kernel
theorem dX11_init_35 : decode cX11_init 35 = .ok (.aload_n 0, 1) := by decide +kernel
theorem dX11_init_36 : decode cX11_init 36 = .ok (.sipush 400, 3) := by decide +kernel
theorem dX11_init_39 : decode cX11_init 39 = .ok (.newarray .int, 2) := by decide +kernel
theorem dX11_init_41 : decode cX11_init 41 = .ok (.putfield 23, 3) := by decide +kernel
theorem dX11_init_44 : decode cX11_init 44 = .ok (.aload_n 0, 1) := by decide +kernel
theorem dX11_init_45 : decode cX11_init 45 = .ok (.iconst 4, 1) := by decide +kernel
theorem dX11_init_46 : decode cX11_init 46 = .ok (.newarray .int, 2) := by decide +kernel
theorem dX11_init_48 : decode cX11_init 48 = .ok (.putfield 26, 3) := by decide +kernel
theorem dX11_init_51 : decode cX11_init 51 = .ok (.aload_n 0, 1) := by decide +kernel
theorem dX11_init_52 : decode cX11_init 52 = .ok (.iconst 4, 1) := by decide +kernel
theorem dX11_init_53 : decode cX11_init 53 = .ok (.newarray .int, 2) := by decide +kernel
theorem dX11_init_55 : decode cX11_init 55 = .ok (.putfield 29, 3) := by decide +kernel
theorem dX11_init_58 : decode cX11_init 58 = .ok (.aload_n 0, 1) := by decide +kernel
theorem dX11_init_59 : decode cX11_init 59 = .ok (.iconst 5, 1) := by decide +kernel
theorem dX11_init_60 : decode cX11_init 60 = .ok (.newarray .int, 2) := by decide +kernel
theorem dX11_init_62 : decode cX11_init 62 = .ok (.putfield 32, 3) := by decide +kernel
theorem dX11_init_65 : decode cX11_init 65 = .ok (.aload_n 0, 1) := by decide +kernel
theorem dX11_init_66 : decode cX11_init 66 = .ok (.iconst 5, 1) := by decide +kernel
theorem dX11_init_67 : decode cX11_init 67 = .ok (.newarray .int, 2) := by decide +kernel
theorem dX11_init_69 : decode cX11_init 69 = .ok (.putfield 35, 3) := by decide +kernel
theorem dX11_init_72 : decode cX11_init 72 = .ok (.aload_n 0, 1) := by decide +kernel
theorem dX11_init_73 : decode cX11_init 73 = .ok (.iconst 5, 1) := by decide +kernel
theorem dX11_init_74 : decode cX11_init 74 = .ok (.newarray .long, 2) := by decide +kernel
theorem dX11_init_76 : decode cX11_init 76 = .ok (.putfield 38, 3) := by decide +kernel
theorem dX11_init_79 : decode cX11_init 79 = .ok (.aload_n 0, 1) := by decide +kernel
theorem dX11_init_80 : decode cX11_init 80 = .ok (.sipush 400, 3) := by decide +kernel
theorem dX11_init_83 : decode cX11_init 83 = .ok (.newarray .int, 2) := by decide +kernel
theorem dX11_init_85 : decode cX11_init 85 = .ok (.putfield 42, 3) := by decide +kernel
theorem dX11_init_88 : decode cX11_init 88 = .ok (.aload_n 0, 1) := by decide +kernel
theorem dX11_init_89 : decode cX11_init 89 = .ok (.sipush 400, 3) := by decide +kernel
theorem dX11_init_92 : decode cX11_init 92 = .ok (.newarray .long, 2) := by decide +kernel
theorem dX11_init_94 : decode cX11_init 94 = .ok (.putfield 45, 3) := by decide +kernel
theorem dX11_init_97 : decode cX11_init 97 = .ok (.aload_n 0, 1) := by decide +kernel
theorem dX11_init_98 : decode cX11_init 98 = .ok (.sipush 160, 3) := by decide +kernel
theorem dX11_init_101 : decode cX11_init 101 = .ok (.newarray .int, 2) := by decide +kernel
theorem dX11_init_103 : decode cX11_init 103 = .ok (.putfield 48, 3) := by decide +kernel
theorem dX11_init_106 : decode cX11_init 106 = .ok (.aload_n 0, 1) := by decide +kernel
theorem dX11_init_107 : decode cX11_init 107 = .ok (.sipush 400, 3) := by decide +kernel
theorem dX11_init_110 : decode cX11_init 110 = .ok (.newarray .int, 2) := by decide +kernel
theorem dX11_init_112 : decode cX11_init 112 = .ok (.putfield 51, 3) := by decide +kernel
theorem dX11_init_115 : decode cX11_init 115 = .ok (.aload_n 0, 1) := by decide +kernel
theorem dX11_init_116 : decode cX11_init 116 = .ok (.iconst 4, 1) := by decide +kernel
theorem dX11_init_117 : decode cX11_init 117 = .ok (.newarray .int, 2) := by decide +kernel
theorem dX11_init_119 : decode cX11_init 119 = .ok (.putfield 54, 3) := by decide +kernel
theorem dX11_init_122 : decode cX11_init 122 = .ok (.aload_n 0, 1) := by decide +kernel
theorem dX11_init_123 : decode cX11_init 123 = .ok (.iconst 4, 1) := by decide +kernel
theorem dX11_init_124 : decode cX11_init 124 = .ok (.newarray .int, 2) := by decide +kernel
theorem dX11_init_126 : decode cX11_init 126 = .ok (.putfield 57, 3) := by decide +kernel
theorem dX11_init_129 : decode cX11_init 129 = .ok (.aload_n 0, 1) := by decide +kernel
theorem dX11_init_130 : decode cX11_init 130 = .ok (.iconst 4, 1) := by decide +kernel
theorem dX11_init_131 : decode cX11_init 131 = .ok (.newarray .int, 2) := by decide +kernel
theorem dX11_init_133 : decode cX11_init 133 = .ok (.putfield 60, 3) := by decide +kernel
theorem dX11_init_136 : decode cX11_init 136 = .ok (.aload_n 0, 1) := by decide +kernel
theorem dX11_init_137 : decode cX11_init 137 = .ok (.iconst 4, 1) := by decide +kernel
theorem dX11_init_138 : decode cX11_init 138 = .ok (.newarray .int, 2) := by decide +kernel
theorem dX11_init_140 : decode cX11_init 140 = .ok (.putfield 63, 3) := by decide +kernel
theorem dX11_init_143 : decode cX11_init 143 = .ok (.aload_n 0, 1) := by decide +kernel
theorem dX11_init_144 : decode cX11_init 144 = .ok (.iconst 4, 1) := by decide +kernel
theorem dX11_init_145 : decode cX11_init 145 = .ok (.newarray .int, 2) := by decide +kernel
theorem dX11_init_147 : decode cX11_init 147 = .ok (.putfield 66, 3) := by decide +kernel
theorem dX11_init_150 : decode cX11_init 150 = .ok (.aload_n 0, 1) := by decide +kernel
theorem dX11_init_151 : decode cX11_init 151 = .ok (.bipush 120, 2) := by decide +kernel
theorem dX11_init_153 : decode cX11_init 153 = .ok (.newarray .int, 2) := by decide +kernel
theorem dX11_init_155 : decode cX11_init 155 = .ok (.putfield 69, 3) := by decide +kernel
theorem dX11_init_158 : decode cX11_init 158 = .ok (.aload_n 0, 1) := by decide +kernel
theorem dX11_init_159 : decode cX11_init 159 = .ok (.bipush (-2), 2) := by decide +kernel
theorem dX11_init_161 : decode cX11_init 161 = .ok (.putfield 72, 3) := by decide +kernel
theorem dX11_init_164 : decode cX11_init 164 = .ok (.aload_n 0, 1) := by decide +kernel
theorem dX11_init_165 : decode cX11_init 165 = .ok (.iconst 4, 1) := by decide +kernel
theorem dX11_init_166 : decode cX11_init 166 = .ok (.newarray .int, 2) := by decide +kernel
theorem dX11_init_168 : decode cX11_init 168 = .ok (.dup, 1) := by decide +kernel
theorem dX11_init_169 : decode cX11_init 169 = .ok (.iconst 0, 1) := by decide +kernel
theorem dX11_init_170 : decode cX11_init 170 = .ok (.iconst 0, 1) := by decide +kernel
theorem dX11_init_171 : decode cX11_init 171 = .ok (.iastore, 1) := by decide +kernel
theorem dX11_init_172 : decode cX11_init 172 = .ok (.dup, 1) := by decide +kernel
theorem dX11_init_173 : decode cX11_init 173 = .ok (.iconst 1, 1) := by decide +kernel
theorem dX11_init_174 : decode cX11_init 174 = .ok (.iconst 0, 1) := by decide +kernel
theorem dX11_init_175 : decode cX11_init 175 = .ok (.iastore, 1) := by decide +kernel
theorem dX11_init_176 : decode cX11_init 176 = .ok (.dup, 1) := by decide +kernel
theorem dX11_init_177 : decode cX11_init 177 = .ok (.iconst 2, 1) := by decide +kernel
theorem dX11_init_178 : decode cX11_init 178 = .ok (.iconst 1, 1) := by decide +kernel
theorem dX11_init_179 : decode cX11_init 179 = .ok (.iastore, 1) := by decide +kernel
theorem dX11_init_180 : decode cX11_init 180 = .ok (.dup, 1) := by decide +kernel
theorem dX11_init_181 : decode cX11_init 181 = .ok (.iconst 3, 1) := by decide +kernel
theorem dX11_init_182 : decode cX11_init 182 = .ok (.iconst 1, 1) := by decide +kernel
theorem dX11_init_183 : decode cX11_init 183 = .ok (.iastore, 1) := by decide +kernel
theorem dX11_init_184 : decode cX11_init 184 = .ok (.putfield 75, 3) := by decide +kernel
theorem dX11_init_187 : decode cX11_init 187 = .ok (.aload_n 0, 1) := by decide +kernel
theorem dX11_init_188 : decode cX11_init 188 = .ok (.iconst 4, 1) := by decide +kernel
theorem dX11_init_189 : decode cX11_init 189 = .ok (.newarray .long, 2) := by decide +kernel
theorem dX11_init_191 : decode cX11_init 191 = .ok (.putfield 78, 3) := by decide +kernel
theorem dX11_init_194 : decode cX11_init 194 = .ok (.aload_n 0, 1) := by decide +kernel
theorem dX11_init_195 : decode cX11_init 195 = .ok (.iload_n 1, 1) := by decide +kernel
theorem dX11_init_196 : decode cX11_init 196 = .ok (.iconst 1, 1) := by decide +kernel
theorem dX11_init_197 : decode cX11_init 197 = .ok (.if_icmp .ge 7, 3) := by decide +kernel
theorem dX11_init_200 : decode cX11_init 200 = .ok (.iconst 1, 1) := by decide +kernel
theorem dX11_init_201 : decode cX11_init 201 = .ok (.goto 17, 3) := by decide +kernel
theorem dX11_init_204 : decode cX11_init 204 = .ok (.iload_n 1, 1) := by decide +kernel
theorem dX11_init_205 : decode cX11_init 205 = .ok (.sipush 1024, 3) := by decide +kernel
theorem dX11_init_208 : decode cX11_init 208 = .ok (.if_icmp .le 9, 3) := by decide +kernel
theorem dX11_init_211 : decode cX11_init 211 = .ok (.sipush 1024, 3) := by decide +kernel
theorem dX11_init_214 : decode cX11_init 214 = .ok (.goto 4, 3) := by decide +kernel
theorem dX11_init_217 : decode cX11_init 217 = .ok (.iload_n 1, 1) := by decide +kernel
theorem dX11_init_218 : decode cX11_init 218 = .ok (.putfield 81, 3) := by decide +kernel
theorem dX11_init_221 : decode cX11_init 221 = .ok (.iconst 0, 1) := by decide +kernel
theorem dX11_init_222 : decode cX11_init 222 = .ok (.istore_n 2, 1) := by decide +kernel
theorem dX11_init_223 : decode cX11_init 223 = .ok (.iload_n 2, 1) := by decide +kernel
theorem dX11_init_224 : decode cX11_init 224 = .ok (.sipush 3328, 3) := by decide +kernel
theorem dX11_init_227 : decode cX11_init 227 = .ok (.if_icmp .ge 18, 3) := by decide +kernel
theorem dX11_init_230 : decode cX11_init 230 = .ok (.aload_n 0, 1) := by decide +kernel
theorem dX11_init_231 : decode cX11_init 231 = .ok (.getfield 7, 3) := by decide +kernel
theorem dX11_init_234 : decode cX11_init 234 = .ok (.iload_n 2, 1) := by decide +kernel
theorem dX11_init_235 : decode cX11_init 235 = .ok (.sipush 255, 3) := by decide +kernel
theorem dX11_init_238 : decode cX11_init 238 = .ok (.iastore, 1) := by decide +kernel
theorem dX11_init_239 : decode cX11_init 239 = .ok (.iinc 2 1, 3) := by decide +kernel
theorem dX11_init_242 : decode cX11_init 242 = .ok (.goto (-19), 3) := by decide +kernel
theorem dX11_init_245 : decode cX11_init 245 = .ok (.iconst 0, 1) := by decide +kernel
theorem dX11_init_246 : decode cX11_init 246 = .ok (.istore_n 2, 1) := by decide +kernel
theorem dX11_init_247 : decode cX11_init 247 = .ok (.iload_n 2, 1) := by decide +kernel
theorem dX11_init_248 : decode cX11_init 248 = .ok (.aload_n 0, 1) := by decide +kernel
theorem dX11_init_249 : decode cX11_init 249 = .ok (.getfield 81, 3) := by decide +kernel
theorem dX11_init_252 : decode cX11_init 252 = .ok (.if_icmp .ge 30, 3) := by decide +kernel
theorem dX11_init_255 : decode cX11_init 255 = .ok (.aload_n 0, 1) := by decide +kernel
theorem dX11_init_256 : decode cX11_init 256 = .ok (.getfield 7, 3) := by decide +kernel
theorem dX11_init_259 : decode cX11_init 259 = .ok (.iconst 0, 1) := by decide +kernel
theorem dX11_init_260 : decode cX11_init 260 = .ok (.invokestatic 84, 3) := by decide +kernel
theorem dX11_init_263 : decode cX11_init 263 = .ok (.iload_n 2, 1) := by decide +kernel
theorem dX11_init_264 : decode cX11_init 264 = .ok (.iadd, 1) := by decide +kernel
theorem dX11_init_265 : decode cX11_init 265 = .ok (.bipush 7, 2) := by decide +kernel
theorem dX11_init_267 : decode cX11_init 267 = .ok (.iload_n 2, 1) := by decide +kernel
theorem dX11_init_268 : decode cX11_init 268 = .ok (.imul, 1) := by decide +kernel
theorem dX11_init_269 : decode cX11_init 269 = .ok (.iconst 3, 1) := by decide +kernel
theorem dX11_init_270 : decode cX11_init 270 = .ok (.iadd, 1) := by decide +kernel
theorem dX11_init_271 : decode cX11_init 271 = .ok (.sipush 255, 3) := by decide +kernel
theorem dX11_init_274 : decode cX11_init 274 = .ok (.iand, 1) := by decide +kernel
theorem dX11_init_275 : decode cX11_init 275 = .ok (.iastore, 1) := by decide +kernel
theorem dX11_init_276 : decode cX11_init 276 = .ok (.iinc 2 1, 3) := by decide +kernel
theorem dX11_init_279 : decode cX11_init 279 = .ok (.goto (-32), 3) := by decide +kernel
theorem dX11_init_282 : decode cX11_init 282 = .ok (.aload_n 0, 1) := by decide +kernel
theorem dX11_init_283 : decode cX11_init 283 = .ok (.aload_n 0, 1) := by decide +kernel
theorem dX11_init_284 : decode cX11_init 284 = .ok (.iconst 0, 1) := by decide +kernel
theorem dX11_init_285 : decode cX11_init 285 = .ok (.aload_n 0, 1) := by decide +kernel
theorem dX11_init_286 : decode cX11_init 286 = .ok (.getfield 81, 3) := by decide +kernel
theorem dX11_init_289 : decode cX11_init 289 = .ok (.invokevirtual 88, 3) := by decide +kernel
theorem dX11_init_292 : decode cX11_init 292 = .ok (.putfield 92, 3) := by decide +kernel
theorem dX11_init_295 : decode cX11_init 295 = .ok (.iconst 0, 1) := by decide +kernel
theorem dX11_init_296 : decode cX11_init 296 = .ok (.istore_n 2, 1) := by decide +kernel
theorem dX11_init_297 : decode cX11_init 297 = .ok (.iload_n 2, 1) := by decide +kernel
theorem dX11_init_298 : decode cX11_init 298 = .ok (.iconst 4, 1) := by decide +kernel
theorem dX11_init_299 : decode cX11_init 299 = .ok (.if_icmp .ge 67, 3) := by decide +kernel
theorem dX11_init_302 : decode cX11_init 302 = .ok (.aload_n 0, 1) := by decide +kernel
theorem dX11_init_303 : decode cX11_init 303 = .ok (.getfield 54, 3) := by decide +kernel
theorem dX11_init_306 : decode cX11_init 306 = .ok (.iload_n 2, 1) := by decide +kernel
theorem dX11_init_307 : decode cX11_init 307 = .ok (.iload_n 2, 1) := by decide +kernel
theorem dX11_init_308 : decode cX11_init 308 = .ok (.ifCond .ne 8, 3) := by decide +kernel
theorem dX11_init_311 : decode cX11_init 311 = .ok (.bipush 7, 2) := by decide +kernel
theorem dX11_init_313 : decode cX11_init 313 = .ok (.goto 25, 3) := by decide +kernel
theorem dX11_init_316 : decode cX11_init 316 = .ok (.iload_n 2, 1) := by decide +kernel
theorem dX11_init_317 : decode cX11_init 317 = .ok (.iconst 1, 1) := by decide +kernel
theorem dX11_init_318 : decode cX11_init 318 = .ok (.if_icmp .ne 8, 3) := by decide +kernel
theorem dX11_init_321 : decode cX11_init 321 = .ok (.bipush 8, 2) := by decide +kernel
theorem dX11_init_323 : decode cX11_init 323 = .ok (.goto 15, 3) := by decide +kernel
theorem dX11_init_326 : decode cX11_init 326 = .ok (.iload_n 2, 1) := by decide +kernel
theorem dX11_init_327 : decode cX11_init 327 = .ok (.iconst 2, 1) := by decide +kernel
theorem dX11_init_328 : decode cX11_init 328 = .ok (.if_icmp .ne 8, 3) := by decide +kernel
theorem dX11_init_331 : decode cX11_init 331 = .ok (.bipush 16, 2) := by decide +kernel
theorem dX11_init_333 : decode cX11_init 333 = .ok (.goto 5, 3) := by decide +kernel
theorem dX11_init_336 : decode cX11_init 336 = .ok (.bipush 96, 2) := by decide +kernel
theorem dX11_init_338 : decode cX11_init 338 = .ok (.iastore, 1) := by decide +kernel
theorem dX11_init_339 : decode cX11_init 339 = .ok (.aload_n 0, 1) := by decide +kernel
theorem dX11_init_340 : decode cX11_init 340 = .ok (.getfield 57, 3) := by decide +kernel
theorem dX11_init_343 : decode cX11_init 343 = .ok (.iload_n 2, 1) := by decide +kernel
theorem dX11_init_344 : decode cX11_init 344 = .ok (.iload_n 2, 1) := by decide +kernel
theorem dX11_init_345 : decode cX11_init 345 = .ok (.iconst 1, 1) := by decide +kernel
theorem dX11_init_346 : decode cX11_init 346 = .ok (.if_icmp .eq 8, 3) := by decide +kernel
theorem dX11_init_349 : decode cX11_init 349 = .ok (.iload_n 2, 1) := by decide +kernel
theorem dX11_init_350 : decode cX11_init 350 = .ok (.iconst 2, 1) := by decide +kernel
theorem dX11_init_351 : decode cX11_init 351 = .ok (.if_icmp .ne 7, 3) := by decide +kernel
theorem dX11_init_354 : decode cX11_init 354 = .ok (.iconst 1, 1) := by decide +kernel
theorem dX11_init_355 : decode cX11_init 355 = .ok (.goto 4, 3) := by decide +kernel
theorem dX11_init_358 : decode cX11_init 358 = .ok (.iconst 2, 1) := by decide +kernel
theorem dX11_init_359 : decode cX11_init 359 = .ok (.iastore, 1) := by decide +kernel
theorem dX11_init_360 : decode cX11_init 360 = .ok (.iinc 2 1, 3) := by decide +kernel
theorem dX11_init_363 : decode cX11_init 363 = .ok (.goto (-66), 3) := by decide +kernel
theorem dX11_init_366 : decode cX11_init 366 = .ok (.aload_n 0, 1) := by decide +kernel
theorem dX11_init_367 : decode cX11_init 367 = .ok (.iconst 0, 1) := by decide +kernel
theorem dX11_init_368 : decode cX11_init 368 = .ok (.putfield 96, 3) := by decide +kernel
theorem dX11_init_371 : decode cX11_init 371 = .ok (.aload_n 0, 1) := by decide +kernel
theorem dX11_init_372 : decode cX11_init 372 = .ok (.invokevirtual 99, 3) := by decide +kernel
theorem dX11_init_375 : decode cX11_init 375 = .ok (.aload_n 0, 1) := by decide +kernel
theorem dX11_init_376 : decode cX11_init 376 = .ok (.iconst 0, 1) := by decide +kernel
theorem dX11_init_377 : decode cX11_init 377 = .ok (.invokevirtual 102, 3) := by decide +kernel
theorem dX11_init_380 : decode cX11_init 380 = .ok (.iconst 0, 1) := by decide +kernel
theorem dX11_init_381 : decode cX11_init 381 = .ok (.istore_n 2, 1) := by decide +kernel
theorem dX11_init_382 : decode cX11_init 382 = .ok (.iload_n 2, 1) := by decide +kernel
theorem dX11_init_383 : decode cX11_init 383 = .ok (.bipush 32, 2) := by decide +kernel
theorem dX11_init_385 : decode cX11_init 385 = .ok (.if_icmp .ge 25, 3) := by decide +kernel
theorem dX11_init_388 : decode cX11_init 388 = .ok (.aload_n 0, 1) := by decide +kernel
theorem dX11_init_389 : decode cX11_init 389 = .ok (.getfield 7, 3) := by decide +kernel
theorem dX11_init_392 : decode cX11_init 392 = .ok (.sipush 1024, 3) := by decide +kernel
theorem dX11_init_395 : decode cX11_init 395 = .ok (.iload_n 2, 1) := by decide +kernel
theorem dX11_init_396 : decode cX11_init 396 = .ok (.iadd, 1) := by decide +kernel
theorem dX11_init_397 : decode cX11_init 397 = .ok (.aload_n 0, 1) := by decide +kernel
theorem dX11_init_398 : decode cX11_init 398 = .ok (.getfield 20, 3) := by decide +kernel
theorem dX11_init_401 : decode cX11_init 401 = .ok (.iload_n 2, 1) := by decide +kernel
theorem dX11_init_402 : decode cX11_init 402 = .ok (.iaload, 1) := by decide +kernel
theorem dX11_init_403 : decode cX11_init 403 = .ok (.iastore, 1) := by decide +kernel
theorem dX11_init_404 : decode cX11_init 404 = .ok (.iinc 2 1, 3) := by decide +kernel
theorem dX11_init_407 : decode cX11_init 407 = .ok (.goto (-25), 3) := by decide +kernel
theorem dX11_init_410 : decode cX11_init 410 = .ok (.return_, 1) := by decide +kernel
theorem dX11_slotAt_0 : decode cX11_slotAt 0 = .ok (.sipush 128, 3) := by decide +kernel
theorem dX11_slotAt_3 : decode cX11_slotAt 3 = .ok (.iload_n 0, 1) := by decide +kernel
theorem dX11_slotAt_4 : decode cX11_slotAt 4 = .ok (.ifCond .ne 8, 3) := by decide +kernel
theorem dX11_slotAt_7 : decode cX11_slotAt 7 = .ok (.bipush 10, 2) := by decide +kernel
theorem dX11_slotAt_9 : decode cX11_slotAt 9 = .ok (.goto 5, 3) := by decide +kernel
theorem dX11_slotAt_12 : decode cX11_slotAt 12 = .ok (.bipush 18, 2) := by decide +kernel
theorem dX11_slotAt_14 : decode cX11_slotAt 14 = .ok (.imul, 1) := by decide +kernel
theorem dX11_slotAt_15 : decode cX11_slotAt 15 = .ok (.ireturn, 1) := by decide +kernel
theorem dX11_digestBegin_0 : decode cX11_digestBegin 0 = .ok (.aload_n 0, 1) := by decide +kernel
theorem dX11_digestBegin_1 : decode cX11_digestBegin 1 = .ok (.ldc2_w 106, 3) := by decide +kernel
theorem dX11_digestBegin_4 : decode cX11_digestBegin 4 = .ok (.putfield 108, 3) := by decide +kernel
theorem dX11_digestBegin_7 : decode cX11_digestBegin 7 = .ok (.return_, 1) := by decide +kernel
theorem dX11_digestByte_0 : decode cX11_digestByte 0 = .ok (.aload_n 0, 1) := by decide +kernel
theorem dX11_digestByte_1 : decode cX11_digestByte 1 = .ok (.aload_n 0, 1) := by decide +kernel
theorem dX11_digestByte_2 : decode cX11_digestByte 2 = .ok (.getfield 108, 3) := by decide +kernel
theorem dX11_digestByte_5 : decode cX11_digestByte 5 = .ok (.iload_n 1, 1) := by decide +kernel
theorem dX11_digestByte_6 : decode cX11_digestByte 6 = .ok (.i2l, 1) := by decide +kernel
theorem dX11_digestByte_7 : decode cX11_digestByte 7 = .ok (.lxor, 1) := by decide +kernel
theorem dX11_digestByte_8 : decode cX11_digestByte 8 = .ok (.ldc2_w 111, 3) := by decide +kernel
theorem dX11_digestByte_11 : decode cX11_digestByte 11 = .ok (.lmul, 1) := by decide +kernel
theorem dX11_digestByte_12 : decode cX11_digestByte 12 = .ok (.putfield 108, 3) := by decide +kernel
theorem dX11_digestByte_15 : decode cX11_digestByte 15 = .ok (.aload_n 0, 1) := by decide +kernel
theorem dX11_digestByte_16 : decode cX11_digestByte 16 = .ok (.aload_n 0, 1) := by decide +kernel
theorem dX11_digestByte_17 : decode cX11_digestByte 17 = .ok (.getfield 108, 3) := by decide +kernel
theorem dX11_digestByte_20 : decode cX11_digestByte 20 = .ok (.aload_n 0, 1) := by decide +kernel
theorem dX11_digestByte_21 : decode cX11_digestByte 21 = .ok (.getfield 108, 3) := by decide +kernel
theorem dX11_digestByte_24 : decode cX11_digestByte 24 = .ok (.bipush 29, 2) := by decide +kernel
theorem dX11_digestByte_26 : decode cX11_digestByte 26 = .ok (.lushr, 1) := by decide +kernel
theorem dX11_digestByte_27 : decode cX11_digestByte 27 = .ok (.lxor, 1) := by decide +kernel
theorem dX11_digestByte_28 : decode cX11_digestByte 28 = .ok (.putfield 108, 3) := by decide +kernel
theorem dX11_digestByte_31 : decode cX11_digestByte 31 = .ok (.return_, 1) := by decide +kernel
theorem dX11_slotDigest_0 : decode cX11_slotDigest 0 = .ok (.aload_n 0, 1) := by decide +kernel
theorem dX11_slotDigest_1 : decode cX11_slotDigest 1 = .ok (.invokevirtual 113, 3) := by decide +kernel
theorem dX11_slotDigest_4 : decode cX11_slotDigest 4 = .ok (.iconst 0, 1) := by decide +kernel
theorem dX11_slotDigest_5 : decode cX11_slotDigest 5 = .ok (.istore_n 3, 1) := by decide +kernel
theorem dX11_slotDigest_6 : decode cX11_slotDigest 6 = .ok (.iload_n 3, 1) := by decide +kernel
theorem dX11_slotDigest_7 : decode cX11_slotDigest 7 = .ok (.iload_n 2, 1) := by decide +kernel
theorem dX11_slotDigest_8 : decode cX11_slotDigest 8 = .ok (.if_icmp .ge 24, 3) := by decide +kernel
theorem dX11_slotDigest_11 : decode cX11_slotDigest 11 = .ok (.aload_n 0, 1) := by decide +kernel
theorem dX11_slotDigest_12 : decode cX11_slotDigest 12 = .ok (.aload_n 0, 1) := by decide +kernel
theorem dX11_slotDigest_13 : decode cX11_slotDigest 13 = .ok (.getfield 7, 3) := by decide +kernel
theorem dX11_slotDigest_16 : decode cX11_slotDigest 16 = .ok (.iload_n 1, 1) := by decide +kernel
theorem dX11_slotDigest_17 : decode cX11_slotDigest 17 = .ok (.invokestatic 84, 3) := by decide +kernel
theorem dX11_slotDigest_20 : decode cX11_slotDigest 20 = .ok (.iload_n 3, 1) := by decide +kernel
theorem dX11_slotDigest_21 : decode cX11_slotDigest 21 = .ok (.iadd, 1) := by decide +kernel
theorem dX11_slotDigest_22 : decode cX11_slotDigest 22 = .ok (.iaload, 1) := by decide +kernel
theorem dX11_slotDigest_23 : decode cX11_slotDigest 23 = .ok (.invokevirtual 116, 3) := by decide +kernel
theorem dX11_slotDigest_26 : decode cX11_slotDigest 26 = .ok (.iinc 3 1, 3) := by decide +kernel
theorem dX11_slotDigest_29 : decode cX11_slotDigest 29 = .ok (.goto (-23), 3) := by decide +kernel
theorem dX11_slotDigest_32 : decode cX11_slotDigest 32 = .ok (.aload_n 0, 1) := by decide +kernel
theorem dX11_slotDigest_33 : decode cX11_slotDigest 33 = .ok (.getfield 108, 3) := by decide +kernel
theorem dX11_slotDigest_36 : decode cX11_slotDigest 36 = .ok (.ldc2_w 119, 3) := by decide +kernel
theorem dX11_slotDigest_39 : decode cX11_slotDigest 39 = .ok (.land, 1) := by decide +kernel
theorem dX11_slotDigest_40 : decode cX11_slotDigest 40 = .ok (.lreturn, 1) := by decide +kernel
theorem dX11_feed_0 : decode cX11_feed 0 = .ok (.aload_n 0, 1) := by decide +kernel
theorem dX11_feed_1 : decode cX11_feed 1 = .ok (.getfield 121, 3) := by decide +kernel
theorem dX11_feed_4 : decode cX11_feed 4 = .ok (.bipush 20, 2) := by decide +kernel
theorem dX11_feed_6 : decode cX11_feed 6 = .ok (.iadd, 1) := by decide +kernel
theorem dX11_feed_7 : decode cX11_feed 7 = .ok (.sipush 300, 3) := by decide +kernel
theorem dX11_feed_10 : decode cX11_feed 10 = .ok (.if_icmp .le 6, 3) := by decide +kernel
theorem dX11_feed_13 : decode cX11_feed 13 = .ok (.bipush (-5), 2) := by decide +kernel
theorem dX11_feed_15 : decode cX11_feed 15 = .ok (.ireturn, 1) := by decide +kernel
theorem dX11_feed_16 : decode cX11_feed 16 = .ok (.iconst 0, 1) := by decide +kernel
theorem dX11_feed_17 : decode cX11_feed 17 = .ok (.istore 6, 2) := by decide +kernel
theorem dX11_feed_19 : decode cX11_feed 19 = .ok (.iload 6, 2) := by decide +kernel
theorem dX11_feed_21 : decode cX11_feed 21 = .ok (.bipush 20, 2) := by decide +kernel
theorem dX11_feed_23 : decode cX11_feed 23 = .ok (.if_icmp .ge 93, 3) := by decide +kernel
theorem dX11_feed_26 : decode cX11_feed 26 = .ok (.iload 6, 2) := by decide +kernel
theorem dX11_feed_28 : decode cX11_feed 28 = .ok (.iconst 4, 1) := by decide +kernel
theorem dX11_feed_29 : decode cX11_feed 29 = .ok (.if_icmp .ge 7, 3) := by decide +kernel
theorem dX11_feed_32 : decode cX11_feed 32 = .ok (.iload_n 1, 1) := by decide +kernel
theorem dX11_feed_33 : decode cX11_feed 33 = .ok (.goto 39, 3) := by decide +kernel
theorem dX11_feed_36 : decode cX11_feed 36 = .ok (.iload 6, 2) := by decide +kernel
theorem dX11_feed_38 : decode cX11_feed 38 = .ok (.bipush 8, 2) := by decide +kernel
theorem dX11_feed_40 : decode cX11_feed 40 = .ok (.if_icmp .ge 7, 3) := by decide +kernel
theorem dX11_feed_43 : decode cX11_feed 43 = .ok (.iload_n 2, 1) := by decide +kernel
theorem dX11_feed_44 : decode cX11_feed 44 = .ok (.goto 28, 3) := by decide +kernel
theorem dX11_feed_47 : decode cX11_feed 47 = .ok (.iload 6, 2) := by decide +kernel
theorem dX11_feed_49 : decode cX11_feed 49 = .ok (.bipush 12, 2) := by decide +kernel
theorem dX11_feed_51 : decode cX11_feed 51 = .ok (.if_icmp .ge 7, 3) := by decide +kernel
theorem dX11_feed_54 : decode cX11_feed 54 = .ok (.iload_n 3, 1) := by decide +kernel
theorem dX11_feed_55 : decode cX11_feed 55 = .ok (.goto 17, 3) := by decide +kernel
theorem dX11_feed_58 : decode cX11_feed 58 = .ok (.iload 6, 2) := by decide +kernel
theorem dX11_feed_60 : decode cX11_feed 60 = .ok (.bipush 16, 2) := by decide +kernel
theorem dX11_feed_62 : decode cX11_feed 62 = .ok (.if_icmp .ge 8, 3) := by decide +kernel
theorem dX11_feed_65 : decode cX11_feed 65 = .ok (.iload 4, 2) := by decide +kernel
theorem dX11_feed_67 : decode cX11_feed 67 = .ok (.goto 5, 3) := by decide +kernel
theorem dX11_feed_70 : decode cX11_feed 70 = .ok (.iload 5, 2) := by decide +kernel
theorem dX11_feed_72 : decode cX11_feed 72 = .ok (.istore 7, 2) := by decide +kernel
theorem dX11_feed_74 : decode cX11_feed 74 = .ok (.aload_n 0, 1) := by decide +kernel
theorem dX11_feed_75 : decode cX11_feed 75 = .ok (.getfield 17, 3) := by decide +kernel
theorem dX11_feed_78 : decode cX11_feed 78 = .ok (.aload_n 0, 1) := by decide +kernel
theorem dX11_feed_79 : decode cX11_feed 79 = .ok (.getfield 121, 3) := by decide +kernel
theorem dX11_feed_82 : decode cX11_feed 82 = .ok (.iload 7, 2) := by decide +kernel
theorem dX11_feed_84 : decode cX11_feed 84 = .ok (.bipush 24, 2) := by decide +kernel
theorem dX11_feed_86 : decode cX11_feed 86 = .ok (.bipush 8, 2) := by decide +kernel
theorem dX11_feed_88 : decode cX11_feed 88 = .ok (.iload 6, 2) := by decide +kernel
theorem dX11_feed_90 : decode cX11_feed 90 = .ok (.iconst 4, 1) := by decide +kernel
theorem dX11_feed_91 : decode cX11_feed 91 = .ok (.irem, 1) := by decide +kernel
theorem dX11_feed_92 : decode cX11_feed 92 = .ok (.imul, 1) := by decide +kernel
theorem dX11_feed_93 : decode cX11_feed 93 = .ok (.isub, 1) := by decide +kernel
theorem dX11_feed_94 : decode cX11_feed 94 = .ok (.ishr, 1) := by decide +kernel
theorem dX11_feed_95 : decode cX11_feed 95 = .ok (.sipush 255, 3) := by decide +kernel
theorem dX11_feed_98 : decode cX11_feed 98 = .ok (.iand, 1) := by decide +kernel
theorem dX11_feed_99 : decode cX11_feed 99 = .ok (.iastore, 1) := by decide +kernel
theorem dX11_feed_100 : decode cX11_feed 100 = .ok (.aload_n 0, 1) := by decide +kernel
theorem dX11_feed_101 : decode cX11_feed 101 = .ok (.dup, 1) := by decide +kernel
theorem dX11_feed_102 : decode cX11_feed 102 = .ok (.getfield 121, 3) := by decide +kernel
theorem dX11_feed_105 : decode cX11_feed 105 = .ok (.iconst 1, 1) := by decide +kernel
theorem dX11_feed_106 : decode cX11_feed 106 = .ok (.iadd, 1) := by decide +kernel
theorem dX11_feed_107 : decode cX11_feed 107 = .ok (.putfield 121, 3) := by decide +kernel
theorem dX11_feed_110 : decode cX11_feed 110 = .ok (.iinc 6 1, 3) := by decide +kernel
theorem dX11_feed_113 : decode cX11_feed 113 = .ok (.goto (-94), 3) := by decide +kernel
theorem dX11_feed_116 : decode cX11_feed 116 = .ok (.aload_n 0, 1) := by decide +kernel
theorem dX11_feed_117 : decode cX11_feed 117 = .ok (.getfield 121, 3) := by decide +kernel
theorem dX11_feed_120 : decode cX11_feed 120 = .ok (.ireturn, 1) := by decide +kernel
theorem dX11_end_0 : decode cX11_end 0 = .ok (.iload_n 1, 1) := by decide +kernel
theorem dX11_end_1 : decode cX11_end 1 = .ok (.ifCond .lt 18, 3) := by decide +kernel
theorem dX11_end_4 : decode cX11_end 4 = .ok (.iload_n 1, 1) := by decide +kernel
theorem dX11_end_5 : decode cX11_end 5 = .ok (.bipush 20, 2) := by decide +kernel
theorem dX11_end_7 : decode cX11_end 7 = .ok (.if_icmp .gt 12, 3) := by decide +kernel
theorem dX11_end_10 : decode cX11_end 10 = .ok (.aload_n 0, 1) := by decide +kernel
theorem dX11_end_11 : decode cX11_end 11 = .ok (.getfield 121, 3) := by decide +kernel
theorem dX11_end_14 : decode cX11_end 14 = .ok (.bipush 20, 2) := by decide +kernel
theorem dX11_end_16 : decode cX11_end 16 = .ok (.if_icmp .ge 5, 3) := by decide +kernel
theorem dX11_end_19 : decode cX11_end 19 = .ok (.iconst (-1), 1) := by decide +kernel
theorem dX11_end_20 : decode cX11_end 20 = .ok (.ireturn, 1) := by decide +kernel
theorem dX11_end_21 : decode cX11_end 21 = .ok (.aload_n 0, 1) := by decide +kernel
theorem dX11_end_22 : decode cX11_end 22 = .ok (.aload_n 0, 1) := by decide +kernel
theorem dX11_end_23 : decode cX11_end 23 = .ok (.getfield 121, 3) := by decide +kernel
theorem dX11_end_26 : decode cX11_end 26 = .ok (.bipush 20, 2) := by decide +kernel
theorem dX11_end_28 : decode cX11_end 28 = .ok (.isub, 1) := by decide +kernel
theorem dX11_end_29 : decode cX11_end 29 = .ok (.iload_n 1, 1) := by decide +kernel
theorem dX11_end_30 : decode cX11_end 30 = .ok (.iadd, 1) := by decide +kernel
theorem dX11_end_31 : decode cX11_end 31 = .ok (.putfield 121, 3) := by decide +kernel
theorem dX11_end_34 : decode cX11_end 34 = .ok (.aload_n 0, 1) := by decide +kernel
theorem dX11_end_35 : decode cX11_end 35 = .ok (.getfield 121, 3) := by decide +kernel
theorem dX11_end_38 : decode cX11_end 38 = .ok (.ireturn, 1) := by decide +kernel
theorem dX11_byteOf_0 : decode cX11_byteOf 0 = .ok (.iload_n 1, 1) := by decide +kernel
theorem dX11_byteOf_1 : decode cX11_byteOf 1 = .ok (.ifCond .lt 11, 3) := by decide +kernel
theorem dX11_byteOf_4 : decode cX11_byteOf 4 = .ok (.iload_n 1, 1) := by decide +kernel
theorem dX11_byteOf_5 : decode cX11_byteOf 5 = .ok (.aload_n 0, 1) := by decide +kernel
theorem dX11_byteOf_6 : decode cX11_byteOf 6 = .ok (.getfield 121, 3) := by decide +kernel
theorem dX11_byteOf_9 : decode cX11_byteOf 9 = .ok (.if_icmp .lt 7, 3) := by decide +kernel
theorem dX11_byteOf_12 : decode cX11_byteOf 12 = .ok (.iconst (-1), 1) := by decide +kernel
theorem dX11_byteOf_13 : decode cX11_byteOf 13 = .ok (.goto 9, 3) := by decide +kernel
theorem dX11_byteOf_16 : decode cX11_byteOf 16 = .ok (.aload_n 0, 1) := by decide +kernel
theorem dX11_byteOf_17 : decode cX11_byteOf 17 = .ok (.getfield 17, 3) := by decide +kernel
theorem dX11_byteOf_20 : decode cX11_byteOf 20 = .ok (.iload_n 1, 1) := by decide +kernel
theorem dX11_byteOf_21 : decode cX11_byteOf 21 = .ok (.iaload, 1) := by decide +kernel
theorem dX11_byteOf_22 : decode cX11_byteOf 22 = .ok (.ireturn, 1) := by decide +kernel
theorem dX11_spoil_0 : decode cX11_spoil 0 = .ok (.iload_n 1, 1) := by decide +kernel
theorem dX11_spoil_1 : decode cX11_spoil 1 = .ok (.ifCond .lt 23, 3) := by decide +kernel
theorem dX11_spoil_4 : decode cX11_spoil 4 = .ok (.iload_n 1, 1) := by decide +kernel
theorem dX11_spoil_5 : decode cX11_spoil 5 = .ok (.aload_n 0, 1) := by decide +kernel
theorem dX11_spoil_6 : decode cX11_spoil 6 = .ok (.getfield 121, 3) := by decide +kernel
theorem dX11_spoil_9 : decode cX11_spoil 9 = .ok (.if_icmp .ge 15, 3) := by decide +kernel
theorem dX11_spoil_12 : decode cX11_spoil 12 = .ok (.iload_n 2, 1) := by decide +kernel
theorem dX11_spoil_13 : decode cX11_spoil 13 = .ok (.iconst 1, 1) := by decide +kernel
theorem dX11_spoil_14 : decode cX11_spoil 14 = .ok (.if_icmp .lt 10, 3) := by decide +kernel
theorem dX11_spoil_17 : decode cX11_spoil 17 = .ok (.iload_n 2, 1) := by decide +kernel
theorem dX11_spoil_18 : decode cX11_spoil 18 = .ok (.sipush 255, 3) := by decide +kernel
theorem dX11_spoil_21 : decode cX11_spoil 21 = .ok (.if_icmp .le 5, 3) := by decide +kernel
theorem dX11_spoil_24 : decode cX11_spoil 24 = .ok (.iconst (-1), 1) := by decide +kernel
theorem dX11_spoil_25 : decode cX11_spoil 25 = .ok (.ireturn, 1) := by decide +kernel
theorem dX11_spoil_26 : decode cX11_spoil 26 = .ok (.aload_n 0, 1) := by decide +kernel
theorem dX11_spoil_27 : decode cX11_spoil 27 = .ok (.getfield 17, 3) := by decide +kernel
theorem dX11_spoil_30 : decode cX11_spoil 30 = .ok (.iload_n 1, 1) := by decide +kernel
theorem dX11_spoil_31 : decode cX11_spoil 31 = .ok (.dup2, 1) := by decide +kernel
theorem dX11_spoil_32 : decode cX11_spoil 32 = .ok (.iaload, 1) := by decide +kernel
theorem dX11_spoil_33 : decode cX11_spoil 33 = .ok (.iload_n 2, 1) := by decide +kernel
theorem dX11_spoil_34 : decode cX11_spoil 34 = .ok (.ixor, 1) := by decide +kernel
theorem dX11_spoil_35 : decode cX11_spoil 35 = .ok (.iastore, 1) := by decide +kernel
theorem dX11_spoil_36 : decode cX11_spoil 36 = .ok (.aload_n 0, 1) := by decide +kernel
theorem dX11_spoil_37 : decode cX11_spoil 37 = .ok (.getfield 17, 3) := by decide +kernel
theorem dX11_spoil_40 : decode cX11_spoil 40 = .ok (.iload_n 1, 1) := by decide +kernel
theorem dX11_spoil_41 : decode cX11_spoil 41 = .ok (.iaload, 1) := by decide +kernel
theorem dX11_spoil_42 : decode cX11_spoil 42 = .ok (.ireturn, 1) := by decide +kernel
theorem dX11_digest_0 : decode cX11_digest 0 = .ok (.aload_n 0, 1) := by decide +kernel
theorem dX11_digest_1 : decode cX11_digest 1 = .ok (.invokevirtual 113, 3) := by decide +kernel
theorem dX11_digest_4 : decode cX11_digest 4 = .ok (.iconst 0, 1) := by decide +kernel
theorem dX11_digest_5 : decode cX11_digest 5 = .ok (.istore_n 1, 1) := by decide +kernel
theorem dX11_digest_6 : decode cX11_digest 6 = .ok (.iload_n 1, 1) := by decide +kernel
theorem dX11_digest_7 : decode cX11_digest 7 = .ok (.aload_n 0, 1) := by decide +kernel
theorem dX11_digest_8 : decode cX11_digest 8 = .ok (.getfield 121, 3) := by decide +kernel
theorem dX11_digest_11 : decode cX11_digest 11 = .ok (.if_icmp .ge 19, 3) := by decide +kernel
theorem dX11_digest_14 : decode cX11_digest 14 = .ok (.aload_n 0, 1) := by decide +kernel
theorem dX11_digest_15 : decode cX11_digest 15 = .ok (.aload_n 0, 1) := by decide +kernel
theorem dX11_digest_16 : decode cX11_digest 16 = .ok (.getfield 17, 3) := by decide +kernel
theorem dX11_digest_19 : decode cX11_digest 19 = .ok (.iload_n 1, 1) := by decide +kernel
theorem dX11_digest_20 : decode cX11_digest 20 = .ok (.iaload, 1) := by decide +kernel
theorem dX11_digest_21 : decode cX11_digest 21 = .ok (.invokevirtual 116, 3) := by decide +kernel
theorem dX11_digest_24 : decode cX11_digest 24 = .ok (.iinc 1 1, 3) := by decide +kernel
theorem dX11_digest_27 : decode cX11_digest 27 = .ok (.goto (-21), 3) := by decide +kernel
theorem dX11_digest_30 : decode cX11_digest 30 = .ok (.aload_n 0, 1) := by decide +kernel
theorem dX11_digest_31 : decode cX11_digest 31 = .ok (.getfield 108, 3) := by decide +kernel
theorem dX11_digest_34 : decode cX11_digest 34 = .ok (.lreturn, 1) := by decide +kernel
theorem dX11_hasPower_0 : decode cX11_hasPower 0 = .ok (.aload_n 0, 1) := by decide +kernel
theorem dX11_hasPower_1 : decode cX11_hasPower 1 = .ok (.getfield 13, 3) := by decide +kernel
theorem dX11_hasPower_4 : decode cX11_hasPower 4 = .ok (.ifCond .ne 30, 3) := by decide +kernel
theorem dX11_hasPower_7 : decode cX11_hasPower 7 = .ok (.aload_n 0, 1) := by decide +kernel
theorem dX11_hasPower_8 : decode cX11_hasPower 8 = .ok (.iconst (-1), 1) := by decide +kernel
theorem dX11_hasPower_9 : decode cX11_hasPower 9 = .ok (.putfield 13, 3) := by decide +kernel
theorem dX11_hasPower_12 : decode cX11_hasPower 12 = .ok (.aload_n 0, 1) := by decide +kernel
theorem dX11_hasPower_13 : decode cX11_hasPower 13 = .ok (.iconst 1, 1) := by decide +kernel
theorem dX11_hasPower_14 : decode cX11_hasPower 14 = .ok (.putfield 124, 3) := by decide +kernel
theorem dX11_hasPower_17 : decode cX11_hasPower 17 = .ok (.aload_n 0, 1) := by decide +kernel
theorem dX11_hasPower_18 : decode cX11_hasPower 18 = .ok (.iconst 0, 1) := by decide +kernel
theorem dX11_hasPower_19 : decode cX11_hasPower 19 = .ok (.putfield 128, 3) := by decide +kernel
theorem dX11_hasPower_22 : decode cX11_hasPower 22 = .ok (.aload_n 0, 1) := by decide +kernel
theorem dX11_hasPower_23 : decode cX11_hasPower 23 = .ok (.iconst 0, 1) := by decide +kernel
theorem dX11_hasPower_24 : decode cX11_hasPower 24 = .ok (.putfield 131, 3) := by decide +kernel
theorem dX11_hasPower_27 : decode cX11_hasPower 27 = .ok (.aload_n 0, 1) := by decide +kernel
theorem dX11_hasPower_28 : decode cX11_hasPower 28 = .ok (.iconst 0, 1) := by decide +kernel
theorem dX11_hasPower_29 : decode cX11_hasPower 29 = .ok (.putfield 134, 3) := by decide +kernel
theorem dX11_hasPower_32 : decode cX11_hasPower 32 = .ok (.iconst 0, 1) := by decide +kernel
theorem dX11_hasPower_33 : decode cX11_hasPower 33 = .ok (.ireturn, 1) := by decide +kernel
theorem dX11_hasPower_34 : decode cX11_hasPower 34 = .ok (.aload_n 0, 1) := by decide +kernel
theorem dX11_hasPower_35 : decode cX11_hasPower 35 = .ok (.aload_n 0, 1) := by decide +kernel
theorem dX11_hasPower_36 : decode cX11_hasPower 36 = .ok (.getfield 13, 3) := by decide +kernel
theorem dX11_hasPower_39 : decode cX11_hasPower 39 = .ok (.ifCond .le 12, 3) := by decide +kernel
theorem dX11_hasPower_42 : decode cX11_hasPower 42 = .ok (.aload_n 0, 1) := by decide +kernel
theorem dX11_hasPower_43 : decode cX11_hasPower 43 = .ok (.getfield 13, 3) := by decide +kernel
theorem dX11_hasPower_46 : decode cX11_hasPower 46 = .ok (.iconst 1, 1) := by decide +kernel
theorem dX11_hasPower_47 : decode cX11_hasPower 47 = .ok (.isub, 1) := by decide +kernel
theorem dX11_hasPower_48 : decode cX11_hasPower 48 = .ok (.goto 7, 3) := by decide +kernel
theorem dX11_hasPower_51 : decode cX11_hasPower 51 = .ok (.aload_n 0, 1) := by decide +kernel
theorem dX11_hasPower_52 : decode cX11_hasPower 52 = .ok (.getfield 13, 3) := by decide +kernel
theorem dX11_hasPower_55 : decode cX11_hasPower 55 = .ok (.putfield 13, 3) := by decide +kernel
theorem dX11_hasPower_58 : decode cX11_hasPower 58 = .ok (.iconst 1, 1) := by decide +kernel
theorem dX11_hasPower_59 : decode cX11_hasPower 59 = .ok (.ireturn, 1) := by decide +kernel
theorem dX11_writePage_0 : decode cX11_writePage 0 = .ok (.aload_n 0, 1) := by decide +kernel
theorem dX11_writePage_1 : decode cX11_writePage 1 = .ok (.getfield 124, 3) := by decide +kernel
theorem dX11_writePage_4 : decode cX11_writePage 4 = .ok (.ifCond .eq 4, 3) := by decide +kernel
theorem dX11_writePage_7 : decode cX11_writePage 7 = .ok (.return_, 1) := by decide +kernel
theorem dX11_writePage_8 : decode cX11_writePage 8 = .ok (.aload_n 0, 1) := by decide +kernel
theorem dX11_writePage_9 : decode cX11_writePage 9 = .ok (.dup, 1) := by decide +kernel
theorem dX11_writePage_10 : decode cX11_writePage 10 = .ok (.getfield 137, 3) := by decide +kernel
theorem dX11_writePage_13 : decode cX11_writePage 13 = .ok (.iconst 1, 1) := by decide +kernel
theorem dX11_writePage_14 : decode cX11_writePage 14 = .ok (.iadd, 1) := by decide +kernel
theorem dX11_writePage_15 : decode cX11_writePage 15 = .ok (.putfield 137, 3) := by decide +kernel
theorem dX11_writePage_18 : decode cX11_writePage 18 = .ok (.aload_n 0, 1) := by decide +kernel
theorem dX11_writePage_19 : decode cX11_writePage 19 = .ok (.invokevirtual 140, 3) := by decide +kernel
theorem dX11_writePage_22 : decode cX11_writePage 22 = .ok (.ifCond .eq 34, 3) := by decide +kernel
theorem dX11_writePage_25 : decode cX11_writePage 25 = .ok (.iconst 0, 1) := by decide +kernel
theorem dX11_writePage_26 : decode cX11_writePage 26 = .ok (.istore_n 2, 1) := by decide +kernel
theorem dX11_writePage_27 : decode cX11_writePage 27 = .ok (.iload_n 2, 1) := by decide +kernel
theorem dX11_writePage_28 : decode cX11_writePage 28 = .ok (.bipush 32, 2) := by decide +kernel
theorem dX11_writePage_30 : decode cX11_writePage 30 = .ok (.if_icmp .ge 26, 3) := by decide +kernel
theorem dX11_writePage_33 : decode cX11_writePage 33 = .ok (.aload_n 0, 1) := by decide +kernel
theorem dX11_writePage_34 : decode cX11_writePage 34 = .ok (.getfield 7, 3) := by decide +kernel
theorem dX11_writePage_37 : decode cX11_writePage 37 = .ok (.iload_n 1, 1) := by decide +kernel
theorem dX11_writePage_38 : decode cX11_writePage 38 = .ok (.iload_n 2, 1) := by decide +kernel
theorem dX11_writePage_39 : decode cX11_writePage 39 = .ok (.iadd, 1) := by decide +kernel
theorem dX11_writePage_40 : decode cX11_writePage 40 = .ok (.dup2, 1) := by decide +kernel
theorem dX11_writePage_41 : decode cX11_writePage 41 = .ok (.iaload, 1) := by decide +kernel
theorem dX11_writePage_42 : decode cX11_writePage 42 = .ok (.aload_n 0, 1) := by decide +kernel
theorem dX11_writePage_43 : decode cX11_writePage 43 = .ok (.getfield 20, 3) := by decide +kernel
theorem dX11_writePage_46 : decode cX11_writePage 46 = .ok (.iload_n 2, 1) := by decide +kernel
theorem dX11_writePage_47 : decode cX11_writePage 47 = .ok (.iaload, 1) := by decide +kernel
theorem dX11_writePage_48 : decode cX11_writePage 48 = .ok (.iand, 1) := by decide +kernel
theorem dX11_writePage_49 : decode cX11_writePage 49 = .ok (.iastore, 1) := by decide +kernel
theorem dX11_writePage_50 : decode cX11_writePage 50 = .ok (.iinc 2 1, 3) := by decide +kernel
theorem dX11_writePage_53 : decode cX11_writePage 53 = .ok (.goto (-26), 3) := by decide +kernel
theorem dX11_writePage_56 : decode cX11_writePage 56 = .ok (.return_, 1) := by decide +kernel
theorem dX11_erase_0 : decode cX11_erase 0 = .ok (.aload_n 0, 1) := by decide +kernel
theorem dX11_erase_1 : decode cX11_erase 1 = .ok (.getfield 124, 3) := by decide +kernel
theorem dX11_erase_4 : decode cX11_erase 4 = .ok (.ifCond .eq 4, 3) := by decide +kernel
theorem dX11_erase_7 : decode cX11_erase 7 = .ok (.return_, 1) := by decide +kernel
theorem dX11_erase_8 : decode cX11_erase 8 = .ok (.aload_n 0, 1) := by decide +kernel
theorem dX11_erase_9 : decode cX11_erase 9 = .ok (.dup, 1) := by decide +kernel
theorem dX11_erase_10 : decode cX11_erase 10 = .ok (.getfield 144, 3) := by decide +kernel
theorem dX11_erase_13 : decode cX11_erase 13 = .ok (.iconst 1, 1) := by decide +kernel
theorem dX11_erase_14 : decode cX11_erase 14 = .ok (.iadd, 1) := by decide +kernel
theorem dX11_erase_15 : decode cX11_erase 15 = .ok (.putfield 144, 3) := by decide +kernel
theorem dX11_erase_18 : decode cX11_erase 18 = .ok (.aload_n 0, 1) := by decide +kernel
theorem dX11_erase_19 : decode cX11_erase 19 = .ok (.invokevirtual 140, 3) := by decide +kernel
theorem dX11_erase_22 : decode cX11_erase 22 = .ok (.istore_n 2, 1) := by decide +kernel
theorem dX11_erase_23 : decode cX11_erase 23 = .ok (.iconst 0, 1) := by decide +kernel
theorem dX11_erase_24 : decode cX11_erase 24 = .ok (.istore_n 3, 1) := by decide +kernel
theorem dX11_erase_25 : decode cX11_erase 25 = .ok (.iload_n 3, 1) := by decide +kernel
theorem dX11_erase_26 : decode cX11_erase 26 = .ok (.sipush 128, 3) := by decide +kernel
theorem dX11_erase_29 : decode cX11_erase 29 = .ok (.if_icmp .ge 69, 3) := by decide +kernel
theorem dX11_erase_32 : decode cX11_erase 32 = .ok (.sipush 128, 3) := by decide +kernel
theorem dX11_erase_35 : decode cX11_erase 35 = .ok (.iload_n 1, 1) := by decide +kernel
theorem dX11_erase_36 : decode cX11_erase 36 = .ok (.imul, 1) := by decide +kernel
theorem dX11_erase_37 : decode cX11_erase 37 = .ok (.iload_n 3, 1) := by decide +kernel
theorem dX11_erase_38 : decode cX11_erase 38 = .ok (.iadd, 1) := by decide +kernel
theorem dX11_erase_39 : decode cX11_erase 39 = .ok (.istore 4, 2) := by decide +kernel
theorem dX11_erase_41 : decode cX11_erase 41 = .ok (.iload_n 2, 1) := by decide +kernel
theorem dX11_erase_42 : decode cX11_erase 42 = .ok (.ifCond .eq 7, 3) := by decide +kernel
theorem dX11_erase_45 : decode cX11_erase 45 = .ok (.iconst 0, 1) := by decide +kernel
theorem dX11_erase_46 : decode cX11_erase 46 = .ok (.goto 18, 3) := by decide +kernel
theorem dX11_erase_49 : decode cX11_erase 49 = .ok (.aload_n 0, 1) := by decide +kernel
theorem dX11_erase_50 : decode cX11_erase 50 = .ok (.getfield 147, 3) := by decide +kernel
theorem dX11_erase_53 : decode cX11_erase 53 = .ok (.bipush 8, 2) := by decide +kernel
theorem dX11_erase_55 : decode cX11_erase 55 = .ok (.iload_n 3, 1) := by decide +kernel
theorem dX11_erase_56 : decode cX11_erase 56 = .ok (.iconst 4, 1) := by decide +kernel
theorem dX11_erase_57 : decode cX11_erase 57 = .ok (.irem, 1) := by decide +kernel
theorem dX11_erase_58 : decode cX11_erase 58 = .ok (.imul, 1) := by decide +kernel
theorem dX11_erase_59 : decode cX11_erase 59 = .ok (.ishr, 1) := by decide +kernel
theorem dX11_erase_60 : decode cX11_erase 60 = .ok (.sipush 255, 3) := by decide +kernel
theorem dX11_erase_63 : decode cX11_erase 63 = .ok (.iand, 1) := by decide +kernel
theorem dX11_erase_64 : decode cX11_erase 64 = .ok (.istore 5, 2) := by decide +kernel
theorem dX11_erase_66 : decode cX11_erase 66 = .ok (.aload_n 0, 1) := by decide +kernel
theorem dX11_erase_67 : decode cX11_erase 67 = .ok (.getfield 7, 3) := by decide +kernel
theorem dX11_erase_70 : decode cX11_erase 70 = .ok (.iload 4, 2) := by decide +kernel
theorem dX11_erase_72 : decode cX11_erase 72 = .ok (.aload_n 0, 1) := by decide +kernel
theorem dX11_erase_73 : decode cX11_erase 73 = .ok (.getfield 7, 3) := by decide +kernel
theorem dX11_erase_76 : decode cX11_erase 76 = .ok (.iload 4, 2) := by decide +kernel
theorem dX11_erase_78 : decode cX11_erase 78 = .ok (.iaload, 1) := by decide +kernel
theorem dX11_erase_79 : decode cX11_erase 79 = .ok (.iload 5, 2) := by decide +kernel
theorem dX11_erase_81 : decode cX11_erase 81 = .ok (.iand, 1) := by decide +kernel
theorem dX11_erase_82 : decode cX11_erase 82 = .ok (.sipush 255, 3) := by decide +kernel
theorem dX11_erase_85 : decode cX11_erase 85 = .ok (.iload 5, 2) := by decide +kernel
theorem dX11_erase_87 : decode cX11_erase 87 = .ok (.iconst (-1), 1) := by decide +kernel
theorem dX11_erase_88 : decode cX11_erase 88 = .ok (.ixor, 1) := by decide +kernel
theorem dX11_erase_89 : decode cX11_erase 89 = .ok (.iand, 1) := by decide +kernel
theorem dX11_erase_90 : decode cX11_erase 90 = .ok (.ior, 1) := by decide +kernel
theorem dX11_erase_91 : decode cX11_erase 91 = .ok (.iastore, 1) := by decide +kernel
theorem dX11_erase_92 : decode cX11_erase 92 = .ok (.iinc 3 1, 3) := by decide +kernel
theorem dX11_erase_95 : decode cX11_erase 95 = .ok (.goto (-70), 3) := by decide +kernel
theorem dX11_erase_98 : decode cX11_erase 98 = .ok (.return_, 1) := by decide +kernel
theorem dX11_flash_0 : decode cX11_flash 0 = .ok (.iload_n 1, 1) := by decide +kernel
theorem dX11_flash_1 : decode cX11_flash 1 = .ok (.ifCond .lt 19, 3) := by decide +kernel
theorem dX11_flash_4 : decode cX11_flash 4 = .ok (.iload_n 1, 1) := by decide +kernel
theorem dX11_flash_5 : decode cX11_flash 5 = .ok (.bipush 25, 2) := by decide +kernel
theorem dX11_flash_7 : decode cX11_flash 7 = .ok (.if_icmp .gt 13, 3) := by decide +kernel
theorem dX11_flash_10 : decode cX11_flash 10 = .ok (.iload_n 2, 1) := by decide +kernel
theorem dX11_flash_11 : decode cX11_flash 11 = .ok (.ifCond .lt 9, 3) := by decide +kernel
theorem dX11_flash_14 : decode cX11_flash 14 = .ok (.iload_n 2, 1) := by decide +kernel
theorem dX11_flash_15 : decode cX11_flash 15 = .ok (.bipush 127, 2) := by decide +kernel
theorem dX11_flash_17 : decode cX11_flash 17 = .ok (.if_icmp .le 7, 3) := by decide +kernel
theorem dX11_flash_20 : decode cX11_flash 20 = .ok (.iconst (-1), 1) := by decide +kernel
theorem dX11_flash_21 : decode cX11_flash 21 = .ok (.goto 15, 3) := by decide +kernel
theorem dX11_flash_24 : decode cX11_flash 24 = .ok (.aload_n 0, 1) := by decide +kernel
theorem dX11_flash_25 : decode cX11_flash 25 = .ok (.getfield 7, 3) := by decide +kernel
theorem dX11_flash_28 : decode cX11_flash 28 = .ok (.sipush 128, 3) := by decide +kernel
theorem dX11_flash_31 : decode cX11_flash 31 = .ok (.iload_n 1, 1) := by decide +kernel
theorem dX11_flash_32 : decode cX11_flash 32 = .ok (.imul, 1) := by decide +kernel
theorem dX11_flash_33 : decode cX11_flash 33 = .ok (.iload_n 2, 1) := by decide +kernel
theorem dX11_flash_34 : decode cX11_flash 34 = .ok (.iadd, 1) := by decide +kernel
theorem dX11_flash_35 : decode cX11_flash 35 = .ok (.iaload, 1) := by decide +kernel
theorem dX11_flash_36 : decode cX11_flash 36 = .ok (.ireturn, 1) := by decide +kernel
theorem dX11_wide_0 : decode cX11_wide 0 = .ok (.iconst 0, 1) := by decide +kernel
theorem dX11_wide_1 : decode cX11_wide 1 = .ok (.istore_n 3, 1) := by decide +kernel
theorem dX11_wide_2 : decode cX11_wide 2 = .ok (.iconst 0, 1) := by decide +kernel
theorem dX11_wide_3 : decode cX11_wide 3 = .ok (.istore 4, 2) := by decide +kernel
theorem dX11_wide_5 : decode cX11_wide 5 = .ok (.iload 4, 2) := by decide +kernel
theorem dX11_wide_7 : decode cX11_wide 7 = .ok (.iload_n 2, 1) := by decide +kernel
theorem dX11_wide_8 : decode cX11_wide 8 = .ok (.if_icmp .ge 24, 3) := by decide +kernel
theorem dX11_wide_11 : decode cX11_wide 11 = .ok (.iload_n 3, 1) := by decide +kernel
theorem dX11_wide_12 : decode cX11_wide 12 = .ok (.bipush 8, 2) := by decide +kernel
theorem dX11_wide_14 : decode cX11_wide 14 = .ok (.ishl, 1) := by decide +kernel
theorem dX11_wide_15 : decode cX11_wide 15 = .ok (.aload_n 0, 1) := by decide +kernel
theorem dX11_wide_16 : decode cX11_wide 16 = .ok (.getfield 7, 3) := by decide +kernel
theorem dX11_wide_19 : decode cX11_wide 19 = .ok (.iload_n 1, 1) := by decide +kernel
theorem dX11_wide_20 : decode cX11_wide 20 = .ok (.iload 4, 2) := by decide +kernel
theorem dX11_wide_22 : decode cX11_wide 22 = .ok (.iadd, 1) := by decide +kernel
theorem dX11_wide_23 : decode cX11_wide 23 = .ok (.iaload, 1) := by decide +kernel
theorem dX11_wide_24 : decode cX11_wide 24 = .ok (.ior, 1) := by decide +kernel
theorem dX11_wide_25 : decode cX11_wide 25 = .ok (.istore_n 3, 1) := by decide +kernel
theorem dX11_wide_26 : decode cX11_wide 26 = .ok (.iinc 4 1, 3) := by decide +kernel
theorem dX11_wide_29 : decode cX11_wide 29 = .ok (.goto (-24), 3) := by decide +kernel
theorem dX11_wide_32 : decode cX11_wide 32 = .ok (.iload_n 3, 1) := by decide +kernel
theorem dX11_wide_33 : decode cX11_wide 33 = .ok (.ireturn, 1) := by decide +kernel
theorem dX11_checkOf_0 : decode cX11_checkOf 0 = .ok (.aload_n 0, 1) := by decide +kernel
theorem dX11_checkOf_1 : decode cX11_checkOf 1 = .ok (.invokevirtual 113, 3) := by decide +kernel
theorem dX11_checkOf_4 : decode cX11_checkOf 4 = .ok (.iconst 0, 1) := by decide +kernel
theorem dX11_checkOf_5 : decode cX11_checkOf 5 = .ok (.istore_n 3, 1) := by decide +kernel
theorem dX11_checkOf_6 : decode cX11_checkOf 6 = .ok (.iload_n 3, 1) := by decide +kernel
theorem dX11_checkOf_7 : decode cX11_checkOf 7 = .ok (.iload_n 2, 1) := by decide +kernel
theorem dX11_checkOf_8 : decode cX11_checkOf 8 = .ok (.if_icmp .ge 21, 3) := by decide +kernel
theorem dX11_checkOf_11 : decode cX11_checkOf 11 = .ok (.aload_n 0, 1) := by decide +kernel
theorem dX11_checkOf_12 : decode cX11_checkOf 12 = .ok (.aload_n 0, 1) := by decide +kernel
theorem dX11_checkOf_13 : decode cX11_checkOf 13 = .ok (.getfield 7, 3) := by decide +kernel
theorem dX11_checkOf_16 : decode cX11_checkOf 16 = .ok (.iload_n 1, 1) := by decide +kernel
theorem dX11_checkOf_17 : decode cX11_checkOf 17 = .ok (.iload_n 3, 1) := by decide +kernel
theorem dX11_checkOf_18 : decode cX11_checkOf 18 = .ok (.iadd, 1) := by decide +kernel
theorem dX11_checkOf_19 : decode cX11_checkOf 19 = .ok (.iaload, 1) := by decide +kernel
theorem dX11_checkOf_20 : decode cX11_checkOf 20 = .ok (.invokevirtual 116, 3) := by decide +kernel
theorem dX11_checkOf_23 : decode cX11_checkOf 23 = .ok (.iinc 3 1, 3) := by decide +kernel
theorem dX11_checkOf_26 : decode cX11_checkOf 26 = .ok (.goto (-20), 3) := by decide +kernel
theorem dX11_checkOf_29 : decode cX11_checkOf 29 = .ok (.aload_n 0, 1) := by decide +kernel
theorem dX11_checkOf_30 : decode cX11_checkOf 30 = .ok (.invokevirtual 150, 3) := by decide +kernel
theorem dX11_checkOf_33 : decode cX11_checkOf 33 = .ok (.ireturn, 1) := by decide +kernel
theorem dX11_checkNow_0 : decode cX11_checkNow 0 = .ok (.aload_n 0, 1) := by decide +kernel
theorem dX11_checkNow_1 : decode cX11_checkNow 1 = .ok (.getfield 108, 3) := by decide +kernel
theorem dX11_checkNow_4 : decode cX11_checkNow 4 = .ok (.bipush 32, 2) := by decide +kernel
theorem dX11_checkNow_6 : decode cX11_checkNow 6 = .ok (.lushr, 1) := by decide +kernel
theorem dX11_checkNow_7 : decode cX11_checkNow 7 = .ok (.l2i, 1) := by decide +kernel
theorem dX11_checkNow_8 : decode cX11_checkNow 8 = .ok (.istore_n 1, 1) := by decide +kernel
theorem dX11_checkNow_9 : decode cX11_checkNow 9 = .ok (.iload_n 1, 1) := by decide +kernel
theorem dX11_checkNow_10 : decode cX11_checkNow 10 = .ok (.iconst (-1), 1) := by decide +kernel
theorem dX11_checkNow_11 : decode cX11_checkNow 11 = .ok (.if_icmp .ne 8, 3) := by decide +kernel
theorem dX11_checkNow_14 : decode cX11_checkNow 14 = .ok (.bipush (-2), 2) := by decide +kernel
theorem dX11_checkNow_16 : decode cX11_checkNow 16 = .ok (.goto 4, 3) := by decide +kernel
theorem dX11_checkNow_19 : decode cX11_checkNow 19 = .ok (.iload_n 1, 1) := by decide +kernel
theorem dX11_checkNow_20 : decode cX11_checkNow 20 = .ok (.ireturn, 1) := by decide +kernel
theorem dX11_six_0 : decode cX11_six 0 = .ok (.lconst 0, 1) := by decide +kernel
theorem dX11_six_1 : decode cX11_six 1 = .ok (.lstore_n 2, 1) := by decide +kernel
theorem dX11_six_2 : decode cX11_six 2 = .ok (.iconst 0, 1) := by decide +kernel
theorem dX11_six_3 : decode cX11_six 3 = .ok (.istore 4, 2) := by decide +kernel
theorem dX11_six_5 : decode cX11_six 5 = .ok (.iload 4, 2) := by decide +kernel
theorem dX11_six_7 : decode cX11_six 7 = .ok (.bipush 6, 2) := by decide +kernel
theorem dX11_six_9 : decode cX11_six 9 = .ok (.if_icmp .ge 25, 3) := by decide +kernel
theorem dX11_six_12 : decode cX11_six 12 = .ok (.lload_n 2, 1) := by decide +kernel
theorem dX11_six_13 : decode cX11_six 13 = .ok (.bipush 8, 2) := by decide +kernel
theorem dX11_six_15 : decode cX11_six 15 = .ok (.lshl, 1) := by decide +kernel
theorem dX11_six_16 : decode cX11_six 16 = .ok (.aload_n 0, 1) := by decide +kernel
theorem dX11_six_17 : decode cX11_six 17 = .ok (.getfield 7, 3) := by decide +kernel
theorem dX11_six_20 : decode cX11_six 20 = .ok (.iload_n 1, 1) := by decide +kernel
theorem dX11_six_21 : decode cX11_six 21 = .ok (.iload 4, 2) := by decide +kernel
theorem dX11_six_23 : decode cX11_six 23 = .ok (.iadd, 1) := by decide +kernel
theorem dX11_six_24 : decode cX11_six 24 = .ok (.iaload, 1) := by decide +kernel
theorem dX11_six_25 : decode cX11_six 25 = .ok (.i2l, 1) := by decide +kernel
theorem dX11_six_26 : decode cX11_six 26 = .ok (.lor, 1) := by decide +kernel
theorem dX11_six_27 : decode cX11_six 27 = .ok (.lstore_n 2, 1) := by decide +kernel
theorem dX11_six_28 : decode cX11_six 28 = .ok (.iinc 4 1, 3) := by decide +kernel
theorem dX11_six_31 : decode cX11_six 31 = .ok (.goto (-26), 3) := by decide +kernel
theorem dX11_six_34 : decode cX11_six 34 = .ok (.lload_n 2, 1) := by decide +kernel
theorem dX11_six_35 : decode cX11_six 35 = .ok (.lreturn, 1) := by decide +kernel
theorem dX11_isState_0 : decode cX11_isState 0 = .ok (.aload_n 0, 1) := by decide +kernel
theorem dX11_isState_1 : decode cX11_isState 1 = .ok (.iload_n 1, 1) := by decide +kernel
theorem dX11_isState_2 : decode cX11_isState 2 = .ok (.bipush 7, 2) := by decide +kernel
theorem dX11_isState_4 : decode cX11_isState 4 = .ok (.iadd, 1) := by decide +kernel
theorem dX11_isState_5 : decode cX11_isState 5 = .ok (.iconst 2, 1) := by decide +kernel
theorem dX11_isState_6 : decode cX11_isState 6 = .ok (.invokevirtual 154, 3) := by decide +kernel
theorem dX11_isState_9 : decode cX11_isState 9 = .ok (.istore_n 2, 1) := by decide +kernel
theorem dX11_isState_10 : decode cX11_isState 10 = .ok (.aload_n 0, 1) := by decide +kernel
theorem dX11_isState_11 : decode cX11_isState 11 = .ok (.iload_n 1, 1) := by decide +kernel
theorem dX11_isState_12 : decode cX11_isState 12 = .ok (.bipush 18, 2) := by decide +kernel
theorem dX11_isState_14 : decode cX11_isState 14 = .ok (.iadd, 1) := by decide +kernel
theorem dX11_isState_15 : decode cX11_isState 15 = .ok (.iconst 2, 1) := by decide +kernel
theorem dX11_isState_16 : decode cX11_isState 16 = .ok (.invokevirtual 154, 3) := by decide +kernel
theorem dX11_isState_19 : decode cX11_isState 19 = .ok (.istore_n 3, 1) := by decide +kernel
theorem dX11_isState_20 : decode cX11_isState 20 = .ok (.aload_n 0, 1) := by decide +kernel
theorem dX11_isState_21 : decode cX11_isState 21 = .ok (.getfield 7, 3) := by decide +kernel
theorem dX11_isState_24 : decode cX11_isState 24 = .ok (.iload_n 1, 1) := by decide +kernel
theorem dX11_isState_25 : decode cX11_isState 25 = .ok (.bipush 15, 2) := by decide +kernel
theorem dX11_isState_27 : decode cX11_isState 27 = .ok (.iadd, 1) := by decide +kernel
theorem dX11_isState_28 : decode cX11_isState 28 = .ok (.iaload, 1) := by decide +kernel
theorem dX11_isState_29 : decode cX11_isState 29 = .ok (.istore 4, 2) := by decide +kernel
theorem dX11_isState_31 : decode cX11_isState 31 = .ok (.aload_n 0, 1) := by decide +kernel
theorem dX11_isState_32 : decode cX11_isState 32 = .ok (.iload_n 1, 1) := by decide +kernel
theorem dX11_isState_33 : decode cX11_isState 33 = .ok (.iconst 4, 1) := by decide +kernel
theorem dX11_isState_34 : decode cX11_isState 34 = .ok (.invokevirtual 154, 3) := by decide +kernel
theorem dX11_isState_37 : decode cX11_isState 37 = .ok (.iconst 1, 1) := by decide +kernel
theorem dX11_isState_38 : decode cX11_isState 38 = .ok (.if_icmp .lt 49, 3) := by decide +kernel
theorem dX11_isState_41 : decode cX11_isState 41 = .ok (.aload_n 0, 1) := by decide +kernel
theorem dX11_isState_42 : decode cX11_isState 42 = .ok (.getfield 7, 3) := by decide +kernel
theorem dX11_isState_45 : decode cX11_isState 45 = .ok (.iload_n 1, 1) := by decide +kernel
theorem dX11_isState_46 : decode cX11_isState 46 = .ok (.iconst 4, 1) := by decide +kernel
theorem dX11_isState_47 : decode cX11_isState 47 = .ok (.iadd, 1) := by decide +kernel
theorem dX11_isState_48 : decode cX11_isState 48 = .ok (.iaload, 1) := by decide +kernel
theorem dX11_isState_49 : decode cX11_isState 49 = .ok (.iconst 1, 1) := by decide +kernel
theorem dX11_isState_50 : decode cX11_isState 50 = .ok (.if_icmp .gt 37, 3) := by decide +kernel
theorem dX11_isState_53 : decode cX11_isState 53 = .ok (.aload_n 0, 1) := by decide +kernel
theorem dX11_isState_54 : decode cX11_isState 54 = .ok (.iload_n 1, 1) := by decide +kernel
theorem dX11_isState_55 : decode cX11_isState 55 = .ok (.iconst 5, 1) := by decide +kernel
theorem dX11_isState_56 : decode cX11_isState 56 = .ok (.iadd, 1) := by decide +kernel
theorem dX11_isState_57 : decode cX11_isState 57 = .ok (.iconst 2, 1) := by decide +kernel
theorem dX11_isState_58 : decode cX11_isState 58 = .ok (.invokevirtual 154, 3) := by decide +kernel
theorem dX11_isState_61 : decode cX11_isState 61 = .ok (.iconst 1, 1) := by decide +kernel
theorem dX11_isState_62 : decode cX11_isState 62 = .ok (.if_icmp .lt 25, 3) := by decide +kernel
theorem dX11_isState_65 : decode cX11_isState 65 = .ok (.iload_n 2, 1) := by decide +kernel
theorem dX11_isState_66 : decode cX11_isState 66 = .ok (.iconst 1, 1) := by decide +kernel
theorem dX11_isState_67 : decode cX11_isState 67 = .ok (.if_icmp .lt 20, 3) := by decide +kernel
theorem dX11_isState_70 : decode cX11_isState 70 = .ok (.iload_n 2, 1) := by decide +kernel
theorem dX11_isState_71 : decode cX11_isState 71 = .ok (.sipush 1024, 3) := by decide +kernel
theorem dX11_isState_74 : decode cX11_isState 74 = .ok (.if_icmp .gt 13, 3) := by decide +kernel
theorem dX11_isState_77 : decode cX11_isState 77 = .ok (.iload 4, 2) := by decide +kernel
theorem dX11_isState_79 : decode cX11_isState 79 = .ok (.iconst 3, 1) := by decide +kernel
theorem dX11_isState_80 : decode cX11_isState 80 = .ok (.if_icmp .gt 7, 3) := by decide +kernel
theorem dX11_isState_83 : decode cX11_isState 83 = .ok (.iconst 1, 1) := by decide +kernel
theorem dX11_isState_84 : decode cX11_isState 84 = .ok (.goto 4, 3) := by decide +kernel
theorem dX11_isState_87 : decode cX11_isState 87 = .ok (.iconst 0, 1) := by decide +kernel
theorem dX11_isState_88 : decode cX11_isState 88 = .ok (.istore 5, 2) := by decide +kernel
theorem dX11_isState_90 : decode cX11_isState 90 = .ok (.iload 5, 2) := by decide +kernel
theorem dX11_isState_92 : decode cX11_isState 92 = .ok (.ifCond .eq 44, 3) := by decide +kernel
theorem dX11_isState_95 : decode cX11_isState 95 = .ok (.iload 4, 2) := by decide +kernel
theorem dX11_isState_97 : decode cX11_isState 97 = .ok (.ifCond .ne 10, 3) := by decide +kernel
theorem dX11_isState_100 : decode cX11_isState 100 = .ok (.iload_n 3, 1) := by decide +kernel
theorem dX11_isState_101 : decode cX11_isState 101 = .ok (.ifCond .ne 35, 3) := by decide +kernel
theorem dX11_isState_104 : decode cX11_isState 104 = .ok (.goto 28, 3) := by decide +kernel
theorem dX11_isState_107 : decode cX11_isState 107 = .ok (.aload_n 0, 1) := by decide +kernel
theorem dX11_isState_108 : decode cX11_isState 108 = .ok (.iload_n 1, 1) := by decide +kernel
theorem dX11_isState_109 : decode cX11_isState 109 = .ok (.bipush 16, 2) := by decide +kernel
theorem dX11_isState_111 : decode cX11_isState 111 = .ok (.iadd, 1) := by decide +kernel
theorem dX11_isState_112 : decode cX11_isState 112 = .ok (.iconst 2, 1) := by decide +kernel
theorem dX11_isState_113 : decode cX11_isState 113 = .ok (.invokevirtual 154, 3) := by decide +kernel
theorem dX11_isState_116 : decode cX11_isState 116 = .ok (.iconst 1, 1) := by decide +kernel
theorem dX11_isState_117 : decode cX11_isState 117 = .ok (.if_icmp .lt 19, 3) := by decide +kernel
theorem dX11_isState_120 : decode cX11_isState 120 = .ok (.iload_n 3, 1) := by decide +kernel
theorem dX11_isState_121 : decode cX11_isState 121 = .ok (.iconst 1, 1) := by decide +kernel
theorem dX11_isState_122 : decode cX11_isState 122 = .ok (.if_icmp .lt 14, 3) := by decide +kernel
theorem dX11_isState_125 : decode cX11_isState 125 = .ok (.iload_n 3, 1) := by decide +kernel
theorem dX11_isState_126 : decode cX11_isState 126 = .ok (.sipush 1024, 3) := by decide +kernel
theorem dX11_isState_129 : decode cX11_isState 129 = .ok (.if_icmp .gt 7, 3) := by decide +kernel
theorem dX11_isState_132 : decode cX11_isState 132 = .ok (.iconst 1, 1) := by decide +kernel
theorem dX11_isState_133 : decode cX11_isState 133 = .ok (.goto 4, 3) := by decide +kernel
theorem dX11_isState_136 : decode cX11_isState 136 = .ok (.iconst 0, 1) := by decide +kernel
theorem dX11_isState_137 : decode cX11_isState 137 = .ok (.istore 5, 2) := by decide +kernel
theorem dX11_isState_139 : decode cX11_isState 139 = .ok (.iload 5, 2) := by decide +kernel
theorem dX11_isState_141 : decode cX11_isState 141 = .ok (.ifCond .eq 26, 3) := by decide +kernel
theorem dX11_isState_144 : decode cX11_isState 144 = .ok (.aload_n 0, 1) := by decide +kernel
theorem dX11_isState_145 : decode cX11_isState 145 = .ok (.iload_n 1, 1) := by decide +kernel
theorem dX11_isState_146 : decode cX11_isState 146 = .ok (.bipush 28, 2) := by decide +kernel
theorem dX11_isState_148 : decode cX11_isState 148 = .ok (.invokevirtual 158, 3) := by decide +kernel
theorem dX11_isState_151 : decode cX11_isState 151 = .ok (.aload_n 0, 1) := by decide +kernel
theorem dX11_isState_152 : decode cX11_isState 152 = .ok (.iload_n 1, 1) := by decide +kernel
theorem dX11_isState_153 : decode cX11_isState 153 = .ok (.bipush 28, 2) := by decide +kernel
theorem dX11_isState_155 : decode cX11_isState 155 = .ok (.iadd, 1) := by decide +kernel
theorem dX11_isState_156 : decode cX11_isState 156 = .ok (.iconst 4, 1) := by decide +kernel
theorem dX11_isState_157 : decode cX11_isState 157 = .ok (.invokevirtual 154, 3) := by decide +kernel
theorem dX11_isState_160 : decode cX11_isState 160 = .ok (.if_icmp .ne 7, 3) := by decide +kernel
theorem dX11_isState_163 : decode cX11_isState 163 = .ok (.iconst 1, 1) := by decide +kernel
theorem dX11_isState_164 : decode cX11_isState 164 = .ok (.goto 4, 3) := by decide +kernel
theorem dX11_isState_167 : decode cX11_isState 167 = .ok (.iconst 0, 1) := by decide +kernel
theorem dX11_isState_168 : decode cX11_isState 168 = .ok (.ireturn, 1) := by decide +kernel
theorem dX11_layState_0 : decode cX11_layState 0 = .ok (.aload_n 0, 1) := by decide +kernel
theorem dX11_layState_1 : decode cX11_layState 1 = .ok (.bipush (-2), 2) := by decide +kernel
theorem dX11_layState_3 : decode cX11_layState 3 = .ok (.putfield 161, 3) := by decide +kernel
theorem dX11_layState_6 : decode cX11_layState 6 = .ok (.aload_n 0, 1) := by decide +kernel
theorem dX11_layState_7 : decode cX11_layState 7 = .ok (.iconst 0, 1) := by decide +kernel
theorem dX11_layState_8 : decode cX11_layState 8 = .ok (.putfield 96, 3) := by decide +kernel
theorem dX11_layState_11 : decode cX11_layState 11 = .ok (.iconst 0, 1) := by decide +kernel
theorem dX11_layState_12 : decode cX11_layState 12 = .ok (.istore_n 1, 1) := by decide +kernel
theorem dX11_layState_13 : decode cX11_layState 13 = .ok (.iload_n 1, 1) := by decide +kernel
theorem dX11_layState_14 : decode cX11_layState 14 = .ok (.bipush 8, 2) := by decide +kernel
theorem dX11_layState_16 : decode cX11_layState 16 = .ok (.if_icmp .ge 63, 3) := by decide +kernel
theorem dX11_layState_19 : decode cX11_layState 19 = .ok (.sipush 1024, 3) := by decide +kernel
theorem dX11_layState_22 : decode cX11_layState 22 = .ok (.bipush 32, 2) := by decide +kernel
theorem dX11_layState_24 : decode cX11_layState 24 = .ok (.iload_n 1, 1) := by decide +kernel
theorem dX11_layState_25 : decode cX11_layState 25 = .ok (.imul, 1) := by decide +kernel
theorem dX11_layState_26 : decode cX11_layState 26 = .ok (.iadd, 1) := by decide +kernel
theorem dX11_layState_27 : decode cX11_layState 27 = .ok (.istore_n 2, 1) := by decide +kernel
theorem dX11_layState_28 : decode cX11_layState 28 = .ok (.aload_n 0, 1) := by decide +kernel
theorem dX11_layState_29 : decode cX11_layState 29 = .ok (.iload_n 2, 1) := by decide +kernel
theorem dX11_layState_30 : decode cX11_layState 30 = .ok (.invokevirtual 164, 3) := by decide +kernel
theorem dX11_layState_33 : decode cX11_layState 33 = .ok (.ifCond .eq 40, 3) := by decide +kernel
theorem dX11_layState_36 : decode cX11_layState 36 = .ok (.aload_n 0, 1) := by decide +kernel
theorem dX11_layState_37 : decode cX11_layState 37 = .ok (.getfield 161, 3) := by decide +kernel
theorem dX11_layState_40 : decode cX11_layState 40 = .ok (.bipush (-2), 2) := by decide +kernel
theorem dX11_layState_42 : decode cX11_layState 42 = .ok (.if_icmp .eq 16, 3) := by decide +kernel
theorem dX11_layState_45 : decode cX11_layState 45 = .ok (.aload_n 0, 1) := by decide +kernel
theorem dX11_layState_46 : decode cX11_layState 46 = .ok (.iload_n 2, 1) := by decide +kernel
theorem dX11_layState_47 : decode cX11_layState 47 = .ok (.iconst 4, 1) := by decide +kernel
theorem dX11_layState_48 : decode cX11_layState 48 = .ok (.invokevirtual 154, 3) := by decide +kernel
theorem dX11_layState_51 : decode cX11_layState 51 = .ok (.aload_n 0, 1) := by decide +kernel
theorem dX11_layState_52 : decode cX11_layState 52 = .ok (.getfield 96, 3) := by decide +kernel
theorem dX11_layState_55 : decode cX11_layState 55 = .ok (.if_icmp .le 18, 3) := by decide +kernel
theorem dX11_layState_58 : decode cX11_layState 58 = .ok (.aload_n 0, 1) := by decide +kernel
theorem dX11_layState_59 : decode cX11_layState 59 = .ok (.iload_n 2, 1) := by decide +kernel
theorem dX11_layState_60 : decode cX11_layState 60 = .ok (.putfield 161, 3) := by decide +kernel
theorem dX11_layState_63 : decode cX11_layState 63 = .ok (.aload_n 0, 1) := by decide +kernel
theorem dX11_layState_64 : decode cX11_layState 64 = .ok (.aload_n 0, 1) := by decide +kernel
theorem dX11_layState_65 : decode cX11_layState 65 = .ok (.iload_n 2, 1) := by decide +kernel
theorem dX11_layState_66 : decode cX11_layState 66 = .ok (.iconst 4, 1) := by decide +kernel
theorem dX11_layState_67 : decode cX11_layState 67 = .ok (.invokevirtual 154, 3) := by decide +kernel
theorem dX11_layState_70 : decode cX11_layState 70 = .ok (.putfield 96, 3) := by decide +kernel
theorem dX11_layState_73 : decode cX11_layState 73 = .ok (.iinc 1 1, 3) := by decide +kernel
theorem dX11_layState_76 : decode cX11_layState 76 = .ok (.goto (-63), 3) := by decide +kernel
theorem dX11_layState_79 : decode cX11_layState 79 = .ok (.aload_n 0, 1) := by decide +kernel
theorem dX11_layState_80 : decode cX11_layState 80 = .ok (.getfield 161, 3) := by decide +kernel
theorem dX11_layState_83 : decode cX11_layState 83 = .ok (.bipush (-2), 2) := by decide +kernel
theorem dX11_layState_85 : decode cX11_layState 85 = .ok (.if_icmp .ne 50, 3) := by decide +kernel
theorem dX11_layState_88 : decode cX11_layState 88 = .ok (.aload_n 0, 1) := by decide +kernel
theorem dX11_layState_89 : decode cX11_layState 89 = .ok (.iconst 0, 1) := by decide +kernel
theorem dX11_layState_90 : decode cX11_layState 90 = .ok (.putfield 168, 3) := by decide +kernel
theorem dX11_layState_93 : decode cX11_layState 93 = .ok (.aload_n 0, 1) := by decide +kernel
theorem dX11_layState_94 : decode cX11_layState 94 = .ok (.iconst 1, 1) := by decide +kernel
theorem dX11_layState_95 : decode cX11_layState 95 = .ok (.putfield 171, 3) := by decide +kernel
theorem dX11_layState_98 : decode cX11_layState 98 = .ok (.aload_n 0, 1) := by decide +kernel
theorem dX11_layState_99 : decode cX11_layState 99 = .ok (.aload_n 0, 1) := by decide +kernel
theorem dX11_layState_100 : decode cX11_layState 100 = .ok (.getfield 81, 3) := by decide +kernel
theorem dX11_layState_103 : decode cX11_layState 103 = .ok (.putfield 174, 3) := by decide +kernel
theorem dX11_layState_106 : decode cX11_layState 106 = .ok (.aload_n 0, 1) := by decide +kernel
theorem dX11_layState_107 : decode cX11_layState 107 = .ok (.aload_n 0, 1) := by decide +kernel
theorem dX11_layState_108 : decode cX11_layState 108 = .ok (.getfield 92, 3) := by decide +kernel
theorem dX11_layState_111 : decode cX11_layState 111 = .ok (.putfield 177, 3) := by decide +kernel
theorem dX11_layState_114 : decode cX11_layState 114 = .ok (.aload_n 0, 1) := by decide +kernel
theorem dX11_layState_115 : decode cX11_layState 115 = .ok (.iconst 0, 1) := by decide +kernel
theorem dX11_layState_116 : decode cX11_layState 116 = .ok (.putfield 180, 3) := by decide +kernel
theorem dX11_layState_119 : decode cX11_layState 119 = .ok (.aload_n 0, 1) := by decide +kernel
theorem dX11_layState_120 : decode cX11_layState 120 = .ok (.iconst 0, 1) := by decide +kernel
theorem dX11_layState_121 : decode cX11_layState 121 = .ok (.putfield 183, 3) := by decide +kernel
theorem dX11_layState_124 : decode cX11_layState 124 = .ok (.aload_n 0, 1) := by decide +kernel
theorem dX11_layState_125 : decode cX11_layState 125 = .ok (.iconst 0, 1) := by decide +kernel
theorem dX11_layState_126 : decode cX11_layState 126 = .ok (.putfield 186, 3) := by decide +kernel
theorem dX11_layState_129 : decode cX11_layState 129 = .ok (.aload_n 0, 1) := by decide +kernel
theorem dX11_layState_130 : decode cX11_layState 130 = .ok (.lconst 0, 1) := by decide +kernel
theorem dX11_layState_131 : decode cX11_layState 131 = .ok (.putfield 189, 3) := by decide +kernel
theorem dX11_layState_134 : decode cX11_layState 134 = .ok (.return_, 1) := by decide +kernel
theorem dX11_layState_135 : decode cX11_layState 135 = .ok (.aload_n 0, 1) := by decide +kernel
theorem dX11_layState_136 : decode cX11_layState 136 = .ok (.aload_n 0, 1) := by decide +kernel
theorem dX11_layState_137 : decode cX11_layState 137 = .ok (.getfield 7, 3) := by decide +kernel
theorem dX11_layState_140 : decode cX11_layState 140 = .ok (.aload_n 0, 1) := by decide +kernel
theorem dX11_layState_141 : decode cX11_layState 141 = .ok (.getfield 161, 3) := by decide +kernel
theorem dX11_layState_144 : decode cX11_layState 144 = .ok (.iconst 4, 1) := by decide +kernel
theorem dX11_layState_145 : decode cX11_layState 145 = .ok (.iadd, 1) := by decide +kernel
theorem dX11_layState_146 : decode cX11_layState 146 = .ok (.iaload, 1) := by decide +kernel
theorem dX11_layState_147 : decode cX11_layState 147 = .ok (.putfield 168, 3) := by decide +kernel
theorem dX11_layState_150 : decode cX11_layState 150 = .ok (.aload_n 0, 1) := by decide +kernel
theorem dX11_layState_151 : decode cX11_layState 151 = .ok (.aload_n 0, 1) := by decide +kernel
theorem dX11_layState_152 : decode cX11_layState 152 = .ok (.aload_n 0, 1) := by decide +kernel
theorem dX11_layState_153 : decode cX11_layState 153 = .ok (.getfield 161, 3) := by decide +kernel
theorem dX11_layState_156 : decode cX11_layState 156 = .ok (.iconst 5, 1) := by decide +kernel
theorem dX11_layState_157 : decode cX11_layState 157 = .ok (.iadd, 1) := by decide +kernel
theorem dX11_layState_158 : decode cX11_layState 158 = .ok (.iconst 2, 1) := by decide +kernel
theorem dX11_layState_159 : decode cX11_layState 159 = .ok (.invokevirtual 154, 3) := by decide +kernel
theorem dX11_layState_162 : decode cX11_layState 162 = .ok (.putfield 171, 3) := by decide +kernel
theorem dX11_layState_165 : decode cX11_layState 165 = .ok (.aload_n 0, 1) := by decide +kernel
theorem dX11_layState_166 : decode cX11_layState 166 = .ok (.aload_n 0, 1) := by decide +kernel
theorem dX11_layState_167 : decode cX11_layState 167 = .ok (.aload_n 0, 1) := by decide +kernel
theorem dX11_layState_168 : decode cX11_layState 168 = .ok (.getfield 161, 3) := by decide +kernel
theorem dX11_layState_171 : decode cX11_layState 171 = .ok (.bipush 7, 2) := by decide +kernel
theorem dX11_layState_173 : decode cX11_layState 173 = .ok (.iadd, 1) := by decide +kernel
theorem dX11_layState_174 : decode cX11_layState 174 = .ok (.iconst 2, 1) := by decide +kernel
theorem dX11_layState_175 : decode cX11_layState 175 = .ok (.invokevirtual 154, 3) := by decide +kernel
theorem dX11_layState_178 : decode cX11_layState 178 = .ok (.putfield 174, 3) := by decide +kernel
theorem dX11_layState_181 : decode cX11_layState 181 = .ok (.aload_n 0, 1) := by decide +kernel
theorem dX11_layState_182 : decode cX11_layState 182 = .ok (.aload_n 0, 1) := by decide +kernel
theorem dX11_layState_183 : decode cX11_layState 183 = .ok (.aload_n 0, 1) := by decide +kernel
theorem dX11_layState_184 : decode cX11_layState 184 = .ok (.getfield 161, 3) := by decide +kernel
theorem dX11_layState_187 : decode cX11_layState 187 = .ok (.bipush 9, 2) := by decide +kernel
theorem dX11_layState_189 : decode cX11_layState 189 = .ok (.iadd, 1) := by decide +kernel
theorem dX11_layState_190 : decode cX11_layState 190 = .ok (.invokevirtual 192, 3) := by decide +kernel
theorem dX11_layState_193 : decode cX11_layState 193 = .ok (.putfield 177, 3) := by decide +kernel
theorem dX11_layState_196 : decode cX11_layState 196 = .ok (.aload_n 0, 1) := by decide +kernel
theorem dX11_layState_197 : decode cX11_layState 197 = .ok (.aload_n 0, 1) := by decide +kernel
theorem dX11_layState_198 : decode cX11_layState 198 = .ok (.getfield 7, 3) := by decide +kernel
theorem dX11_layState_201 : decode cX11_layState 201 = .ok (.aload_n 0, 1) := by decide +kernel
theorem dX11_layState_202 : decode cX11_layState 202 = .ok (.getfield 161, 3) := by decide +kernel
theorem dX11_layState_205 : decode cX11_layState 205 = .ok (.bipush 15, 2) := by decide +kernel
theorem dX11_layState_207 : decode cX11_layState 207 = .ok (.iadd, 1) := by decide +kernel
theorem dX11_layState_208 : decode cX11_layState 208 = .ok (.iaload, 1) := by decide +kernel
theorem dX11_layState_209 : decode cX11_layState 209 = .ok (.putfield 180, 3) := by decide +kernel
theorem dX11_layState_212 : decode cX11_layState 212 = .ok (.aload_n 0, 1) := by decide +kernel
theorem dX11_layState_213 : decode cX11_layState 213 = .ok (.aload_n 0, 1) := by decide +kernel
theorem dX11_layState_214 : decode cX11_layState 214 = .ok (.aload_n 0, 1) := by decide +kernel
theorem dX11_layState_215 : decode cX11_layState 215 = .ok (.getfield 161, 3) := by decide +kernel
theorem dX11_layState_218 : decode cX11_layState 218 = .ok (.bipush 16, 2) := by decide +kernel
theorem dX11_layState_220 : decode cX11_layState 220 = .ok (.iadd, 1) := by decide +kernel
theorem dX11_layState_221 : decode cX11_layState 221 = .ok (.iconst 2, 1) := by decide +kernel
theorem dX11_layState_222 : decode cX11_layState 222 = .ok (.invokevirtual 154, 3) := by decide +kernel
theorem dX11_layState_225 : decode cX11_layState 225 = .ok (.putfield 183, 3) := by decide +kernel
theorem dX11_layState_228 : decode cX11_layState 228 = .ok (.aload_n 0, 1) := by decide +kernel
theorem dX11_layState_229 : decode cX11_layState 229 = .ok (.aload_n 0, 1) := by decide +kernel
theorem dX11_layState_230 : decode cX11_layState 230 = .ok (.aload_n 0, 1) := by decide +kernel
theorem dX11_layState_231 : decode cX11_layState 231 = .ok (.getfield 161, 3) := by decide +kernel
theorem dX11_layState_234 : decode cX11_layState 234 = .ok (.bipush 18, 2) := by decide +kernel
theorem dX11_layState_236 : decode cX11_layState 236 = .ok (.iadd, 1) := by decide +kernel
theorem dX11_layState_237 : decode cX11_layState 237 = .ok (.iconst 2, 1) := by decide +kernel
theorem dX11_layState_238 : decode cX11_layState 238 = .ok (.invokevirtual 154, 3) := by decide +kernel
theorem dX11_layState_241 : decode cX11_layState 241 = .ok (.putfield 186, 3) := by decide +kernel
theorem dX11_layState_244 : decode cX11_layState 244 = .ok (.aload_n 0, 1) := by decide +kernel
theorem dX11_layState_245 : decode cX11_layState 245 = .ok (.aload_n 0, 1) := by decide +kernel
theorem dX11_layState_246 : decode cX11_layState 246 = .ok (.aload_n 0, 1) := by decide +kernel
theorem dX11_layState_247 : decode cX11_layState 247 = .ok (.getfield 161, 3) := by decide +kernel
theorem dX11_layState_250 : decode cX11_layState 250 = .ok (.bipush 20, 2) := by decide +kernel
theorem dX11_layState_252 : decode cX11_layState 252 = .ok (.iadd, 1) := by decide +kernel
theorem dX11_layState_253 : decode cX11_layState 253 = .ok (.invokevirtual 192, 3) := by decide +kernel
theorem dX11_layState_256 : decode cX11_layState 256 = .ok (.putfield 189, 3) := by decide +kernel
theorem dX11_layState_259 : decode cX11_layState 259 = .ok (.return_, 1) := by decide +kernel
theorem dX11_put_0 : decode cX11_put 0 = .ok (.iload_n 3, 1) := by decide +kernel
theorem dX11_put_1 : decode cX11_put 1 = .ok (.iconst 1, 1) := by decide +kernel
theorem dX11_put_2 : decode cX11_put 2 = .ok (.isub, 1) := by decide +kernel
theorem dX11_put_3 : decode cX11_put 3 = .ok (.istore 4, 2) := by decide +kernel
theorem dX11_put_5 : decode cX11_put 5 = .ok (.iload 4, 2) := by decide +kernel
theorem dX11_put_7 : decode cX11_put 7 = .ok (.ifCond .lt 40, 3) := by decide +kernel
theorem dX11_put_10 : decode cX11_put 10 = .ok (.aload_n 0, 1) := by decide +kernel
theorem dX11_put_11 : decode cX11_put 11 = .ok (.getfield 20, 3) := by decide +kernel
theorem dX11_put_14 : decode cX11_put 14 = .ok (.aload_n 0, 1) := by decide +kernel
theorem dX11_put_15 : decode cX11_put 15 = .ok (.getfield 196, 3) := by decide +kernel
theorem dX11_put_18 : decode cX11_put 18 = .ok (.lload_n 1, 1) := by decide +kernel
theorem dX11_put_19 : decode cX11_put 19 = .ok (.bipush 8, 2) := by decide +kernel
theorem dX11_put_21 : decode cX11_put 21 = .ok (.iload 4, 2) := by decide +kernel
theorem dX11_put_23 : decode cX11_put 23 = .ok (.imul, 1) := by decide +kernel
theorem dX11_put_24 : decode cX11_put 24 = .ok (.lshr, 1) := by decide +kernel
theorem dX11_put_25 : decode cX11_put 25 = .ok (.l2i, 1) := by decide +kernel
theorem dX11_put_26 : decode cX11_put 26 = .ok (.sipush 255, 3) := by decide +kernel
theorem dX11_put_29 : decode cX11_put 29 = .ok (.iand, 1) := by decide +kernel
theorem dX11_put_30 : decode cX11_put 30 = .ok (.iastore, 1) := by decide +kernel
theorem dX11_put_31 : decode cX11_put 31 = .ok (.aload_n 0, 1) := by decide +kernel
theorem dX11_put_32 : decode cX11_put 32 = .ok (.dup, 1) := by decide +kernel
theorem dX11_put_33 : decode cX11_put 33 = .ok (.getfield 196, 3) := by decide +kernel
theorem dX11_put_36 : decode cX11_put 36 = .ok (.iconst 1, 1) := by decide +kernel
theorem dX11_put_37 : decode cX11_put 37 = .ok (.iadd, 1) := by decide +kernel
theorem dX11_put_38 : decode cX11_put 38 = .ok (.putfield 196, 3) := by decide +kernel
theorem dX11_put_41 : decode cX11_put 41 = .ok (.iinc 4 (-1), 3) := by decide +kernel
theorem dX11_put_44 : decode cX11_put 44 = .ok (.goto (-39), 3) := by decide +kernel
theorem dX11_put_47 : decode cX11_put 47 = .ok (.return_, 1) := by decide +kernel
theorem dX11_layPage_0 : decode cX11_layPage 0 = .ok (.aload_n 0, 1) := by decide +kernel
theorem dX11_layPage_1 : decode cX11_layPage 1 = .ok (.iconst 0, 1) := by decide +kernel
theorem dX11_layPage_2 : decode cX11_layPage 2 = .ok (.putfield 196, 3) := by decide +kernel
theorem dX11_layPage_5 : decode cX11_layPage 5 = .ok (.aload_n 0, 1) := by decide +kernel
theorem dX11_layPage_6 : decode cX11_layPage 6 = .ok (.aload_n 0, 1) := by decide +kernel
theorem dX11_layPage_7 : decode cX11_layPage 7 = .ok (.getfield 96, 3) := by decide +kernel
theorem dX11_layPage_10 : decode cX11_layPage 10 = .ok (.iconst 1, 1) := by decide +kernel
theorem dX11_layPage_11 : decode cX11_layPage 11 = .ok (.iadd, 1) := by decide +kernel
theorem dX11_layPage_12 : decode cX11_layPage 12 = .ok (.i2l, 1) := by decide +kernel
theorem dX11_layPage_13 : decode cX11_layPage 13 = .ok (.iconst 4, 1) := by decide +kernel
theorem dX11_layPage_14 : decode cX11_layPage 14 = .ok (.invokevirtual 199, 3) := by decide +kernel
theorem dX11_layPage_17 : decode cX11_layPage 17 = .ok (.aload_n 0, 1) := by decide +kernel
theorem dX11_layPage_18 : decode cX11_layPage 18 = .ok (.aload_n 0, 1) := by decide +kernel
theorem dX11_layPage_19 : decode cX11_layPage 19 = .ok (.getfield 168, 3) := by decide +kernel
theorem dX11_layPage_22 : decode cX11_layPage 22 = .ok (.i2l, 1) := by decide +kernel
theorem dX11_layPage_23 : decode cX11_layPage 23 = .ok (.iconst 1, 1) := by decide +kernel
theorem dX11_layPage_24 : decode cX11_layPage 24 = .ok (.invokevirtual 199, 3) := by decide +kernel
theorem dX11_layPage_27 : decode cX11_layPage 27 = .ok (.aload_n 0, 1) := by decide +kernel
theorem dX11_layPage_28 : decode cX11_layPage 28 = .ok (.aload_n 0, 1) := by decide +kernel
theorem dX11_layPage_29 : decode cX11_layPage 29 = .ok (.getfield 171, 3) := by decide +kernel
theorem dX11_layPage_32 : decode cX11_layPage 32 = .ok (.i2l, 1) := by decide +kernel
theorem dX11_layPage_33 : decode cX11_layPage 33 = .ok (.iconst 2, 1) := by decide +kernel
theorem dX11_layPage_34 : decode cX11_layPage 34 = .ok (.invokevirtual 199, 3) := by decide +kernel
theorem dX11_layPage_37 : decode cX11_layPage 37 = .ok (.aload_n 0, 1) := by decide +kernel
theorem dX11_layPage_38 : decode cX11_layPage 38 = .ok (.aload_n 0, 1) := by decide +kernel
theorem dX11_layPage_39 : decode cX11_layPage 39 = .ok (.getfield 174, 3) := by decide +kernel
theorem dX11_layPage_42 : decode cX11_layPage 42 = .ok (.i2l, 1) := by decide +kernel
theorem dX11_layPage_43 : decode cX11_layPage 43 = .ok (.iconst 2, 1) := by decide +kernel
theorem dX11_layPage_44 : decode cX11_layPage 44 = .ok (.invokevirtual 199, 3) := by decide +kernel
theorem dX11_layPage_47 : decode cX11_layPage 47 = .ok (.aload_n 0, 1) := by decide +kernel
theorem dX11_layPage_48 : decode cX11_layPage 48 = .ok (.aload_n 0, 1) := by decide +kernel
theorem dX11_layPage_49 : decode cX11_layPage 49 = .ok (.getfield 177, 3) := by decide +kernel
theorem dX11_layPage_52 : decode cX11_layPage 52 = .ok (.bipush 6, 2) := by decide +kernel
theorem dX11_layPage_54 : decode cX11_layPage 54 = .ok (.invokevirtual 199, 3) := by decide +kernel
theorem dX11_layPage_57 : decode cX11_layPage 57 = .ok (.aload_n 0, 1) := by decide +kernel
theorem dX11_layPage_58 : decode cX11_layPage 58 = .ok (.iload_n 1, 1) := by decide +kernel
theorem dX11_layPage_59 : decode cX11_layPage 59 = .ok (.i2l, 1) := by decide +kernel
theorem dX11_layPage_60 : decode cX11_layPage 60 = .ok (.iconst 1, 1) := by decide +kernel
theorem dX11_layPage_61 : decode cX11_layPage 61 = .ok (.invokevirtual 199, 3) := by decide +kernel
theorem dX11_layPage_64 : decode cX11_layPage 64 = .ok (.aload_n 0, 1) := by decide +kernel
theorem dX11_layPage_65 : decode cX11_layPage 65 = .ok (.iload_n 1, 1) := by decide +kernel
theorem dX11_layPage_66 : decode cX11_layPage 66 = .ok (.ifCond .ne 7, 3) := by decide +kernel
theorem dX11_layPage_69 : decode cX11_layPage 69 = .ok (.lconst 0, 1) := by decide +kernel
theorem dX11_layPage_70 : decode cX11_layPage 70 = .ok (.goto 8, 3) := by decide +kernel
theorem dX11_layPage_73 : decode cX11_layPage 73 = .ok (.aload_n 0, 1) := by decide +kernel
theorem dX11_layPage_74 : decode cX11_layPage 74 = .ok (.getfield 183, 3) := by decide +kernel
theorem dX11_layPage_77 : decode cX11_layPage 77 = .ok (.i2l, 1) := by decide +kernel
theorem dX11_layPage_78 : decode cX11_layPage 78 = .ok (.iconst 2, 1) := by decide +kernel
theorem dX11_layPage_79 : decode cX11_layPage 79 = .ok (.invokevirtual 199, 3) := by decide +kernel
theorem dX11_layPage_82 : decode cX11_layPage 82 = .ok (.aload_n 0, 1) := by decide +kernel
theorem dX11_layPage_83 : decode cX11_layPage 83 = .ok (.iload_n 1, 1) := by decide +kernel
theorem dX11_layPage_84 : decode cX11_layPage 84 = .ok (.ifCond .ne 7, 3) := by decide +kernel
theorem dX11_layPage_87 : decode cX11_layPage 87 = .ok (.lconst 0, 1) := by decide +kernel
theorem dX11_layPage_88 : decode cX11_layPage 88 = .ok (.goto 8, 3) := by decide +kernel
theorem dX11_layPage_91 : decode cX11_layPage 91 = .ok (.aload_n 0, 1) := by decide +kernel
theorem dX11_layPage_92 : decode cX11_layPage 92 = .ok (.getfield 186, 3) := by decide +kernel
theorem dX11_layPage_95 : decode cX11_layPage 95 = .ok (.i2l, 1) := by decide +kernel
theorem dX11_layPage_96 : decode cX11_layPage 96 = .ok (.iconst 2, 1) := by decide +kernel
theorem dX11_layPage_97 : decode cX11_layPage 97 = .ok (.invokevirtual 199, 3) := by decide +kernel
theorem dX11_layPage_100 : decode cX11_layPage 100 = .ok (.aload_n 0, 1) := by decide +kernel
theorem dX11_layPage_101 : decode cX11_layPage 101 = .ok (.iload_n 1, 1) := by decide +kernel
theorem dX11_layPage_102 : decode cX11_layPage 102 = .ok (.ifCond .ne 7, 3) := by decide +kernel
theorem dX11_layPage_105 : decode cX11_layPage 105 = .ok (.lconst 0, 1) := by decide +kernel
theorem dX11_layPage_106 : decode cX11_layPage 106 = .ok (.goto 7, 3) := by decide +kernel
theorem dX11_layPage_109 : decode cX11_layPage 109 = .ok (.aload_n 0, 1) := by decide +kernel
theorem dX11_layPage_110 : decode cX11_layPage 110 = .ok (.getfield 189, 3) := by decide +kernel
theorem dX11_layPage_113 : decode cX11_layPage 113 = .ok (.bipush 6, 2) := by decide +kernel
theorem dX11_layPage_115 : decode cX11_layPage 115 = .ok (.invokevirtual 199, 3) := by decide +kernel
theorem dX11_layPage_118 : decode cX11_layPage 118 = .ok (.aload_n 0, 1) := by decide +kernel
theorem dX11_layPage_119 : decode cX11_layPage 119 = .ok (.lconst 0, 1) := by decide +kernel
theorem dX11_layPage_120 : decode cX11_layPage 120 = .ok (.iconst 2, 1) := by decide +kernel
theorem dX11_layPage_121 : decode cX11_layPage 121 = .ok (.invokevirtual 199, 3) := by decide +kernel
theorem dX11_layPage_124 : decode cX11_layPage 124 = .ok (.aload_n 0, 1) := by decide +kernel
theorem dX11_layPage_125 : decode cX11_layPage 125 = .ok (.invokevirtual 113, 3) := by decide +kernel
theorem dX11_layPage_128 : decode cX11_layPage 128 = .ok (.iconst 0, 1) := by decide +kernel
theorem dX11_layPage_129 : decode cX11_layPage 129 = .ok (.istore_n 2, 1) := by decide +kernel
theorem dX11_layPage_130 : decode cX11_layPage 130 = .ok (.iload_n 2, 1) := by decide +kernel
theorem dX11_layPage_131 : decode cX11_layPage 131 = .ok (.bipush 28, 2) := by decide +kernel
theorem dX11_layPage_133 : decode cX11_layPage 133 = .ok (.if_icmp .ge 19, 3) := by decide +kernel
theorem dX11_layPage_136 : decode cX11_layPage 136 = .ok (.aload_n 0, 1) := by decide +kernel
theorem dX11_layPage_137 : decode cX11_layPage 137 = .ok (.aload_n 0, 1) := by decide +kernel
theorem dX11_layPage_138 : decode cX11_layPage 138 = .ok (.getfield 20, 3) := by decide +kernel
theorem dX11_layPage_141 : decode cX11_layPage 141 = .ok (.iload_n 2, 1) := by decide +kernel
theorem dX11_layPage_142 : decode cX11_layPage 142 = .ok (.iaload, 1) := by decide +kernel
theorem dX11_layPage_143 : decode cX11_layPage 143 = .ok (.invokevirtual 116, 3) := by decide +kernel
theorem dX11_layPage_146 : decode cX11_layPage 146 = .ok (.iinc 2 1, 3) := by decide +kernel
theorem dX11_layPage_149 : decode cX11_layPage 149 = .ok (.goto (-19), 3) := by decide +kernel
theorem dX11_layPage_152 : decode cX11_layPage 152 = .ok (.aload_n 0, 1) := by decide +kernel
theorem dX11_layPage_153 : decode cX11_layPage 153 = .ok (.aload_n 0, 1) := by decide +kernel
theorem dX11_layPage_154 : decode cX11_layPage 154 = .ok (.invokevirtual 150, 3) := by decide +kernel
theorem dX11_layPage_157 : decode cX11_layPage 157 = .ok (.i2l, 1) := by decide +kernel
theorem dX11_layPage_158 : decode cX11_layPage 158 = .ok (.iconst 4, 1) := by decide +kernel
theorem dX11_layPage_159 : decode cX11_layPage 159 = .ok (.invokevirtual 199, 3) := by decide +kernel
theorem dX11_layPage_162 : decode cX11_layPage 162 = .ok (.return_, 1) := by decide +kernel
theorem dX11_isErased_0 : decode cX11_isErased 0 = .ok (.iconst 1, 1) := by decide +kernel
theorem dX11_isErased_1 : decode cX11_isErased 1 = .ok (.istore_n 2, 1) := by decide +kernel
theorem dX11_isErased_2 : decode cX11_isErased 2 = .ok (.iconst 0, 1) := by decide +kernel
theorem dX11_isErased_3 : decode cX11_isErased 3 = .ok (.istore_n 3, 1) := by decide +kernel
theorem dX11_isErased_4 : decode cX11_isErased 4 = .ok (.iload_n 3, 1) := by decide +kernel
theorem dX11_isErased_5 : decode cX11_isErased 5 = .ok (.bipush 32, 2) := by decide +kernel
theorem dX11_isErased_7 : decode cX11_isErased 7 = .ok (.if_icmp .ge 33, 3) := by decide +kernel
theorem dX11_isErased_10 : decode cX11_isErased 10 = .ok (.iload_n 2, 1) := by decide +kernel
