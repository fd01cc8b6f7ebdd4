theorem dX12_init_0 : decode cX12_init 0 = .ok (.aload_n 0, 1) := by decide +kernel
theorem dX12_init_1 : decode cX12_init 1 = .ok (.invokespecial 3, 3) := by decide +kernel
theorem dX12_init_4 : decode cX12_init 4 = .ok (.aload_n 0, 1) := by decide +kernel
theorem dX12_init_5 : decode cX12_init 5 = .ok (.iconst 2, 1) := by decide +kernel
theorem dX12_init_6 : decode cX12_init 6 = .ok (.anewarray 9, 3) := by decide +kernel
theorem dX12_init_9 : decode cX12_init 9 = .ok (.dup, 1) := by decide +kernel
theorem dX12_init_10 : decode cX12_init 10 = .ok (.iconst 0, 1) := by decide +kernel
theorem dX12_init_11 : decode cX12_init 11 = .ok (.ldc 11, 2) := by decide +kernel
theorem dX12_init_13 : decode cX12_init 13 = .ok (.aastore, 1) := by decide +kernel
theorem dX12_init_14 : decode cX12_init 14 = .ok (.dup, 1) := by decide +kernel
theorem dX12_init_15 : decode cX12_init 15 = .ok (.iconst 1, 1) := by decide +kernel
theorem dX12_init_16 : decode cX12_init 16 = .ok (.ldc 13, 2) := by decide +kernel
theorem dX12_init_18 : decode cX12_init 18 = .ok (.aastore, 1) := by decide +kernel
theorem dX12_init_19 : decode cX12_init 19 = .ok (.putfield 15, 3) := by decide +kernel
theorem dX12_init_22 : decode cX12_init 22 = .ok (.aload_n 0, 1) := by decide +kernel
theorem dX12_init_23 : decode cX12_init 23 = .ok (.iconst 5, 1) := by decide +kernel
theorem dX12_init_24 : decode cX12_init 24 = .ok (.anewarray 9, 3) := by decide +kernel
theorem dX12_init_27 : decode cX12_init 27 = .ok (.dup, 1) := by decide +kernel
theorem dX12_init_28 : decode cX12_init 28 = .ok (.iconst 0, 1) := by decide +kernel
theorem dX12_init_29 : decode cX12_init 29 = .ok (.ldc 19, 2) := by decide +kernel
theorem dX12_init_31 : decode cX12_init 31 = .ok (.aastore, 1) := by decide +kernel
theorem dX12_init_32 : decode cX12_init 32 = .ok (.dup, 1) := by decide +kernel
theorem dX12_init_33 : decode cX12_init 33 = .ok (.iconst 1, 1) := by decide +kernel
theorem dX12_init_34 : decode cX12_init 34 = .ok (.ldc 21, 2) := by decide +kernel
theorem dX12_init_36 : decode cX12_init 36 = .ok (.aastore, 1) := by decide +kernel
theorem dX12_init_37 : decode cX12_init 37 = .ok (.dup, 1) := by decide +kernel
theorem dX12_init_38 : decode cX12_init 38 = .ok (.iconst 2, 1) := by decide +kernel
theorem dX12_init_39 : decode cX12_init 39 = .ok (.ldc 23, 2) := by decide +kernel
theorem dX12_init_41 : decode cX12_init 41 = .ok (.aastore, 1) := by decide +kernel
theorem dX12_init_42 : decode cX12_init 42 = .ok (.dup, 1) := by decide +kernel
theorem dX12_init_43 : decode cX12_init 43 = .ok (.iconst 3, 1) := by decide +kernel
theorem dX12_init_44 : decode cX12_init 44 = .ok (.ldc 25, 2) := by decide +kernel
theorem dX12_init_46 : decode cX12_init 46 = .ok (.aastore, 1) := by decide +kernel
theorem dX12_init_47 : decode cX12_init 47 = .ok (.dup, 1) := by decide +kernel
theorem dX12_init_48 : decode cX12_init 48 = .ok (.iconst 4, 1) := by decide +kernel
theorem dX12_init_49 : decode cX12_init 49 = .ok (.ldc 27, 2) := by decide +kernel
theorem dX12_init_51 : decode cX12_init 51 = .ok (.aastore, 1) := by decide +kernel
theorem dX12_init_52 : decode cX12_init 52 = .ok (.putfield 29, 3) := by decide +kernel
theorem dX12_init_55 : decode cX12_init 55 = .ok (.aload_n 0, 1) := by decide +kernel
theorem dX12_init_56 : decode cX12_init 56 = .ok (.bipush 7, 2) := by decide +kernel
theorem dX12_init_58 : decode cX12_init 58 = .ok (.anewarray 9, 3) := by decide +kernel
theorem dX12_init_61 : decode cX12_init 61 = .ok (.dup, 1) := by decide +kernel
theorem dX12_init_62 : decode cX12_init 62 = .ok (.iconst 0, 1) := by decide +kernel
theorem dX12_init_63 : decode cX12_init 63 = .ok (.ldc 19, 2) := by decide +kernel
theorem dX12_init_65 : decode cX12_init 65 = .ok (.aastore, 1) := by decide +kernel
theorem dX12_init_66 : decode cX12_init 66 = .ok (.dup, 1) := by decide +kernel
theorem dX12_init_67 : decode cX12_init 67 = .ok (.iconst 1, 1) := by decide +kernel
theorem dX12_init_68 : decode cX12_init 68 = .ok (.ldc 21, 2) := by decide +kernel
theorem dX12_init_70 : decode cX12_init 70 = .ok (.aastore, 1) := by decide +kernel
theorem dX12_init_71 : decode cX12_init 71 = .ok (.dup, 1) := by decide +kernel
theorem dX12_init_72 : decode cX12_init 72 = .ok (.iconst 2, 1) := by decide +kernel
theorem dX12_init_73 : decode cX12_init 73 = .ok (.ldc 23, 2) := by decide +kernel
theorem dX12_init_75 : decode cX12_init 75 = .ok (.aastore, 1) := by decide +kernel
theorem dX12_init_76 : decode cX12_init 76 = .ok (.dup, 1) := by decide +kernel
theorem dX12_init_77 : decode cX12_init 77 = .ok (.iconst 3, 1) := by decide +kernel
theorem dX12_init_78 : decode cX12_init 78 = .ok (.ldc 25, 2) := by decide +kernel
theorem dX12_init_80 : decode cX12_init 80 = .ok (.aastore, 1) := by decide +kernel
theorem dX12_init_81 : decode cX12_init 81 = .ok (.dup, 1) := by decide +kernel
theorem dX12_init_82 : decode cX12_init 82 = .ok (.iconst 4, 1) := by decide +kernel
theorem dX12_init_83 : decode cX12_init 83 = .ok (.ldc 27, 2) := by decide +kernel
theorem dX12_init_85 : decode cX12_init 85 = .ok (.aastore, 1) := by decide +kernel
theorem dX12_init_86 : decode cX12_init 86 = .ok (.dup, 1) := by decide +kernel
theorem dX12_init_87 : decode cX12_init 87 = .ok (.iconst 5, 1) := by decide +kernel
theorem dX12_init_88 : decode cX12_init 88 = .ok (.ldc 32, 2) := by decide +kernel
theorem dX12_init_90 : decode cX12_init 90 = .ok (.aastore, 1) := by decide +kernel
theorem dX12_init_91 : decode cX12_init 91 = .ok (.dup, 1) := by decide +kernel
theorem dX12_init_92 : decode cX12_init 92 = .ok (.bipush 6, 2) := by decide +kernel
theorem dX12_init_94 : decode cX12_init 94 = .ok (.ldc 34, 2) := by decide +kernel
theorem dX12_init_96 : decode cX12_init 96 = .ok (.aastore, 1) := by decide +kernel
theorem dX12_init_97 : decode cX12_init 97 = .ok (.putfield 36, 3) := by decide +kernel
theorem dX12_init_100 : decode cX12_init 100 = .ok (.aload_n 0, 1) := by decide +kernel
theorem dX12_init_101 : decode cX12_init 101 = .ok (.aload_n 0, 1) := by decide +kernel
theorem dX12_init_102 : decode cX12_init 102 = .ok (.getfield 29, 3) := by decide +kernel
theorem dX12_init_105 : decode cX12_init 105 = .ok (.putfield 39, 3) := by decide +kernel
theorem dX12_init_108 : decode cX12_init 108 = .ok (.aload_n 0, 1) := by decide +kernel
theorem dX12_init_109 : decode cX12_init 109 = .ok (.bipush 10, 2) := by decide +kernel
theorem dX12_init_111 : decode cX12_init 111 = .ok (.newarray .int, 2) := by decide +kernel
theorem dX12_init_113 : decode cX12_init 113 = .ok (.putfield 42, 3) := by decide +kernel
theorem dX12_init_116 : decode cX12_init 116 = .ok (.aload_n 0, 1) := by decide +kernel
theorem dX12_init_117 : decode cX12_init 117 = .ok (.bipush 16, 2) := by decide +kernel
theorem dX12_init_119 : decode cX12_init 119 = .ok (.newarray .int, 2) := by decide +kernel
theorem dX12_init_121 : decode cX12_init 121 = .ok (.putfield 46, 3) := by decide +kernel
theorem dX12_init_124 : decode cX12_init 124 = .ok (.aload_n 0, 1) := by decide +kernel
theorem dX12_init_125 : decode cX12_init 125 = .ok (.bipush 16, 2) := by decide +kernel
theorem dX12_init_127 : decode cX12_init 127 = .ok (.newarray .int, 2) := by decide +kernel
theorem dX12_init_129 : decode cX12_init 129 = .ok (.putfield 48, 3) := by decide +kernel
theorem dX12_init_132 : decode cX12_init 132 = .ok (.aload_n 0, 1) := by decide +kernel
theorem dX12_init_133 : decode cX12_init 133 = .ok (.bipush 16, 2) := by decide +kernel
theorem dX12_init_135 : decode cX12_init 135 = .ok (.newarray .int, 2) := by decide +kernel
theorem dX12_init_137 : decode cX12_init 137 = .ok (.putfield 51, 3) := by decide +kernel
theorem dX12_init_140 : decode cX12_init 140 = .ok (.aload_n 0, 1) := by decide +kernel
theorem dX12_init_141 : decode cX12_init 141 = .ok (.bipush 16, 2) := by decide +kernel
theorem dX12_init_143 : decode cX12_init 143 = .ok (.newarray .int, 2) := by decide +kernel
theorem dX12_init_145 : decode cX12_init 145 = .ok (.putfield 54, 3) := by decide +kernel
theorem dX12_init_148 : decode cX12_init 148 = .ok (.aload_n 0, 1) := by decide +kernel
theorem dX12_init_149 : decode cX12_init 149 = .ok (.bipush 16, 2) := by decide +kernel
theorem dX12_init_151 : decode cX12_init 151 = .ok (.newarray .int, 2) := by decide +kernel
theorem dX12_init_153 : decode cX12_init 153 = .ok (.putfield 57, 3) := by decide +kernel
theorem dX12_init_156 : decode cX12_init 156 = .ok (.aload_n 0, 1) := by decide +kernel
theorem dX12_init_157 : decode cX12_init 157 = .ok (.bipush 96, 2) := by decide +kernel
theorem dX12_init_159 : decode cX12_init 159 = .ok (.newarray .int, 2) := by decide +kernel
theorem dX12_init_161 : decode cX12_init 161 = .ok (.putfield 60, 3) := by decide +kernel
theorem dX12_init_164 : decode cX12_init 164 = .ok (.aload_n 0, 1) := by decide +kernel
theorem dX12_init_165 : decode cX12_init 165 = .ok (.sipush 1400, 3) := by decide +kernel
theorem dX12_init_168 : decode cX12_init 168 = .ok (.newarray .int, 2) := by decide +kernel
theorem dX12_init_170 : decode cX12_init 170 = .ok (.putfield 63, 3) := by decide +kernel
theorem dX12_init_173 : decode cX12_init 173 = .ok (.aload_n 0, 1) := by decide +kernel
theorem dX12_init_174 : decode cX12_init 174 = .ok (.sipush 1400, 3) := by decide +kernel
theorem dX12_init_177 : decode cX12_init 177 = .ok (.newarray .int, 2) := by decide +kernel
theorem dX12_init_179 : decode cX12_init 179 = .ok (.putfield 66, 3) := by decide +kernel
theorem dX12_init_182 : decode cX12_init 182 = .ok (.aload_n 0, 1) := by decide +kernel
theorem dX12_init_183 : decode cX12_init 183 = .ok (.iconst 3, 1) := by decide +kernel
theorem dX12_init_184 : decode cX12_init 184 = .ok (.newarray .int, 2) := by decide +kernel
theorem dX12_init_186 : decode cX12_init 186 = .ok (.putfield 69, 3) := by decide +kernel
theorem dX12_init_189 : decode cX12_init 189 = .ok (.aload_n 0, 1) := by decide +kernel
theorem dX12_init_190 : decode cX12_init 190 = .ok (.bipush 8, 2) := by decide +kernel
theorem dX12_init_192 : decode cX12_init 192 = .ok (.newarray .int, 2) := by decide +kernel
theorem dX12_init_194 : decode cX12_init 194 = .ok (.putfield 72, 3) := by decide +kernel
theorem dX12_init_197 : decode cX12_init 197 = .ok (.aload_n 0, 1) := by decide +kernel
theorem dX12_init_198 : decode cX12_init 198 = .ok (.sipush 700, 3) := by decide +kernel
theorem dX12_init_201 : decode cX12_init 201 = .ok (.newarray .int, 2) := by decide +kernel
theorem dX12_init_203 : decode cX12_init 203 = .ok (.putfield 74, 3) := by decide +kernel
theorem dX12_init_206 : decode cX12_init 206 = .ok (.aload_n 0, 1) := by decide +kernel
theorem dX12_init_207 : decode cX12_init 207 = .ok (.iconst (-1), 1) := by decide +kernel
theorem dX12_init_208 : decode cX12_init 208 = .ok (.putfield 77, 3) := by decide +kernel
theorem dX12_init_211 : decode cX12_init 211 = .ok (.aload_n 0, 1) := by decide +kernel
theorem dX12_init_212 : decode cX12_init 212 = .ok (.bipush 8, 2) := by decide +kernel
theorem dX12_init_214 : decode cX12_init 214 = .ok (.newarray .int, 2) := by decide +kernel
theorem dX12_init_216 : decode cX12_init 216 = .ok (.putfield 81, 3) := by decide +kernel
theorem dX12_init_219 : decode cX12_init 219 = .ok (.aload_n 0, 1) := by decide +kernel
theorem dX12_init_220 : decode cX12_init 220 = .ok (.bipush 8, 2) := by decide +kernel
theorem dX12_init_222 : decode cX12_init 222 = .ok (.newarray .int, 2) := by decide +kernel
theorem dX12_init_224 : decode cX12_init 224 = .ok (.putfield 83, 3) := by decide +kernel
theorem dX12_init_227 : decode cX12_init 227 = .ok (.aload_n 0, 1) := by decide +kernel
theorem dX12_init_228 : decode cX12_init 228 = .ok (.bipush 8, 2) := by decide +kernel
theorem dX12_init_230 : decode cX12_init 230 = .ok (.newarray .int, 2) := by decide +kernel
theorem dX12_init_232 : decode cX12_init 232 = .ok (.putfield 85, 3) := by decide +kernel
theorem dX12_init_235 : decode cX12_init 235 = .ok (.aload_n 0, 1) := by decide +kernel
theorem dX12_init_236 : decode cX12_init 236 = .ok (.sipush 1120, 3) := by decide +kernel
theorem dX12_init_239 : decode cX12_init 239 = .ok (.newarray .int, 2) := by decide +kernel
theorem dX12_init_241 : decode cX12_init 241 = .ok (.putfield 88, 3) := by decide +kernel
theorem dX12_init_244 : decode cX12_init 244 = .ok (.aload_n 0, 1) := by decide +kernel
theorem dX12_init_245 : decode cX12_init 245 = .ok (.bipush 7, 2) := by decide +kernel
theorem dX12_init_247 : decode cX12_init 247 = .ok (.newarray .int, 2) := by decide +kernel
theorem dX12_init_249 : decode cX12_init 249 = .ok (.putfield 91, 3) := by decide +kernel
theorem dX12_init_252 : decode cX12_init 252 = .ok (.aload_n 0, 1) := by decide +kernel
theorem dX12_init_253 : decode cX12_init 253 = .ok (.bipush 64, 2) := by decide +kernel
theorem dX12_init_255 : decode cX12_init 255 = .ok (.newarray .int, 2) := by decide +kernel
theorem dX12_init_257 : decode cX12_init 257 = .ok (.putfield 94, 3) := by decide +kernel
theorem dX12_init_260 : decode cX12_init 260 = .ok (.aload_n 0, 1) := by decide +kernel
theorem dX12_init_261 : decode cX12_init 261 = .ok (.bipush 8, 2) := by decide +kernel
theorem dX12_init_263 : decode cX12_init 263 = .ok (.newarray .int, 2) := by decide +kernel
theorem dX12_init_265 : decode cX12_init 265 = .ok (.putfield 97, 3) := by decide +kernel
theorem dX12_init_268 : decode cX12_init 268 = .ok (.aload_n 0, 1) := by decide +kernel
theorem dX12_init_269 : decode cX12_init 269 = .ok (.bipush 64, 2) := by decide +kernel
theorem dX12_init_271 : decode cX12_init 271 = .ok (.newarray .int, 2) := by decide +kernel
theorem dX12_init_273 : decode cX12_init 273 = .ok (.putfield 100, 3) := by decide +kernel
theorem dX12_init_276 : decode cX12_init 276 = .ok (.aload_n 0, 1) := by decide +kernel
theorem dX12_init_277 : decode cX12_init 277 = .ok (.bipush 28, 2) := by decide +kernel
theorem dX12_init_279 : decode cX12_init 279 = .ok (.newarray .int, 2) := by decide +kernel
theorem dX12_init_281 : decode cX12_init 281 = .ok (.putfield 103, 3) := by decide +kernel
theorem dX12_init_284 : decode cX12_init 284 = .ok (.aload_n 0, 1) := by decide +kernel
theorem dX12_init_285 : decode cX12_init 285 = .ok (.bipush 8, 2) := by decide +kernel
theorem dX12_init_287 : decode cX12_init 287 = .ok (.newarray .int, 2) := by decide +kernel
theorem dX12_init_289 : decode cX12_init 289 = .ok (.putfield 106, 3) := by decide +kernel
theorem dX12_init_292 : decode cX12_init 292 = .ok (.aload_n 0, 1) := by decide +kernel
theorem dX12_init_293 : decode cX12_init 293 = .ok (.bipush 6, 2) := by decide +kernel
theorem dX12_init_295 : decode cX12_init 295 = .ok (.newarray .int, 2) := by decide +kernel
theorem dX12_init_297 : decode cX12_init 297 = .ok (.putfield 109, 3) := by decide +kernel
theorem dX12_init_300 : decode cX12_init 300 = .ok (.aload_n 0, 1) := by decide +kernel
theorem dX12_init_301 : decode cX12_init 301 = .ok (.sipush 256, 3) := by decide +kernel
theorem dX12_init_304 : decode cX12_init 304 = .ok (.newarray .int, 2) := by decide +kernel
theorem dX12_init_306 : decode cX12_init 306 = .ok (.putfield 112, 3) := by decide +kernel
theorem dX12_init_309 : decode cX12_init 309 = .ok (.aload_n 0, 1) := by decide +kernel
theorem dX12_init_310 : decode cX12_init 310 = .ok (.bipush 8, 2) := by decide +kernel
theorem dX12_init_312 : decode cX12_init 312 = .ok (.newarray .int, 2) := by decide +kernel
theorem dX12_init_314 : decode cX12_init 314 = .ok (.putfield 115, 3) := by decide +kernel
theorem dX12_init_317 : decode cX12_init 317 = .ok (.aload_n 0, 1) := by decide +kernel
theorem dX12_init_318 : decode cX12_init 318 = .ok (.bipush 8, 2) := by decide +kernel
theorem dX12_init_320 : decode cX12_init 320 = .ok (.newarray .int, 2) := by decide +kernel
theorem dX12_init_322 : decode cX12_init 322 = .ok (.putfield 118, 3) := by decide +kernel
theorem dX12_init_325 : decode cX12_init 325 = .ok (.aload_n 0, 1) := by decide +kernel
theorem dX12_init_326 : decode cX12_init 326 = .ok (.bipush 8, 2) := by decide +kernel
theorem dX12_init_328 : decode cX12_init 328 = .ok (.newarray .int, 2) := by decide +kernel
theorem dX12_init_330 : decode cX12_init 330 = .ok (.putfield 121, 3) := by decide +kernel
theorem dX12_init_333 : decode cX12_init 333 = .ok (.aload_n 0, 1) := by decide +kernel
theorem dX12_init_334 : decode cX12_init 334 = .ok (.bipush 28, 2) := by decide +kernel
theorem dX12_init_336 : decode cX12_init 336 = .ok (.newarray .int, 2) := by decide +kernel
theorem dX12_init_338 : decode cX12_init 338 = .ok (.putfield 124, 3) := by decide +kernel
theorem dX12_init_341 : decode cX12_init 341 = .ok (.aload_n 0, 1) := by decide +kernel
theorem dX12_init_342 : decode cX12_init 342 = .ok (.sipush 480, 3) := by decide +kernel
theorem dX12_init_345 : decode cX12_init 345 = .ok (.newarray .int, 2) := by decide +kernel
theorem dX12_init_347 : decode cX12_init 347 = .ok (.putfield 127, 3) := by decide +kernel
theorem dX12_init_350 : decode cX12_init 350 = .ok (.aload_n 0, 1) := by decide +kernel
theorem dX12_init_351 : decode cX12_init 351 = .ok (.sipush 3840, 3) := by decide +kernel
theorem dX12_init_354 : decode cX12_init 354 = .ok (.newarray .int, 2) := by decide +kernel
theorem dX12_init_356 : decode cX12_init 356 = .ok (.putfield 130, 3) := by decide +kernel
theorem dX12_init_359 : decode cX12_init 359 = .ok (.aload_n 0, 1) := by decide +kernel
theorem dX12_init_360 : decode cX12_init 360 = .ok (.bipush 8, 2) := by decide +kernel
theorem dX12_init_362 : decode cX12_init 362 = .ok (.newarray .int, 2) := by decide +kernel
theorem dX12_init_364 : decode cX12_init 364 = .ok (.putfield 133, 3) := by decide +kernel
theorem dX12_init_367 : decode cX12_init 367 = .ok (.aload_n 0, 1) := by decide +kernel
theorem dX12_init_368 : decode cX12_init 368 = .ok (.bipush 28, 2) := by decide +kernel
theorem dX12_init_370 : decode cX12_init 370 = .ok (.newarray .int, 2) := by decide +kernel
theorem dX12_init_372 : decode cX12_init 372 = .ok (.putfield 136, 3) := by decide +kernel
theorem dX12_init_375 : decode cX12_init 375 = .ok (.aload_n 0, 1) := by decide +kernel
theorem dX12_init_376 : decode cX12_init 376 = .ok (.sipush 1120, 3) := by decide +kernel
theorem dX12_init_379 : decode cX12_init 379 = .ok (.newarray .int, 2) := by decide +kernel
theorem dX12_init_381 : decode cX12_init 381 = .ok (.putfield 139, 3) := by decide +kernel
theorem dX12_init_384 : decode cX12_init 384 = .ok (.aload_n 0, 1) := by decide +kernel
theorem dX12_init_385 : decode cX12_init 385 = .ok (.bipush 8, 2) := by decide +kernel
theorem dX12_init_387 : decode cX12_init 387 = .ok (.newarray .int, 2) := by decide +kernel
theorem dX12_init_389 : decode cX12_init 389 = .ok (.putfield 142, 3) := by decide +kernel
theorem dX12_init_392 : decode cX12_init 392 = .ok (.aload_n 0, 1) := by decide +kernel
theorem dX12_init_393 : decode cX12_init 393 = .ok (.bipush 8, 2) := by decide +kernel
theorem dX12_init_395 : decode cX12_init 395 = .ok (.newarray .int, 2) := by decide +kernel
theorem dX12_init_397 : decode cX12_init 397 = .ok (.putfield 145, 3) := by decide +kernel
theorem dX12_init_400 : decode cX12_init 400 = .ok (.aload_n 0, 1) := by decide +kernel
theorem dX12_init_401 : decode cX12_init 401 = .ok (.bipush 8, 2) := by decide +kernel
theorem dX12_init_403 : decode cX12_init 403 = .ok (.newarray .int, 2) := by decide +kernel
theorem dX12_init_405 : decode cX12_init 405 = .ok (.putfield 148, 3) := by decide +kernel
theorem dX12_init_408 : decode cX12_init 408 = .ok (.aload_n 0, 1) := by decide +kernel
theorem dX12_init_409 : decode cX12_init 409 = .ok (.iconst 3, 1) := by decide +kernel
theorem dX12_init_410 : decode cX12_init 410 = .ok (.newarray .int, 2) := by decide +kernel
theorem dX12_init_412 : decode cX12_init 412 = .ok (.putfield 151, 3) := by decide +kernel
theorem dX12_init_415 : decode cX12_init 415 = .ok (.aload_n 0, 1) := by decide +kernel
theorem dX12_init_416 : decode cX12_init 416 = .ok (.getfield 42, 3) := by decide +kernel
theorem dX12_init_419 : decode cX12_init 419 = .ok (.iconst 0, 1) := by decide +kernel
theorem dX12_init_420 : decode cX12_init 420 = .ok (.iconst 3, 1) := by decide +kernel
theorem dX12_init_421 : decode cX12_init 421 = .ok (.iastore, 1) := by decide +kernel
theorem dX12_init_422 : decode cX12_init 422 = .ok (.return_, 1) := by decide +kernel
theorem dX12_thrown_0 : decode cX12_thrown 0 = .ok (.aload_n 0, 1) := by decide +kernel
theorem dX12_thrown_1 : decode cX12_thrown 1 = .ok (.getfield 154, 3) := by decide +kernel
theorem dX12_thrown_4 : decode cX12_thrown 4 = .ok (.ireturn, 1) := by decide +kernel
theorem dX12_fail_0 : decode cX12_fail 0 = .ok (.aload_n 0, 1) := by decide +kernel
theorem dX12_fail_1 : decode cX12_fail 1 = .ok (.iload_n 1, 1) := by decide +kernel
theorem dX12_fail_2 : decode cX12_fail 2 = .ok (.putfield 154, 3) := by decide +kernel
theorem dX12_fail_5 : decode cX12_fail 5 = .ok (.iconst 0, 1) := by decide +kernel
theorem dX12_fail_6 : decode cX12_fail 6 = .ok (.ireturn, 1) := by decide +kernel
theorem dX12_failing_0 : decode cX12_failing 0 = .ok (.aload_n 0, 1) := by decide +kernel
theorem dX12_failing_1 : decode cX12_failing 1 = .ok (.iload_n 1, 1) := by decide +kernel
theorem dX12_failing_2 : decode cX12_failing 2 = .ok (.putfield 154, 3) := by decide +kernel
theorem dX12_failing_5 : decode cX12_failing 5 = .ok (.iconst 0, 1) := by decide +kernel
theorem dX12_failing_6 : decode cX12_failing 6 = .ok (.ireturn, 1) := by decide +kernel
theorem dX12_isIn_0 : decode cX12_isIn 0 = .ok (.lload_n 0, 1) := by decide +kernel
theorem dX12_isIn_1 : decode cX12_isIn 1 = .ok (.lload_n 2, 1) := by decide +kernel
theorem dX12_isIn_2 : decode cX12_isIn 2 = .ok (.lcmp, 1) := by decide +kernel
theorem dX12_isIn_3 : decode cX12_isIn 3 = .ok (.ifCond .lt 14, 3) := by decide +kernel
theorem dX12_isIn_6 : decode cX12_isIn 6 = .ok (.lload_n 0, 1) := by decide +kernel
theorem dX12_isIn_7 : decode cX12_isIn 7 = .ok (.lload 4, 2) := by decide +kernel
theorem dX12_isIn_9 : decode cX12_isIn 9 = .ok (.lcmp, 1) := by decide +kernel
theorem dX12_isIn_10 : decode cX12_isIn 10 = .ok (.ifCond .gt 7, 3) := by decide +kernel
theorem dX12_isIn_13 : decode cX12_isIn 13 = .ok (.iconst 1, 1) := by decide +kernel
theorem dX12_isIn_14 : decode cX12_isIn 14 = .ok (.goto 4, 3) := by decide +kernel
theorem dX12_isIn_17 : decode cX12_isIn 17 = .ok (.iconst 0, 1) := by decide +kernel
theorem dX12_isIn_18 : decode cX12_isIn 18 = .ok (.ireturn, 1) := by decide +kernel
theorem dX12_isOf_0 : decode cX12_isOf 0 = .ok (.iload_n 0, 1) := by decide +kernel
theorem dX12_isOf_1 : decode cX12_isOf 1 = .ok (.iload_n 1, 1) := by decide +kernel
theorem dX12_isOf_2 : decode cX12_isOf 2 = .ok (.ishr, 1) := by decide +kernel
theorem dX12_isOf_3 : decode cX12_isOf 3 = .ok (.iconst 1, 1) := by decide +kernel
theorem dX12_isOf_4 : decode cX12_isOf 4 = .ok (.iand, 1) := by decide +kernel
theorem dX12_isOf_5 : decode cX12_isOf 5 = .ok (.iconst 1, 1) := by decide +kernel
theorem dX12_isOf_6 : decode cX12_isOf 6 = .ok (.if_icmp .ne 7, 3) := by decide +kernel
theorem dX12_isOf_9 : decode cX12_isOf 9 = .ok (.iconst 1, 1) := by decide +kernel
theorem dX12_isOf_10 : decode cX12_isOf 10 = .ok (.goto 4, 3) := by decide +kernel
theorem dX12_isOf_13 : decode cX12_isOf 13 = .ok (.iconst 0, 1) := by decide +kernel
theorem dX12_isOf_14 : decode cX12_isOf 14 = .ok (.ireturn, 1) := by decide +kernel
theorem dX12_bitsOf_0 : decode cX12_bitsOf 0 = .ok (.iconst 0, 1) := by decide +kernel
theorem dX12_bitsOf_1 : decode cX12_bitsOf 1 = .ok (.istore_n 1, 1) := by decide +kernel
theorem dX12_bitsOf_2 : decode cX12_bitsOf 2 = .ok (.iload_n 0, 1) := by decide +kernel
theorem dX12_bitsOf_3 : decode cX12_bitsOf 3 = .ok (.istore_n 2, 1) := by decide +kernel
theorem dX12_bitsOf_4 : decode cX12_bitsOf 4 = .ok (.iload_n 2, 1) := by decide +kernel
theorem dX12_bitsOf_5 : decode cX12_bitsOf 5 = .ok (.ifCond .eq 15, 3) := by decide +kernel
theorem dX12_bitsOf_8 : decode cX12_bitsOf 8 = .ok (.iinc 1 1, 3) := by decide +kernel
theorem dX12_bitsOf_11 : decode cX12_bitsOf 11 = .ok (.iload_n 2, 1) := by decide +kernel
theorem dX12_bitsOf_12 : decode cX12_bitsOf 12 = .ok (.iload_n 2, 1) := by decide +kernel
theorem dX12_bitsOf_13 : decode cX12_bitsOf 13 = .ok (.iconst 1, 1) := by decide +kernel
theorem dX12_bitsOf_14 : decode cX12_bitsOf 14 = .ok (.isub, 1) := by decide +kernel
theorem dX12_bitsOf_15 : decode cX12_bitsOf 15 = .ok (.iand, 1) := by decide +kernel
theorem dX12_bitsOf_16 : decode cX12_bitsOf 16 = .ok (.istore_n 2, 1) := by decide +kernel
theorem dX12_bitsOf_17 : decode cX12_bitsOf 17 = .ok (.goto (-13), 3) := by decide +kernel
theorem dX12_bitsOf_20 : decode cX12_bitsOf 20 = .ok (.iload_n 1, 1) := by decide +kernel
theorem dX12_bitsOf_21 : decode cX12_bitsOf 21 = .ok (.ireturn, 1) := by decide +kernel
theorem dX12_onDial_0 : decode cX12_onDial 0 = .ok (.iload_n 0, 1) := by decide +kernel
theorem dX12_onDial_1 : decode cX12_onDial 1 = .ok (.bipush 60, 2) := by decide +kernel
theorem dX12_onDial_3 : decode cX12_onDial 3 = .ok (.irem, 1) := by decide +kernel
theorem dX12_onDial_4 : decode cX12_onDial 4 = .ok (.istore_n 1, 1) := by decide +kernel
theorem dX12_onDial_5 : decode cX12_onDial 5 = .ok (.iload_n 1, 1) := by decide +kernel
theorem dX12_onDial_6 : decode cX12_onDial 6 = .ok (.ifCond .ge 10, 3) := by decide +kernel
theorem dX12_onDial_9 : decode cX12_onDial 9 = .ok (.iload_n 1, 1) := by decide +kernel
theorem dX12_onDial_10 : decode cX12_onDial 10 = .ok (.bipush 60, 2) := by decide +kernel
theorem dX12_onDial_12 : decode cX12_onDial 12 = .ok (.iadd, 1) := by decide +kernel
theorem dX12_onDial_13 : decode cX12_onDial 13 = .ok (.goto 4, 3) := by decide +kernel
theorem dX12_onDial_16 : decode cX12_onDial 16 = .ok (.iload_n 1, 1) := by decide +kernel
theorem dX12_onDial_17 : decode cX12_onDial 17 = .ok (.ireturn, 1) := by decide +kernel
theorem dX12_isPerson_0 : decode cX12_isPerson 0 = .ok (.iload_n 1, 1) := by decide +kernel
theorem dX12_isPerson_1 : decode cX12_isPerson 1 = .ok (.i2l, 1) := by decide +kernel
theorem dX12_isPerson_2 : decode cX12_isPerson 2 = .ok (.lconst 0, 1) := by decide +kernel
theorem dX12_isPerson_3 : decode cX12_isPerson 3 = .ok (.aload_n 0, 1) := by decide +kernel
theorem dX12_isPerson_4 : decode cX12_isPerson 4 = .ok (.getfield 42, 3) := by decide +kernel
theorem dX12_isPerson_7 : decode cX12_isPerson 7 = .ok (.iconst 1, 1) := by decide +kernel
theorem dX12_isPerson_8 : decode cX12_isPerson 8 = .ok (.iaload, 1) := by decide +kernel
theorem dX12_isPerson_9 : decode cX12_isPerson 9 = .ok (.iconst 1, 1) := by decide +kernel
theorem dX12_isPerson_10 : decode cX12_isPerson 10 = .ok (.isub, 1) := by decide +kernel
theorem dX12_isPerson_11 : decode cX12_isPerson 11 = .ok (.i2l, 1) := by decide +kernel
theorem dX12_isPerson_12 : decode cX12_isPerson 12 = .ok (.invokestatic 157, 3) := by decide +kernel
theorem dX12_isPerson_15 : decode cX12_isPerson 15 = .ok (.ireturn, 1) := by decide +kernel
theorem dX12_all_0 : decode cX12_all 0 = .ok (.iconst 1, 1) := by decide +kernel
theorem dX12_all_1 : decode cX12_all 1 = .ok (.aload_n 0, 1) := by decide +kernel
theorem dX12_all_2 : decode cX12_all 2 = .ok (.getfield 42, 3) := by decide +kernel
theorem dX12_all_5 : decode cX12_all 5 = .ok (.iconst 1, 1) := by decide +kernel
theorem dX12_all_6 : decode cX12_all 6 = .ok (.iaload, 1) := by decide +kernel
theorem dX12_all_7 : decode cX12_all 7 = .ok (.ishl, 1) := by decide +kernel
theorem dX12_all_8 : decode cX12_all 8 = .ok (.iconst 1, 1) := by decide +kernel
theorem dX12_all_9 : decode cX12_all 9 = .ok (.isub, 1) := by decide +kernel
theorem dX12_all_10 : decode cX12_all 10 = .ok (.ireturn, 1) := by decide +kernel
theorem dX12_feed_0 : decode cX12_feed 0 = .ok (.aload_n 0, 1) := by decide +kernel
theorem dX12_feed_1 : decode cX12_feed 1 = .ok (.iconst 0, 1) := by decide +kernel
theorem dX12_feed_2 : decode cX12_feed 2 = .ok (.putfield 154, 3) := by decide +kernel
theorem dX12_feed_5 : decode cX12_feed 5 = .ok (.aload_n 0, 1) := by decide +kernel
theorem dX12_feed_6 : decode cX12_feed 6 = .ok (.getfield 161, 3) := by decide +kernel
theorem dX12_feed_9 : decode cX12_feed 9 = .ok (.bipush 20, 2) := by decide +kernel
theorem dX12_feed_11 : decode cX12_feed 11 = .ok (.iadd, 1) := by decide +kernel
theorem dX12_feed_12 : decode cX12_feed 12 = .ok (.sipush 700, 3) := by decide +kernel
theorem dX12_feed_15 : decode cX12_feed 15 = .ok (.if_icmp .le 5, 3) := by decide +kernel
theorem dX12_feed_18 : decode cX12_feed 18 = .ok (.iconst (-1), 1) := by decide +kernel
theorem dX12_feed_19 : decode cX12_feed 19 = .ok (.ireturn, 1) := by decide +kernel
theorem dX12_feed_20 : decode cX12_feed 20 = .ok (.iconst 0, 1) := by decide +kernel
theorem dX12_feed_21 : decode cX12_feed 21 = .ok (.istore 6, 2) := by decide +kernel
theorem dX12_feed_23 : decode cX12_feed 23 = .ok (.iload 6, 2) := by decide +kernel
theorem dX12_feed_25 : decode cX12_feed 25 = .ok (.bipush 20, 2) := by decide +kernel
theorem dX12_feed_27 : decode cX12_feed 27 = .ok (.if_icmp .ge 93, 3) := by decide +kernel
theorem dX12_feed_30 : decode cX12_feed 30 = .ok (.iload 6, 2) := by decide +kernel
theorem dX12_feed_32 : decode cX12_feed 32 = .ok (.iconst 4, 1) := by decide +kernel
theorem dX12_feed_33 : decode cX12_feed 33 = .ok (.if_icmp .ge 7, 3) := by decide +kernel
theorem dX12_feed_36 : decode cX12_feed 36 = .ok (.iload_n 1, 1) := by decide +kernel
theorem dX12_feed_37 : decode cX12_feed 37 = .ok (.goto 39, 3) := by decide +kernel
theorem dX12_feed_40 : decode cX12_feed 40 = .ok (.iload 6, 2) := by decide +kernel
theorem dX12_feed_42 : decode cX12_feed 42 = .ok (.bipush 8, 2) := by decide +kernel
theorem dX12_feed_44 : decode cX12_feed 44 = .ok (.if_icmp .ge 7, 3) := by decide +kernel
theorem dX12_feed_47 : decode cX12_feed 47 = .ok (.iload_n 2, 1) := by decide +kernel
theorem dX12_feed_48 : decode cX12_feed 48 = .ok (.goto 28, 3) := by decide +kernel
theorem dX12_feed_51 : decode cX12_feed 51 = .ok (.iload 6, 2) := by decide +kernel
theorem dX12_feed_53 : decode cX12_feed 53 = .ok (.bipush 12, 2) := by decide +kernel
theorem dX12_feed_55 : decode cX12_feed 55 = .ok (.if_icmp .ge 7, 3) := by decide +kernel
theorem dX12_feed_58 : decode cX12_feed 58 = .ok (.iload_n 3, 1) := by decide +kernel
theorem dX12_feed_59 : decode cX12_feed 59 = .ok (.goto 17, 3) := by decide +kernel
theorem dX12_feed_62 : decode cX12_feed 62 = .ok (.iload 6, 2) := by decide +kernel
theorem dX12_feed_64 : decode cX12_feed 64 = .ok (.bipush 16, 2) := by decide +kernel
theorem dX12_feed_66 : decode cX12_feed 66 = .ok (.if_icmp .ge 8, 3) := by decide +kernel
theorem dX12_feed_69 : decode cX12_feed 69 = .ok (.iload 4, 2) := by decide +kernel
theorem dX12_feed_71 : decode cX12_feed 71 = .ok (.goto 5, 3) := by decide +kernel
theorem dX12_feed_74 : decode cX12_feed 74 = .ok (.iload 5, 2) := by decide +kernel
theorem dX12_feed_76 : decode cX12_feed 76 = .ok (.istore 7, 2) := by decide +kernel
theorem dX12_feed_78 : decode cX12_feed 78 = .ok (.aload_n 0, 1) := by decide +kernel
theorem dX12_feed_79 : decode cX12_feed 79 = .ok (.getfield 74, 3) := by decide +kernel
theorem dX12_feed_82 : decode cX12_feed 82 = .ok (.aload_n 0, 1) := by decide +kernel
theorem dX12_feed_83 : decode cX12_feed 83 = .ok (.getfield 161, 3) := by decide +kernel
theorem dX12_feed_86 : decode cX12_feed 86 = .ok (.iload 7, 2) := by decide +kernel
theorem dX12_feed_88 : decode cX12_feed 88 = .ok (.bipush 24, 2) := by decide +kernel
theorem dX12_feed_90 : decode cX12_feed 90 = .ok (.bipush 8, 2) := by decide +kernel
theorem dX12_feed_92 : decode cX12_feed 92 = .ok (.iload 6, 2) := by decide +kernel
theorem dX12_feed_94 : decode cX12_feed 94 = .ok (.iconst 4, 1) := by decide +kernel
theorem dX12_feed_95 : decode cX12_feed 95 = .ok (.irem, 1) := by decide +kernel
theorem dX12_feed_96 : decode cX12_feed 96 = .ok (.imul, 1) := by decide +kernel
theorem dX12_feed_97 : decode cX12_feed 97 = .ok (.isub, 1) := by decide +kernel
theorem dX12_feed_98 : decode cX12_feed 98 = .ok (.ishr, 1) := by decide +kernel
theorem dX12_feed_99 : decode cX12_feed 99 = .ok (.sipush 255, 3) := by decide +kernel
theorem dX12_feed_102 : decode cX12_feed 102 = .ok (.iand, 1) := by decide +kernel
theorem dX12_feed_103 : decode cX12_feed 103 = .ok (.iastore, 1) := by decide +kernel
theorem dX12_feed_104 : decode cX12_feed 104 = .ok (.aload_n 0, 1) := by decide +kernel
theorem dX12_feed_105 : decode cX12_feed 105 = .ok (.dup, 1) := by decide +kernel
theorem dX12_feed_106 : decode cX12_feed 106 = .ok (.getfield 161, 3) := by decide +kernel
theorem dX12_feed_109 : decode cX12_feed 109 = .ok (.iconst 1, 1) := by decide +kernel
theorem dX12_feed_110 : decode cX12_feed 110 = .ok (.iadd, 1) := by decide +kernel
theorem dX12_feed_111 : decode cX12_feed 111 = .ok (.putfield 161, 3) := by decide +kernel
theorem dX12_feed_114 : decode cX12_feed 114 = .ok (.iinc 6 1, 3) := by decide +kernel
theorem dX12_feed_117 : decode cX12_feed 117 = .ok (.goto (-94), 3) := by decide +kernel
theorem dX12_feed_120 : decode cX12_feed 120 = .ok (.aload_n 0, 1) := by decide +kernel
theorem dX12_feed_121 : decode cX12_feed 121 = .ok (.getfield 161, 3) := by decide +kernel
theorem dX12_feed_124 : decode cX12_feed 124 = .ok (.ireturn, 1) := by decide +kernel
theorem dX12_byteAt_0 : decode cX12_byteAt 0 = .ok (.iload_n 1, 1) := by decide +kernel
theorem dX12_byteAt_1 : decode cX12_byteAt 1 = .ok (.aload_n 0, 1) := by decide +kernel
theorem dX12_byteAt_2 : decode cX12_byteAt 2 = .ok (.getfield 164, 3) := by decide +kernel
theorem dX12_byteAt_5 : decode cX12_byteAt 5 = .ok (.if_icmp .ge 12, 3) := by decide +kernel
theorem dX12_byteAt_8 : decode cX12_byteAt 8 = .ok (.aload_n 0, 1) := by decide +kernel
theorem dX12_byteAt_9 : decode cX12_byteAt 9 = .ok (.getfield 74, 3) := by decide +kernel
theorem dX12_byteAt_12 : decode cX12_byteAt 12 = .ok (.iload_n 1, 1) := by decide +kernel
theorem dX12_byteAt_13 : decode cX12_byteAt 13 = .ok (.iaload, 1) := by decide +kernel
theorem dX12_byteAt_14 : decode cX12_byteAt 14 = .ok (.goto 4, 3) := by decide +kernel
theorem dX12_byteAt_17 : decode cX12_byteAt 17 = .ok (.iconst (-1), 1) := by decide +kernel
theorem dX12_byteAt_18 : decode cX12_byteAt 18 = .ok (.ireturn, 1) := by decide +kernel
theorem dX12_isLetter_0 : decode cX12_isLetter 0 = .ok (.iload_n 0, 1) := by decide +kernel
theorem dX12_isLetter_1 : decode cX12_isLetter 1 = .ok (.bipush 97, 2) := by decide +kernel
theorem dX12_isLetter_3 : decode cX12_isLetter 3 = .ok (.if_icmp .lt 13, 3) := by decide +kernel
theorem dX12_isLetter_6 : decode cX12_isLetter 6 = .ok (.iload_n 0, 1) := by decide +kernel
theorem dX12_isLetter_7 : decode cX12_isLetter 7 = .ok (.bipush 122, 2) := by decide +kernel
theorem dX12_isLetter_9 : decode cX12_isLetter 9 = .ok (.if_icmp .gt 7, 3) := by decide +kernel
theorem dX12_isLetter_12 : decode cX12_isLetter 12 = .ok (.iconst 1, 1) := by decide +kernel
theorem dX12_isLetter_13 : decode cX12_isLetter 13 = .ok (.goto 4, 3) := by decide +kernel
theorem dX12_isLetter_16 : decode cX12_isLetter 16 = .ok (.iconst 0, 1) := by decide +kernel
theorem dX12_isLetter_17 : decode cX12_isLetter 17 = .ok (.ireturn, 1) := by decide +kernel
theorem dX12_isDigit_0 : decode cX12_isDigit 0 = .ok (.iload_n 0, 1) := by decide +kernel
theorem dX12_isDigit_1 : decode cX12_isDigit 1 = .ok (.bipush 48, 2) := by decide +kernel
theorem dX12_isDigit_3 : decode cX12_isDigit 3 = .ok (.if_icmp .lt 13, 3) := by decide +kernel
theorem dX12_isDigit_6 : decode cX12_isDigit 6 = .ok (.iload_n 0, 1) := by decide +kernel
theorem dX12_isDigit_7 : decode cX12_isDigit 7 = .ok (.bipush 57, 2) := by decide +kernel
theorem dX12_isDigit_9 : decode cX12_isDigit 9 = .ok (.if_icmp .gt 7, 3) := by decide +kernel
theorem dX12_isDigit_12 : decode cX12_isDigit 12 = .ok (.iconst 1, 1) := by decide +kernel
theorem dX12_isDigit_13 : decode cX12_isDigit 13 = .ok (.goto 4, 3) := by decide +kernel
theorem dX12_isDigit_16 : decode cX12_isDigit 16 = .ok (.iconst 0, 1) := by decide +kernel
theorem dX12_isDigit_17 : decode cX12_isDigit 17 = .ok (.ireturn, 1) := by decide +kernel
theorem dX12_isMark_0 : decode cX12_isMark 0 = .ok (.iload_n 0, 1) := by decide +kernel
theorem dX12_isMark_1 : decode cX12_isMark 1 = .ok (.bipush 59, 2) := by decide +kernel
theorem dX12_isMark_3 : decode cX12_isMark 3 = .ok (.if_icmp .eq 51, 3) := by decide +kernel
theorem dX12_isMark_6 : decode cX12_isMark 6 = .ok (.iload_n 0, 1) := by decide +kernel
theorem dX12_isMark_7 : decode cX12_isMark 7 = .ok (.bipush 40, 2) := by decide +kernel
theorem dX12_isMark_9 : decode cX12_isMark 9 = .ok (.if_icmp .eq 45, 3) := by decide +kernel
theorem dX12_isMark_12 : decode cX12_isMark 12 = .ok (.iload_n 0, 1) := by decide +kernel
theorem dX12_isMark_13 : decode cX12_isMark 13 = .ok (.bipush 41, 2) := by decide +kernel
theorem dX12_isMark_15 : decode cX12_isMark 15 = .ok (.if_icmp .eq 39, 3) := by decide +kernel
theorem dX12_isMark_18 : decode cX12_isMark 18 = .ok (.iload_n 0, 1) := by decide +kernel
theorem dX12_isMark_19 : decode cX12_isMark 19 = .ok (.bipush 43, 2) := by decide +kernel
theorem dX12_isMark_21 : decode cX12_isMark 21 = .ok (.if_icmp .eq 33, 3) := by decide +kernel
theorem dX12_isMark_24 : decode cX12_isMark 24 = .ok (.iload_n 0, 1) := by decide +kernel
theorem dX12_isMark_25 : decode cX12_isMark 25 = .ok (.bipush 45, 2) := by decide +kernel
theorem dX12_isMark_27 : decode cX12_isMark 27 = .ok (.if_icmp .eq 27, 3) := by decide +kernel
theorem dX12_isMark_30 : decode cX12_isMark 30 = .ok (.iload_n 0, 1) := by decide +kernel
theorem dX12_isMark_31 : decode cX12_isMark 31 = .ok (.bipush 42, 2) := by decide +kernel
theorem dX12_isMark_33 : decode cX12_isMark 33 = .ok (.if_icmp .eq 21, 3) := by decide +kernel
theorem dX12_isMark_36 : decode cX12_isMark 36 = .ok (.iload_n 0, 1) := by decide +kernel
theorem dX12_isMark_37 : decode cX12_isMark 37 = .ok (.bipush 47, 2) := by decide +kernel
theorem dX12_isMark_39 : decode cX12_isMark 39 = .ok (.if_icmp .eq 15, 3) := by decide +kernel
theorem dX12_isMark_42 : decode cX12_isMark 42 = .ok (.iload_n 0, 1) := by decide +kernel
theorem dX12_isMark_43 : decode cX12_isMark 43 = .ok (.bipush 60, 2) := by decide +kernel
theorem dX12_isMark_45 : decode cX12_isMark 45 = .ok (.if_icmp .eq 9, 3) := by decide +kernel
theorem dX12_isMark_48 : decode cX12_isMark 48 = .ok (.iload_n 0, 1) := by decide +kernel
theorem dX12_isMark_49 : decode cX12_isMark 49 = .ok (.bipush 61, 2) := by decide +kernel
theorem dX12_isMark_51 : decode cX12_isMark 51 = .ok (.if_icmp .ne 7, 3) := by decide +kernel
theorem dX12_isMark_54 : decode cX12_isMark 54 = .ok (.iconst 1, 1) := by decide +kernel
theorem dX12_isMark_55 : decode cX12_isMark 55 = .ok (.goto 4, 3) := by decide +kernel
theorem dX12_isMark_58 : decode cX12_isMark 58 = .ok (.iconst 0, 1) := by decide +kernel
theorem dX12_isMark_59 : decode cX12_isMark 59 = .ok (.ireturn, 1) := by decide +kernel
theorem dX12_stepOn_0 : decode cX12_stepOn 0 = .ok (.aload_n 0, 1) := by decide +kernel
theorem dX12_stepOn_1 : decode cX12_stepOn 1 = .ok (.aload_n 0, 1) := by decide +kernel
theorem dX12_stepOn_2 : decode cX12_stepOn 2 = .ok (.getfield 167, 3) := by decide +kernel
theorem dX12_stepOn_5 : decode cX12_stepOn 5 = .ok (.invokevirtual 170, 3) := by decide +kernel
theorem dX12_stepOn_8 : decode cX12_stepOn 8 = .ok (.bipush 32, 2) := by decide +kernel
theorem dX12_stepOn_10 : decode cX12_stepOn 10 = .ok (.if_icmp .eq 16, 3) := by decide +kernel
theorem dX12_stepOn_13 : decode cX12_stepOn 13 = .ok (.aload_n 0, 1) := by decide +kernel
theorem dX12_stepOn_14 : decode cX12_stepOn 14 = .ok (.aload_n 0, 1) := by decide +kernel
theorem dX12_stepOn_15 : decode cX12_stepOn 15 = .ok (.getfield 167, 3) := by decide +kernel
theorem dX12_stepOn_18 : decode cX12_stepOn 18 = .ok (.invokevirtual 170, 3) := by decide +kernel
theorem dX12_stepOn_21 : decode cX12_stepOn 21 = .ok (.bipush 10, 2) := by decide +kernel
theorem dX12_stepOn_23 : decode cX12_stepOn 23 = .ok (.if_icmp .ne 16, 3) := by decide +kernel
theorem dX12_stepOn_26 : decode cX12_stepOn 26 = .ok (.aload_n 0, 1) := by decide +kernel
theorem dX12_stepOn_27 : decode cX12_stepOn 27 = .ok (.dup, 1) := by decide +kernel
theorem dX12_stepOn_28 : decode cX12_stepOn 28 = .ok (.getfield 167, 3) := by decide +kernel
theorem dX12_stepOn_31 : decode cX12_stepOn 31 = .ok (.iconst 1, 1) := by decide +kernel
theorem dX12_stepOn_32 : decode cX12_stepOn 32 = .ok (.iadd, 1) := by decide +kernel
theorem dX12_stepOn_33 : decode cX12_stepOn 33 = .ok (.putfield 167, 3) := by decide +kernel
theorem dX12_stepOn_36 : decode cX12_stepOn 36 = .ok (.goto (-36), 3) := by decide +kernel
theorem dX12_stepOn_39 : decode cX12_stepOn 39 = .ok (.aload_n 0, 1) := by decide +kernel
theorem dX12_stepOn_40 : decode cX12_stepOn 40 = .ok (.aload_n 0, 1) := by decide +kernel
theorem dX12_stepOn_41 : decode cX12_stepOn 41 = .ok (.getfield 167, 3) := by decide +kernel
theorem dX12_stepOn_44 : decode cX12_stepOn 44 = .ok (.putfield 174, 3) := by decide +kernel
theorem dX12_stepOn_47 : decode cX12_stepOn 47 = .ok (.aload_n 0, 1) := by decide +kernel
theorem dX12_stepOn_48 : decode cX12_stepOn 48 = .ok (.aload_n 0, 1) := by decide +kernel
theorem dX12_stepOn_49 : decode cX12_stepOn 49 = .ok (.getfield 167, 3) := by decide +kernel
theorem dX12_stepOn_52 : decode cX12_stepOn 52 = .ok (.invokevirtual 170, 3) := by decide +kernel
theorem dX12_stepOn_55 : decode cX12_stepOn 55 = .ok (.istore_n 1, 1) := by decide +kernel
theorem dX12_stepOn_56 : decode cX12_stepOn 56 = .ok (.iload_n 1, 1) := by decide +kernel
theorem dX12_stepOn_57 : decode cX12_stepOn 57 = .ok (.iconst (-1), 1) := by decide +kernel
theorem dX12_stepOn_58 : decode cX12_stepOn 58 = .ok (.if_icmp .ne 11, 3) := by decide +kernel
theorem dX12_stepOn_61 : decode cX12_stepOn 61 = .ok (.aload_n 0, 1) := by decide +kernel
theorem dX12_stepOn_62 : decode cX12_stepOn 62 = .ok (.iconst 0, 1) := by decide +kernel
theorem dX12_stepOn_63 : decode cX12_stepOn 63 = .ok (.putfield 177, 3) := by decide +kernel
theorem dX12_stepOn_66 : decode cX12_stepOn 66 = .ok (.goto 146, 3) := by decide +kernel
theorem dX12_stepOn_69 : decode cX12_stepOn 69 = .ok (.iload_n 1, 1) := by decide +kernel
theorem dX12_stepOn_70 : decode cX12_stepOn 70 = .ok (.invokestatic 180, 3) := by decide +kernel
theorem dX12_stepOn_73 : decode cX12_stepOn 73 = .ok (.ifCond .eq 38, 3) := by decide +kernel
theorem dX12_stepOn_76 : decode cX12_stepOn 76 = .ok (.aload_n 0, 1) := by decide +kernel
theorem dX12_stepOn_77 : decode cX12_stepOn 77 = .ok (.aload_n 0, 1) := by decide +kernel
theorem dX12_stepOn_78 : decode cX12_stepOn 78 = .ok (.getfield 167, 3) := by decide +kernel
theorem dX12_stepOn_81 : decode cX12_stepOn 81 = .ok (.invokevirtual 170, 3) := by decide +kernel
theorem dX12_stepOn_84 : decode cX12_stepOn 84 = .ok (.invokestatic 180, 3) := by decide +kernel
theorem dX12_stepOn_87 : decode cX12_stepOn 87 = .ok (.ifCond .eq 16, 3) := by decide +kernel
theorem dX12_stepOn_90 : decode cX12_stepOn 90 = .ok (.aload_n 0, 1) := by decide +kernel
theorem dX12_stepOn_91 : decode cX12_stepOn 91 = .ok (.dup, 1) := by decide +kernel
theorem dX12_stepOn_92 : decode cX12_stepOn 92 = .ok (.getfield 167, 3) := by decide +kernel
theorem dX12_stepOn_95 : decode cX12_stepOn 95 = .ok (.iconst 1, 1) := by decide +kernel
theorem dX12_stepOn_96 : decode cX12_stepOn 96 = .ok (.iadd, 1) := by decide +kernel
theorem dX12_stepOn_97 : decode cX12_stepOn 97 = .ok (.putfield 167, 3) := by decide +kernel
theorem dX12_stepOn_100 : decode cX12_stepOn 100 = .ok (.goto (-24), 3) := by decide +kernel
theorem dX12_stepOn_103 : decode cX12_stepOn 103 = .ok (.aload_n 0, 1) := by decide +kernel
theorem dX12_stepOn_104 : decode cX12_stepOn 104 = .ok (.iconst 1, 1) := by decide +kernel
theorem dX12_stepOn_105 : decode cX12_stepOn 105 = .ok (.putfield 177, 3) := by decide +kernel
theorem dX12_stepOn_108 : decode cX12_stepOn 108 = .ok (.goto 104, 3) := by decide +kernel
theorem dX12_stepOn_111 : decode cX12_stepOn 111 = .ok (.iload_n 1, 1) := by decide +kernel
theorem dX12_stepOn_112 : decode cX12_stepOn 112 = .ok (.invokestatic 184, 3) := by decide +kernel
theorem dX12_stepOn_115 : decode cX12_stepOn 115 = .ok (.ifCond .eq 71, 3) := by decide +kernel
theorem dX12_stepOn_118 : decode cX12_stepOn 118 = .ok (.aload_n 0, 1) := by decide +kernel
theorem dX12_stepOn_119 : decode cX12_stepOn 119 = .ok (.iconst 0, 1) := by decide +kernel
theorem dX12_stepOn_120 : decode cX12_stepOn 120 = .ok (.putfield 187, 3) := by decide +kernel
theorem dX12_stepOn_123 : decode cX12_stepOn 123 = .ok (.aload_n 0, 1) := by decide +kernel
theorem dX12_stepOn_124 : decode cX12_stepOn 124 = .ok (.aload_n 0, 1) := by decide +kernel
theorem dX12_stepOn_125 : decode cX12_stepOn 125 = .ok (.getfield 167, 3) := by decide +kernel
theorem dX12_stepOn_128 : decode cX12_stepOn 128 = .ok (.invokevirtual 170, 3) := by decide +kernel
theorem dX12_stepOn_131 : decode cX12_stepOn 131 = .ok (.invokestatic 184, 3) := by decide +kernel
theorem dX12_stepOn_134 : decode cX12_stepOn 134 = .ok (.ifCond .eq 44, 3) := by decide +kernel
theorem dX12_stepOn_137 : decode cX12_stepOn 137 = .ok (.aload_n 0, 1) := by decide +kernel
theorem dX12_stepOn_138 : decode cX12_stepOn 138 = .ok (.ldc 190, 2) := by decide +kernel
theorem dX12_stepOn_140 : decode cX12_stepOn 140 = .ok (.bipush 10, 2) := by decide +kernel
theorem dX12_stepOn_142 : decode cX12_stepOn 142 = .ok (.aload_n 0, 1) := by decide +kernel
theorem dX12_stepOn_143 : decode cX12_stepOn 143 = .ok (.getfield 187, 3) := by decide +kernel
theorem dX12_stepOn_146 : decode cX12_stepOn 146 = .ok (.imul, 1) := by decide +kernel
theorem dX12_stepOn_147 : decode cX12_stepOn 147 = .ok (.aload_n 0, 1) := by decide +kernel
theorem dX12_stepOn_148 : decode cX12_stepOn 148 = .ok (.aload_n 0, 1) := by decide +kernel
theorem dX12_stepOn_149 : decode cX12_stepOn 149 = .ok (.getfield 167, 3) := by decide +kernel
theorem dX12_stepOn_152 : decode cX12_stepOn 152 = .ok (.invokevirtual 170, 3) := by decide +kernel
theorem dX12_stepOn_155 : decode cX12_stepOn 155 = .ok (.iadd, 1) := by decide +kernel
theorem dX12_stepOn_156 : decode cX12_stepOn 156 = .ok (.bipush 48, 2) := by decide +kernel
theorem dX12_stepOn_158 : decode cX12_stepOn 158 = .ok (.isub, 1) := by decide +kernel
theorem dX12_stepOn_159 : decode cX12_stepOn 159 = .ok (.invokestatic 191, 3) := by decide +kernel
theorem dX12_stepOn_162 : decode cX12_stepOn 162 = .ok (.putfield 187, 3) := by decide +kernel
theorem dX12_stepOn_165 : decode cX12_stepOn 165 = .ok (.aload_n 0, 1) := by decide +kernel
theorem dX12_stepOn_166 : decode cX12_stepOn 166 = .ok (.dup, 1) := by decide +kernel
theorem dX12_stepOn_167 : decode cX12_stepOn 167 = .ok (.getfield 167, 3) := by decide +kernel
theorem dX12_stepOn_170 : decode cX12_stepOn 170 = .ok (.iconst 1, 1) := by decide +kernel
theorem dX12_stepOn_171 : decode cX12_stepOn 171 = .ok (.iadd, 1) := by decide +kernel
theorem dX12_stepOn_172 : decode cX12_stepOn 172 = .ok (.putfield 167, 3) := by decide +kernel
theorem dX12_stepOn_175 : decode cX12_stepOn 175 = .ok (.goto (-52), 3) := by decide +kernel
theorem dX12_stepOn_178 : decode cX12_stepOn 178 = .ok (.aload_n 0, 1) := by decide +kernel
theorem dX12_stepOn_179 : decode cX12_stepOn 179 = .ok (.iconst 2, 1) := by decide +kernel
theorem dX12_stepOn_180 : decode cX12_stepOn 180 = .ok (.putfield 177, 3) := by decide +kernel
theorem dX12_stepOn_183 : decode cX12_stepOn 183 = .ok (.goto 29, 3) := by decide +kernel
theorem dX12_stepOn_186 : decode cX12_stepOn 186 = .ok (.aload_n 0, 1) := by decide +kernel
theorem dX12_stepOn_187 : decode cX12_stepOn 187 = .ok (.dup, 1) := by decide +kernel
theorem dX12_stepOn_188 : decode cX12_stepOn 188 = .ok (.getfield 167, 3) := by decide +kernel
theorem dX12_stepOn_191 : decode cX12_stepOn 191 = .ok (.iconst 1, 1) := by decide +kernel
theorem dX12_stepOn_192 : decode cX12_stepOn 192 = .ok (.iadd, 1) := by decide +kernel
theorem dX12_stepOn_193 : decode cX12_stepOn 193 = .ok (.putfield 167, 3) := by decide +kernel
theorem dX12_stepOn_196 : decode cX12_stepOn 196 = .ok (.aload_n 0, 1) := by decide +kernel
theorem dX12_stepOn_197 : decode cX12_stepOn 197 = .ok (.iload_n 1, 1) := by decide +kernel
theorem dX12_stepOn_198 : decode cX12_stepOn 198 = .ok (.invokestatic 197, 3) := by decide +kernel
theorem dX12_stepOn_201 : decode cX12_stepOn 201 = .ok (.ifCond .eq 7, 3) := by decide +kernel
theorem dX12_stepOn_204 : decode cX12_stepOn 204 = .ok (.iconst 3, 1) := by decide +kernel
theorem dX12_stepOn_205 : decode cX12_stepOn 205 = .ok (.goto 4, 3) := by decide +kernel
theorem dX12_stepOn_208 : decode cX12_stepOn 208 = .ok (.iconst 4, 1) := by decide +kernel
theorem dX12_stepOn_209 : decode cX12_stepOn 209 = .ok (.putfield 177, 3) := by decide +kernel
theorem dX12_stepOn_212 : decode cX12_stepOn 212 = .ok (.aload_n 0, 1) := by decide +kernel
theorem dX12_stepOn_213 : decode cX12_stepOn 213 = .ok (.aload_n 0, 1) := by decide +kernel
theorem dX12_stepOn_214 : decode cX12_stepOn 214 = .ok (.getfield 167, 3) := by decide +kernel
theorem dX12_stepOn_217 : decode cX12_stepOn 217 = .ok (.putfield 200, 3) := by decide +kernel
theorem dX12_stepOn_220 : decode cX12_stepOn 220 = .ok (.return_, 1) := by decide +kernel
theorem dX12_wrong_0 : decode cX12_wrong 0 = .ok (.aload_n 0, 1) := by decide +kernel
theorem dX12_wrong_1 : decode cX12_wrong 1 = .ok (.getfield 203, 3) := by decide +kernel
theorem dX12_wrong_4 : decode cX12_wrong 4 = .ok (.ifCond .eq 4, 3) := by decide +kernel
theorem dX12_wrong_7 : decode cX12_wrong 7 = .ok (.return_, 1) := by decide +kernel
theorem dX12_wrong_8 : decode cX12_wrong 8 = .ok (.aload_n 0, 1) := by decide +kernel
theorem dX12_wrong_9 : decode cX12_wrong 9 = .ok (.iload_n 1, 1) := by decide +kernel
theorem dX12_wrong_10 : decode cX12_wrong 10 = .ok (.putfield 203, 3) := by decide +kernel
theorem dX12_wrong_13 : decode cX12_wrong 13 = .ok (.aload_n 0, 1) := by decide +kernel
theorem dX12_wrong_14 : decode cX12_wrong 14 = .ok (.aload_n 0, 1) := by decide +kernel
theorem dX12_wrong_15 : decode cX12_wrong 15 = .ok (.getfield 174, 3) := by decide +kernel
theorem dX12_wrong_18 : decode cX12_wrong 18 = .ok (.putfield 206, 3) := by decide +kernel
theorem dX12_wrong_21 : decode cX12_wrong 21 = .ok (.return_, 1) := by decide +kernel
theorem dX12_is_0 : decode cX12_is 0 = .ok (.aload_n 0, 1) := by decide +kernel
theorem dX12_is_1 : decode cX12_is 1 = .ok (.getfield 203, 3) := by decide +kernel
theorem dX12_is_4 : decode cX12_is 4 = .ok (.ifCond .ne 31, 3) := by decide +kernel
theorem dX12_is_7 : decode cX12_is 7 = .ok (.aload_n 0, 1) := by decide +kernel
theorem dX12_is_8 : decode cX12_is 8 = .ok (.getfield 177, 3) := by decide +kernel
theorem dX12_is_11 : decode cX12_is 11 = .ok (.iconst 1, 1) := by decide +kernel
theorem dX12_is_12 : decode cX12_is 12 = .ok (.if_icmp .ne 23, 3) := by decide +kernel
theorem dX12_is_15 : decode cX12_is 15 = .ok (.aload_n 1, 1) := by decide +kernel
theorem dX12_is_16 : decode cX12_is 16 = .ok (.invokevirtual 209, 3) := by decide +kernel
theorem dX12_is_19 : decode cX12_is 19 = .ok (.aload_n 0, 1) := by decide +kernel
theorem dX12_is_20 : decode cX12_is 20 = .ok (.getfield 200, 3) := by decide +kernel
theorem dX12_is_23 : decode cX12_is 23 = .ok (.aload_n 0, 1) := by decide +kernel
theorem dX12_is_24 : decode cX12_is 24 = .ok (.getfield 174, 3) := by decide +kernel
theorem dX12_is_27 : decode cX12_is 27 = .ok (.isub, 1) := by decide +kernel
theorem dX12_is_28 : decode cX12_is 28 = .ok (.if_icmp .ne 7, 3) := by decide +kernel
theorem dX12_is_31 : decode cX12_is 31 = .ok (.iconst 1, 1) := by decide +kernel
theorem dX12_is_32 : decode cX12_is 32 = .ok (.goto 4, 3) := by decide +kernel
theorem dX12_is_35 : decode cX12_is 35 = .ok (.iconst 0, 1) := by decide +kernel
theorem dX12_is_36 : decode cX12_is 36 = .ok (.istore_n 2, 1) := by decide +kernel
theorem dX12_is_37 : decode cX12_is 37 = .ok (.iconst 0, 1) := by decide +kernel
theorem dX12_is_38 : decode cX12_is 38 = .ok (.istore_n 3, 1) := by decide +kernel
theorem dX12_is_39 : decode cX12_is 39 = .ok (.iload_n 2, 1) := by decide +kernel
theorem dX12_is_40 : decode cX12_is 40 = .ok (.ifCond .eq 42, 3) := by decide +kernel
theorem dX12_is_43 : decode cX12_is 43 = .ok (.iload_n 3, 1) := by decide +kernel
theorem dX12_is_44 : decode cX12_is 44 = .ok (.aload_n 1, 1) := by decide +kernel
theorem dX12_is_45 : decode cX12_is 45 = .ok (.invokevirtual 209, 3) := by decide +kernel
theorem dX12_is_48 : decode cX12_is 48 = .ok (.if_icmp .ge 34, 3) := by decide +kernel
theorem dX12_is_51 : decode cX12_is 51 = .ok (.aload_n 1, 1) := by decide +kernel
theorem dX12_is_52 : decode cX12_is 52 = .ok (.iload_n 3, 1) := by decide +kernel
theorem dX12_is_53 : decode cX12_is 53 = .ok (.invokevirtual 213, 3) := by decide +kernel
theorem dX12_is_56 : decode cX12_is 56 = .ok (.aload_n 0, 1) := by decide +kernel
theorem dX12_is_57 : decode cX12_is 57 = .ok (.getfield 74, 3) := by decide +kernel
theorem dX12_is_60 : decode cX12_is 60 = .ok (.aload_n 0, 1) := by decide +kernel
theorem dX12_is_61 : decode cX12_is 61 = .ok (.getfield 174, 3) := by decide +kernel
theorem dX12_is_64 : decode cX12_is 64 = .ok (.iload_n 3, 1) := by decide +kernel
theorem dX12_is_65 : decode cX12_is 65 = .ok (.iadd, 1) := by decide +kernel
theorem dX12_is_66 : decode cX12_is 66 = .ok (.iaload, 1) := by decide +kernel
theorem dX12_is_67 : decode cX12_is 67 = .ok (.if_icmp .ne 7, 3) := by decide +kernel
theorem dX12_is_70 : decode cX12_is 70 = .ok (.iconst 1, 1) := by decide +kernel
theorem dX12_is_71 : decode cX12_is 71 = .ok (.goto 4, 3) := by decide +kernel
theorem dX12_is_74 : decode cX12_is 74 = .ok (.iconst 0, 1) := by decide +kernel
theorem dX12_is_75 : decode cX12_is 75 = .ok (.istore_n 2, 1) := by decide +kernel
theorem dX12_is_76 : decode cX12_is 76 = .ok (.iinc 3 1, 3) := by decide +kernel
theorem dX12_is_79 : decode cX12_is 79 = .ok (.goto (-40), 3) := by decide +kernel
theorem dX12_is_82 : decode cX12_is 82 = .ok (.iload_n 2, 1) := by decide +kernel
theorem dX12_is_83 : decode cX12_is 83 = .ok (.ireturn, 1) := by decide +kernel
theorem dX12_which_0 : decode cX12_which 0 = .ok (.iconst 0, 1) := by decide +kernel
theorem dX12_which_1 : decode cX12_which 1 = .ok (.istore_n 2, 1) := by decide +kernel
theorem dX12_which_2 : decode cX12_which 2 = .ok (.iload_n 2, 1) := by decide +kernel
theorem dX12_which_3 : decode cX12_which 3 = .ok (.aload_n 1, 1) := by decide +kernel
theorem dX12_which_4 : decode cX12_which 4 = .ok (.arraylength, 1) := by decide +kernel
theorem dX12_which_5 : decode cX12_which 5 = .ok (.if_icmp .ge 21, 3) := by decide +kernel
theorem dX12_which_8 : decode cX12_which 8 = .ok (.aload_n 0, 1) := by decide +kernel
theorem dX12_which_9 : decode cX12_which 9 = .ok (.aload_n 1, 1) := by decide +kernel
theorem dX12_which_10 : decode cX12_which 10 = .ok (.iload_n 2, 1) := by decide +kernel
theorem dX12_which_11 : decode cX12_which 11 = .ok (.aaload, 1) := by decide +kernel
theorem dX12_which_12 : decode cX12_which 12 = .ok (.invokevirtual 217, 3) := by decide +kernel
theorem dX12_which_15 : decode cX12_which 15 = .ok (.ifCond .eq 5, 3) := by decide +kernel
theorem dX12_which_18 : decode cX12_which 18 = .ok (.iload_n 2, 1) := by decide +kernel
theorem dX12_which_19 : decode cX12_which 19 = .ok (.ireturn, 1) := by decide +kernel
theorem dX12_which_20 : decode cX12_which 20 = .ok (.iinc 2 1, 3) := by decide +kernel
theorem dX12_which_23 : decode cX12_which 23 = .ok (.goto (-21), 3) := by decide +kernel
theorem dX12_which_26 : decode cX12_which 26 = .ok (.iconst (-1), 1) := by decide +kernel
theorem dX12_which_27 : decode cX12_which 27 = .ok (.ireturn, 1) := by decide +kernel
theorem dX12_isMarked_0 : decode cX12_isMarked 0 = .ok (.aload_n 0, 1) := by decide +kernel
theorem dX12_isMarked_1 : decode cX12_isMarked 1 = .ok (.getfield 203, 3) := by decide +kernel
theorem dX12_isMarked_4 : decode cX12_isMarked 4 = .ok (.ifCond .ne 28, 3) := by decide +kernel
theorem dX12_isMarked_7 : decode cX12_isMarked 7 = .ok (.aload_n 0, 1) := by decide +kernel
theorem dX12_isMarked_8 : decode cX12_isMarked 8 = .ok (.getfield 177, 3) := by decide +kernel
theorem dX12_isMarked_11 : decode cX12_isMarked 11 = .ok (.iconst 3, 1) := by decide +kernel
theorem dX12_isMarked_12 : decode cX12_isMarked 12 = .ok (.if_icmp .ne 20, 3) := by decide +kernel
theorem dX12_isMarked_15 : decode cX12_isMarked 15 = .ok (.aload_n 0, 1) := by decide +kernel
theorem dX12_isMarked_16 : decode cX12_isMarked 16 = .ok (.getfield 74, 3) := by decide +kernel
theorem dX12_isMarked_19 : decode cX12_isMarked 19 = .ok (.aload_n 0, 1) := by decide +kernel
theorem dX12_isMarked_20 : decode cX12_isMarked 20 = .ok (.getfield 174, 3) := by decide +kernel
theorem dX12_isMarked_23 : decode cX12_isMarked 23 = .ok (.iaload, 1) := by decide +kernel
theorem dX12_isMarked_24 : decode cX12_isMarked 24 = .ok (.iload_n 1, 1) := by decide +kernel
theorem dX12_isMarked_25 : decode cX12_isMarked 25 = .ok (.if_icmp .ne 7, 3) := by decide +kernel
theorem dX12_isMarked_28 : decode cX12_isMarked 28 = .ok (.iconst 1, 1) := by decide +kernel
theorem dX12_isMarked_29 : decode cX12_isMarked 29 = .ok (.goto 4, 3) := by decide +kernel
theorem dX12_isMarked_32 : decode cX12_isMarked 32 = .ok (.iconst 0, 1) := by decide +kernel
theorem dX12_isMarked_33 : decode cX12_isMarked 33 = .ok (.ireturn, 1) := by decide +kernel
theorem dX12_mark_0 : decode cX12_mark 0 = .ok (.aload_n 0, 1) := by decide +kernel
theorem dX12_mark_1 : decode cX12_mark 1 = .ok (.getfield 203, 3) := by decide +kernel
theorem dX12_mark_4 : decode cX12_mark 4 = .ok (.ifCond .ne 16, 3) := by decide +kernel
theorem dX12_mark_7 : decode cX12_mark 7 = .ok (.aload_n 0, 1) := by decide +kernel
theorem dX12_mark_8 : decode cX12_mark 8 = .ok (.iload_n 1, 1) := by decide +kernel
theorem dX12_mark_9 : decode cX12_mark 9 = .ok (.invokevirtual 221, 3) := by decide +kernel
theorem dX12_mark_12 : decode cX12_mark 12 = .ok (.ifCond .ne 8, 3) := by decide +kernel
theorem dX12_mark_15 : decode cX12_mark 15 = .ok (.aload_n 0, 1) := by decide +kernel
theorem dX12_mark_16 : decode cX12_mark 16 = .ok (.iconst 1, 1) := by decide +kernel
theorem dX12_mark_17 : decode cX12_mark 17 = .ok (.invokevirtual 224, 3) := by decide +kernel
theorem dX12_mark_20 : decode cX12_mark 20 = .ok (.aload_n 0, 1) := by decide +kernel
theorem dX12_mark_21 : decode cX12_mark 21 = .ok (.getfield 203, 3) := by decide +kernel
theorem dX12_mark_24 : decode cX12_mark 24 = .ok (.ifCond .ne 7, 3) := by decide +kernel
theorem dX12_mark_27 : decode cX12_mark 27 = .ok (.aload_n 0, 1) := by decide +kernel
theorem dX12_mark_28 : decode cX12_mark 28 = .ok (.invokevirtual 228, 3) := by decide +kernel
theorem dX12_mark_31 : decode cX12_mark 31 = .ok (.return_, 1) := by decide +kernel
theorem dX12_numberNow_0 : decode cX12_numberNow 0 = .ok (.aload_n 0, 1) := by decide +kernel
theorem dX12_numberNow_1 : decode cX12_numberNow 1 = .ok (.getfield 203, 3) := by decide +kernel
theorem dX12_numberNow_4 : decode cX12_numberNow 4 = .ok (.ifCond .eq 5, 3) := by decide +kernel
theorem dX12_numberNow_7 : decode cX12_numberNow 7 = .ok (.iconst 0, 1) := by decide +kernel
theorem dX12_numberNow_8 : decode cX12_numberNow 8 = .ok (.ireturn, 1) := by decide +kernel
theorem dX12_numberNow_9 : decode cX12_numberNow 9 = .ok (.aload_n 0, 1) := by decide +kernel
theorem dX12_numberNow_10 : decode cX12_numberNow 10 = .ok (.getfield 177, 3) := by decide +kernel
theorem dX12_numberNow_13 : decode cX12_numberNow 13 = .ok (.iconst 2, 1) := by decide +kernel
theorem dX12_numberNow_14 : decode cX12_numberNow 14 = .ok (.if_icmp .eq 11, 3) := by decide +kernel
theorem dX12_numberNow_17 : decode cX12_numberNow 17 = .ok (.aload_n 0, 1) := by decide +kernel
theorem dX12_numberNow_18 : decode cX12_numberNow 18 = .ok (.iconst 1, 1) := by decide +kernel
theorem dX12_numberNow_19 : decode cX12_numberNow 19 = .ok (.invokevirtual 224, 3) := by decide +kernel
theorem dX12_numberNow_22 : decode cX12_numberNow 22 = .ok (.goto 37, 3) := by decide +kernel
theorem dX12_numberNow_25 : decode cX12_numberNow 25 = .ok (.aload_n 0, 1) := by decide +kernel
theorem dX12_numberNow_26 : decode cX12_numberNow 26 = .ok (.getfield 200, 3) := by decide +kernel
theorem dX12_numberNow_29 : decode cX12_numberNow 29 = .ok (.aload_n 0, 1) := by decide +kernel
theorem dX12_numberNow_30 : decode cX12_numberNow 30 = .ok (.getfield 174, 3) := by decide +kernel
theorem dX12_numberNow_33 : decode cX12_numberNow 33 = .ok (.isub, 1) := by decide +kernel
theorem dX12_numberNow_34 : decode cX12_numberNow 34 = .ok (.iconst 4, 1) := by decide +kernel
theorem dX12_numberNow_35 : decode cX12_numberNow 35 = .ok (.if_icmp .gt 19, 3) := by decide +kernel
theorem dX12_numberNow_38 : decode cX12_numberNow 38 = .ok (.aload_n 0, 1) := by decide +kernel
theorem dX12_numberNow_39 : decode cX12_numberNow 39 = .ok (.getfield 187, 3) := by decide +kernel
theorem dX12_numberNow_42 : decode cX12_numberNow 42 = .ok (.iload_n 1, 1) := by decide +kernel
theorem dX12_numberNow_43 : decode cX12_numberNow 43 = .ok (.if_icmp .lt 11, 3) := by decide +kernel
theorem dX12_numberNow_46 : decode cX12_numberNow 46 = .ok (.aload_n 0, 1) := by decide +kernel
theorem dX12_numberNow_47 : decode cX12_numberNow 47 = .ok (.getfield 187, 3) := by decide +kernel
theorem dX12_numberNow_50 : decode cX12_numberNow 50 = .ok (.iload_n 2, 1) := by decide +kernel
theorem dX12_numberNow_51 : decode cX12_numberNow 51 = .ok (.if_icmp .le 8, 3) := by decide +kernel
theorem dX12_numberNow_54 : decode cX12_numberNow 54 = .ok (.aload_n 0, 1) := by decide +kernel
theorem dX12_numberNow_55 : decode cX12_numberNow 55 = .ok (.iconst 2, 1) := by decide +kernel
theorem dX12_numberNow_56 : decode cX12_numberNow 56 = .ok (.invokevirtual 224, 3) := by decide +kernel
theorem dX12_numberNow_59 : decode cX12_numberNow 59 = .ok (.aload_n 0, 1) := by decide +kernel
theorem dX12_numberNow_60 : decode cX12_numberNow 60 = .ok (.getfield 203, 3) := by decide +kernel
theorem dX12_numberNow_63 : decode cX12_numberNow 63 = .ok (.ifCond .ne 10, 3) := by decide +kernel
theorem dX12_numberNow_66 : decode cX12_numberNow 66 = .ok (.aload_n 0, 1) := by decide +kernel
theorem dX12_numberNow_67 : decode cX12_numberNow 67 = .ok (.getfield 187, 3) := by decide +kernel
theorem dX12_numberNow_70 : decode cX12_numberNow 70 = .ok (.goto 4, 3) := by decide +kernel
theorem dX12_numberNow_73 : decode cX12_numberNow 73 = .ok (.iconst 0, 1) := by decide +kernel
theorem dX12_numberNow_74 : decode cX12_numberNow 74 = .ok (.ireturn, 1) := by decide +kernel
theorem dX12_readNumber_0 : decode cX12_readNumber 0 = .ok (.aload_n 0, 1) := by decide +kernel
theorem dX12_readNumber_1 : decode cX12_readNumber 1 = .ok (.iload_n 1, 1) := by decide +kernel
theorem dX12_readNumber_2 : decode cX12_readNumber 2 = .ok (.iload_n 2, 1) := by decide +kernel
theorem dX12_readNumber_3 : decode cX12_readNumber 3 = .ok (.invokevirtual 231, 3) := by decide +kernel
theorem dX12_readNumber_6 : decode cX12_readNumber 6 = .ok (.istore_n 3, 1) := by decide +kernel
theorem dX12_readNumber_7 : decode cX12_readNumber 7 = .ok (.aload_n 0, 1) := by decide +kernel
theorem dX12_readNumber_8 : decode cX12_readNumber 8 = .ok (.getfield 203, 3) := by decide +kernel
theorem dX12_readNumber_11 : decode cX12_readNumber 11 = .ok (.ifCond .ne 7, 3) := by decide +kernel
theorem dX12_readNumber_14 : decode cX12_readNumber 14 = .ok (.aload_n 0, 1) := by decide +kernel
theorem dX12_readNumber_15 : decode cX12_readNumber 15 = .ok (.invokevirtual 228, 3) := by decide +kernel
theorem dX12_readNumber_18 : decode cX12_readNumber 18 = .ok (.iload_n 3, 1) := by decide +kernel
theorem dX12_readNumber_19 : decode cX12_readNumber 19 = .ok (.ireturn, 1) := by decide +kernel
theorem dX12_lay_0 : decode cX12_lay 0 = .ok (.aload_n 0, 1) := by decide +kernel
theorem dX12_lay_1 : decode cX12_lay 1 = .ok (.getfield 203, 3) := by decide +kernel
theorem dX12_lay_4 : decode cX12_lay 4 = .ok (.ifCond .eq 4, 3) := by decide +kernel
theorem dX12_lay_7 : decode cX12_lay 7 = .ok (.return_, 1) := by decide +kernel
theorem dX12_lay_8 : decode cX12_lay 8 = .ok (.iconst 5, 1) := by decide +kernel
theorem dX12_lay_9 : decode cX12_lay 9 = .ok (.aload_n 0, 1) := by decide +kernel
theorem dX12_lay_10 : decode cX12_lay 10 = .ok (.getfield 234, 3) := by decide +kernel
theorem dX12_lay_13 : decode cX12_lay 13 = .ok (.ifCond .eq 7, 3) := by decide +kernel
theorem dX12_lay_16 : decode cX12_lay 16 = .ok (.iconst 4, 1) := by decide +kernel
theorem dX12_lay_17 : decode cX12_lay 17 = .ok (.goto 4, 3) := by decide +kernel
theorem dX12_lay_20 : decode cX12_lay 20 = .ok (.iconst 3, 1) := by decide +kernel
theorem dX12_lay_21 : decode cX12_lay 21 = .ok (.iadd, 1) := by decide +kernel
theorem dX12_lay_22 : decode cX12_lay 22 = .ok (.istore_n 2, 1) := by decide +kernel
theorem dX12_lay_23 : decode cX12_lay 23 = .ok (.aload_n 0, 1) := by decide +kernel
theorem dX12_lay_24 : decode cX12_lay 24 = .ok (.getfield 234, 3) := by decide +kernel
theorem dX12_lay_27 : decode cX12_lay 27 = .ok (.ifCond .eq 10, 3) := by decide +kernel
theorem dX12_lay_30 : decode cX12_lay 30 = .ok (.aload_n 0, 1) := by decide +kernel
theorem dX12_lay_31 : decode cX12_lay 31 = .ok (.getfield 66, 3) := by decide +kernel
theorem dX12_lay_34 : decode cX12_lay 34 = .ok (.goto 7, 3) := by decide +kernel
theorem dX12_lay_37 : decode cX12_lay 37 = .ok (.aload_n 0, 1) := by decide +kernel
theorem dX12_lay_38 : decode cX12_lay 38 = .ok (.getfield 63, 3) := by decide +kernel
theorem dX12_lay_41 : decode cX12_lay 41 = .ok (.astore_n 3, 1) := by decide +kernel
theorem dX12_lay_42 : decode cX12_lay 42 = .ok (.aload_n 3, 1) := by decide +kernel
theorem dX12_lay_43 : decode cX12_lay 43 = .ok (.sipush 700, 3) := by decide +kernel
theorem dX12_lay_46 : decode cX12_lay 46 = .ok (.aload_n 0, 1) := by decide +kernel
theorem dX12_lay_47 : decode cX12_lay 47 = .ok (.getfield 42, 3) := by decide +kernel
theorem dX12_lay_50 : decode cX12_lay 50 = .ok (.iload_n 2, 1) := by decide +kernel
theorem dX12_lay_51 : decode cX12_lay 51 = .ok (.iaload, 1) := by decide +kernel
theorem dX12_lay_52 : decode cX12_lay 52 = .ok (.iadd, 1) := by decide +kernel
theorem dX12_lay_53 : decode cX12_lay 53 = .ok (.iload_n 1, 1) := by decide +kernel
theorem dX12_lay_54 : decode cX12_lay 54 = .ok (.iastore, 1) := by decide +kernel
theorem dX12_lay_55 : decode cX12_lay 55 = .ok (.aload_n 0, 1) := by decide +kernel
theorem dX12_lay_56 : decode cX12_lay 56 = .ok (.getfield 42, 3) := by decide +kernel
theorem dX12_lay_59 : decode cX12_lay 59 = .ok (.iload_n 2, 1) := by decide +kernel
theorem dX12_lay_60 : decode cX12_lay 60 = .ok (.dup2, 1) := by decide +kernel
theorem dX12_lay_61 : decode cX12_lay 61 = .ok (.iaload, 1) := by decide +kernel
theorem dX12_lay_62 : decode cX12_lay 62 = .ok (.iconst 1, 1) := by decide +kernel
theorem dX12_lay_63 : decode cX12_lay 63 = .ok (.iadd, 1) := by decide +kernel
theorem dX12_lay_64 : decode cX12_lay 64 = .ok (.iastore, 1) := by decide +kernel
theorem dX12_lay_65 : decode cX12_lay 65 = .ok (.return_, 1) := by decide +kernel
theorem dX12_readPart_0 : decode cX12_readPart 0 = .ok (.aload_n 0, 1) := by decide +kernel
theorem dX12_readPart_1 : decode cX12_readPart 1 = .ok (.getfield 203, 3) := by decide +kernel
theorem dX12_readPart_4 : decode cX12_readPart 4 = .ok (.ifCond .eq 4, 3) := by decide +kernel
theorem dX12_readPart_7 : decode cX12_readPart 7 = .ok (.return_, 1) := by decide +kernel
theorem dX12_readPart_8 : decode cX12_readPart 8 = .ok (.aload_n 0, 1) := by decide +kernel
theorem dX12_readPart_9 : decode cX12_readPart 9 = .ok (.getfield 177, 3) := by decide +kernel
theorem dX12_readPart_12 : decode cX12_readPart 12 = .ok (.iconst 2, 1) := by decide +kernel
theorem dX12_readPart_13 : decode cX12_readPart 13 = .ok (.if_icmp .ne 16, 3) := by decide +kernel
theorem dX12_readPart_16 : decode cX12_readPart 16 = .ok (.aload_n 0, 1) := by decide +kernel
theorem dX12_readPart_17 : decode cX12_readPart 17 = .ok (.aload_n 0, 1) := by decide +kernel
theorem dX12_readPart_18 : decode cX12_readPart 18 = .ok (.iconst 0, 1) := by decide +kernel
theorem dX12_readPart_19 : decode cX12_readPart 19 = .ok (.sipush 9999, 3) := by decide +kernel
theorem dX12_readPart_22 : decode cX12_readPart 22 = .ok (.invokevirtual 238, 3) := by decide +kernel
theorem dX12_readPart_25 : decode cX12_readPart 25 = .ok (.invokevirtual 241, 3) := by decide +kernel
theorem dX12_readPart_28 : decode cX12_readPart 28 = .ok (.return_, 1) := by decide +kernel
theorem dX12_readPart_29 : decode cX12_readPart 29 = .ok (.aload_n 0, 1) := by decide +kernel
theorem dX12_readPart_30 : decode cX12_readPart 30 = .ok (.getfield 177, 3) := by decide +kernel
theorem dX12_readPart_33 : decode cX12_readPart 33 = .ok (.iconst 1, 1) := by decide +kernel
theorem dX12_readPart_34 : decode cX12_readPart 34 = .ok (.if_icmp .ne 41, 3) := by decide +kernel
theorem dX12_readPart_37 : decode cX12_readPart 37 = .ok (.aload_n 0, 1) := by decide +kernel
theorem dX12_readPart_38 : decode cX12_readPart 38 = .ok (.aload_n 0, 1) := by decide +kernel
theorem dX12_readPart_39 : decode cX12_readPart 39 = .ok (.getfield 39, 3) := by decide +kernel
theorem dX12_readPart_42 : decode cX12_readPart 42 = .ok (.invokevirtual 244, 3) := by decide +kernel
theorem dX12_readPart_45 : decode cX12_readPart 45 = .ok (.istore_n 2, 1) := by decide +kernel
theorem dX12_readPart_46 : decode cX12_readPart 46 = .ok (.iload_n 2, 1) := by decide +kernel
theorem dX12_readPart_47 : decode cX12_readPart 47 = .ok (.iconst (-1), 1) := by decide +kernel
theorem dX12_readPart_48 : decode cX12_readPart 48 = .ok (.if_icmp .ne 8, 3) := by decide +kernel
theorem dX12_readPart_51 : decode cX12_readPart 51 = .ok (.aload_n 0, 1) := by decide +kernel
theorem dX12_readPart_52 : decode cX12_readPart 52 = .ok (.iconst 3, 1) := by decide +kernel
theorem dX12_readPart_53 : decode cX12_readPart 53 = .ok (.invokevirtual 224, 3) := by decide +kernel
theorem dX12_readPart_56 : decode cX12_readPart 56 = .ok (.aload_n 0, 1) := by decide +kernel
theorem dX12_readPart_57 : decode cX12_readPart 57 = .ok (.iconst (-1), 1) := by decide +kernel
theorem dX12_readPart_58 : decode cX12_readPart 58 = .ok (.iload_n 2, 1) := by decide +kernel
theorem dX12_readPart_59 : decode cX12_readPart 59 = .ok (.isub, 1) := by decide +kernel
theorem dX12_readPart_60 : decode cX12_readPart 60 = .ok (.invokevirtual 241, 3) := by decide +kernel
theorem dX12_readPart_63 : decode cX12_readPart 63 = .ok (.aload_n 0, 1) := by decide +kernel
theorem dX12_readPart_64 : decode cX12_readPart 64 = .ok (.getfield 203, 3) := by decide +kernel
theorem dX12_readPart_67 : decode cX12_readPart 67 = .ok (.ifCond .ne 7, 3) := by decide +kernel
theorem dX12_readPart_70 : decode cX12_readPart 70 = .ok (.aload_n 0, 1) := by decide +kernel
theorem dX12_readPart_71 : decode cX12_readPart 71 = .ok (.invokevirtual 228, 3) := by decide +kernel
theorem dX12_readPart_74 : decode cX12_readPart 74 = .ok (.return_, 1) := by decide +kernel
theorem dX12_readPart_75 : decode cX12_readPart 75 = .ok (.aload_n 0, 1) := by decide +kernel
theorem dX12_readPart_76 : decode cX12_readPart 76 = .ok (.bipush 40, 2) := by decide +kernel
theorem dX12_readPart_78 : decode cX12_readPart 78 = .ok (.invokevirtual 248, 3) := by decide +kernel
theorem dX12_readPart_81 : decode cX12_readPart 81 = .ok (.aload_n 0, 1) := by decide +kernel
theorem dX12_readPart_82 : decode cX12_readPart 82 = .ok (.iload_n 1, 1) := by decide +kernel
theorem dX12_readPart_83 : decode cX12_readPart 83 = .ok (.iconst 1, 1) := by decide +kernel
theorem dX12_readPart_84 : decode cX12_readPart 84 = .ok (.iadd, 1) := by decide +kernel
theorem dX12_readPart_85 : decode cX12_readPart 85 = .ok (.invokevirtual 251, 3) := by decide +kernel
theorem dX12_readPart_88 : decode cX12_readPart 88 = .ok (.aload_n 0, 1) := by decide +kernel
theorem dX12_readPart_89 : decode cX12_readPart 89 = .ok (.bipush 41, 2) := by decide +kernel
theorem dX12_readPart_91 : decode cX12_readPart 91 = .ok (.invokevirtual 248, 3) := by decide +kernel
theorem dX12_readPart_94 : decode cX12_readPart 94 = .ok (.return_, 1) := by decide +kernel
theorem dX12_readProduct_0 : decode cX12_readProduct 0 = .ok (.aload_n 0, 1) := by decide +kernel
theorem dX12_readProduct_1 : decode cX12_readProduct 1 = .ok (.iload_n 1, 1) := by decide +kernel
theorem dX12_readProduct_2 : decode cX12_readProduct 2 = .ok (.invokevirtual 254, 3) := by decide +kernel
theorem dX12_readProduct_5 : decode cX12_readProduct 5 = .ok (.aload_n 0, 1) := by decide +kernel
theorem dX12_readProduct_6 : decode cX12_readProduct 6 = .ok (.bipush 42, 2) := by decide +kernel
theorem dX12_readProduct_8 : decode cX12_readProduct 8 = .ok (.invokevirtual 221, 3) := by decide +kernel
theorem dX12_readProduct_11 : decode cX12_readProduct 11 = .ok (.ifCond .ne 12, 3) := by decide +kernel
theorem dX12_readProduct_14 : decode cX12_readProduct 14 = .ok (.aload_n 0, 1) := by decide +kernel
theorem dX12_readProduct_15 : decode cX12_readProduct 15 = .ok (.bipush 47, 2) := by decide +kernel
theorem dX12_readProduct_17 : decode cX12_readProduct 17 = .ok (.invokevirtual 221, 3) := by decide +kernel
theorem dX12_readProduct_20 : decode cX12_readProduct 20 = .ok (.ifCond .eq 37, 3) := by decide +kernel
theorem dX12_readProduct_23 : decode cX12_readProduct 23 = .ok (.aload_n 0, 1) := by decide +kernel
theorem dX12_readProduct_24 : decode cX12_readProduct 24 = .ok (.bipush 42, 2) := by decide +kernel
theorem dX12_readProduct_26 : decode cX12_readProduct 26 = .ok (.invokevirtual 221, 3) := by decide +kernel
theorem dX12_readProduct_29 : decode cX12_readProduct 29 = .ok (.ifCond .eq 8, 3) := by decide +kernel
theorem dX12_readProduct_32 : decode cX12_readProduct 32 = .ok (.bipush (-22), 2) := by decide +kernel
theorem dX12_readProduct_34 : decode cX12_readProduct 34 = .ok (.goto 5, 3) := by decide +kernel
theorem dX12_readProduct_37 : decode cX12_readProduct 37 = .ok (.bipush (-23), 2) := by decide +kernel
theorem dX12_readProduct_39 : decode cX12_readProduct 39 = .ok (.istore_n 2, 1) := by decide +kernel
theorem dX12_readProduct_40 : decode cX12_readProduct 40 = .ok (.aload_n 0, 1) := by decide +kernel
theorem dX12_readProduct_41 : decode cX12_readProduct 41 = .ok (.invokevirtual 228, 3) := by decide +kernel
theorem dX12_readProduct_44 : decode cX12_readProduct 44 = .ok (.aload_n 0, 1) := by decide +kernel
theorem dX12_readProduct_45 : decode cX12_readProduct 45 = .ok (.iload_n 1, 1) := by decide +kernel
theorem dX12_readProduct_46 : decode cX12_readProduct 46 = .ok (.invokevirtual 254, 3) := by decide +kernel
theorem dX12_readProduct_49 : decode cX12_readProduct 49 = .ok (.aload_n 0, 1) := by decide +kernel
theorem dX12_readProduct_50 : decode cX12_readProduct 50 = .ok (.iload_n 2, 1) := by decide +kernel
theorem dX12_readProduct_51 : decode cX12_readProduct 51 = .ok (.invokevirtual 241, 3) := by decide +kernel
theorem dX12_readProduct_54 : decode cX12_readProduct 54 = .ok (.goto (-49), 3) := by decide +kernel
theorem dX12_readProduct_57 : decode cX12_readProduct 57 = .ok (.return_, 1) := by decide +kernel
theorem dX12_readSum_0 : decode cX12_readSum 0 = .ok (.aload_n 0, 1) := by decide +kernel
theorem dX12_readSum_1 : decode cX12_readSum 1 = .ok (.iload_n 1, 1) := by decide +kernel
theorem dX12_readSum_2 : decode cX12_readSum 2 = .ok (.invokevirtual 257, 3) := by decide +kernel
theorem dX12_readSum_5 : decode cX12_readSum 5 = .ok (.aload_n 0, 1) := by decide +kernel
theorem dX12_readSum_6 : decode cX12_readSum 6 = .ok (.bipush 43, 2) := by decide +kernel
theorem dX12_readSum_8 : decode cX12_readSum 8 = .ok (.invokevirtual 221, 3) := by decide +kernel
theorem dX12_readSum_11 : decode cX12_readSum 11 = .ok (.ifCond .ne 12, 3) := by decide +kernel
theorem dX12_readSum_14 : decode cX12_readSum 14 = .ok (.aload_n 0, 1) := by decide +kernel
theorem dX12_readSum_15 : decode cX12_readSum 15 = .ok (.bipush 45, 2) := by decide +kernel
theorem dX12_readSum_17 : decode cX12_readSum 17 = .ok (.invokevirtual 221, 3) := by decide +kernel
theorem dX12_readSum_20 : decode cX12_readSum 20 = .ok (.ifCond .eq 37, 3) := by decide +kernel
theorem dX12_readSum_23 : decode cX12_readSum 23 = .ok (.aload_n 0, 1) := by decide +kernel
theorem dX12_readSum_24 : decode cX12_readSum 24 = .ok (.bipush 43, 2) := by decide +kernel
theorem dX12_readSum_26 : decode cX12_readSum 26 = .ok (.invokevirtual 221, 3) := by decide +kernel
theorem dX12_readSum_29 : decode cX12_readSum 29 = .ok (.ifCond .eq 8, 3) := by decide +kernel
theorem dX12_readSum_32 : decode cX12_readSum 32 = .ok (.bipush (-20), 2) := by decide +kernel
theorem dX12_readSum_34 : decode cX12_readSum 34 = .ok (.goto 5, 3) := by decide +kernel
theorem dX12_readSum_37 : decode cX12_readSum 37 = .ok (.bipush (-21), 2) := by decide +kernel
theorem dX12_readSum_39 : decode cX12_readSum 39 = .ok (.istore_n 2, 1) := by decide +kernel
theorem dX12_readSum_40 : decode cX12_readSum 40 = .ok (.aload_n 0, 1) := by decide +kernel
theorem dX12_readSum_41 : decode cX12_readSum 41 = .ok (.invokevirtual 228, 3) := by decide +kernel
theorem dX12_readSum_44 : decode cX12_readSum 44 = .ok (.aload_n 0, 1) := by decide +kernel
theorem dX12_readSum_45 : decode cX12_readSum 45 = .ok (.iload_n 1, 1) := by decide +kernel
theorem dX12_readSum_46 : decode cX12_readSum 46 = .ok (.invokevirtual 257, 3) := by decide +kernel
theorem dX12_readSum_49 : decode cX12_readSum 49 = .ok (.aload_n 0, 1) := by decide +kernel
theorem dX12_readSum_50 : decode cX12_readSum 50 = .ok (.iload_n 2, 1) := by decide +kernel
theorem dX12_readSum_51 : decode cX12_readSum 51 = .ok (.invokevirtual 241, 3) := by decide +kernel
theorem dX12_readSum_54 : decode cX12_readSum 54 = .ok (.goto (-49), 3) := by decide +kernel
theorem dX12_readSum_57 : decode cX12_readSum 57 = .ok (.return_, 1) := by decide +kernel
theorem dX12_readNot_0 : decode cX12_readNot 0 = .ok (.iconst 0, 1) := by decide +kernel
theorem dX12_readNot_1 : decode cX12_readNot 1 = .ok (.istore_n 2, 1) := by decide +kernel
theorem dX12_readNot_2 : decode cX12_readNot 2 = .ok (.aload_n 0, 1) := by decide +kernel
theorem dX12_readNot_3 : decode cX12_readNot 3 = .ok (.ldc_w 260, 3) := by decide +kernel
theorem dX12_readNot_6 : decode cX12_readNot 6 = .ok (.invokevirtual 217, 3) := by decide +kernel
theorem dX12_readNot_9 : decode cX12_readNot 9 = .ok (.ifCond .eq 31, 3) := by decide +kernel
theorem dX12_readNot_12 : decode cX12_readNot 12 = .ok (.iload_n 2, 1) := by decide +kernel
theorem dX12_readNot_13 : decode cX12_readNot 13 = .ok (.bipush 6, 2) := by decide +kernel
theorem dX12_readNot_15 : decode cX12_readNot 15 = .ok (.if_icmp .ne 8, 3) := by decide +kernel
theorem dX12_readNot_18 : decode cX12_readNot 18 = .ok (.aload_n 0, 1) := by decide +kernel
theorem dX12_readNot_19 : decode cX12_readNot 19 = .ok (.iconst 2, 1) := by decide +kernel
theorem dX12_readNot_20 : decode cX12_readNot 20 = .ok (.invokevirtual 224, 3) := by decide +kernel
theorem dX12_readNot_23 : decode cX12_readNot 23 = .ok (.iinc 2 1, 3) := by decide +kernel
theorem dX12_readNot_26 : decode cX12_readNot 26 = .ok (.aload_n 0, 1) := by decide +kernel
theorem dX12_readNot_27 : decode cX12_readNot 27 = .ok (.getfield 203, 3) := by decide +kernel
theorem dX12_readNot_30 : decode cX12_readNot 30 = .ok (.ifCond .ne (-28), 3) := by decide +kernel
theorem dX12_readNot_33 : decode cX12_readNot 33 = .ok (.aload_n 0, 1) := by decide +kernel
theorem dX12_readNot_34 : decode cX12_readNot 34 = .ok (.invokevirtual 228, 3) := by decide +kernel
theorem dX12_readNot_37 : decode cX12_readNot 37 = .ok (.goto (-35), 3) := by decide +kernel
theorem dX12_readNot_40 : decode cX12_readNot 40 = .ok (.aload_n 0, 1) := by decide +kernel
theorem dX12_readNot_41 : decode cX12_readNot 41 = .ok (.iload_n 1, 1) := by decide +kernel
theorem dX12_readNot_42 : decode cX12_readNot 42 = .ok (.invokevirtual 262, 3) := by decide +kernel
theorem dX12_readNot_45 : decode cX12_readNot 45 = .ok (.aload_n 0, 1) := by decide +kernel
theorem dX12_readNot_46 : decode cX12_readNot 46 = .ok (.bipush 60, 2) := by decide +kernel
theorem dX12_readNot_48 : decode cX12_readNot 48 = .ok (.invokevirtual 221, 3) := by decide +kernel
theorem dX12_readNot_51 : decode cX12_readNot 51 = .ok (.ifCond .ne 12, 3) := by decide +kernel
theorem dX12_readNot_54 : decode cX12_readNot 54 = .ok (.aload_n 0, 1) := by decide +kernel
theorem dX12_readNot_55 : decode cX12_readNot 55 = .ok (.bipush 61, 2) := by decide +kernel
theorem dX12_readNot_57 : decode cX12_readNot 57 = .ok (.invokevirtual 221, 3) := by decide +kernel
theorem dX12_readNot_60 : decode cX12_readNot 60 = .ok (.ifCond .eq 34, 3) := by decide +kernel
theorem dX12_readNot_63 : decode cX12_readNot 63 = .ok (.aload_n 0, 1) := by decide +kernel
theorem dX12_readNot_64 : decode cX12_readNot 64 = .ok (.bipush 60, 2) := by decide +kernel
theorem dX12_readNot_66 : decode cX12_readNot 66 = .ok (.invokevirtual 221, 3) := by decide +kernel
theorem dX12_readNot_69 : decode cX12_readNot 69 = .ok (.ifCond .eq 8, 3) := by decide +kernel
theorem dX12_readNot_72 : decode cX12_readNot 72 = .ok (.bipush (-24), 2) := by decide +kernel
theorem dX12_readNot_74 : decode cX12_readNot 74 = .ok (.goto 5, 3) := by decide +kernel
theorem dX12_readNot_77 : decode cX12_readNot 77 = .ok (.bipush (-25), 2) := by decide +kernel
theorem dX12_readNot_79 : decode cX12_readNot 79 = .ok (.istore_n 3, 1) := by decide +kernel
theorem dX12_readNot_80 : decode cX12_readNot 80 = .ok (.aload_n 0, 1) := by decide +kernel
theorem dX12_readNot_81 : decode cX12_readNot 81 = .ok (.invokevirtual 228, 3) := by decide +kernel
theorem dX12_readNot_84 : decode cX12_readNot 84 = .ok (.aload_n 0, 1) := by decide +kernel
theorem dX12_readNot_85 : decode cX12_readNot 85 = .ok (.iload_n 1, 1) := by decide +kernel
theorem dX12_readNot_86 : decode cX12_readNot 86 = .ok (.invokevirtual 262, 3) := by decide +kernel
theorem dX12_readNot_89 : decode cX12_readNot 89 = .ok (.aload_n 0, 1) := by decide +kernel
theorem dX12_readNot_90 : decode cX12_readNot 90 = .ok (.iload_n 3, 1) := by decide +kernel
theorem dX12_readNot_91 : decode cX12_readNot 91 = .ok (.invokevirtual 241, 3) := by decide +kernel
theorem dX12_readNot_94 : decode cX12_readNot 94 = .ok (.iconst 0, 1) := by decide +kernel
theorem dX12_readNot_95 : decode cX12_readNot 95 = .ok (.istore_n 3, 1) := by decide +kernel
theorem dX12_readNot_96 : decode cX12_readNot 96 = .ok (.iload_n 3, 1) := by decide +kernel
theorem dX12_readNot_97 : decode cX12_readNot 97 = .ok (.iload_n 2, 1) := by decide +kernel
theorem dX12_readNot_98 : decode cX12_readNot 98 = .ok (.if_icmp .ge 15, 3) := by decide +kernel
theorem dX12_readNot_101 : decode cX12_readNot 101 = .ok (.aload_n 0, 1) := by decide +kernel
theorem dX12_readNot_102 : decode cX12_readNot 102 = .ok (.bipush (-28), 2) := by decide +kernel
theorem dX12_readNot_104 : decode cX12_readNot 104 = .ok (.invokevirtual 241, 3) := by decide +kernel
theorem dX12_readNot_107 : decode cX12_readNot 107 = .ok (.iinc 3 1, 3) := by decide +kernel
theorem dX12_readNot_110 : decode cX12_readNot 110 = .ok (.goto (-14), 3) := by decide +kernel
theorem dX12_readNot_113 : decode cX12_readNot 113 = .ok (.return_, 1) := by decide +kernel
theorem dX12_readAnd_0 : decode cX12_readAnd 0 = .ok (.aload_n 0, 1) := by decide +kernel
theorem dX12_readAnd_1 : decode cX12_readAnd 1 = .ok (.iload_n 1, 1) := by decide +kernel
theorem dX12_readAnd_2 : decode cX12_readAnd 2 = .ok (.invokevirtual 265, 3) := by decide +kernel
theorem dX12_readAnd_5 : decode cX12_readAnd 5 = .ok (.aload_n 0, 1) := by decide +kernel
theorem dX12_readAnd_6 : decode cX12_readAnd 6 = .ok (.ldc_w 268, 3) := by decide +kernel
theorem dX12_readAnd_9 : decode cX12_readAnd 9 = .ok (.invokevirtual 217, 3) := by decide +kernel
theorem dX12_readAnd_12 : decode cX12_readAnd 12 = .ok (.ifCond .eq 21, 3) := by decide +kernel
theorem dX12_readAnd_15 : decode cX12_readAnd 15 = .ok (.aload_n 0, 1) := by decide +kernel
theorem dX12_readAnd_16 : decode cX12_readAnd 16 = .ok (.invokevirtual 228, 3) := by decide +kernel
theorem dX12_readAnd_19 : decode cX12_readAnd 19 = .ok (.aload_n 0, 1) := by decide +kernel
theorem dX12_readAnd_20 : decode cX12_readAnd 20 = .ok (.iload_n 1, 1) := by decide +kernel
theorem dX12_readAnd_21 : decode cX12_readAnd 21 = .ok (.invokevirtual 265, 3) := by decide +kernel
theorem dX12_readAnd_24 : decode cX12_readAnd 24 = .ok (.aload_n 0, 1) := by decide +kernel
theorem dX12_readAnd_25 : decode cX12_readAnd 25 = .ok (.bipush (-26), 2) := by decide +kernel
theorem dX12_readAnd_27 : decode cX12_readAnd 27 = .ok (.invokevirtual 241, 3) := by decide +kernel
theorem dX12_readAnd_30 : decode cX12_readAnd 30 = .ok (.goto (-25), 3) := by decide +kernel
theorem dX12_readAnd_33 : decode cX12_readAnd 33 = .ok (.return_, 1) := by decide +kernel
theorem dX12_readExpression_0 : decode cX12_readExpression 0 = .ok (.aload_n 0, 1) := by decide +kernel
theorem dX12_readExpression_1 : decode cX12_readExpression 1 = .ok (.getfield 203, 3) := by decide +kernel
theorem dX12_readExpression_4 : decode cX12_readExpression 4 = .ok (.ifCond .eq 4, 3) := by decide +kernel
theorem dX12_readExpression_7 : decode cX12_readExpression 7 = .ok (.return_, 1) := by decide +kernel
theorem dX12_readExpression_8 : decode cX12_readExpression 8 = .ok (.aload_n 0, 1) := by decide +kernel
theorem dX12_readExpression_9 : decode cX12_readExpression 9 = .ok (.getfield 177, 3) := by decide +kernel
theorem dX12_readExpression_12 : decode cX12_readExpression 12 = .ok (.iconst 2, 1) := by decide +kernel
theorem dX12_readExpression_13 : decode cX12_readExpression 13 = .ok (.if_icmp .eq 20, 3) := by decide +kernel
theorem dX12_readExpression_16 : decode cX12_readExpression 16 = .ok (.aload_n 0, 1) := by decide +kernel
theorem dX12_readExpression_17 : decode cX12_readExpression 17 = .ok (.getfield 177, 3) := by decide +kernel
theorem dX12_readExpression_20 : decode cX12_readExpression 20 = .ok (.iconst 1, 1) := by decide +kernel
theorem dX12_readExpression_21 : decode cX12_readExpression 21 = .ok (.if_icmp .eq 12, 3) := by decide +kernel
theorem dX12_readExpression_24 : decode cX12_readExpression 24 = .ok (.aload_n 0, 1) := by decide +kernel
theorem dX12_readExpression_25 : decode cX12_readExpression 25 = .ok (.bipush 40, 2) := by decide +kernel
theorem dX12_readExpression_27 : decode cX12_readExpression 27 = .ok (.invokevirtual 221, 3) := by decide +kernel
theorem dX12_readExpression_30 : decode cX12_readExpression 30 = .ok (.ifCond .eq 7, 3) := by decide +kernel
theorem dX12_readExpression_33 : decode cX12_readExpression 33 = .ok (.iconst 1, 1) := by decide +kernel
theorem dX12_readExpression_34 : decode cX12_readExpression 34 = .ok (.goto 4, 3) := by decide +kernel
theorem dX12_readExpression_37 : decode cX12_readExpression 37 = .ok (.iconst 0, 1) := by decide +kernel
theorem dX12_readExpression_38 : decode cX12_readExpression 38 = .ok (.istore_n 2, 1) := by decide +kernel
theorem dX12_readExpression_39 : decode cX12_readExpression 39 = .ok (.iload_n 2, 1) := by decide +kernel
theorem dX12_readExpression_40 : decode cX12_readExpression 40 = .ok (.ifCond .ne 11, 3) := by decide +kernel
theorem dX12_readExpression_43 : decode cX12_readExpression 43 = .ok (.aload_n 0, 1) := by decide +kernel
theorem dX12_readExpression_44 : decode cX12_readExpression 44 = .ok (.iconst 1, 1) := by decide +kernel
theorem dX12_readExpression_45 : decode cX12_readExpression 45 = .ok (.invokevirtual 224, 3) := by decide +kernel
theorem dX12_readExpression_48 : decode cX12_readExpression 48 = .ok (.goto 14, 3) := by decide +kernel
theorem dX12_readExpression_51 : decode cX12_readExpression 51 = .ok (.iload_n 1, 1) := by decide +kernel
theorem dX12_readExpression_52 : decode cX12_readExpression 52 = .ok (.bipush 6, 2) := by decide +kernel
theorem dX12_readExpression_54 : decode cX12_readExpression 54 = .ok (.if_icmp .ne 8, 3) := by decide +kernel
theorem dX12_readExpression_57 : decode cX12_readExpression 57 = .ok (.aload_n 0, 1) := by decide +kernel
theorem dX12_readExpression_58 : decode cX12_readExpression 58 = .ok (.iconst 2, 1) := by decide +kernel
theorem dX12_readExpression_59 : decode cX12_readExpression 59 = .ok (.invokevirtual 224, 3) := by decide +kernel
theorem dX12_readExpression_62 : decode cX12_readExpression 62 = .ok (.aload_n 0, 1) := by decide +kernel
theorem dX12_readExpression_63 : decode cX12_readExpression 63 = .ok (.iload_n 1, 1) := by decide +kernel
theorem dX12_readExpression_64 : decode cX12_readExpression 64 = .ok (.invokevirtual 270, 3) := by decide +kernel
theorem dX12_readExpression_67 : decode cX12_readExpression 67 = .ok (.aload_n 0, 1) := by decide +kernel
theorem dX12_readExpression_68 : decode cX12_readExpression 68 = .ok (.ldc_w 273, 3) := by decide +kernel
theorem dX12_readExpression_71 : decode cX12_readExpression 71 = .ok (.invokevirtual 217, 3) := by decide +kernel
theorem dX12_readExpression_74 : decode cX12_readExpression 74 = .ok (.ifCond .eq 21, 3) := by decide +kernel
theorem dX12_readExpression_77 : decode cX12_readExpression 77 = .ok (.aload_n 0, 1) := by decide +kernel
theorem dX12_readExpression_78 : decode cX12_readExpression 78 = .ok (.invokevirtual 228, 3) := by decide +kernel
theorem dX12_readExpression_81 : decode cX12_readExpression 81 = .ok (.aload_n 0, 1) := by decide +kernel
theorem dX12_readExpression_82 : decode cX12_readExpression 82 = .ok (.iload_n 1, 1) := by decide +kernel
theorem dX12_readExpression_83 : decode cX12_readExpression 83 = .ok (.invokevirtual 270, 3) := by decide +kernel
theorem dX12_readExpression_86 : decode cX12_readExpression 86 = .ok (.aload_n 0, 1) := by decide +kernel
theorem dX12_readExpression_87 : decode cX12_readExpression 87 = .ok (.bipush (-27), 2) := by decide +kernel
theorem dX12_readExpression_89 : decode cX12_readExpression 89 = .ok (.invokevirtual 241, 3) := by decide +kernel
theorem dX12_readExpression_92 : decode cX12_readExpression 92 = .ok (.goto (-25), 3) := by decide +kernel
theorem dX12_readExpression_95 : decode cX12_readExpression 95 = .ok (.return_, 1) := by decide +kernel
theorem dX12_sayWalk_0 : decode cX12_sayWalk 0 = .ok (.iconst 0, 1) := by decide +kernel
theorem dX12_sayWalk_1 : decode cX12_sayWalk 1 = .ok (.istore_n 2, 1) := by decide +kernel
theorem dX12_sayWalk_2 : decode cX12_sayWalk 2 = .ok (.aload_n 0, 1) := by decide +kernel
theorem dX12_sayWalk_3 : decode cX12_sayWalk 3 = .ok (.getfield 203, 3) := by decide +kernel
theorem dX12_sayWalk_6 : decode cX12_sayWalk 6 = .ok (.ifCond .ne 16, 3) := by decide +kernel
theorem dX12_sayWalk_9 : decode cX12_sayWalk 9 = .ok (.aload_n 0, 1) := by decide +kernel
theorem dX12_sayWalk_10 : decode cX12_sayWalk 10 = .ok (.getfield 177, 3) := by decide +kernel
theorem dX12_sayWalk_13 : decode cX12_sayWalk 13 = .ok (.iconst 2, 1) := by decide +kernel
theorem dX12_sayWalk_14 : decode cX12_sayWalk 14 = .ok (.if_icmp .eq 8, 3) := by decide +kernel
theorem dX12_sayWalk_17 : decode cX12_sayWalk 17 = .ok (.aload_n 0, 1) := by decide +kernel
theorem dX12_sayWalk_18 : decode cX12_sayWalk 18 = .ok (.iconst 1, 1) := by decide +kernel
theorem dX12_sayWalk_19 : decode cX12_sayWalk 19 = .ok (.invokevirtual 224, 3) := by decide +kernel
theorem dX12_sayWalk_22 : decode cX12_sayWalk 22 = .ok (.aload_n 0, 1) := by decide +kernel
theorem dX12_sayWalk_23 : decode cX12_sayWalk 23 = .ok (.getfield 203, 3) := by decide +kernel
theorem dX12_sayWalk_26 : decode cX12_sayWalk 26 = .ok (.ifCond .ne 89, 3) := by decide +kernel
theorem dX12_sayWalk_29 : decode cX12_sayWalk 29 = .ok (.aload_n 0, 1) := by decide +kernel
theorem dX12_sayWalk_30 : decode cX12_sayWalk 30 = .ok (.getfield 177, 3) := by decide +kernel
theorem dX12_sayWalk_33 : decode cX12_sayWalk 33 = .ok (.iconst 2, 1) := by decide +kernel
theorem dX12_sayWalk_34 : decode cX12_sayWalk 34 = .ok (.if_icmp .ne 81, 3) := by decide +kernel
theorem dX12_sayWalk_37 : decode cX12_sayWalk 37 = .ok (.iload_n 2, 1) := by decide +kernel
theorem dX12_sayWalk_38 : decode cX12_sayWalk 38 = .ok (.bipush 6, 2) := by decide +kernel
theorem dX12_sayWalk_40 : decode cX12_sayWalk 40 = .ok (.if_icmp .ne 8, 3) := by decide +kernel
theorem dX12_sayWalk_43 : decode cX12_sayWalk 43 = .ok (.aload_n 0, 1) := by decide +kernel
theorem dX12_sayWalk_44 : decode cX12_sayWalk 44 = .ok (.iconst 2, 1) := by decide +kernel
theorem dX12_sayWalk_45 : decode cX12_sayWalk 45 = .ok (.invokevirtual 224, 3) := by decide +kernel
theorem dX12_sayWalk_48 : decode cX12_sayWalk 48 = .ok (.aload_n 0, 1) := by decide +kernel
theorem dX12_sayWalk_49 : decode cX12_sayWalk 49 = .ok (.iconst 0, 1) := by decide +kernel
theorem dX12_sayWalk_50 : decode cX12_sayWalk 50 = .ok (.sipush 9999, 3) := by decide +kernel
theorem dX12_sayWalk_53 : decode cX12_sayWalk 53 = .ok (.invokevirtual 231, 3) := by decide +kernel
theorem dX12_sayWalk_56 : decode cX12_sayWalk 56 = .ok (.istore_n 3, 1) := by decide +kernel
theorem dX12_sayWalk_57 : decode cX12_sayWalk 57 = .ok (.aload_n 0, 1) := by decide +kernel
theorem dX12_sayWalk_58 : decode cX12_sayWalk 58 = .ok (.getfield 203, 3) := by decide +kernel
theorem dX12_sayWalk_61 : decode cX12_sayWalk 61 = .ok (.ifCond .ne 18, 3) := by decide +kernel
theorem dX12_sayWalk_64 : decode cX12_sayWalk 64 = .ok (.iload_n 3, 1) := by decide +kernel
theorem dX12_sayWalk_65 : decode cX12_sayWalk 65 = .ok (.aload_n 0, 1) := by decide +kernel
theorem dX12_sayWalk_66 : decode cX12_sayWalk 66 = .ok (.getfield 42, 3) := by decide +kernel
theorem dX12_sayWalk_69 : decode cX12_sayWalk 69 = .ok (.iconst 5, 1) := by decide +kernel
theorem dX12_sayWalk_70 : decode cX12_sayWalk 70 = .ok (.iaload, 1) := by decide +kernel
theorem dX12_sayWalk_71 : decode cX12_sayWalk 71 = .ok (.if_icmp .lt 8, 3) := by decide +kernel
theorem dX12_sayWalk_74 : decode cX12_sayWalk 74 = .ok (.aload_n 0, 1) := by decide +kernel
theorem dX12_sayWalk_75 : decode cX12_sayWalk 75 = .ok (.iconst 3, 1) := by decide +kernel
theorem dX12_sayWalk_76 : decode cX12_sayWalk 76 = .ok (.invokevirtual 224, 3) := by decide +kernel
theorem dX12_sayWalk_79 : decode cX12_sayWalk 79 = .ok (.aload_n 0, 1) := by decide +kernel
theorem dX12_sayWalk_80 : decode cX12_sayWalk 80 = .ok (.getfield 203, 3) := by decide +kernel
theorem dX12_sayWalk_83 : decode cX12_sayWalk 83 = .ok (.ifCond .eq 5, 3) := by decide +kernel
theorem dX12_sayWalk_86 : decode cX12_sayWalk 86 = .ok (.iload_n 2, 1) := by decide +kernel
theorem dX12_sayWalk_87 : decode cX12_sayWalk 87 = .ok (.ireturn, 1) := by decide +kernel
theorem dX12_sayWalk_88 : decode cX12_sayWalk 88 = .ok (.aload_n 0, 1) := by decide +kernel
theorem dX12_sayWalk_89 : decode cX12_sayWalk 89 = .ok (.invokevirtual 228, 3) := by decide +kernel
theorem dX12_sayWalk_92 : decode cX12_sayWalk 92 = .ok (.aload_n 0, 1) := by decide +kernel
theorem dX12_sayWalk_93 : decode cX12_sayWalk 93 = .ok (.getfield 60, 3) := by decide +kernel
theorem dX12_sayWalk_96 : decode cX12_sayWalk 96 = .ok (.bipush 6, 2) := by decide +kernel
theorem dX12_sayWalk_98 : decode cX12_sayWalk 98 = .ok (.iload_n 1, 1) := by decide +kernel
theorem dX12_sayWalk_99 : decode cX12_sayWalk 99 = .ok (.imul, 1) := by decide +kernel
theorem dX12_sayWalk_100 : decode cX12_sayWalk 100 = .ok (.iload_n 2, 1) := by decide +kernel
theorem dX12_sayWalk_101 : decode cX12_sayWalk 101 = .ok (.iadd, 1) := by decide +kernel
theorem dX12_sayWalk_102 : decode cX12_sayWalk 102 = .ok (.iload_n 3, 1) := by decide +kernel
theorem dX12_sayWalk_103 : decode cX12_sayWalk 103 = .ok (.iastore, 1) := by decide +kernel
theorem dX12_sayWalk_104 : decode cX12_sayWalk 104 = .ok (.aload_n 0, 1) := by decide +kernel
theorem dX12_sayWalk_105 : decode cX12_sayWalk 105 = .ok (.iconst 1, 1) := by decide +kernel
theorem dX12_sayWalk_106 : decode cX12_sayWalk 106 = .ok (.putfield 275, 3) := by decide +kernel
theorem dX12_sayWalk_109 : decode cX12_sayWalk 109 = .ok (.iinc 2 1, 3) := by decide +kernel
theorem dX12_sayWalk_112 : decode cX12_sayWalk 112 = .ok (.goto (-90), 3) := by decide +kernel
theorem dX12_sayWalk_115 : decode cX12_sayWalk 115 = .ok (.iload_n 2, 1) := by decide +kernel
theorem dX12_sayWalk_116 : decode cX12_sayWalk 116 = .ok (.ireturn, 1) := by decide +kernel
theorem dX12_sayPerson_0 : decode cX12_sayPerson 0 = .ok (.aload_n 0, 1) := by decide +kernel
theorem dX12_sayPerson_1 : decode cX12_sayPerson 1 = .ok (.getfield 42, 3) := by decide +kernel
theorem dX12_sayPerson_4 : decode cX12_sayPerson 4 = .ok (.bipush 6, 2) := by decide +kernel
theorem dX12_sayPerson_6 : decode cX12_sayPerson 6 = .ok (.iaload, 1) := by decide +kernel
theorem dX12_sayPerson_7 : decode cX12_sayPerson 7 = .ok (.bipush 8, 2) := by decide +kernel
theorem dX12_sayPerson_9 : decode cX12_sayPerson 9 = .ok (.if_icmp .ne 8, 3) := by decide +kernel
theorem dX12_sayPerson_12 : decode cX12_sayPerson 12 = .ok (.aload_n 0, 1) := by decide +kernel
theorem dX12_sayPerson_13 : decode cX12_sayPerson 13 = .ok (.iconst 2, 1) := by decide +kernel
theorem dX12_sayPerson_14 : decode cX12_sayPerson 14 = .ok (.invokevirtual 224, 3) := by decide +kernel
theorem dX12_sayPerson_17 : decode cX12_sayPerson 17 = .ok (.aload_n 0, 1) := by decide +kernel
theorem dX12_sayPerson_18 : decode cX12_sayPerson 18 = .ok (.getfield 203, 3) := by decide +kernel
theorem dX12_sayPerson_21 : decode cX12_sayPerson 21 = .ok (.ifCond .eq 4, 3) := by decide +kernel
theorem dX12_sayPerson_24 : decode cX12_sayPerson 24 = .ok (.return_, 1) := by decide +kernel
theorem dX12_sayPerson_25 : decode cX12_sayPerson 25 = .ok (.aload_n 0, 1) := by decide +kernel
theorem dX12_sayPerson_26 : decode cX12_sayPerson 26 = .ok (.invokevirtual 228, 3) := by decide +kernel
theorem dX12_sayPerson_29 : decode cX12_sayPerson 29 = .ok (.bipush 8, 2) := by decide +kernel
theorem dX12_sayPerson_31 : decode cX12_sayPerson 31 = .ok (.aload_n 0, 1) := by decide +kernel
theorem dX12_sayPerson_32 : decode cX12_sayPerson 32 = .ok (.getfield 42, 3) := by decide +kernel
theorem dX12_sayPerson_35 : decode cX12_sayPerson 35 = .ok (.bipush 6, 2) := by decide +kernel
theorem dX12_sayPerson_37 : decode cX12_sayPerson 37 = .ok (.iaload, 1) := by decide +kernel
theorem dX12_sayPerson_38 : decode cX12_sayPerson 38 = .ok (.iadd, 1) := by decide +kernel
theorem dX12_sayPerson_39 : decode cX12_sayPerson 39 = .ok (.istore_n 2, 1) := by decide +kernel
theorem dX12_sayPerson_40 : decode cX12_sayPerson 40 = .ok (.aload_n 0, 1) := by decide +kernel
theorem dX12_sayPerson_41 : decode cX12_sayPerson 41 = .ok (.getfield 46, 3) := by decide +kernel
theorem dX12_sayPerson_44 : decode cX12_sayPerson 44 = .ok (.iload_n 2, 1) := by decide +kernel
theorem dX12_sayPerson_45 : decode cX12_sayPerson 45 = .ok (.iload_n 1, 1) := by decide +kernel
theorem dX12_sayPerson_46 : decode cX12_sayPerson 46 = .ok (.iastore, 1) := by decide +kernel
theorem dX12_sayPerson_47 : decode cX12_sayPerson 47 = .ok (.aload_n 0, 1) := by decide +kernel
theorem dX12_sayPerson_48 : decode cX12_sayPerson 48 = .ok (.getfield 48, 3) := by decide +kernel
theorem dX12_sayPerson_51 : decode cX12_sayPerson 51 = .ok (.iload_n 2, 1) := by decide +kernel
theorem dX12_sayPerson_52 : decode cX12_sayPerson 52 = .ok (.aload_n 0, 1) := by decide +kernel
theorem dX12_sayPerson_53 : decode cX12_sayPerson 53 = .ok (.iconst 0, 1) := by decide +kernel
theorem dX12_sayPerson_54 : decode cX12_sayPerson 54 = .ok (.sipush 999, 3) := by decide +kernel
theorem dX12_sayPerson_57 : decode cX12_sayPerson 57 = .ok (.invokevirtual 238, 3) := by decide +kernel
theorem dX12_sayPerson_60 : decode cX12_sayPerson 60 = .ok (.iastore, 1) := by decide +kernel
theorem dX12_sayPerson_61 : decode cX12_sayPerson 61 = .ok (.aload_n 0, 1) := by decide +kernel
theorem dX12_sayPerson_62 : decode cX12_sayPerson 62 = .ok (.getfield 51, 3) := by decide +kernel
theorem dX12_sayPerson_65 : decode cX12_sayPerson 65 = .ok (.iload_n 2, 1) := by decide +kernel
theorem dX12_sayPerson_66 : decode cX12_sayPerson 66 = .ok (.aload_n 0, 1) := by decide +kernel
theorem dX12_sayPerson_67 : decode cX12_sayPerson 67 = .ok (.iconst 0, 1) := by decide +kernel
theorem dX12_sayPerson_68 : decode cX12_sayPerson 68 = .ok (.bipush 59, 2) := by decide +kernel
theorem dX12_sayPerson_70 : decode cX12_sayPerson 70 = .ok (.invokevirtual 238, 3) := by decide +kernel
theorem dX12_sayPerson_73 : decode cX12_sayPerson 73 = .ok (.iastore, 1) := by decide +kernel
theorem dX12_sayPerson_74 : decode cX12_sayPerson 74 = .ok (.aload_n 0, 1) := by decide +kernel
theorem dX12_sayPerson_75 : decode cX12_sayPerson 75 = .ok (.getfield 54, 3) := by decide +kernel
theorem dX12_sayPerson_78 : decode cX12_sayPerson 78 = .ok (.iload_n 2, 1) := by decide +kernel
theorem dX12_sayPerson_79 : decode cX12_sayPerson 79 = .ok (.aload_n 0, 1) := by decide +kernel
theorem dX12_sayPerson_80 : decode cX12_sayPerson 80 = .ok (.iconst 0, 1) := by decide +kernel
theorem dX12_sayPerson_81 : decode cX12_sayPerson 81 = .ok (.bipush 9, 2) := by decide +kernel
theorem dX12_sayPerson_83 : decode cX12_sayPerson 83 = .ok (.invokevirtual 238, 3) := by decide +kernel
theorem dX12_sayPerson_86 : decode cX12_sayPerson 86 = .ok (.iastore, 1) := by decide +kernel
theorem dX12_sayPerson_87 : decode cX12_sayPerson 87 = .ok (.aload_n 0, 1) := by decide +kernel
theorem dX12_sayPerson_88 : decode cX12_sayPerson 88 = .ok (.getfield 57, 3) := by decide +kernel
theorem dX12_sayPerson_91 : decode cX12_sayPerson 91 = .ok (.iload_n 2, 1) := by decide +kernel
theorem dX12_sayPerson_92 : decode cX12_sayPerson 92 = .ok (.aload_n 0, 1) := by decide +kernel
theorem dX12_sayPerson_93 : decode cX12_sayPerson 93 = .ok (.iload_n 2, 1) := by decide +kernel
theorem dX12_sayPerson_94 : decode cX12_sayPerson 94 = .ok (.invokevirtual 278, 3) := by decide +kernel
theorem dX12_sayPerson_97 : decode cX12_sayPerson 97 = .ok (.iastore, 1) := by decide +kernel
theorem dX12_sayPerson_98 : decode cX12_sayPerson 98 = .ok (.aload_n 0, 1) := by decide +kernel
theorem dX12_sayPerson_99 : decode cX12_sayPerson 99 = .ok (.getfield 42, 3) := by decide +kernel
theorem dX12_sayPerson_102 : decode cX12_sayPerson 102 = .ok (.bipush 6, 2) := by decide +kernel
theorem dX12_sayPerson_104 : decode cX12_sayPerson 104 = .ok (.dup2, 1) := by decide +kernel
theorem dX12_sayPerson_105 : decode cX12_sayPerson 105 = .ok (.iaload, 1) := by decide +kernel
theorem dX12_sayPerson_106 : decode cX12_sayPerson 106 = .ok (.iconst 1, 1) := by decide +kernel
theorem dX12_sayPerson_107 : decode cX12_sayPerson 107 = .ok (.iadd, 1) := by decide +kernel
theorem dX12_sayPerson_108 : decode cX12_sayPerson 108 = .ok (.iastore, 1) := by decide +kernel
theorem dX12_sayPerson_109 : decode cX12_sayPerson 109 = .ok (.return_, 1) := by decide +kernel
theorem dX12_sayOnce_0 : decode cX12_sayOnce 0 = .ok (.aload_n 0, 1) := by decide +kernel
theorem dX12_sayOnce_1 : decode cX12_sayOnce 1 = .ok (.invokevirtual 228, 3) := by decide +kernel
theorem dX12_sayOnce_4 : decode cX12_sayOnce 4 = .ok (.iload_n 1, 1) := by decide +kernel
theorem dX12_sayOnce_5 : decode cX12_sayOnce 5 = .ok (.iconst 1, 1) := by decide +kernel
theorem dX12_sayOnce_6 : decode cX12_sayOnce 6 = .ok (.if_icmp .ne 16, 3) := by decide +kernel
theorem dX12_sayOnce_9 : decode cX12_sayOnce 9 = .ok (.aload_n 0, 1) := by decide +kernel
theorem dX12_sayOnce_10 : decode cX12_sayOnce 10 = .ok (.getfield 42, 3) := by decide +kernel
theorem dX12_sayOnce_13 : decode cX12_sayOnce 13 = .ok (.iconst 5, 1) := by decide +kernel
theorem dX12_sayOnce_14 : decode cX12_sayOnce 14 = .ok (.aload_n 0, 1) := by decide +kernel
theorem dX12_sayOnce_15 : decode cX12_sayOnce 15 = .ok (.iconst 2, 1) := by decide +kernel
theorem dX12_sayOnce_16 : decode cX12_sayOnce 16 = .ok (.bipush 6, 2) := by decide +kernel
theorem dX12_sayOnce_18 : decode cX12_sayOnce 18 = .ok (.invokevirtual 238, 3) := by decide +kernel
theorem dX12_sayOnce_21 : decode cX12_sayOnce 21 = .ok (.iastore, 1) := by decide +kernel
theorem dX12_sayOnce_22 : decode cX12_sayOnce 22 = .ok (.iload_n 1, 1) := by decide +kernel
theorem dX12_sayOnce_23 : decode cX12_sayOnce 23 = .ok (.iconst 2, 1) := by decide +kernel
theorem dX12_sayOnce_24 : decode cX12_sayOnce 24 = .ok (.if_icmp .ne 17, 3) := by decide +kernel
theorem dX12_sayOnce_27 : decode cX12_sayOnce 27 = .ok (.aload_n 0, 1) := by decide +kernel
theorem dX12_sayOnce_28 : decode cX12_sayOnce 28 = .ok (.getfield 42, 3) := by decide +kernel
theorem dX12_sayOnce_31 : decode cX12_sayOnce 31 = .ok (.bipush 7, 2) := by decide +kernel
theorem dX12_sayOnce_33 : decode cX12_sayOnce 33 = .ok (.aload_n 0, 1) := by decide +kernel
theorem dX12_sayOnce_34 : decode cX12_sayOnce 34 = .ok (.iconst 0, 1) := by decide +kernel
theorem dX12_sayOnce_35 : decode cX12_sayOnce 35 = .ok (.bipush 59, 2) := by decide +kernel
theorem dX12_sayOnce_37 : decode cX12_sayOnce 37 = .ok (.invokevirtual 238, 3) := by decide +kernel
theorem dX12_sayOnce_40 : decode cX12_sayOnce 40 = .ok (.iastore, 1) := by decide +kernel
theorem dX12_sayOnce_41 : decode cX12_sayOnce 41 = .ok (.iload_n 1, 1) := by decide +kernel
theorem dX12_sayOnce_42 : decode cX12_sayOnce 42 = .ok (.iconst 4, 1) := by decide +kernel
theorem dX12_sayOnce_43 : decode cX12_sayOnce 43 = .ok (.if_icmp .ge 4, 3) := by decide +kernel
theorem dX12_sayOnce_46 : decode cX12_sayOnce 46 = .ok (.return_, 1) := by decide +kernel
theorem dX12_sayOnce_47 : decode cX12_sayOnce 47 = .ok (.aload_n 0, 1) := by decide +kernel
theorem dX12_sayOnce_48 : decode cX12_sayOnce 48 = .ok (.iload_n 1, 1) := by decide +kernel
theorem dX12_sayOnce_49 : decode cX12_sayOnce 49 = .ok (.bipush 8, 2) := by decide +kernel
theorem dX12_sayOnce_51 : decode cX12_sayOnce 51 = .ok (.if_icmp .ne 7, 3) := by decide +kernel
theorem dX12_sayOnce_54 : decode cX12_sayOnce 54 = .ok (.iconst 1, 1) := by decide +kernel
theorem dX12_sayOnce_55 : decode cX12_sayOnce 55 = .ok (.goto 4, 3) := by decide +kernel
theorem dX12_sayOnce_58 : decode cX12_sayOnce 58 = .ok (.iconst 0, 1) := by decide +kernel
theorem dX12_sayOnce_59 : decode cX12_sayOnce 59 = .ok (.putfield 234, 3) := by decide +kernel
theorem dX12_sayOnce_62 : decode cX12_sayOnce 62 = .ok (.aload_n 0, 1) := by decide +kernel
theorem dX12_sayOnce_63 : decode cX12_sayOnce 63 = .ok (.aload_n 0, 1) := by decide +kernel
theorem dX12_sayOnce_64 : decode cX12_sayOnce 64 = .ok (.getfield 234, 3) := by decide +kernel
theorem dX12_sayOnce_67 : decode cX12_sayOnce 67 = .ok (.ifCond .eq 10, 3) := by decide +kernel
theorem dX12_sayOnce_70 : decode cX12_sayOnce 70 = .ok (.aload_n 0, 1) := by decide +kernel
theorem dX12_sayOnce_71 : decode cX12_sayOnce 71 = .ok (.getfield 36, 3) := by decide +kernel
theorem dX12_sayOnce_74 : decode cX12_sayOnce 74 = .ok (.goto 7, 3) := by decide +kernel
theorem dX12_sayOnce_77 : decode cX12_sayOnce 77 = .ok (.aload_n 0, 1) := by decide +kernel
theorem dX12_sayOnce_78 : decode cX12_sayOnce 78 = .ok (.getfield 29, 3) := by decide +kernel
theorem dX12_sayOnce_81 : decode cX12_sayOnce 81 = .ok (.putfield 39, 3) := by decide +kernel
theorem dX12_sayOnce_84 : decode cX12_sayOnce 84 = .ok (.aload_n 0, 1) := by decide +kernel
theorem dX12_sayOnce_85 : decode cX12_sayOnce 85 = .ok (.iconst 0, 1) := by decide +kernel
theorem dX12_sayOnce_86 : decode cX12_sayOnce 86 = .ok (.invokevirtual 251, 3) := by decide +kernel
theorem dX12_sayOnce_89 : decode cX12_sayOnce 89 = .ok (.return_, 1) := by decide +kernel
theorem dX12_readLine_0 : decode cX12_readLine 0 = .ok (.aload_n 0, 1) := by decide +kernel
theorem dX12_readLine_1 : decode cX12_readLine 1 = .ok (.aload_n 0, 1) := by decide +kernel
theorem dX12_readLine_2 : decode cX12_readLine 2 = .ok (.getfield 15, 3) := by decide +kernel
theorem dX12_readLine_5 : decode cX12_readLine 5 = .ok (.invokevirtual 244, 3) := by decide +kernel
theorem dX12_readLine_8 : decode cX12_readLine 8 = .ok (.istore_n 2, 1) := by decide +kernel
theorem dX12_readLine_9 : decode cX12_readLine 9 = .ok (.aload_n 0, 1) := by decide +kernel
theorem dX12_readLine_10 : decode cX12_readLine 10 = .ok (.ldc_w 281, 3) := by decide +kernel
theorem dX12_readLine_13 : decode cX12_readLine 13 = .ok (.invokevirtual 217, 3) := by decide +kernel
theorem dX12_readLine_16 : decode cX12_readLine 16 = .ok (.ifCond .eq 7, 3) := by decide +kernel
theorem dX12_readLine_19 : decode cX12_readLine 19 = .ok (.iconst 1, 1) := by decide +kernel
theorem dX12_readLine_20 : decode cX12_readLine 20 = .ok (.goto 47, 3) := by decide +kernel
theorem dX12_readLine_23 : decode cX12_readLine 23 = .ok (.aload_n 0, 1) := by decide +kernel
theorem dX12_readLine_24 : decode cX12_readLine 24 = .ok (.ldc_w 283, 3) := by decide +kernel
theorem dX12_readLine_27 : decode cX12_readLine 27 = .ok (.invokevirtual 217, 3) := by decide +kernel
theorem dX12_readLine_30 : decode cX12_readLine 30 = .ok (.ifCond .eq 7, 3) := by decide +kernel
theorem dX12_readLine_33 : decode cX12_readLine 33 = .ok (.iconst 2, 1) := by decide +kernel
theorem dX12_readLine_34 : decode cX12_readLine 34 = .ok (.goto 33, 3) := by decide +kernel
theorem dX12_readLine_37 : decode cX12_readLine 37 = .ok (.aload_n 0, 1) := by decide +kernel
theorem dX12_readLine_38 : decode cX12_readLine 38 = .ok (.ldc_w 285, 3) := by decide +kernel
theorem dX12_readLine_41 : decode cX12_readLine 41 = .ok (.invokevirtual 217, 3) := by decide +kernel
theorem dX12_readLine_44 : decode cX12_readLine 44 = .ok (.ifCond .eq 7, 3) := by decide +kernel
theorem dX12_readLine_47 : decode cX12_readLine 47 = .ok (.iconst 4, 1) := by decide +kernel
theorem dX12_readLine_48 : decode cX12_readLine 48 = .ok (.goto 19, 3) := by decide +kernel
theorem dX12_readLine_51 : decode cX12_readLine 51 = .ok (.aload_n 0, 1) := by decide +kernel
theorem dX12_readLine_52 : decode cX12_readLine 52 = .ok (.ldc_w 287, 3) := by decide +kernel
theorem dX12_readLine_55 : decode cX12_readLine 55 = .ok (.invokevirtual 217, 3) := by decide +kernel
theorem dX12_readLine_58 : decode cX12_readLine 58 = .ok (.ifCond .eq 8, 3) := by decide +kernel
theorem dX12_readLine_61 : decode cX12_readLine 61 = .ok (.bipush 8, 2) := by decide +kernel
theorem dX12_readLine_63 : decode cX12_readLine 63 = .ok (.goto 4, 3) := by decide +kernel
theorem dX12_readLine_66 : decode cX12_readLine 66 = .ok (.iconst 0, 1) := by decide +kernel
theorem dX12_readLine_67 : decode cX12_readLine 67 = .ok (.istore_n 3, 1) := by decide +kernel
theorem dX12_readLine_68 : decode cX12_readLine 68 = .ok (.iload_n 3, 1) := by decide +kernel
theorem dX12_readLine_69 : decode cX12_readLine 69 = .ok (.iconst 1, 1) := by decide +kernel
theorem dX12_readLine_70 : decode cX12_readLine 70 = .ok (.if_icmp .ne 15, 3) := by decide +kernel
theorem dX12_readLine_73 : decode cX12_readLine 73 = .ok (.aload_n 0, 1) := by decide +kernel
theorem dX12_readLine_74 : decode cX12_readLine 74 = .ok (.getfield 275, 3) := by decide +kernel
theorem dX12_readLine_77 : decode cX12_readLine 77 = .ok (.ifCond .eq 8, 3) := by decide +kernel
theorem dX12_readLine_80 : decode cX12_readLine 80 = .ok (.aload_n 0, 1) := by decide +kernel
theorem dX12_readLine_81 : decode cX12_readLine 81 = .ok (.iconst 4, 1) := by decide +kernel
theorem dX12_readLine_82 : decode cX12_readLine 82 = .ok (.invokevirtual 224, 3) := by decide +kernel
theorem dX12_readLine_85 : decode cX12_readLine 85 = .ok (.iload_n 3, 1) := by decide +kernel
theorem dX12_readLine_86 : decode cX12_readLine 86 = .ok (.iload_n 1, 1) := by decide +kernel
theorem dX12_readLine_87 : decode cX12_readLine 87 = .ok (.iand, 1) := by decide +kernel
theorem dX12_readLine_88 : decode cX12_readLine 88 = .ok (.ifCond .eq 8, 3) := by decide +kernel
theorem dX12_readLine_91 : decode cX12_readLine 91 = .ok (.aload_n 0, 1) := by decide +kernel
theorem dX12_readLine_92 : decode cX12_readLine 92 = .ok (.iconst 5, 1) := by decide +kernel
theorem dX12_readLine_93 : decode cX12_readLine 93 = .ok (.invokevirtual 224, 3) := by decide +kernel
theorem dX12_readLine_96 : decode cX12_readLine 96 = .ok (.iload_n 3, 1) := by decide +kernel
theorem dX12_readLine_97 : decode cX12_readLine 97 = .ok (.ifCond .le 18, 3) := by decide +kernel
theorem dX12_readLine_100 : decode cX12_readLine 100 = .ok (.aload_n 0, 1) := by decide +kernel
theorem dX12_readLine_101 : decode cX12_readLine 101 = .ok (.getfield 203, 3) := by decide +kernel
theorem dX12_readLine_104 : decode cX12_readLine 104 = .ok (.ifCond .ne 11, 3) := by decide +kernel
theorem dX12_readLine_107 : decode cX12_readLine 107 = .ok (.aload_n 0, 1) := by decide +kernel
theorem dX12_readLine_108 : decode cX12_readLine 108 = .ok (.iload_n 3, 1) := by decide +kernel
theorem dX12_readLine_109 : decode cX12_readLine 109 = .ok (.invokevirtual 289, 3) := by decide +kernel
theorem dX12_readLine_112 : decode cX12_readLine 112 = .ok (.goto 21, 3) := by decide +kernel
theorem dX12_readLine_115 : decode cX12_readLine 115 = .ok (.iload_n 2, 1) := by decide +kernel
theorem dX12_readLine_116 : decode cX12_readLine 116 = .ok (.iconst (-1), 1) := by decide +kernel
theorem dX12_readLine_117 : decode cX12_readLine 117 = .ok (.if_icmp .eq 11, 3) := by decide +kernel
theorem dX12_readLine_120 : decode cX12_readLine 120 = .ok (.aload_n 0, 1) := by decide +kernel
theorem dX12_readLine_121 : decode cX12_readLine 121 = .ok (.iload_n 2, 1) := by decide +kernel
theorem dX12_readLine_122 : decode cX12_readLine 122 = .ok (.invokevirtual 292, 3) := by decide +kernel
theorem dX12_readLine_125 : decode cX12_readLine 125 = .ok (.goto 8, 3) := by decide +kernel
theorem dX12_readLine_128 : decode cX12_readLine 128 = .ok (.aload_n 0, 1) := by decide +kernel
theorem dX12_readLine_129 : decode cX12_readLine 129 = .ok (.iconst 1, 1) := by decide +kernel
theorem dX12_readLine_130 : decode cX12_readLine 130 = .ok (.invokevirtual 224, 3) := by decide +kernel
theorem dX12_readLine_133 : decode cX12_readLine 133 = .ok (.aload_n 0, 1) := by decide +kernel
theorem dX12_readLine_134 : decode cX12_readLine 134 = .ok (.bipush 59, 2) := by decide +kernel
theorem dX12_readLine_136 : decode cX12_readLine 136 = .ok (.invokevirtual 248, 3) := by decide +kernel
theorem dX12_readLine_139 : decode cX12_readLine 139 = .ok (.iload_n 1, 1) := by decide +kernel
theorem dX12_readLine_140 : decode cX12_readLine 140 = .ok (.iload_n 3, 1) := by decide +kernel
theorem dX12_readLine_141 : decode cX12_readLine 141 = .ok (.ior, 1) := by decide +kernel
theorem dX12_readLine_142 : decode cX12_readLine 142 = .ok (.ireturn, 1) := by decide +kernel
theorem dX12_quay_0 : decode cX12_quay 0 = .ok (.aload_n 0, 1) := by decide +kernel
theorem dX12_quay_1 : decode cX12_quay 1 = .ok (.iconst 0, 1) := by decide +kernel
theorem dX12_quay_2 : decode cX12_quay 2 = .ok (.putfield 154, 3) := by decide +kernel
theorem dX12_quay_5 : decode cX12_quay 5 = .ok (.iload_n 1, 1) := by decide +kernel
theorem dX12_quay_6 : decode cX12_quay 6 = .ok (.ifCond .lt 11, 3) := by decide +kernel
theorem dX12_quay_9 : decode cX12_quay 9 = .ok (.iload_n 1, 1) := by decide +kernel
theorem dX12_quay_10 : decode cX12_quay 10 = .ok (.aload_n 0, 1) := by decide +kernel
theorem dX12_quay_11 : decode cX12_quay 11 = .ok (.getfield 161, 3) := by decide +kernel
theorem dX12_quay_14 : decode cX12_quay 14 = .ok (.if_icmp .le 9, 3) := by decide +kernel
theorem dX12_quay_17 : decode cX12_quay 17 = .ok (.aload_n 0, 1) := by decide +kernel
theorem dX12_quay_18 : decode cX12_quay 18 = .ok (.iconst 1, 1) := by decide +kernel
theorem dX12_quay_19 : decode cX12_quay 19 = .ok (.invokevirtual 295, 3) := by decide +kernel
theorem dX12_quay_22 : decode cX12_quay 22 = .ok (.ireturn, 1) := by decide +kernel
theorem dX12_quay_23 : decode cX12_quay 23 = .ok (.aload_n 0, 1) := by decide +kernel
theorem dX12_quay_24 : decode cX12_quay 24 = .ok (.iconst 0, 1) := by decide +kernel
theorem dX12_quay_25 : decode cX12_quay 25 = .ok (.putfield 161, 3) := by decide +kernel
theorem dX12_quay_28 : decode cX12_quay 28 = .ok (.aload_n 0, 1) := by decide +kernel
theorem dX12_quay_29 : decode cX12_quay 29 = .ok (.iload_n 1, 1) := by decide +kernel
theorem dX12_quay_30 : decode cX12_quay 30 = .ok (.putfield 164, 3) := by decide +kernel
theorem dX12_quay_33 : decode cX12_quay 33 = .ok (.aload_n 0, 1) := by decide +kernel
theorem dX12_quay_34 : decode cX12_quay 34 = .ok (.iconst 0, 1) := by decide +kernel
theorem dX12_quay_35 : decode cX12_quay 35 = .ok (.putfield 167, 3) := by decide +kernel
theorem dX12_quay_38 : decode cX12_quay 38 = .ok (.aload_n 0, 1) := by decide +kernel
theorem dX12_quay_39 : decode cX12_quay 39 = .ok (.iconst 0, 1) := by decide +kernel
theorem dX12_quay_40 : decode cX12_quay 40 = .ok (.putfield 203, 3) := by decide +kernel
theorem dX12_quay_43 : decode cX12_quay 43 = .ok (.aload_n 0, 1) := by decide +kernel
theorem dX12_quay_44 : decode cX12_quay 44 = .ok (.iconst 0, 1) := by decide +kernel
theorem dX12_quay_45 : decode cX12_quay 45 = .ok (.putfield 275, 3) := by decide +kernel
theorem dX12_quay_48 : decode cX12_quay 48 = .ok (.aload_n 0, 1) := by decide +kernel
theorem dX12_quay_49 : decode cX12_quay 49 = .ok (.iconst (-1), 1) := by decide +kernel
theorem dX12_quay_50 : decode cX12_quay 50 = .ok (.putfield 77, 3) := by decide +kernel
theorem dX12_quay_53 : decode cX12_quay 53 = .ok (.iconst 0, 1) := by decide +kernel
theorem dX12_quay_54 : decode cX12_quay 54 = .ok (.istore_n 2, 1) := by decide +kernel
theorem dX12_quay_55 : decode cX12_quay 55 = .ok (.iload_n 2, 1) := by decide +kernel
theorem dX12_quay_56 : decode cX12_quay 56 = .ok (.iconst 5, 1) := by decide +kernel
theorem dX12_quay_57 : decode cX12_quay 57 = .ok (.if_icmp .ge 26, 3) := by decide +kernel
theorem dX12_quay_60 : decode cX12_quay 60 = .ok (.aload_n 0, 1) := by decide +kernel
theorem dX12_quay_61 : decode cX12_quay 61 = .ok (.getfield 42, 3) := by decide +kernel
theorem dX12_quay_64 : decode cX12_quay 64 = .ok (.iconst 5, 1) := by decide +kernel
theorem dX12_quay_65 : decode cX12_quay 65 = .ok (.iload_n 2, 1) := by decide +kernel
theorem dX12_quay_66 : decode cX12_quay 66 = .ok (.iadd, 1) := by decide +kernel
theorem dX12_quay_67 : decode cX12_quay 67 = .ok (.iload_n 2, 1) := by decide +kernel
theorem dX12_quay_68 : decode cX12_quay 68 = .ok (.ifCond .ne 7, 3) := by decide +kernel
theorem dX12_quay_71 : decode cX12_quay 71 = .ok (.iconst 3, 1) := by decide +kernel
theorem dX12_quay_72 : decode cX12_quay 72 = .ok (.goto 4, 3) := by decide +kernel
theorem dX12_quay_75 : decode cX12_quay 75 = .ok (.iconst 0, 1) := by decide +kernel
theorem dX12_quay_76 : decode cX12_quay 76 = .ok (.iastore, 1) := by decide +kernel
theorem dX12_quay_77 : decode cX12_quay 77 = .ok (.iinc 2 1, 3) := by decide +kernel
theorem dX12_quay_80 : decode cX12_quay 80 = .ok (.goto (-25), 3) := by decide +kernel
theorem dX12_quay_83 : decode cX12_quay 83 = .ok (.aload_n 0, 1) := by decide +kernel
theorem dX12_quay_84 : decode cX12_quay 84 = .ok (.invokevirtual 228, 3) := by decide +kernel
theorem dX12_quay_87 : decode cX12_quay 87 = .ok (.iconst 0, 1) := by decide +kernel
theorem dX12_quay_88 : decode cX12_quay 88 = .ok (.istore_n 2, 1) := by decide +kernel
theorem dX12_quay_89 : decode cX12_quay 89 = .ok (.aload_n 0, 1) := by decide +kernel
theorem dX12_quay_90 : decode cX12_quay 90 = .ok (.getfield 203, 3) := by decide +kernel
theorem dX12_quay_93 : decode cX12_quay 93 = .ok (.ifCond .ne 19, 3) := by decide +kernel
theorem dX12_quay_96 : decode cX12_quay 96 = .ok (.aload_n 0, 1) := by decide +kernel
theorem dX12_quay_97 : decode cX12_quay 97 = .ok (.getfield 177, 3) := by decide +kernel
theorem dX12_quay_100 : decode cX12_quay 100 = .ok (.ifCond .eq 12, 3) := by decide +kernel
theorem dX12_quay_103 : decode cX12_quay 103 = .ok (.aload_n 0, 1) := by decide +kernel
theorem dX12_quay_104 : decode cX12_quay 104 = .ok (.iload_n 2, 1) := by decide +kernel
theorem dX12_quay_105 : decode cX12_quay 105 = .ok (.invokevirtual 298, 3) := by decide +kernel
theorem dX12_quay_108 : decode cX12_quay 108 = .ok (.istore_n 2, 1) := by decide +kernel
theorem dX12_quay_109 : decode cX12_quay 109 = .ok (.goto (-20), 3) := by decide +kernel
theorem dX12_quay_112 : decode cX12_quay 112 = .ok (.aload_n 0, 1) := by decide +kernel
theorem dX12_quay_113 : decode cX12_quay 113 = .ok (.getfield 203, 3) := by decide +kernel
theorem dX12_quay_116 : decode cX12_quay 116 = .ok (.ifCond .eq 26, 3) := by decide +kernel
theorem dX12_quay_119 : decode cX12_quay 119 = .ok (.aload_n 0, 1) := by decide +kernel
theorem dX12_quay_120 : decode cX12_quay 120 = .ok (.aload_n 0, 1) := by decide +kernel
theorem dX12_quay_121 : decode cX12_quay 121 = .ok (.getfield 206, 3) := by decide +kernel
theorem dX12_quay_124 : decode cX12_quay 124 = .ok (.putfield 77, 3) := by decide +kernel
theorem dX12_quay_127 : decode cX12_quay 127 = .ok (.aload_n 0, 1) := by decide +kernel
theorem dX12_quay_128 : decode cX12_quay 128 = .ok (.getfield 69, 3) := by decide +kernel
theorem dX12_quay_131 : decode cX12_quay 131 = .ok (.iconst 0, 1) := by decide +kernel
theorem dX12_quay_132 : decode cX12_quay 132 = .ok (.dup2, 1) := by decide +kernel
theorem dX12_quay_133 : decode cX12_quay 133 = .ok (.iaload, 1) := by decide +kernel
theorem dX12_quay_134 : decode cX12_quay 134 = .ok (.iconst 1, 1) := by decide +kernel
theorem dX12_quay_135 : decode cX12_quay 135 = .ok (.iadd, 1) := by decide +kernel
theorem dX12_quay_136 : decode cX12_quay 136 = .ok (.iastore, 1) := by decide +kernel
theorem dX12_quay_137 : decode cX12_quay 137 = .ok (.aload_n 0, 1) := by decide +kernel
theorem dX12_quay_138 : decode cX12_quay 138 = .ok (.getfield 203, 3) := by decide +kernel
theorem dX12_quay_141 : decode cX12_quay 141 = .ok (.ireturn, 1) := by decide +kernel
theorem dX12_quay_142 : decode cX12_quay 142 = .ok (.aload_n 0, 1) := by decide +kernel
theorem dX12_quay_143 : decode cX12_quay 143 = .ok (.invokevirtual 301, 3) := by decide +kernel
theorem dX12_quay_146 : decode cX12_quay 146 = .ok (.iconst 0, 1) := by decide +kernel
theorem dX12_quay_147 : decode cX12_quay 147 = .ok (.ireturn, 1) := by decide +kernel
theorem dX12_takeHalf_0 : decode cX12_takeHalf 0 = .ok (.iconst 0, 1) := by decide +kernel
theorem dX12_takeHalf_1 : decode cX12_takeHalf 1 = .ok (.istore_n 1, 1) := by decide +kernel
theorem dX12_takeHalf_2 : decode cX12_takeHalf 2 = .ok (.iload_n 1, 1) := by decide +kernel
theorem dX12_takeHalf_3 : decode cX12_takeHalf 3 = .ok (.aload_n 0, 1) := by decide +kernel
theorem dX12_takeHalf_4 : decode cX12_takeHalf 4 = .ok (.arraylength, 1) := by decide +kernel
theorem dX12_takeHalf_5 : decode cX12_takeHalf 5 = .ok (.iconst 2, 1) := by decide +kernel
theorem dX12_takeHalf_6 : decode cX12_takeHalf 6 = .ok (.idiv, 1) := by decide +kernel
theorem dX12_takeHalf_7 : decode cX12_takeHalf 7 = .ok (.if_icmp .ge 20, 3) := by decide +kernel
theorem dX12_takeHalf_10 : decode cX12_takeHalf 10 = .ok (.aload_n 0, 1) := by decide +kernel
theorem dX12_takeHalf_11 : decode cX12_takeHalf 11 = .ok (.iload_n 1, 1) := by decide +kernel
theorem dX12_takeHalf_12 : decode cX12_takeHalf 12 = .ok (.aload_n 0, 1) := by decide +kernel
theorem dX12_takeHalf_13 : decode cX12_takeHalf 13 = .ok (.aload_n 0, 1) := by decide +kernel
theorem dX12_takeHalf_14 : decode cX12_takeHalf 14 = .ok (.arraylength, 1) := by decide +kernel
theorem dX12_takeHalf_15 : decode cX12_takeHalf 15 = .ok (.iconst 2, 1) := by decide +kernel
theorem dX12_takeHalf_16 : decode cX12_takeHalf 16 = .ok (.idiv, 1) := by decide +kernel
theorem dX12_takeHalf_17 : decode cX12_takeHalf 17 = .ok (.iload_n 1, 1) := by decide +kernel
theorem dX12_takeHalf_18 : decode cX12_takeHalf 18 = .ok (.iadd, 1) := by decide +kernel
theorem dX12_takeHalf_19 : decode cX12_takeHalf 19 = .ok (.iaload, 1) := by decide +kernel
theorem dX12_takeHalf_20 : decode cX12_takeHalf 20 = .ok (.iastore, 1) := by decide +kernel
theorem dX12_takeHalf_21 : decode cX12_takeHalf 21 = .ok (.iinc 1 1, 3) := by decide +kernel
theorem dX12_takeHalf_24 : decode cX12_takeHalf 24 = .ok (.goto (-22), 3) := by decide +kernel
theorem dX12_takeHalf_27 : decode cX12_takeHalf 27 = .ok (.return_, 1) := by decide +kernel
theorem dX12_takeOver_0 : decode cX12_takeOver 0 = .ok (.aload_n 0, 1) := by decide +kernel
theorem dX12_takeOver_1 : decode cX12_takeOver 1 = .ok (.getfield 42, 3) := by decide +kernel
theorem dX12_takeOver_4 : decode cX12_takeOver 4 = .ok (.invokestatic 304, 3) := by decide +kernel
theorem dX12_takeOver_7 : decode cX12_takeOver 7 = .ok (.aload_n 0, 1) := by decide +kernel
theorem dX12_takeOver_8 : decode cX12_takeOver 8 = .ok (.getfield 46, 3) := by decide +kernel
theorem dX12_takeOver_11 : decode cX12_takeOver 11 = .ok (.invokestatic 304, 3) := by decide +kernel
theorem dX12_takeOver_14 : decode cX12_takeOver 14 = .ok (.aload_n 0, 1) := by decide +kernel
theorem dX12_takeOver_15 : decode cX12_takeOver 15 = .ok (.getfield 48, 3) := by decide +kernel
theorem dX12_takeOver_18 : decode cX12_takeOver 18 = .ok (.invokestatic 304, 3) := by decide +kernel
theorem dX12_takeOver_21 : decode cX12_takeOver 21 = .ok (.aload_n 0, 1) := by decide +kernel
theorem dX12_takeOver_22 : decode cX12_takeOver 22 = .ok (.getfield 51, 3) := by decide +kernel
theorem dX12_takeOver_25 : decode cX12_takeOver 25 = .ok (.invokestatic 304, 3) := by decide +kernel
theorem dX12_takeOver_28 : decode cX12_takeOver 28 = .ok (.aload_n 0, 1) := by decide +kernel
theorem dX12_takeOver_29 : decode cX12_takeOver 29 = .ok (.getfield 54, 3) := by decide +kernel
theorem dX12_takeOver_32 : decode cX12_takeOver 32 = .ok (.invokestatic 304, 3) := by decide +kernel
theorem dX12_takeOver_35 : decode cX12_takeOver 35 = .ok (.aload_n 0, 1) := by decide +kernel
theorem dX12_takeOver_36 : decode cX12_takeOver 36 = .ok (.getfield 57, 3) := by decide +kernel
theorem dX12_takeOver_39 : decode cX12_takeOver 39 = .ok (.invokestatic 304, 3) := by decide +kernel
theorem dX12_takeOver_42 : decode cX12_takeOver 42 = .ok (.aload_n 0, 1) := by decide +kernel
theorem dX12_takeOver_43 : decode cX12_takeOver 43 = .ok (.getfield 60, 3) := by decide +kernel
theorem dX12_takeOver_46 : decode cX12_takeOver 46 = .ok (.invokestatic 304, 3) := by decide +kernel
theorem dX12_takeOver_49 : decode cX12_takeOver 49 = .ok (.aload_n 0, 1) := by decide +kernel
theorem dX12_takeOver_50 : decode cX12_takeOver 50 = .ok (.getfield 63, 3) := by decide +kernel
theorem dX12_takeOver_53 : decode cX12_takeOver 53 = .ok (.invokestatic 304, 3) := by decide +kernel
theorem dX12_takeOver_56 : decode cX12_takeOver 56 = .ok (.aload_n 0, 1) := by decide +kernel
theorem dX12_takeOver_57 : decode cX12_takeOver 57 = .ok (.getfield 66, 3) := by decide +kernel
theorem dX12_takeOver_60 : decode cX12_takeOver 60 = .ok (.invokestatic 304, 3) := by decide +kernel
theorem dX12_takeOver_63 : decode cX12_takeOver 63 = .ok (.aload_n 0, 1) := by decide +kernel
theorem dX12_takeOver_64 : decode cX12_takeOver 64 = .ok (.iconst 0, 1) := by decide +kernel
theorem dX12_takeOver_65 : decode cX12_takeOver 65 = .ok (.putfield 308, 3) := by decide +kernel
theorem dX12_takeOver_68 : decode cX12_takeOver 68 = .ok (.aload_n 0, 1) := by decide +kernel
theorem dX12_takeOver_69 : decode cX12_takeOver 69 = .ok (.aload_n 0, 1) := by decide +kernel
theorem dX12_takeOver_70 : decode cX12_takeOver 70 = .ok (.getfield 42, 3) := by decide +kernel
theorem dX12_takeOver_73 : decode cX12_takeOver 73 = .ok (.iconst 2, 1) := by decide +kernel
theorem dX12_takeOver_74 : decode cX12_takeOver 74 = .ok (.iaload, 1) := by decide +kernel
theorem dX12_takeOver_75 : decode cX12_takeOver 75 = .ok (.putfield 311, 3) := by decide +kernel
theorem dX12_takeOver_78 : decode cX12_takeOver 78 = .ok (.aload_n 0, 1) := by decide +kernel
theorem dX12_takeOver_79 : decode cX12_takeOver 79 = .ok (.iconst 0, 1) := by decide +kernel
theorem dX12_takeOver_80 : decode cX12_takeOver 80 = .ok (.putfield 313, 3) := by decide +kernel
theorem dX12_takeOver_83 : decode cX12_takeOver 83 = .ok (.aload_n 0, 1) := by decide +kernel
theorem dX12_takeOver_84 : decode cX12_takeOver 84 = .ok (.iconst 0, 1) := by decide +kernel
theorem dX12_takeOver_85 : decode cX12_takeOver 85 = .ok (.putfield 316, 3) := by decide +kernel
theorem dX12_takeOver_88 : decode cX12_takeOver 88 = .ok (.iconst 0, 1) := by decide +kernel
theorem dX12_takeOver_89 : decode cX12_takeOver 89 = .ok (.istore_n 1, 1) := by decide +kernel
theorem dX12_takeOver_90 : decode cX12_takeOver 90 = .ok (.iload_n 1, 1) := by decide +kernel
theorem dX12_takeOver_91 : decode cX12_takeOver 91 = .ok (.bipush 8, 2) := by decide +kernel
theorem dX12_takeOver_93 : decode cX12_takeOver 93 = .ok (.if_icmp .ge 92, 3) := by decide +kernel
theorem dX12_takeOver_96 : decode cX12_takeOver 96 = .ok (.iload_n 1, 1) := by decide +kernel
theorem dX12_takeOver_97 : decode cX12_takeOver 97 = .ok (.aload_n 0, 1) := by decide +kernel
theorem dX12_takeOver_98 : decode cX12_takeOver 98 = .ok (.getfield 42, 3) := by decide +kernel
theorem dX12_takeOver_101 : decode cX12_takeOver 101 = .ok (.iconst 1, 1) := by decide +kernel
theorem dX12_takeOver_102 : decode cX12_takeOver 102 = .ok (.iaload, 1) := by decide +kernel
theorem dX12_takeOver_103 : decode cX12_takeOver 103 = .ok (.if_icmp .ge 7, 3) := by decide +kernel
theorem dX12_takeOver_106 : decode cX12_takeOver 106 = .ok (.iconst 1, 1) := by decide +kernel
theorem dX12_takeOver_107 : decode cX12_takeOver 107 = .ok (.goto 4, 3) := by decide +kernel
theorem dX12_takeOver_110 : decode cX12_takeOver 110 = .ok (.iconst 0, 1) := by decide +kernel
theorem dX12_takeOver_111 : decode cX12_takeOver 111 = .ok (.istore_n 2, 1) := by decide +kernel
theorem dX12_takeOver_112 : decode cX12_takeOver 112 = .ok (.aload_n 0, 1) := by decide +kernel
theorem dX12_takeOver_113 : decode cX12_takeOver 113 = .ok (.getfield 81, 3) := by decide +kernel
theorem dX12_takeOver_116 : decode cX12_takeOver 116 = .ok (.iload_n 1, 1) := by decide +kernel
theorem dX12_takeOver_117 : decode cX12_takeOver 117 = .ok (.iload_n 2, 1) := by decide +kernel
theorem dX12_takeOver_118 : decode cX12_takeOver 118 = .ok (.ifCond .eq 12, 3) := by decide +kernel
theorem dX12_takeOver_121 : decode cX12_takeOver 121 = .ok (.aload_n 0, 1) := by decide +kernel
theorem dX12_takeOver_122 : decode cX12_takeOver 122 = .ok (.getfield 48, 3) := by decide +kernel
theorem dX12_takeOver_125 : decode cX12_takeOver 125 = .ok (.iload_n 1, 1) := by decide +kernel
theorem dX12_takeOver_126 : decode cX12_takeOver 126 = .ok (.iaload, 1) := by decide +kernel
theorem dX12_takeOver_127 : decode cX12_takeOver 127 = .ok (.goto 4, 3) := by decide +kernel
theorem dX12_takeOver_130 : decode cX12_takeOver 130 = .ok (.iconst 0, 1) := by decide +kernel
theorem dX12_takeOver_131 : decode cX12_takeOver 131 = .ok (.iastore, 1) := by decide +kernel
theorem dX12_takeOver_132 : decode cX12_takeOver 132 = .ok (.aload_n 0, 1) := by decide +kernel
theorem dX12_takeOver_133 : decode cX12_takeOver 133 = .ok (.getfield 83, 3) := by decide +kernel
theorem dX12_takeOver_136 : decode cX12_takeOver 136 = .ok (.iload_n 1, 1) := by decide +kernel
theorem dX12_takeOver_137 : decode cX12_takeOver 137 = .ok (.iconst 0, 1) := by decide +kernel
theorem dX12_takeOver_138 : decode cX12_takeOver 138 = .ok (.iastore, 1) := by decide +kernel
theorem dX12_takeOver_139 : decode cX12_takeOver 139 = .ok (.aload_n 0, 1) := by decide +kernel
theorem dX12_takeOver_140 : decode cX12_takeOver 140 = .ok (.getfield 85, 3) := by decide +kernel
theorem dX12_takeOver_143 : decode cX12_takeOver 143 = .ok (.iload_n 1, 1) := by decide +kernel
theorem dX12_takeOver_144 : decode cX12_takeOver 144 = .ok (.iload_n 2, 1) := by decide +kernel
theorem dX12_takeOver_145 : decode cX12_takeOver 145 = .ok (.ifCond .eq 12, 3) := by decide +kernel
theorem dX12_takeOver_148 : decode cX12_takeOver 148 = .ok (.aload_n 0, 1) := by decide +kernel
theorem dX12_takeOver_149 : decode cX12_takeOver 149 = .ok (.getfield 51, 3) := by decide +kernel
theorem dX12_takeOver_152 : decode cX12_takeOver 152 = .ok (.iload_n 1, 1) := by decide +kernel
theorem dX12_takeOver_153 : decode cX12_takeOver 153 = .ok (.iaload, 1) := by decide +kernel
theorem dX12_takeOver_154 : decode cX12_takeOver 154 = .ok (.goto 4, 3) := by decide +kernel
theorem dX12_takeOver_157 : decode cX12_takeOver 157 = .ok (.iconst 0, 1) := by decide +kernel
theorem dX12_takeOver_158 : decode cX12_takeOver 158 = .ok (.iastore, 1) := by decide +kernel
theorem dX12_takeOver_159 : decode cX12_takeOver 159 = .ok (.aload_n 0, 1) := by decide +kernel
theorem dX12_takeOver_160 : decode cX12_takeOver 160 = .ok (.getfield 72, 3) := by decide +kernel
theorem dX12_takeOver_163 : decode cX12_takeOver 163 = .ok (.iload_n 1, 1) := by decide +kernel
theorem dX12_takeOver_164 : decode cX12_takeOver 164 = .ok (.iload_n 2, 1) := by decide +kernel
theorem dX12_takeOver_165 : decode cX12_takeOver 165 = .ok (.ifCond .eq 12, 3) := by decide +kernel
theorem dX12_takeOver_168 : decode cX12_takeOver 168 = .ok (.aload_n 0, 1) := by decide +kernel
theorem dX12_takeOver_169 : decode cX12_takeOver 169 = .ok (.getfield 54, 3) := by decide +kernel
theorem dX12_takeOver_172 : decode cX12_takeOver 172 = .ok (.iload_n 1, 1) := by decide +kernel
theorem dX12_takeOver_173 : decode cX12_takeOver 173 = .ok (.iaload, 1) := by decide +kernel
theorem dX12_takeOver_174 : decode cX12_takeOver 174 = .ok (.goto 4, 3) := by decide +kernel
theorem dX12_takeOver_177 : decode cX12_takeOver 177 = .ok (.iconst 0, 1) := by decide +kernel
theorem dX12_takeOver_178 : decode cX12_takeOver 178 = .ok (.iastore, 1) := by decide +kernel
theorem dX12_takeOver_179 : decode cX12_takeOver 179 = .ok (.iinc 1 1, 3) := by decide +kernel
theorem dX12_takeOver_182 : decode cX12_takeOver 182 = .ok (.goto (-92), 3) := by decide +kernel
theorem dX12_takeOver_185 : decode cX12_takeOver 185 = .ok (.aload_n 0, 1) := by decide +kernel
theorem dX12_takeOver_186 : decode cX12_takeOver 186 = .ok (.iconst 0, 1) := by decide +kernel
theorem dX12_takeOver_187 : decode cX12_takeOver 187 = .ok (.putfield 319, 3) := by decide +kernel
theorem dX12_takeOver_190 : decode cX12_takeOver 190 = .ok (.aload_n 0, 1) := by decide +kernel
theorem dX12_takeOver_191 : decode cX12_takeOver 191 = .ok (.iconst 0, 1) := by decide +kernel
theorem dX12_takeOver_192 : decode cX12_takeOver 192 = .ok (.putfield 322, 3) := by decide +kernel
theorem dX12_takeOver_195 : decode cX12_takeOver 195 = .ok (.aload_n 0, 1) := by decide +kernel
theorem dX12_takeOver_196 : decode cX12_takeOver 196 = .ok (.iconst 0, 1) := by decide +kernel
theorem dX12_takeOver_197 : decode cX12_takeOver 197 = .ok (.putfield 325, 3) := by decide +kernel
theorem dX12_takeOver_200 : decode cX12_takeOver 200 = .ok (.return_, 1) := by decide +kernel
theorem dX12_fault_0 : decode cX12_fault 0 = .ok (.aload_n 0, 1) := by decide +kernel
theorem dX12_fault_1 : decode cX12_fault 1 = .ok (.iconst 0, 1) := by decide +kernel
theorem dX12_fault_2 : decode cX12_fault 2 = .ok (.putfield 154, 3) := by decide +kernel
theorem dX12_fault_5 : decode cX12_fault 5 = .ok (.aload_n 0, 1) := by decide +kernel
theorem dX12_fault_6 : decode cX12_fault 6 = .ok (.getfield 77, 3) := by decide +kernel
theorem dX12_fault_9 : decode cX12_fault 9 = .ok (.ireturn, 1) := by decide +kernel
theorem dX12_pack_0 : decode cX12_pack 0 = .ok (.aload_n 1, 1) := by decide +kernel
theorem dX12_pack_1 : decode cX12_pack 1 = .ok (.iload_n 2, 1) := by decide +kernel
theorem dX12_pack_2 : decode cX12_pack 2 = .ok (.aload_n 0, 1) := by decide +kernel
theorem dX12_pack_3 : decode cX12_pack 3 = .ok (.getfield 308, 3) := by decide +kernel
theorem dX12_pack_6 : decode cX12_pack 6 = .ok (.iastore, 1) := by decide +kernel
theorem dX12_pack_7 : decode cX12_pack 7 = .ok (.aload_n 1, 1) := by decide +kernel
theorem dX12_pack_8 : decode cX12_pack 8 = .ok (.iload_n 2, 1) := by decide +kernel
theorem dX12_pack_9 : decode cX12_pack 9 = .ok (.iconst 1, 1) := by decide +kernel
theorem dX12_pack_10 : decode cX12_pack 10 = .ok (.iadd, 1) := by decide +kernel
theorem dX12_pack_11 : decode cX12_pack 11 = .ok (.aload_n 0, 1) := by decide +kernel
theorem dX12_pack_12 : decode cX12_pack 12 = .ok (.getfield 311, 3) := by decide +kernel
theorem dX12_pack_15 : decode cX12_pack 15 = .ok (.iastore, 1) := by decide +kernel
theorem dX12_pack_16 : decode cX12_pack 16 = .ok (.aload_n 1, 1) := by decide +kernel
theorem dX12_pack_17 : decode cX12_pack 17 = .ok (.iload_n 2, 1) := by decide +kernel
theorem dX12_pack_18 : decode cX12_pack 18 = .ok (.iconst 2, 1) := by decide +kernel
theorem dX12_pack_19 : decode cX12_pack 19 = .ok (.iadd, 1) := by decide +kernel
theorem dX12_pack_20 : decode cX12_pack 20 = .ok (.aload_n 0, 1) := by decide +kernel
theorem dX12_pack_21 : decode cX12_pack 21 = .ok (.getfield 313, 3) := by decide +kernel
theorem dX12_pack_24 : decode cX12_pack 24 = .ok (.iastore, 1) := by decide +kernel
theorem dX12_pack_25 : decode cX12_pack 25 = .ok (.aload_n 1, 1) := by decide +kernel
theorem dX12_pack_26 : decode cX12_pack 26 = .ok (.iload_n 2, 1) := by decide +kernel
theorem dX12_pack_27 : decode cX12_pack 27 = .ok (.iconst 3, 1) := by decide +kernel
theorem dX12_pack_28 : decode cX12_pack 28 = .ok (.iadd, 1) := by decide +kernel
theorem dX12_pack_29 : decode cX12_pack 29 = .ok (.aload_n 0, 1) := by decide +kernel
theorem dX12_pack_30 : decode cX12_pack 30 = .ok (.getfield 316, 3) := by decide +kernel
theorem dX12_pack_33 : decode cX12_pack 33 = .ok (.iastore, 1) := by decide +kernel
theorem dX12_pack_34 : decode cX12_pack 34 = .ok (.iconst 0, 1) := by decide +kernel
theorem dX12_pack_35 : decode cX12_pack 35 = .ok (.istore_n 3, 1) := by decide +kernel
theorem dX12_pack_36 : decode cX12_pack 36 = .ok (.iload_n 3, 1) := by decide +kernel
theorem dX12_pack_37 : decode cX12_pack 37 = .ok (.bipush 8, 2) := by decide +kernel
theorem dX12_pack_39 : decode cX12_pack 39 = .ok (.if_icmp .ge 54, 3) := by decide +kernel
theorem dX12_pack_42 : decode cX12_pack 42 = .ok (.aload_n 1, 1) := by decide +kernel
theorem dX12_pack_43 : decode cX12_pack 43 = .ok (.iload_n 2, 1) := by decide +kernel
theorem dX12_pack_44 : decode cX12_pack 44 = .ok (.iconst 4, 1) := by decide +kernel
theorem dX12_pack_45 : decode cX12_pack 45 = .ok (.iadd, 1) := by decide +kernel
theorem dX12_pack_46 : decode cX12_pack 46 = .ok (.iload_n 3, 1) := by decide +kernel
theorem dX12_pack_47 : decode cX12_pack 47 = .ok (.iadd, 1) := by decide +kernel
theorem dX12_pack_48 : decode cX12_pack 48 = .ok (.aload_n 0, 1) := by decide +kernel
theorem dX12_pack_49 : decode cX12_pack 49 = .ok (.getfield 81, 3) := by decide +kernel
theorem dX12_pack_52 : decode cX12_pack 52 = .ok (.iload_n 3, 1) := by decide +kernel
theorem dX12_pack_53 : decode cX12_pack 53 = .ok (.iaload, 1) := by decide +kernel
theorem dX12_pack_54 : decode cX12_pack 54 = .ok (.iastore, 1) := by decide +kernel
theorem dX12_pack_55 : decode cX12_pack 55 = .ok (.aload_n 1, 1) := by decide +kernel
theorem dX12_pack_56 : decode cX12_pack 56 = .ok (.iload_n 2, 1) := by decide +kernel
theorem dX12_pack_57 : decode cX12_pack 57 = .ok (.iconst 4, 1) := by decide +kernel
theorem dX12_pack_58 : decode cX12_pack 58 = .ok (.iadd, 1) := by decide +kernel
theorem dX12_pack_59 : decode cX12_pack 59 = .ok (.bipush 8, 2) := by decide +kernel
theorem dX12_pack_61 : decode cX12_pack 61 = .ok (.iadd, 1) := by decide +kernel
theorem dX12_pack_62 : decode cX12_pack 62 = .ok (.iload_n 3, 1) := by decide +kernel
theorem dX12_pack_63 : decode cX12_pack 63 = .ok (.iadd, 1) := by decide +kernel
theorem dX12_pack_64 : decode cX12_pack 64 = .ok (.aload_n 0, 1) := by decide +kernel
theorem dX12_pack_65 : decode cX12_pack 65 = .ok (.getfield 83, 3) := by decide +kernel
theorem dX12_pack_68 : decode cX12_pack 68 = .ok (.iload_n 3, 1) := by decide +kernel
theorem dX12_pack_69 : decode cX12_pack 69 = .ok (.iaload, 1) := by decide +kernel
theorem dX12_pack_70 : decode cX12_pack 70 = .ok (.iastore, 1) := by decide +kernel
theorem dX12_pack_71 : decode cX12_pack 71 = .ok (.aload_n 1, 1) := by decide +kernel
theorem dX12_pack_72 : decode cX12_pack 72 = .ok (.iload_n 2, 1) := by decide +kernel
theorem dX12_pack_73 : decode cX12_pack 73 = .ok (.iconst 4, 1) := by decide +kernel
theorem dX12_pack_74 : decode cX12_pack 74 = .ok (.iadd, 1) := by decide +kernel
theorem dX12_pack_75 : decode cX12_pack 75 = .ok (.bipush 16, 2) := by decide +kernel
theorem dX12_pack_77 : decode cX12_pack 77 = .ok (.iadd, 1) := by decide +kernel
theorem dX12_pack_78 : decode cX12_pack 78 = .ok (.iload_n 3, 1) := by decide +kernel
theorem dX12_pack_79 : decode cX12_pack 79 = .ok (.iadd, 1) := by decide +kernel
theorem dX12_pack_80 : decode cX12_pack 80 = .ok (.aload_n 0, 1) := by decide +kernel
theorem dX12_pack_81 : decode cX12_pack 81 = .ok (.getfield 85, 3) := by decide +kernel
theorem dX12_pack_84 : decode cX12_pack 84 = .ok (.iload_n 3, 1) := by decide +kernel
theorem dX12_pack_85 : decode cX12_pack 85 = .ok (.iaload, 1) := by decide +kernel
theorem dX12_pack_86 : decode cX12_pack 86 = .ok (.iastore, 1) := by decide +kernel
theorem dX12_pack_87 : decode cX12_pack 87 = .ok (.iinc 3 1, 3) := by decide +kernel
theorem dX12_pack_90 : decode cX12_pack 90 = .ok (.goto (-54), 3) := by decide +kernel
theorem dX12_pack_93 : decode cX12_pack 93 = .ok (.return_, 1) := by decide +kernel
theorem dX12_unpack_0 : decode cX12_unpack 0 = .ok (.aload_n 0, 1) := by decide +kernel
theorem dX12_unpack_1 : decode cX12_unpack 1 = .ok (.aload_n 1, 1) := by decide +kernel
theorem dX12_unpack_2 : decode cX12_unpack 2 = .ok (.iload_n 2, 1) := by decide +kernel
theorem dX12_unpack_3 : decode cX12_unpack 3 = .ok (.iaload, 1) := by decide +kernel
theorem dX12_unpack_4 : decode cX12_unpack 4 = .ok (.putfield 308, 3) := by decide +kernel
theorem dX12_unpack_7 : decode cX12_unpack 7 = .ok (.aload_n 0, 1) := by decide +kernel
theorem dX12_unpack_8 : decode cX12_unpack 8 = .ok (.aload_n 1, 1) := by decide +kernel
theorem dX12_unpack_9 : decode cX12_unpack 9 = .ok (.iload_n 2, 1) := by decide +kernel
theorem dX12_unpack_10 : decode cX12_unpack 10 = .ok (.iconst 1, 1) := by decide +kernel
theorem dX12_unpack_11 : decode cX12_unpack 11 = .ok (.iadd, 1) := by decide +kernel
theorem dX12_unpack_12 : decode cX12_unpack 12 = .ok (.iaload, 1) := by decide +kernel
theorem dX12_unpack_13 : decode cX12_unpack 13 = .ok (.putfield 311, 3) := by decide +kernel
theorem dX12_unpack_16 : decode cX12_unpack 16 = .ok (.aload_n 0, 1) := by decide +kernel
theorem dX12_unpack_17 : decode cX12_unpack 17 = .ok (.aload_n 1, 1) := by decide +kernel
theorem dX12_unpack_18 : decode cX12_unpack 18 = .ok (.iload_n 2, 1) := by decide +kernel
theorem dX12_unpack_19 : decode cX12_unpack 19 = .ok (.iconst 2, 1) := by decide +kernel
theorem dX12_unpack_20 : decode cX12_unpack 20 = .ok (.iadd, 1) := by decide +kernel
theorem dX12_unpack_21 : decode cX12_unpack 21 = .ok (.iaload, 1) := by decide +kernel
theorem dX12_unpack_22 : decode cX12_unpack 22 = .ok (.putfield 313, 3) := by decide +kernel
theorem dX12_unpack_25 : decode cX12_unpack 25 = .ok (.aload_n 0, 1) := by decide +kernel
theorem dX12_unpack_26 : decode cX12_unpack 26 = .ok (.aload_n 1, 1) := by decide +kernel
theorem dX12_unpack_27 : decode cX12_unpack 27 = .ok (.iload_n 2, 1) := by decide +kernel
theorem dX12_unpack_28 : decode cX12_unpack 28 = .ok (.iconst 3, 1) := by decide +kernel
theorem dX12_unpack_29 : decode cX12_unpack 29 = .ok (.iadd, 1) := by decide +kernel
theorem dX12_unpack_30 : decode cX12_unpack 30 = .ok (.iaload, 1) := by decide +kernel
theorem dX12_unpack_31 : decode cX12_unpack 31 = .ok (.putfield 316, 3) := by decide +kernel
theorem dX12_unpack_34 : decode cX12_unpack 34 = .ok (.iconst 0, 1) := by decide +kernel
theorem dX12_unpack_35 : decode cX12_unpack 35 = .ok (.istore_n 3, 1) := by decide +kernel
theorem dX12_unpack_36 : decode cX12_unpack 36 = .ok (.iload_n 3, 1) := by decide +kernel
theorem dX12_unpack_37 : decode cX12_unpack 37 = .ok (.bipush 8, 2) := by decide +kernel
theorem dX12_unpack_39 : decode cX12_unpack 39 = .ok (.if_icmp .ge 54, 3) := by decide +kernel
theorem dX12_unpack_42 : decode cX12_unpack 42 = .ok (.aload_n 0, 1) := by decide +kernel
theorem dX12_unpack_43 : decode cX12_unpack 43 = .ok (.getfield 81, 3) := by decide +kernel
theorem dX12_unpack_46 : decode cX12_unpack 46 = .ok (.iload_n 3, 1) := by decide +kernel
theorem dX12_unpack_47 : decode cX12_unpack 47 = .ok (.aload_n 1, 1) := by decide +kernel
theorem dX12_unpack_48 : decode cX12_unpack 48 = .ok (.iload_n 2, 1) := by decide +kernel
theorem dX12_unpack_49 : decode cX12_unpack 49 = .ok (.iconst 4, 1) := by decide +kernel
theorem dX12_unpack_50 : decode cX12_unpack 50 = .ok (.iadd, 1) := by decide +kernel
theorem dX12_unpack_51 : decode cX12_unpack 51 = .ok (.iload_n 3, 1) := by decide +kernel
theorem dX12_unpack_52 : decode cX12_unpack 52 = .ok (.iadd, 1) := by decide +kernel
theorem dX12_unpack_53 : decode cX12_unpack 53 = .ok (.iaload, 1) := by decide +kernel
theorem dX12_unpack_54 : decode cX12_unpack 54 = .ok (.iastore, 1) := by decide +kernel
theorem dX12_unpack_55 : decode cX12_unpack 55 = .ok (.aload_n 0, 1) := by decide +kernel
theorem dX12_unpack_56 : decode cX12_unpack 56 = .ok (.getfield 83, 3) := by decide +kernel
theorem dX12_unpack_59 : decode cX12_unpack 59 = .ok (.iload_n 3, 1) := by decide +kernel
theorem dX12_unpack_60 : decode cX12_unpack 60 = .ok (.aload_n 1, 1) := by decide +kernel
theorem dX12_unpack_61 : decode cX12_unpack 61 = .ok (.iload_n 2, 1) := by decide +kernel
theorem dX12_unpack_62 : decode cX12_unpack 62 = .ok (.iconst 4, 1) := by decide +kernel
theorem dX12_unpack_63 : decode cX12_unpack 63 = .ok (.iadd, 1) := by decide +kernel
theorem dX12_unpack_64 : decode cX12_unpack 64 = .ok (.bipush 8, 2) := by decide +kernel
theorem dX12_unpack_66 : decode cX12_unpack 66 = .ok (.iadd, 1) := by decide +kernel
theorem dX12_unpack_67 : decode cX12_unpack 67 = .ok (.iload_n 3, 1) := by decide +kernel
theorem dX12_unpack_68 : decode cX12_unpack 68 = .ok (.iadd, 1) := by decide +kernel
theorem dX12_unpack_69 : decode cX12_unpack 69 = .ok (.iaload, 1) := by decide +kernel
theorem dX12_unpack_70 : decode cX12_unpack 70 = .ok (.iastore, 1) := by decide +kernel
theorem dX12_unpack_71 : decode cX12_unpack 71 = .ok (.aload_n 0, 1) := by decide +kernel
theorem dX12_unpack_72 : decode cX12_unpack 72 = .ok (.getfield 85, 3) := by decide +kernel
theorem dX12_unpack_75 : decode cX12_unpack 75 = .ok (.iload_n 3, 1) := by decide +kernel
theorem dX12_unpack_76 : decode cX12_unpack 76 = .ok (.aload_n 1, 1) := by decide +kernel
theorem dX12_unpack_77 : decode cX12_unpack 77 = .ok (.iload_n 2, 1) := by decide +kernel
theorem dX12_unpack_78 : decode cX12_unpack 78 = .ok (.iconst 4, 1) := by decide +kernel
theorem dX12_unpack_79 : decode cX12_unpack 79 = .ok (.iadd, 1) := by decide +kernel
theorem dX12_unpack_80 : decode cX12_unpack 80 = .ok (.bipush 16, 2) := by decide +kernel
theorem dX12_unpack_82 : decode cX12_unpack 82 = .ok (.iadd, 1) := by decide +kernel
theorem dX12_unpack_83 : decode cX12_unpack 83 = .ok (.iload_n 3, 1) := by decide +kernel
theorem dX12_unpack_84 : decode cX12_unpack 84 = .ok (.iadd, 1) := by decide +kernel
theorem dX12_unpack_85 : decode cX12_unpack 85 = .ok (.iaload, 1) := by decide +kernel
theorem dX12_unpack_86 : decode cX12_unpack 86 = .ok (.iastore, 1) := by decide +kernel
theorem dX12_unpack_87 : decode cX12_unpack 87 = .ok (.iinc 3 1, 3) := by decide +kernel
theorem dX12_unpack_90 : decode cX12_unpack 90 = .ok (.goto (-54), 3) := by decide +kernel
theorem dX12_unpack_93 : decode cX12_unpack 93 = .ok (.return_, 1) := by decide +kernel
theorem dX12_cornerAt_0 : decode cX12_cornerAt 0 = .ok (.aload_n 0, 1) := by decide +kernel
theorem dX12_cornerAt_1 : decode cX12_cornerAt 1 = .ok (.getfield 60, 3) := by decide +kernel
theorem dX12_cornerAt_4 : decode cX12_cornerAt 4 = .ok (.bipush 6, 2) := by decide +kernel
theorem dX12_cornerAt_6 : decode cX12_cornerAt 6 = .ok (.iload_n 1, 1) := by decide +kernel
theorem dX12_cornerAt_7 : decode cX12_cornerAt 7 = .ok (.imul, 1) := by decide +kernel
theorem dX12_cornerAt_8 : decode cX12_cornerAt 8 = .ok (.iload_n 2, 1) := by decide +kernel
theorem dX12_cornerAt_9 : decode cX12_cornerAt 9 = .ok (.aload_n 0, 1) := by decide +kernel
theorem dX12_cornerAt_10 : decode cX12_cornerAt 10 = .ok (.getfield 57, 3) := by decide +kernel
theorem dX12_cornerAt_13 : decode cX12_cornerAt 13 = .ok (.iload_n 1, 1) := by decide +kernel
theorem dX12_cornerAt_14 : decode cX12_cornerAt 14 = .ok (.iaload, 1) := by decide +kernel
theorem dX12_cornerAt_15 : decode cX12_cornerAt 15 = .ok (.irem, 1) := by decide +kernel
theorem dX12_cornerAt_16 : decode cX12_cornerAt 16 = .ok (.iadd, 1) := by decide +kernel
theorem dX12_cornerAt_17 : decode cX12_cornerAt 17 = .ok (.iaload, 1) := by decide +kernel
theorem dX12_cornerAt_18 : decode cX12_cornerAt 18 = .ok (.ireturn, 1) := by decide +kernel
theorem dX12_atCorner_0 : decode cX12_atCorner 0 = .ok (.iconst 0, 1) := by decide +kernel
theorem dX12_atCorner_1 : decode cX12_atCorner 1 = .ok (.istore_n 3, 1) := by decide +kernel
theorem dX12_atCorner_2 : decode cX12_atCorner 2 = .ok (.iconst 0, 1) := by decide +kernel
theorem dX12_atCorner_3 : decode cX12_atCorner 3 = .ok (.istore 4, 2) := by decide +kernel
theorem dX12_atCorner_5 : decode cX12_atCorner 5 = .ok (.iload 4, 2) := by decide +kernel
theorem dX12_atCorner_7 : decode cX12_atCorner 7 = .ok (.aload_n 0, 1) := by decide +kernel
theorem dX12_atCorner_8 : decode cX12_atCorner 8 = .ok (.getfield 42, 3) := by decide +kernel
theorem dX12_atCorner_11 : decode cX12_atCorner 11 = .ok (.iconst 1, 1) := by decide +kernel
theorem dX12_atCorner_12 : decode cX12_atCorner 12 = .ok (.iaload, 1) := by decide +kernel
theorem dX12_atCorner_13 : decode cX12_atCorner 13 = .ok (.if_icmp .ge 31, 3) := by decide +kernel
theorem dX12_atCorner_16 : decode cX12_atCorner 16 = .ok (.iload_n 3, 1) := by decide +kernel
theorem dX12_atCorner_17 : decode cX12_atCorner 17 = .ok (.aload_n 0, 1) := by decide +kernel
theorem dX12_atCorner_18 : decode cX12_atCorner 18 = .ok (.iload 4, 2) := by decide +kernel
theorem dX12_atCorner_20 : decode cX12_atCorner 20 = .ok (.iload_n 2, 1) := by decide +kernel
theorem dX12_atCorner_21 : decode cX12_atCorner 21 = .ok (.invokevirtual 328, 3) := by decide +kernel
theorem dX12_atCorner_24 : decode cX12_atCorner 24 = .ok (.iload_n 1, 1) := by decide +kernel
theorem dX12_atCorner_25 : decode cX12_atCorner 25 = .ok (.if_icmp .ne 10, 3) := by decide +kernel
theorem dX12_atCorner_28 : decode cX12_atCorner 28 = .ok (.iconst 1, 1) := by decide +kernel
theorem dX12_atCorner_29 : decode cX12_atCorner 29 = .ok (.iload 4, 2) := by decide +kernel
theorem dX12_atCorner_31 : decode cX12_atCorner 31 = .ok (.ishl, 1) := by decide +kernel
theorem dX12_atCorner_32 : decode cX12_atCorner 32 = .ok (.goto 4, 3) := by decide +kernel
theorem dX12_atCorner_35 : decode cX12_atCorner 35 = .ok (.iconst 0, 1) := by decide +kernel
theorem dX12_atCorner_36 : decode cX12_atCorner 36 = .ok (.ior, 1) := by decide +kernel
theorem dX12_atCorner_37 : decode cX12_atCorner 37 = .ok (.istore_n 3, 1) := by decide +kernel
theorem dX12_atCorner_38 : decode cX12_atCorner 38 = .ok (.iinc 4 1, 3) := by decide +kernel
theorem dX12_atCorner_41 : decode cX12_atCorner 41 = .ok (.goto (-36), 3) := by decide +kernel
theorem dX12_atCorner_44 : decode cX12_atCorner 44 = .ok (.iload_n 3, 1) := by decide +kernel
theorem dX12_atCorner_45 : decode cX12_atCorner 45 = .ok (.ireturn, 1) := by decide +kernel
theorem dX12_othersWith_0 : decode cX12_othersWith 0 = .ok (.aload_n 0, 1) := by decide +kernel
theorem dX12_othersWith_1 : decode cX12_othersWith 1 = .ok (.aload_n 0, 1) := by decide +kernel
theorem dX12_othersWith_2 : decode cX12_othersWith 2 = .ok (.iload_n 1, 1) := by decide +kernel
theorem dX12_othersWith_3 : decode cX12_othersWith 3 = .ok (.aload_n 0, 1) := by decide +kernel
theorem dX12_othersWith_4 : decode cX12_othersWith 4 = .ok (.getfield 308, 3) := by decide +kernel
theorem dX12_othersWith_7 : decode cX12_othersWith 7 = .ok (.invokevirtual 328, 3) := by decide +kernel
theorem dX12_othersWith_10 : decode cX12_othersWith 10 = .ok (.aload_n 0, 1) := by decide +kernel
theorem dX12_othersWith_11 : decode cX12_othersWith 11 = .ok (.getfield 308, 3) := by decide +kernel
theorem dX12_othersWith_14 : decode cX12_othersWith 14 = .ok (.invokevirtual 331, 3) := by decide +kernel
theorem dX12_othersWith_17 : decode cX12_othersWith 17 = .ok (.iconst 1, 1) := by decide +kernel
theorem dX12_othersWith_18 : decode cX12_othersWith 18 = .ok (.iload_n 1, 1) := by decide +kernel
theorem dX12_othersWith_19 : decode cX12_othersWith 19 = .ok (.ishl, 1) := by decide +kernel
theorem dX12_othersWith_20 : decode cX12_othersWith 20 = .ok (.iconst (-1), 1) := by decide +kernel
theorem dX12_othersWith_21 : decode cX12_othersWith 21 = .ok (.ixor, 1) := by decide +kernel
theorem dX12_othersWith_22 : decode cX12_othersWith 22 = .ok (.iand, 1) := by decide +kernel
theorem dX12_othersWith_23 : decode cX12_othersWith 23 = .ok (.ireturn, 1) := by decide +kernel
theorem dX12_aliveNow_0 : decode cX12_aliveNow 0 = .ok (.iconst 0, 1) := by decide +kernel
theorem dX12_aliveNow_1 : decode cX12_aliveNow 1 = .ok (.istore_n 1, 1) := by decide +kernel
theorem dX12_aliveNow_2 : decode cX12_aliveNow 2 = .ok (.iconst 0, 1) := by decide +kernel
theorem dX12_aliveNow_3 : decode cX12_aliveNow 3 = .ok (.istore_n 2, 1) := by decide +kernel
theorem dX12_aliveNow_4 : decode cX12_aliveNow 4 = .ok (.iload_n 2, 1) := by decide +kernel
theorem dX12_aliveNow_5 : decode cX12_aliveNow 5 = .ok (.aload_n 0, 1) := by decide +kernel
theorem dX12_aliveNow_6 : decode cX12_aliveNow 6 = .ok (.getfield 42, 3) := by decide +kernel
theorem dX12_aliveNow_9 : decode cX12_aliveNow 9 = .ok (.iconst 1, 1) := by decide +kernel
theorem dX12_aliveNow_10 : decode cX12_aliveNow 10 = .ok (.iaload, 1) := by decide +kernel
theorem dX12_aliveNow_11 : decode cX12_aliveNow 11 = .ok (.if_icmp .ge 28, 3) := by decide +kernel
theorem dX12_aliveNow_14 : decode cX12_aliveNow 14 = .ok (.iload_n 1, 1) := by decide +kernel
theorem dX12_aliveNow_15 : decode cX12_aliveNow 15 = .ok (.aload_n 0, 1) := by decide +kernel
theorem dX12_aliveNow_16 : decode cX12_aliveNow 16 = .ok (.getfield 81, 3) := by decide +kernel
theorem dX12_aliveNow_19 : decode cX12_aliveNow 19 = .ok (.iload_n 2, 1) := by decide +kernel
theorem dX12_aliveNow_20 : decode cX12_aliveNow 20 = .ok (.iaload, 1) := by decide +kernel
theorem dX12_aliveNow_21 : decode cX12_aliveNow 21 = .ok (.ifCond .le 9, 3) := by decide +kernel
theorem dX12_aliveNow_24 : decode cX12_aliveNow 24 = .ok (.iconst 1, 1) := by decide +kernel
theorem dX12_aliveNow_25 : decode cX12_aliveNow 25 = .ok (.iload_n 2, 1) := by decide +kernel
theorem dX12_aliveNow_26 : decode cX12_aliveNow 26 = .ok (.ishl, 1) := by decide +kernel
theorem dX12_aliveNow_27 : decode cX12_aliveNow 27 = .ok (.goto 4, 3) := by decide +kernel
theorem dX12_aliveNow_30 : decode cX12_aliveNow 30 = .ok (.iconst 0, 1) := by decide +kernel
theorem dX12_aliveNow_31 : decode cX12_aliveNow 31 = .ok (.ior, 1) := by decide +kernel
theorem dX12_aliveNow_32 : decode cX12_aliveNow 32 = .ok (.istore_n 1, 1) := by decide +kernel
theorem dX12_aliveNow_33 : decode cX12_aliveNow 33 = .ok (.iinc 2 1, 3) := by decide +kernel
theorem dX12_aliveNow_36 : decode cX12_aliveNow 36 = .ok (.goto (-32), 3) := by decide +kernel
theorem dX12_aliveNow_39 : decode cX12_aliveNow 39 = .ok (.iload_n 1, 1) := by decide +kernel
theorem dX12_aliveNow_40 : decode cX12_aliveNow 40 = .ok (.ireturn, 1) := by decide +kernel
theorem dX12_shownBy_0 : decode cX12_shownBy 0 = .ok (.aload_n 0, 1) := by decide +kernel
theorem dX12_shownBy_1 : decode cX12_shownBy 1 = .ok (.getfield 311, 3) := by decide +kernel
theorem dX12_shownBy_4 : decode cX12_shownBy 4 = .ok (.aload_n 0, 1) := by decide +kernel
theorem dX12_shownBy_5 : decode cX12_shownBy 5 = .ok (.getfield 85, 3) := by decide +kernel
theorem dX12_shownBy_8 : decode cX12_shownBy 8 = .ok (.iload_n 1, 1) := by decide +kernel
theorem dX12_shownBy_9 : decode cX12_shownBy 9 = .ok (.iaload, 1) := by decide +kernel
theorem dX12_shownBy_10 : decode cX12_shownBy 10 = .ok (.iadd, 1) := by decide +kernel
theorem dX12_shownBy_11 : decode cX12_shownBy 11 = .ok (.bipush 30, 2) := by decide +kernel
theorem dX12_shownBy_13 : decode cX12_shownBy 13 = .ok (.isub, 1) := by decide +kernel
theorem dX12_shownBy_14 : decode cX12_shownBy 14 = .ok (.invokestatic 334, 3) := by decide +kernel
theorem dX12_shownBy_17 : decode cX12_shownBy 17 = .ok (.ireturn, 1) := by decide +kernel
theorem dX12_reckon_0 : decode cX12_reckon 0 = .ok (.iload_n 0, 1) := by decide +kernel
theorem dX12_reckon_1 : decode cX12_reckon 1 = .ok (.tableswitch 103 (-26) (-20) #[89, 78, 67, 55, 51, 47, 43], 43) := by decide +kernel
theorem dX12_reckon_44 : decode cX12_reckon 44 = .ok (.iload_n 1, 1) := by decide +kernel
theorem dX12_reckon_45 : decode cX12_reckon 45 = .ok (.iload_n 2, 1) := by decide +kernel
theorem dX12_reckon_46 : decode cX12_reckon 46 = .ok (.iadd, 1) := by decide +kernel
theorem dX12_reckon_47 : decode cX12_reckon 47 = .ok (.ireturn, 1) := by decide +kernel
theorem dX12_reckon_48 : decode cX12_reckon 48 = .ok (.iload_n 1, 1) := by decide +kernel
theorem dX12_reckon_49 : decode cX12_reckon 49 = .ok (.iload_n 2, 1) := by decide +kernel
theorem dX12_reckon_50 : decode cX12_reckon 50 = .ok (.isub, 1) := by decide +kernel
theorem dX12_reckon_51 : decode cX12_reckon 51 = .ok (.ireturn, 1) := by decide +kernel
theorem dX12_reckon_52 : decode cX12_reckon 52 = .ok (.iload_n 1, 1) := by decide +kernel
theorem dX12_reckon_53 : decode cX12_reckon 53 = .ok (.iload_n 2, 1) := by decide +kernel
theorem dX12_reckon_54 : decode cX12_reckon 54 = .ok (.imul, 1) := by decide +kernel
theorem dX12_reckon_55 : decode cX12_reckon 55 = .ok (.ireturn, 1) := by decide +kernel
theorem dX12_reckon_56 : decode cX12_reckon 56 = .ok (.iload_n 2, 1) := by decide +kernel
theorem dX12_reckon_57 : decode cX12_reckon 57 = .ok (.ifCond .ne 7, 3) := by decide +kernel
theorem dX12_reckon_60 : decode cX12_reckon 60 = .ok (.iconst 0, 1) := by decide +kernel
theorem dX12_reckon_61 : decode cX12_reckon 61 = .ok (.goto 6, 3) := by decide +kernel
theorem dX12_reckon_64 : decode cX12_reckon 64 = .ok (.iload_n 1, 1) := by decide +kernel
theorem dX12_reckon_65 : decode cX12_reckon 65 = .ok (.iload_n 2, 1) := by decide +kernel
theorem dX12_reckon_66 : decode cX12_reckon 66 = .ok (.idiv, 1) := by decide +kernel
theorem dX12_reckon_67 : decode cX12_reckon 67 = .ok (.ireturn, 1) := by decide +kernel
theorem dX12_reckon_68 : decode cX12_reckon 68 = .ok (.iload_n 1, 1) := by decide +kernel
theorem dX12_reckon_69 : decode cX12_reckon 69 = .ok (.iload_n 2, 1) := by decide +kernel
theorem dX12_reckon_70 : decode cX12_reckon 70 = .ok (.if_icmp .ge 7, 3) := by decide +kernel
theorem dX12_reckon_73 : decode cX12_reckon 73 = .ok (.iconst 1, 1) := by decide +kernel
theorem dX12_reckon_74 : decode cX12_reckon 74 = .ok (.goto 4, 3) := by decide +kernel
theorem dX12_reckon_77 : decode cX12_reckon 77 = .ok (.iconst 0, 1) := by decide +kernel
theorem dX12_reckon_78 : decode cX12_reckon 78 = .ok (.ireturn, 1) := by decide +kernel
theorem dX12_reckon_79 : decode cX12_reckon 79 = .ok (.iload_n 1, 1) := by decide +kernel
theorem dX12_reckon_80 : decode cX12_reckon 80 = .ok (.iload_n 2, 1) := by decide +kernel
theorem dX12_reckon_81 : decode cX12_reckon 81 = .ok (.if_icmp .ne 7, 3) := by decide +kernel
theorem dX12_reckon_84 : decode cX12_reckon 84 = .ok (.iconst 1, 1) := by decide +kernel
theorem dX12_reckon_85 : decode cX12_reckon 85 = .ok (.goto 4, 3) := by decide +kernel
theorem dX12_reckon_88 : decode cX12_reckon 88 = .ok (.iconst 0, 1) := by decide +kernel
theorem dX12_reckon_89 : decode cX12_reckon 89 = .ok (.ireturn, 1) := by decide +kernel
theorem dX12_reckon_90 : decode cX12_reckon 90 = .ok (.iload_n 1, 1) := by decide +kernel
theorem dX12_reckon_91 : decode cX12_reckon 91 = .ok (.ifCond .eq 11, 3) := by decide +kernel
theorem dX12_reckon_94 : decode cX12_reckon 94 = .ok (.iload_n 2, 1) := by decide +kernel
theorem dX12_reckon_95 : decode cX12_reckon 95 = .ok (.ifCond .eq 7, 3) := by decide +kernel
theorem dX12_reckon_98 : decode cX12_reckon 98 = .ok (.iconst 1, 1) := by decide +kernel
theorem dX12_reckon_99 : decode cX12_reckon 99 = .ok (.goto 4, 3) := by decide +kernel
theorem dX12_reckon_102 : decode cX12_reckon 102 = .ok (.iconst 0, 1) := by decide +kernel
theorem dX12_reckon_103 : decode cX12_reckon 103 = .ok (.ireturn, 1) := by decide +kernel
theorem dX12_reckon_104 : decode cX12_reckon 104 = .ok (.iload_n 1, 1) := by decide +kernel
theorem dX12_reckon_105 : decode cX12_reckon 105 = .ok (.ifCond .ne 7, 3) := by decide +kernel
theorem dX12_reckon_108 : decode cX12_reckon 108 = .ok (.iload_n 2, 1) := by decide +kernel
theorem dX12_reckon_109 : decode cX12_reckon 109 = .ok (.ifCond .eq 7, 3) := by decide +kernel
theorem dX12_reckon_112 : decode cX12_reckon 112 = .ok (.iconst 1, 1) := by decide +kernel
theorem dX12_reckon_113 : decode cX12_reckon 113 = .ok (.goto 4, 3) := by decide +kernel
theorem dX12_reckon_116 : decode cX12_reckon 116 = .ok (.iconst 0, 1) := by decide +kernel
theorem dX12_reckon_117 : decode cX12_reckon 117 = .ok (.ireturn, 1) := by decide +kernel
theorem dX12_valueNow_0 : decode cX12_valueNow 0 = .ok (.iconst 0, 1) := by decide +kernel
theorem dX12_valueNow_1 : decode cX12_valueNow 1 = .ok (.istore_n 3, 1) := by decide +kernel
theorem dX12_valueNow_2 : decode cX12_valueNow 2 = .ok (.iconst 0, 1) := by decide +kernel
theorem dX12_valueNow_3 : decode cX12_valueNow 3 = .ok (.istore 4, 2) := by decide +kernel
theorem dX12_valueNow_5 : decode cX12_valueNow 5 = .ok (.iload 4, 2) := by decide +kernel
theorem dX12_valueNow_7 : decode cX12_valueNow 7 = .ok (.iload_n 2, 1) := by decide +kernel
theorem dX12_valueNow_8 : decode cX12_valueNow 8 = .ok (.if_icmp .ge 117, 3) := by decide +kernel
theorem dX12_valueNow_11 : decode cX12_valueNow 11 = .ok (.aload_n 1, 1) := by decide +kernel
theorem dX12_valueNow_12 : decode cX12_valueNow 12 = .ok (.iload 4, 2) := by decide +kernel
theorem dX12_valueNow_14 : decode cX12_valueNow 14 = .ok (.iaload, 1) := by decide +kernel
theorem dX12_valueNow_15 : decode cX12_valueNow 15 = .ok (.istore 5, 2) := by decide +kernel
theorem dX12_valueNow_17 : decode cX12_valueNow 17 = .ok (.iload 5, 2) := by decide +kernel
theorem dX12_valueNow_19 : decode cX12_valueNow 19 = .ok (.bipush (-20), 2) := by decide +kernel
theorem dX12_valueNow_21 : decode cX12_valueNow 21 = .ok (.if_icmp .le 34, 3) := by decide +kernel
theorem dX12_valueNow_24 : decode cX12_valueNow 24 = .ok (.aload_n 0, 1) := by decide +kernel
theorem dX12_valueNow_25 : decode cX12_valueNow 25 = .ok (.getfield 94, 3) := by decide +kernel
theorem dX12_valueNow_28 : decode cX12_valueNow 28 = .ok (.iload_n 3, 1) := by decide +kernel
theorem dX12_valueNow_29 : decode cX12_valueNow 29 = .ok (.iload 5, 2) := by decide +kernel
theorem dX12_valueNow_31 : decode cX12_valueNow 31 = .ok (.ifCond .lt 8, 3) := by decide +kernel
theorem dX12_valueNow_34 : decode cX12_valueNow 34 = .ok (.iload 5, 2) := by decide +kernel
theorem dX12_valueNow_36 : decode cX12_valueNow 36 = .ok (.goto 12, 3) := by decide +kernel
theorem dX12_valueNow_39 : decode cX12_valueNow 39 = .ok (.aload_n 0, 1) := by decide +kernel
theorem dX12_valueNow_40 : decode cX12_valueNow 40 = .ok (.getfield 91, 3) := by decide +kernel
theorem dX12_valueNow_43 : decode cX12_valueNow 43 = .ok (.iconst (-1), 1) := by decide +kernel
theorem dX12_valueNow_44 : decode cX12_valueNow 44 = .ok (.iload 5, 2) := by decide +kernel
theorem dX12_valueNow_46 : decode cX12_valueNow 46 = .ok (.isub, 1) := by decide +kernel
theorem dX12_valueNow_47 : decode cX12_valueNow 47 = .ok (.iaload, 1) := by decide +kernel
theorem dX12_valueNow_48 : decode cX12_valueNow 48 = .ok (.iastore, 1) := by decide +kernel
theorem dX12_valueNow_49 : decode cX12_valueNow 49 = .ok (.iinc 3 1, 3) := by decide +kernel
theorem dX12_valueNow_52 : decode cX12_valueNow 52 = .ok (.goto 67, 3) := by decide +kernel
theorem dX12_valueNow_55 : decode cX12_valueNow 55 = .ok (.iload 5, 2) := by decide +kernel
theorem dX12_valueNow_57 : decode cX12_valueNow 57 = .ok (.bipush (-28), 2) := by decide +kernel
theorem dX12_valueNow_59 : decode cX12_valueNow 59 = .ok (.if_icmp .ne 30, 3) := by decide +kernel
theorem dX12_valueNow_62 : decode cX12_valueNow 62 = .ok (.aload_n 0, 1) := by decide +kernel
theorem dX12_valueNow_63 : decode cX12_valueNow 63 = .ok (.getfield 94, 3) := by decide +kernel
theorem dX12_valueNow_66 : decode cX12_valueNow 66 = .ok (.iload_n 3, 1) := by decide +kernel
theorem dX12_valueNow_67 : decode cX12_valueNow 67 = .ok (.iconst 1, 1) := by decide +kernel
theorem dX12_valueNow_68 : decode cX12_valueNow 68 = .ok (.isub, 1) := by decide +kernel
theorem dX12_valueNow_69 : decode cX12_valueNow 69 = .ok (.aload_n 0, 1) := by decide +kernel
theorem dX12_valueNow_70 : decode cX12_valueNow 70 = .ok (.getfield 94, 3) := by decide +kernel
theorem dX12_valueNow_73 : decode cX12_valueNow 73 = .ok (.iload_n 3, 1) := by decide +kernel
theorem dX12_valueNow_74 : decode cX12_valueNow 74 = .ok (.iconst 1, 1) := by decide +kernel
theorem dX12_valueNow_75 : decode cX12_valueNow 75 = .ok (.isub, 1) := by decide +kernel
theorem dX12_valueNow_76 : decode cX12_valueNow 76 = .ok (.iaload, 1) := by decide +kernel
theorem dX12_valueNow_77 : decode cX12_valueNow 77 = .ok (.ifCond .eq 7, 3) := by decide +kernel
theorem dX12_valueNow_80 : decode cX12_valueNow 80 = .ok (.iconst 0, 1) := by decide +kernel
theorem dX12_valueNow_81 : decode cX12_valueNow 81 = .ok (.goto 4, 3) := by decide +kernel
theorem dX12_valueNow_84 : decode cX12_valueNow 84 = .ok (.iconst 1, 1) := by decide +kernel
theorem dX12_valueNow_85 : decode cX12_valueNow 85 = .ok (.iastore, 1) := by decide +kernel
theorem dX12_valueNow_86 : decode cX12_valueNow 86 = .ok (.goto 33, 3) := by decide +kernel
theorem dX12_valueNow_89 : decode cX12_valueNow 89 = .ok (.iinc 3 (-1), 3) := by decide +kernel
theorem dX12_valueNow_92 : decode cX12_valueNow 92 = .ok (.aload_n 0, 1) := by decide +kernel
theorem dX12_valueNow_93 : decode cX12_valueNow 93 = .ok (.getfield 94, 3) := by decide +kernel
theorem dX12_valueNow_96 : decode cX12_valueNow 96 = .ok (.iload_n 3, 1) := by decide +kernel
theorem dX12_valueNow_97 : decode cX12_valueNow 97 = .ok (.iconst 1, 1) := by decide +kernel
theorem dX12_valueNow_98 : decode cX12_valueNow 98 = .ok (.isub, 1) := by decide +kernel
theorem dX12_valueNow_99 : decode cX12_valueNow 99 = .ok (.iload 5, 2) := by decide +kernel
theorem dX12_valueNow_101 : decode cX12_valueNow 101 = .ok (.aload_n 0, 1) := by decide +kernel
theorem dX12_valueNow_102 : decode cX12_valueNow 102 = .ok (.getfield 94, 3) := by decide +kernel
theorem dX12_valueNow_105 : decode cX12_valueNow 105 = .ok (.iload_n 3, 1) := by decide +kernel
theorem dX12_valueNow_106 : decode cX12_valueNow 106 = .ok (.iconst 1, 1) := by decide +kernel
theorem dX12_valueNow_107 : decode cX12_valueNow 107 = .ok (.isub, 1) := by decide +kernel
theorem dX12_valueNow_108 : decode cX12_valueNow 108 = .ok (.iaload, 1) := by decide +kernel
theorem dX12_valueNow_109 : decode cX12_valueNow 109 = .ok (.aload_n 0, 1) := by decide +kernel
theorem dX12_valueNow_110 : decode cX12_valueNow 110 = .ok (.getfield 94, 3) := by decide +kernel
theorem dX12_valueNow_113 : decode cX12_valueNow 113 = .ok (.iload_n 3, 1) := by decide +kernel
theorem dX12_valueNow_114 : decode cX12_valueNow 114 = .ok (.iaload, 1) := by decide +kernel
theorem dX12_valueNow_115 : decode cX12_valueNow 115 = .ok (.invokestatic 337, 3) := by decide +kernel
theorem dX12_valueNow_118 : decode cX12_valueNow 118 = .ok (.iastore, 1) := by decide +kernel
theorem dX12_valueNow_119 : decode cX12_valueNow 119 = .ok (.iinc 4 1, 3) := by decide +kernel
theorem dX12_valueNow_122 : decode cX12_valueNow 122 = .ok (.goto (-117), 3) := by decide +kernel
theorem dX12_valueNow_125 : decode cX12_valueNow 125 = .ok (.aload_n 0, 1) := by decide +kernel
theorem dX12_valueNow_126 : decode cX12_valueNow 126 = .ok (.getfield 94, 3) := by decide +kernel
theorem dX12_valueNow_129 : decode cX12_valueNow 129 = .ok (.iconst 0, 1) := by decide +kernel
theorem dX12_valueNow_130 : decode cX12_valueNow 130 = .ok (.iaload, 1) := by decide +kernel
theorem dX12_valueNow_131 : decode cX12_valueNow 131 = .ok (.ireturn, 1) := by decide +kernel
theorem dX12_ask_0 : decode cX12_ask 0 = .ok (.aload_n 0, 1) := by decide +kernel
theorem dX12_ask_1 : decode cX12_ask 1 = .ok (.getfield 91, 3) := by decide +kernel
theorem dX12_ask_4 : decode cX12_ask 4 = .ok (.iconst 0, 1) := by decide +kernel
theorem dX12_ask_5 : decode cX12_ask 5 = .ok (.aload_n 0, 1) := by decide +kernel
theorem dX12_ask_6 : decode cX12_ask 6 = .ok (.getfield 81, 3) := by decide +kernel
theorem dX12_ask_9 : decode cX12_ask 9 = .ok (.iload_n 1, 1) := by decide +kernel
theorem dX12_ask_10 : decode cX12_ask 10 = .ok (.iaload, 1) := by decide +kernel
theorem dX12_ask_11 : decode cX12_ask 11 = .ok (.iastore, 1) := by decide +kernel
theorem dX12_ask_12 : decode cX12_ask 12 = .ok (.aload_n 0, 1) := by decide +kernel
theorem dX12_ask_13 : decode cX12_ask 13 = .ok (.getfield 91, 3) := by decide +kernel
theorem dX12_ask_16 : decode cX12_ask 16 = .ok (.iconst 1, 1) := by decide +kernel
theorem dX12_ask_17 : decode cX12_ask 17 = .ok (.aload_n 0, 1) := by decide +kernel
theorem dX12_ask_18 : decode cX12_ask 18 = .ok (.iload_n 1, 1) := by decide +kernel
theorem dX12_ask_19 : decode cX12_ask 19 = .ok (.invokevirtual 341, 3) := by decide +kernel
theorem dX12_ask_22 : decode cX12_ask 22 = .ok (.iastore, 1) := by decide +kernel
theorem dX12_ask_23 : decode cX12_ask 23 = .ok (.aload_n 0, 1) := by decide +kernel
theorem dX12_ask_24 : decode cX12_ask 24 = .ok (.getfield 91, 3) := by decide +kernel
theorem dX12_ask_27 : decode cX12_ask 27 = .ok (.iconst 2, 1) := by decide +kernel
theorem dX12_ask_28 : decode cX12_ask 28 = .ok (.aload_n 0, 1) := by decide +kernel
theorem dX12_ask_29 : decode cX12_ask 29 = .ok (.getfield 72, 3) := by decide +kernel
theorem dX12_ask_32 : decode cX12_ask 32 = .ok (.iload_n 1, 1) := by decide +kernel
theorem dX12_ask_33 : decode cX12_ask 33 = .ok (.iaload, 1) := by decide +kernel
theorem dX12_ask_34 : decode cX12_ask 34 = .ok (.iastore, 1) := by decide +kernel
theorem dX12_ask_35 : decode cX12_ask 35 = .ok (.aload_n 0, 1) := by decide +kernel
theorem dX12_ask_36 : decode cX12_ask 36 = .ok (.getfield 91, 3) := by decide +kernel
theorem dX12_ask_39 : decode cX12_ask 39 = .ok (.iconst 3, 1) := by decide +kernel
theorem dX12_ask_40 : decode cX12_ask 40 = .ok (.aload_n 0, 1) := by decide +kernel
theorem dX12_ask_41 : decode cX12_ask 41 = .ok (.iload_n 1, 1) := by decide +kernel
theorem dX12_ask_42 : decode cX12_ask 42 = .ok (.invokevirtual 344, 3) := by decide +kernel
theorem dX12_ask_45 : decode cX12_ask 45 = .ok (.aload_n 0, 1) := by decide +kernel
theorem dX12_ask_46 : decode cX12_ask 46 = .ok (.invokevirtual 347, 3) := by decide +kernel
theorem dX12_ask_49 : decode cX12_ask 49 = .ok (.iand, 1) := by decide +kernel
theorem dX12_ask_50 : decode cX12_ask 50 = .ok (.invokestatic 350, 3) := by decide +kernel
theorem dX12_ask_53 : decode cX12_ask 53 = .ok (.iastore, 1) := by decide +kernel
theorem dX12_ask_54 : decode cX12_ask 54 = .ok (.aload_n 0, 1) := by decide +kernel
theorem dX12_ask_55 : decode cX12_ask 55 = .ok (.getfield 91, 3) := by decide +kernel
theorem dX12_ask_58 : decode cX12_ask 58 = .ok (.iconst 4, 1) := by decide +kernel
theorem dX12_ask_59 : decode cX12_ask 59 = .ok (.aload_n 0, 1) := by decide +kernel
theorem dX12_ask_60 : decode cX12_ask 60 = .ok (.getfield 308, 3) := by decide +kernel
theorem dX12_ask_63 : decode cX12_ask 63 = .ok (.iastore, 1) := by decide +kernel
theorem dX12_ask_64 : decode cX12_ask 64 = .ok (.return_, 1) := by decide +kernel
theorem dX12_wouldAsk_0 : decode cX12_wouldAsk 0 = .ok (.aload_n 0, 1) := by decide +kernel
theorem dX12_wouldAsk_1 : decode cX12_wouldAsk 1 = .ok (.getfield 42, 3) := by decide +kernel
theorem dX12_wouldAsk_4 : decode cX12_wouldAsk 4 = .ok (.iconst 3, 1) := by decide +kernel
theorem dX12_wouldAsk_5 : decode cX12_wouldAsk 5 = .ok (.iaload, 1) := by decide +kernel
theorem dX12_wouldAsk_6 : decode cX12_wouldAsk 6 = .ok (.ifCond .ne 20, 3) := by decide +kernel
theorem dX12_wouldAsk_9 : decode cX12_wouldAsk 9 = .ok (.aload_n 0, 1) := by decide +kernel
theorem dX12_wouldAsk_10 : decode cX12_wouldAsk 10 = .ok (.getfield 81, 3) := by decide +kernel
theorem dX12_wouldAsk_13 : decode cX12_wouldAsk 13 = .ok (.iload_n 1, 1) := by decide +kernel
theorem dX12_wouldAsk_14 : decode cX12_wouldAsk 14 = .ok (.iaload, 1) := by decide +kernel
theorem dX12_wouldAsk_15 : decode cX12_wouldAsk 15 = .ok (.bipush 60, 2) := by decide +kernel
theorem dX12_wouldAsk_17 : decode cX12_wouldAsk 17 = .ok (.if_icmp .gt 7, 3) := by decide +kernel
theorem dX12_wouldAsk_20 : decode cX12_wouldAsk 20 = .ok (.iconst 1, 1) := by decide +kernel
theorem dX12_wouldAsk_21 : decode cX12_wouldAsk 21 = .ok (.goto 4, 3) := by decide +kernel
theorem dX12_wouldAsk_24 : decode cX12_wouldAsk 24 = .ok (.iconst 0, 1) := by decide +kernel
theorem dX12_wouldAsk_25 : decode cX12_wouldAsk 25 = .ok (.ireturn, 1) := by decide +kernel
theorem dX12_wouldAsk_26 : decode cX12_wouldAsk 26 = .ok (.aload_n 0, 1) := by decide +kernel
theorem dX12_wouldAsk_27 : decode cX12_wouldAsk 27 = .ok (.iload_n 1, 1) := by decide +kernel
theorem dX12_wouldAsk_28 : decode cX12_wouldAsk 28 = .ok (.invokevirtual 353, 3) := by decide +kernel
theorem dX12_wouldAsk_31 : decode cX12_wouldAsk 31 = .ok (.aload_n 0, 1) := by decide +kernel
theorem dX12_wouldAsk_32 : decode cX12_wouldAsk 32 = .ok (.aload_n 0, 1) := by decide +kernel
theorem dX12_wouldAsk_33 : decode cX12_wouldAsk 33 = .ok (.getfield 63, 3) := by decide +kernel
theorem dX12_wouldAsk_36 : decode cX12_wouldAsk 36 = .ok (.aload_n 0, 1) := by decide +kernel
theorem dX12_wouldAsk_37 : decode cX12_wouldAsk 37 = .ok (.getfield 42, 3) := by decide +kernel
theorem dX12_wouldAsk_40 : decode cX12_wouldAsk 40 = .ok (.iconst 3, 1) := by decide +kernel
theorem dX12_wouldAsk_41 : decode cX12_wouldAsk 41 = .ok (.iaload, 1) := by decide +kernel
theorem dX12_wouldAsk_42 : decode cX12_wouldAsk 42 = .ok (.invokevirtual 356, 3) := by decide +kernel
theorem dX12_wouldAsk_45 : decode cX12_wouldAsk 45 = .ok (.ifCond .le 7, 3) := by decide +kernel
theorem dX12_wouldAsk_48 : decode cX12_wouldAsk 48 = .ok (.iconst 1, 1) := by decide +kernel
theorem dX12_wouldAsk_49 : decode cX12_wouldAsk 49 = .ok (.goto 4, 3) := by decide +kernel
theorem dX12_wouldAsk_52 : decode cX12_wouldAsk 52 = .ok (.iconst 0, 1) := by decide +kernel
theorem dX12_wouldAsk_53 : decode cX12_wouldAsk 53 = .ok (.ireturn, 1) := by decide +kernel
theorem dX12_saysOf_0 : decode cX12_saysOf 0 = .ok (.aload_n 0, 1) := by decide +kernel
theorem dX12_saysOf_1 : decode cX12_saysOf 1 = .ok (.iload_n 1, 1) := by decide +kernel
theorem dX12_saysOf_2 : decode cX12_saysOf 2 = .ok (.invokevirtual 341, 3) := by decide +kernel
theorem dX12_saysOf_5 : decode cX12_saysOf 5 = .ok (.istore_n 3, 1) := by decide +kernel
theorem dX12_saysOf_6 : decode cX12_saysOf 6 = .ok (.aload_n 0, 1) := by decide +kernel
theorem dX12_saysOf_7 : decode cX12_saysOf 7 = .ok (.getfield 46, 3) := by decide +kernel
theorem dX12_saysOf_10 : decode cX12_saysOf 10 = .ok (.iload_n 1, 1) := by decide +kernel
theorem dX12_saysOf_11 : decode cX12_saysOf 11 = .ok (.iaload, 1) := by decide +kernel
theorem dX12_saysOf_12 : decode cX12_saysOf 12 = .ok (.iconst 1, 1) := by decide +kernel
theorem dX12_saysOf_13 : decode cX12_saysOf 13 = .ok (.if_icmp .ne 19, 3) := by decide +kernel
theorem dX12_saysOf_16 : decode cX12_saysOf 16 = .ok (.iconst 0, 1) := by decide +kernel
theorem dX12_saysOf_17 : decode cX12_saysOf 17 = .ok (.iload_n 3, 1) := by decide +kernel
theorem dX12_saysOf_18 : decode cX12_saysOf 18 = .ok (.bipush 15, 2) := by decide +kernel
theorem dX12_saysOf_20 : decode cX12_saysOf 20 = .ok (.idiv, 1) := by decide +kernel
theorem dX12_saysOf_21 : decode cX12_saysOf 21 = .ok (.aload_n 0, 1) := by decide +kernel
theorem dX12_saysOf_22 : decode cX12_saysOf 22 = .ok (.getfield 72, 3) := by decide +kernel
theorem dX12_saysOf_25 : decode cX12_saysOf 25 = .ok (.iload_n 1, 1) := by decide +kernel
theorem dX12_saysOf_26 : decode cX12_saysOf 26 = .ok (.iaload, 1) := by decide +kernel
theorem dX12_saysOf_27 : decode cX12_saysOf 27 = .ok (.isub, 1) := by decide +kernel
theorem dX12_saysOf_28 : decode cX12_saysOf 28 = .ok (.invokestatic 360, 3) := by decide +kernel
theorem dX12_saysOf_31 : decode cX12_saysOf 31 = .ok (.ireturn, 1) := by decide +kernel
theorem dX12_saysOf_32 : decode cX12_saysOf 32 = .ok (.aload_n 0, 1) := by decide +kernel
theorem dX12_saysOf_33 : decode cX12_saysOf 33 = .ok (.getfield 42, 3) := by decide +kernel
theorem dX12_saysOf_36 : decode cX12_saysOf 36 = .ok (.iconst 4, 1) := by decide +kernel
theorem dX12_saysOf_37 : decode cX12_saysOf 37 = .ok (.iaload, 1) := by decide +kernel
theorem dX12_saysOf_38 : decode cX12_saysOf 38 = .ok (.ifCond .le 48, 3) := by decide +kernel
theorem dX12_saysOf_41 : decode cX12_saysOf 41 = .ok (.aload_n 0, 1) := by decide +kernel
theorem dX12_saysOf_42 : decode cX12_saysOf 42 = .ok (.iload_n 1, 1) := by decide +kernel
theorem dX12_saysOf_43 : decode cX12_saysOf 43 = .ok (.invokevirtual 353, 3) := by decide +kernel
theorem dX12_saysOf_46 : decode cX12_saysOf 46 = .ok (.aload_n 0, 1) := by decide +kernel
theorem dX12_saysOf_47 : decode cX12_saysOf 47 = .ok (.getfield 91, 3) := by decide +kernel
theorem dX12_saysOf_50 : decode cX12_saysOf 50 = .ok (.iconst 5, 1) := by decide +kernel
theorem dX12_saysOf_51 : decode cX12_saysOf 51 = .ok (.aload_n 0, 1) := by decide +kernel
theorem dX12_saysOf_52 : decode cX12_saysOf 52 = .ok (.getfield 81, 3) := by decide +kernel
theorem dX12_saysOf_55 : decode cX12_saysOf 55 = .ok (.iload_n 2, 1) := by decide +kernel
theorem dX12_saysOf_56 : decode cX12_saysOf 56 = .ok (.iaload, 1) := by decide +kernel
theorem dX12_saysOf_57 : decode cX12_saysOf 57 = .ok (.iastore, 1) := by decide +kernel
theorem dX12_saysOf_58 : decode cX12_saysOf 58 = .ok (.aload_n 0, 1) := by decide +kernel
theorem dX12_saysOf_59 : decode cX12_saysOf 59 = .ok (.getfield 91, 3) := by decide +kernel
theorem dX12_saysOf_62 : decode cX12_saysOf 62 = .ok (.bipush 6, 2) := by decide +kernel
theorem dX12_saysOf_64 : decode cX12_saysOf 64 = .ok (.aload_n 0, 1) := by decide +kernel
theorem dX12_saysOf_65 : decode cX12_saysOf 65 = .ok (.getfield 83, 3) := by decide +kernel
theorem dX12_saysOf_68 : decode cX12_saysOf 68 = .ok (.iload_n 1, 1) := by decide +kernel
theorem dX12_saysOf_69 : decode cX12_saysOf 69 = .ok (.iaload, 1) := by decide +kernel
theorem dX12_saysOf_70 : decode cX12_saysOf 70 = .ok (.iastore, 1) := by decide +kernel
theorem dX12_saysOf_71 : decode cX12_saysOf 71 = .ok (.aload_n 0, 1) := by decide +kernel
theorem dX12_saysOf_72 : decode cX12_saysOf 72 = .ok (.aload_n 0, 1) := by decide +kernel
theorem dX12_saysOf_73 : decode cX12_saysOf 73 = .ok (.getfield 66, 3) := by decide +kernel
theorem dX12_saysOf_76 : decode cX12_saysOf 76 = .ok (.aload_n 0, 1) := by decide +kernel
theorem dX12_saysOf_77 : decode cX12_saysOf 77 = .ok (.getfield 42, 3) := by decide +kernel
theorem dX12_saysOf_80 : decode cX12_saysOf 80 = .ok (.iconst 4, 1) := by decide +kernel
theorem dX12_saysOf_81 : decode cX12_saysOf 81 = .ok (.iaload, 1) := by decide +kernel
theorem dX12_saysOf_82 : decode cX12_saysOf 82 = .ok (.invokevirtual 356, 3) := by decide +kernel
theorem dX12_saysOf_85 : decode cX12_saysOf 85 = .ok (.istore_n 3, 1) := by decide +kernel
theorem dX12_saysOf_86 : decode cX12_saysOf 86 = .ok (.iconst 0, 1) := by decide +kernel
theorem dX12_saysOf_87 : decode cX12_saysOf 87 = .ok (.bipush 59, 2) := by decide +kernel
theorem dX12_saysOf_89 : decode cX12_saysOf 89 = .ok (.iload_n 3, 1) := by decide +kernel
theorem dX12_saysOf_90 : decode cX12_saysOf 90 = .ok (.invokestatic 191, 3) := by decide +kernel
theorem dX12_saysOf_93 : decode cX12_saysOf 93 = .ok (.invokestatic 360, 3) := by decide +kernel
theorem dX12_saysOf_96 : decode cX12_saysOf 96 = .ok (.ireturn, 1) := by decide +kernel
theorem dX12_mostLeftOf_0 : decode cX12_mostLeftOf 0 = .ok (.iconst (-1), 1) := by decide +kernel
theorem dX12_mostLeftOf_1 : decode cX12_mostLeftOf 1 = .ok (.istore_n 2, 1) := by decide +kernel
theorem dX12_mostLeftOf_2 : decode cX12_mostLeftOf 2 = .ok (.iconst 0, 1) := by decide +kernel
theorem dX12_mostLeftOf_3 : decode cX12_mostLeftOf 3 = .ok (.istore_n 3, 1) := by decide +kernel
theorem dX12_mostLeftOf_4 : decode cX12_mostLeftOf 4 = .ok (.iload_n 3, 1) := by decide +kernel
theorem dX12_mostLeftOf_5 : decode cX12_mostLeftOf 5 = .ok (.aload_n 0, 1) := by decide +kernel
theorem dX12_mostLeftOf_6 : decode cX12_mostLeftOf 6 = .ok (.getfield 42, 3) := by decide +kernel
theorem dX12_mostLeftOf_9 : decode cX12_mostLeftOf 9 = .ok (.iconst 1, 1) := by decide +kernel
theorem dX12_mostLeftOf_10 : decode cX12_mostLeftOf 10 = .ok (.iaload, 1) := by decide +kernel
theorem dX12_mostLeftOf_11 : decode cX12_mostLeftOf 11 = .ok (.if_icmp .ge 39, 3) := by decide +kernel
theorem dX12_mostLeftOf_14 : decode cX12_mostLeftOf 14 = .ok (.iload_n 1, 1) := by decide +kernel
theorem dX12_mostLeftOf_15 : decode cX12_mostLeftOf 15 = .ok (.iload_n 3, 1) := by decide +kernel
theorem dX12_mostLeftOf_16 : decode cX12_mostLeftOf 16 = .ok (.invokestatic 363, 3) := by decide +kernel
theorem dX12_mostLeftOf_19 : decode cX12_mostLeftOf 19 = .ok (.ifCond .eq 25, 3) := by decide +kernel
theorem dX12_mostLeftOf_22 : decode cX12_mostLeftOf 22 = .ok (.iload_n 2, 1) := by decide +kernel
theorem dX12_mostLeftOf_23 : decode cX12_mostLeftOf 23 = .ok (.iconst (-1), 1) := by decide +kernel
theorem dX12_mostLeftOf_24 : decode cX12_mostLeftOf 24 = .ok (.if_icmp .eq 18, 3) := by decide +kernel
theorem dX12_mostLeftOf_27 : decode cX12_mostLeftOf 27 = .ok (.aload_n 0, 1) := by decide +kernel
theorem dX12_mostLeftOf_28 : decode cX12_mostLeftOf 28 = .ok (.getfield 81, 3) := by decide +kernel
theorem dX12_mostLeftOf_31 : decode cX12_mostLeftOf 31 = .ok (.iload_n 3, 1) := by decide +kernel
theorem dX12_mostLeftOf_32 : decode cX12_mostLeftOf 32 = .ok (.iaload, 1) := by decide +kernel
theorem dX12_mostLeftOf_33 : decode cX12_mostLeftOf 33 = .ok (.aload_n 0, 1) := by decide +kernel
theorem dX12_mostLeftOf_34 : decode cX12_mostLeftOf 34 = .ok (.getfield 81, 3) := by decide +kernel
theorem dX12_mostLeftOf_37 : decode cX12_mostLeftOf 37 = .ok (.iload_n 2, 1) := by decide +kernel
theorem dX12_mostLeftOf_38 : decode cX12_mostLeftOf 38 = .ok (.iaload, 1) := by decide +kernel
theorem dX12_mostLeftOf_39 : decode cX12_mostLeftOf 39 = .ok (.if_icmp .le 5, 3) := by decide +kernel
theorem dX12_mostLeftOf_42 : decode cX12_mostLeftOf 42 = .ok (.iload_n 3, 1) := by decide +kernel
theorem dX12_mostLeftOf_43 : decode cX12_mostLeftOf 43 = .ok (.istore_n 2, 1) := by decide +kernel
theorem dX12_mostLeftOf_44 : decode cX12_mostLeftOf 44 = .ok (.iinc 3 1, 3) := by decide +kernel
theorem dX12_mostLeftOf_47 : decode cX12_mostLeftOf 47 = .ok (.goto (-43), 3) := by decide +kernel
theorem dX12_mostLeftOf_50 : decode cX12_mostLeftOf 50 = .ok (.iload_n 2, 1) := by decide +kernel
theorem dX12_mostLeftOf_51 : decode cX12_mostLeftOf 51 = .ok (.ireturn, 1) := by decide +kernel
theorem dX12_oneAsks_0 : decode cX12_oneAsks 0 = .ok (.aload_n 0, 1) := by decide +kernel
theorem dX12_oneAsks_1 : decode cX12_oneAsks 1 = .ok (.iload_n 1, 1) := by decide +kernel
theorem dX12_oneAsks_2 : decode cX12_oneAsks 2 = .ok (.invokevirtual 344, 3) := by decide +kernel
theorem dX12_oneAsks_5 : decode cX12_oneAsks 5 = .ok (.aload_n 0, 1) := by decide +kernel
theorem dX12_oneAsks_6 : decode cX12_oneAsks 6 = .ok (.invokevirtual 347, 3) := by decide +kernel
theorem dX12_oneAsks_9 : decode cX12_oneAsks 9 = .ok (.iand, 1) := by decide +kernel
theorem dX12_oneAsks_10 : decode cX12_oneAsks 10 = .ok (.aload_n 0, 1) := by decide +kernel
theorem dX12_oneAsks_11 : decode cX12_oneAsks 11 = .ok (.getfield 316, 3) := by decide +kernel
theorem dX12_oneAsks_14 : decode cX12_oneAsks 14 = .ok (.iconst (-1), 1) := by decide +kernel
theorem dX12_oneAsks_15 : decode cX12_oneAsks 15 = .ok (.ixor, 1) := by decide +kernel
theorem dX12_oneAsks_16 : decode cX12_oneAsks 16 = .ok (.iand, 1) := by decide +kernel
theorem dX12_oneAsks_17 : decode cX12_oneAsks 17 = .ok (.istore_n 2, 1) := by decide +kernel
theorem dX12_oneAsks_18 : decode cX12_oneAsks 18 = .ok (.aload_n 0, 1) := by decide +kernel
theorem dX12_oneAsks_19 : decode cX12_oneAsks 19 = .ok (.getfield 367, 3) := by decide +kernel
theorem dX12_oneAsks_22 : decode cX12_oneAsks 22 = .ok (.ifCond .ne 35, 3) := by decide +kernel
theorem dX12_oneAsks_25 : decode cX12_oneAsks 25 = .ok (.aload_n 0, 1) := by decide +kernel
theorem dX12_oneAsks_26 : decode cX12_oneAsks 26 = .ok (.getfield 81, 3) := by decide +kernel
theorem dX12_oneAsks_29 : decode cX12_oneAsks 29 = .ok (.iload_n 1, 1) := by decide +kernel
theorem dX12_oneAsks_30 : decode cX12_oneAsks 30 = .ok (.iaload, 1) := by decide +kernel
theorem dX12_oneAsks_31 : decode cX12_oneAsks 31 = .ok (.ifCond .eq 26, 3) := by decide +kernel
theorem dX12_oneAsks_34 : decode cX12_oneAsks 34 = .ok (.aload_n 0, 1) := by decide +kernel
theorem dX12_oneAsks_35 : decode cX12_oneAsks 35 = .ok (.getfield 316, 3) := by decide +kernel
theorem dX12_oneAsks_38 : decode cX12_oneAsks 38 = .ok (.iload_n 1, 1) := by decide +kernel
theorem dX12_oneAsks_39 : decode cX12_oneAsks 39 = .ok (.invokestatic 363, 3) := by decide +kernel
theorem dX12_oneAsks_42 : decode cX12_oneAsks 42 = .ok (.ifCond .ne 15, 3) := by decide +kernel
theorem dX12_oneAsks_45 : decode cX12_oneAsks 45 = .ok (.iload_n 2, 1) := by decide +kernel
theorem dX12_oneAsks_46 : decode cX12_oneAsks 46 = .ok (.ifCond .eq 11, 3) := by decide +kernel
theorem dX12_oneAsks_49 : decode cX12_oneAsks 49 = .ok (.aload_n 0, 1) := by decide +kernel
theorem dX12_oneAsks_50 : decode cX12_oneAsks 50 = .ok (.iload_n 1, 1) := by decide +kernel
theorem dX12_oneAsks_51 : decode cX12_oneAsks 51 = .ok (.invokevirtual 370, 3) := by decide +kernel
theorem dX12_oneAsks_54 : decode cX12_oneAsks 54 = .ok (.ifCond .ne 4, 3) := by decide +kernel
theorem dX12_oneAsks_57 : decode cX12_oneAsks 57 = .ok (.return_, 1) := by decide +kernel
theorem dX12_oneAsks_58 : decode cX12_oneAsks 58 = .ok (.aload_n 0, 1) := by decide +kernel
theorem dX12_oneAsks_59 : decode cX12_oneAsks 59 = .ok (.iload_n 2, 1) := by decide +kernel
theorem dX12_oneAsks_60 : decode cX12_oneAsks 60 = .ok (.invokevirtual 373, 3) := by decide +kernel
theorem dX12_oneAsks_63 : decode cX12_oneAsks 63 = .ok (.istore_n 3, 1) := by decide +kernel
theorem dX12_oneAsks_64 : decode cX12_oneAsks 64 = .ok (.aload_n 0, 1) := by decide +kernel
theorem dX12_oneAsks_65 : decode cX12_oneAsks 65 = .ok (.getfield 81, 3) := by decide +kernel
theorem dX12_oneAsks_68 : decode cX12_oneAsks 68 = .ok (.iload_n 3, 1) := by decide +kernel
theorem dX12_oneAsks_69 : decode cX12_oneAsks 69 = .ok (.iaload, 1) := by decide +kernel
theorem dX12_oneAsks_70 : decode cX12_oneAsks 70 = .ok (.aload_n 0, 1) := by decide +kernel
theorem dX12_oneAsks_71 : decode cX12_oneAsks 71 = .ok (.iload_n 3, 1) := by decide +kernel
theorem dX12_oneAsks_72 : decode cX12_oneAsks 72 = .ok (.iload_n 1, 1) := by decide +kernel
theorem dX12_oneAsks_73 : decode cX12_oneAsks 73 = .ok (.invokevirtual 376, 3) := by decide +kernel
theorem dX12_oneAsks_76 : decode cX12_oneAsks 76 = .ok (.invokestatic 191, 3) := by decide +kernel
theorem dX12_oneAsks_79 : decode cX12_oneAsks 79 = .ok (.istore 4, 2) := by decide +kernel
theorem dX12_oneAsks_81 : decode cX12_oneAsks 81 = .ok (.aload_n 0, 1) := by decide +kernel
theorem dX12_oneAsks_82 : decode cX12_oneAsks 82 = .ok (.getfield 97, 3) := by decide +kernel
theorem dX12_oneAsks_85 : decode cX12_oneAsks 85 = .ok (.iload_n 1, 1) := by decide +kernel
theorem dX12_oneAsks_86 : decode cX12_oneAsks 86 = .ok (.iload_n 3, 1) := by decide +kernel
theorem dX12_oneAsks_87 : decode cX12_oneAsks 87 = .ok (.iastore, 1) := by decide +kernel
theorem dX12_oneAsks_88 : decode cX12_oneAsks 88 = .ok (.aload_n 0, 1) := by decide +kernel
theorem dX12_oneAsks_89 : decode cX12_oneAsks 89 = .ok (.getfield 100, 3) := by decide +kernel
theorem dX12_oneAsks_92 : decode cX12_oneAsks 92 = .ok (.bipush 8, 2) := by decide +kernel
theorem dX12_oneAsks_94 : decode cX12_oneAsks 94 = .ok (.iload_n 3, 1) := by decide +kernel
theorem dX12_oneAsks_95 : decode cX12_oneAsks 95 = .ok (.imul, 1) := by decide +kernel
theorem dX12_oneAsks_96 : decode cX12_oneAsks 96 = .ok (.iload_n 1, 1) := by decide +kernel
theorem dX12_oneAsks_97 : decode cX12_oneAsks 97 = .ok (.iadd, 1) := by decide +kernel
theorem dX12_oneAsks_98 : decode cX12_oneAsks 98 = .ok (.dup2, 1) := by decide +kernel
theorem dX12_oneAsks_99 : decode cX12_oneAsks 99 = .ok (.iaload, 1) := by decide +kernel
theorem dX12_oneAsks_100 : decode cX12_oneAsks 100 = .ok (.iload 4, 2) := by decide +kernel
theorem dX12_oneAsks_102 : decode cX12_oneAsks 102 = .ok (.iadd, 1) := by decide +kernel
theorem dX12_oneAsks_103 : decode cX12_oneAsks 103 = .ok (.iastore, 1) := by decide +kernel
theorem dX12_oneAsks_104 : decode cX12_oneAsks 104 = .ok (.aload_n 0, 1) := by decide +kernel
theorem dX12_oneAsks_105 : decode cX12_oneAsks 105 = .ok (.dup, 1) := by decide +kernel
theorem dX12_oneAsks_106 : decode cX12_oneAsks 106 = .ok (.getfield 379, 3) := by decide +kernel
theorem dX12_oneAsks_109 : decode cX12_oneAsks 109 = .ok (.iload 4, 2) := by decide +kernel
theorem dX12_oneAsks_111 : decode cX12_oneAsks 111 = .ok (.iadd, 1) := by decide +kernel
theorem dX12_oneAsks_112 : decode cX12_oneAsks 112 = .ok (.putfield 379, 3) := by decide +kernel
theorem dX12_oneAsks_115 : decode cX12_oneAsks 115 = .ok (.aload_n 0, 1) := by decide +kernel
theorem dX12_oneAsks_116 : decode cX12_oneAsks 116 = .ok (.getfield 81, 3) := by decide +kernel
theorem dX12_oneAsks_119 : decode cX12_oneAsks 119 = .ok (.iload_n 3, 1) := by decide +kernel
theorem dX12_oneAsks_120 : decode cX12_oneAsks 120 = .ok (.dup2, 1) := by decide +kernel
theorem dX12_oneAsks_121 : decode cX12_oneAsks 121 = .ok (.iaload, 1) := by decide +kernel
theorem dX12_oneAsks_122 : decode cX12_oneAsks 122 = .ok (.iload 4, 2) := by decide +kernel
theorem dX12_oneAsks_124 : decode cX12_oneAsks 124 = .ok (.isub, 1) := by decide +kernel
theorem dX12_oneAsks_125 : decode cX12_oneAsks 125 = .ok (.iastore, 1) := by decide +kernel
theorem dX12_oneAsks_126 : decode cX12_oneAsks 126 = .ok (.aload_n 0, 1) := by decide +kernel
theorem dX12_oneAsks_127 : decode cX12_oneAsks 127 = .ok (.getfield 83, 3) := by decide +kernel
theorem dX12_oneAsks_130 : decode cX12_oneAsks 130 = .ok (.iload_n 3, 1) := by decide +kernel
theorem dX12_oneAsks_131 : decode cX12_oneAsks 131 = .ok (.sipush 9999, 3) := by decide +kernel
theorem dX12_oneAsks_134 : decode cX12_oneAsks 134 = .ok (.aload_n 0, 1) := by decide +kernel
theorem dX12_oneAsks_135 : decode cX12_oneAsks 135 = .ok (.getfield 83, 3) := by decide +kernel
theorem dX12_oneAsks_138 : decode cX12_oneAsks 138 = .ok (.iload_n 3, 1) := by decide +kernel
theorem dX12_oneAsks_139 : decode cX12_oneAsks 139 = .ok (.iaload, 1) := by decide +kernel
theorem dX12_oneAsks_140 : decode cX12_oneAsks 140 = .ok (.iload 4, 2) := by decide +kernel
theorem dX12_oneAsks_142 : decode cX12_oneAsks 142 = .ok (.iadd, 1) := by decide +kernel
theorem dX12_oneAsks_143 : decode cX12_oneAsks 143 = .ok (.invokestatic 191, 3) := by decide +kernel
theorem dX12_oneAsks_146 : decode cX12_oneAsks 146 = .ok (.iastore, 1) := by decide +kernel
theorem dX12_oneAsks_147 : decode cX12_oneAsks 147 = .ok (.aload_n 0, 1) := by decide +kernel
theorem dX12_oneAsks_148 : decode cX12_oneAsks 148 = .ok (.getfield 81, 3) := by decide +kernel
theorem dX12_oneAsks_151 : decode cX12_oneAsks 151 = .ok (.iload_n 1, 1) := by decide +kernel
theorem dX12_oneAsks_152 : decode cX12_oneAsks 152 = .ok (.sipush 999, 3) := by decide +kernel
theorem dX12_oneAsks_155 : decode cX12_oneAsks 155 = .ok (.aload_n 0, 1) := by decide +kernel
theorem dX12_oneAsks_156 : decode cX12_oneAsks 156 = .ok (.getfield 81, 3) := by decide +kernel
theorem dX12_oneAsks_159 : decode cX12_oneAsks 159 = .ok (.iload_n 1, 1) := by decide +kernel
theorem dX12_oneAsks_160 : decode cX12_oneAsks 160 = .ok (.iaload, 1) := by decide +kernel
theorem dX12_oneAsks_161 : decode cX12_oneAsks 161 = .ok (.iload 4, 2) := by decide +kernel
theorem dX12_oneAsks_163 : decode cX12_oneAsks 163 = .ok (.iadd, 1) := by decide +kernel
theorem dX12_oneAsks_164 : decode cX12_oneAsks 164 = .ok (.invokestatic 191, 3) := by decide +kernel
theorem dX12_oneAsks_167 : decode cX12_oneAsks 167 = .ok (.iastore, 1) := by decide +kernel
theorem dX12_oneAsks_168 : decode cX12_oneAsks 168 = .ok (.return_, 1) := by decide +kernel
theorem dX12_aStep_0 : decode cX12_aStep 0 = .ok (.aload_n 0, 1) := by decide +kernel
theorem dX12_aStep_1 : decode cX12_aStep 1 = .ok (.iconst 0, 1) := by decide +kernel
theorem dX12_aStep_2 : decode cX12_aStep 2 = .ok (.putfield 379, 3) := by decide +kernel
theorem dX12_aStep_5 : decode cX12_aStep 5 = .ok (.iconst 0, 1) := by decide +kernel
theorem dX12_aStep_6 : decode cX12_aStep 6 = .ok (.istore_n 1, 1) := by decide +kernel
theorem dX12_aStep_7 : decode cX12_aStep 7 = .ok (.iload_n 1, 1) := by decide +kernel
theorem dX12_aStep_8 : decode cX12_aStep 8 = .ok (.aload_n 0, 1) := by decide +kernel
theorem dX12_aStep_9 : decode cX12_aStep 9 = .ok (.getfield 100, 3) := by decide +kernel
theorem dX12_aStep_12 : decode cX12_aStep 12 = .ok (.arraylength, 1) := by decide +kernel
theorem dX12_aStep_13 : decode cX12_aStep 13 = .ok (.if_icmp .ge 16, 3) := by decide +kernel
theorem dX12_aStep_16 : decode cX12_aStep 16 = .ok (.aload_n 0, 1) := by decide +kernel
theorem dX12_aStep_17 : decode cX12_aStep 17 = .ok (.getfield 100, 3) := by decide +kernel
theorem dX12_aStep_20 : decode cX12_aStep 20 = .ok (.iload_n 1, 1) := by decide +kernel
theorem dX12_aStep_21 : decode cX12_aStep 21 = .ok (.iconst 0, 1) := by decide +kernel
theorem dX12_aStep_22 : decode cX12_aStep 22 = .ok (.iastore, 1) := by decide +kernel
theorem dX12_aStep_23 : decode cX12_aStep 23 = .ok (.iinc 1 1, 3) := by decide +kernel
theorem dX12_aStep_26 : decode cX12_aStep 26 = .ok (.goto (-19), 3) := by decide +kernel
theorem dX12_aStep_29 : decode cX12_aStep 29 = .ok (.iconst 0, 1) := by decide +kernel
theorem dX12_aStep_30 : decode cX12_aStep 30 = .ok (.istore_n 1, 1) := by decide +kernel
theorem dX12_aStep_31 : decode cX12_aStep 31 = .ok (.iload_n 1, 1) := by decide +kernel
theorem dX12_aStep_32 : decode cX12_aStep 32 = .ok (.aload_n 0, 1) := by decide +kernel
theorem dX12_aStep_33 : decode cX12_aStep 33 = .ok (.getfield 42, 3) := by decide +kernel
theorem dX12_aStep_36 : decode cX12_aStep 36 = .ok (.iconst 1, 1) := by decide +kernel
theorem dX12_aStep_37 : decode cX12_aStep 37 = .ok (.iaload, 1) := by decide +kernel
theorem dX12_aStep_38 : decode cX12_aStep 38 = .ok (.if_icmp .ge 21, 3) := by decide +kernel
theorem dX12_aStep_41 : decode cX12_aStep 41 = .ok (.aload_n 0, 1) := by decide +kernel
theorem dX12_aStep_42 : decode cX12_aStep 42 = .ok (.getfield 97, 3) := by decide +kernel
theorem dX12_aStep_45 : decode cX12_aStep 45 = .ok (.iload_n 1, 1) := by decide +kernel
theorem dX12_aStep_46 : decode cX12_aStep 46 = .ok (.iconst (-1), 1) := by decide +kernel
theorem dX12_aStep_47 : decode cX12_aStep 47 = .ok (.iastore, 1) := by decide +kernel
theorem dX12_aStep_48 : decode cX12_aStep 48 = .ok (.aload_n 0, 1) := by decide +kernel
theorem dX12_aStep_49 : decode cX12_aStep 49 = .ok (.iload_n 1, 1) := by decide +kernel
theorem dX12_aStep_50 : decode cX12_aStep 50 = .ok (.invokevirtual 382, 3) := by decide +kernel
theorem dX12_aStep_53 : decode cX12_aStep 53 = .ok (.iinc 1 1, 3) := by decide +kernel
theorem dX12_aStep_56 : decode cX12_aStep 56 = .ok (.goto (-25), 3) := by decide +kernel
theorem dX12_aStep_59 : decode cX12_aStep 59 = .ok (.iconst 0, 1) := by decide +kernel
theorem dX12_aStep_60 : decode cX12_aStep 60 = .ok (.istore_n 1, 1) := by decide +kernel
theorem dX12_aStep_61 : decode cX12_aStep 61 = .ok (.iload_n 1, 1) := by decide +kernel
theorem dX12_aStep_62 : decode cX12_aStep 62 = .ok (.aload_n 0, 1) := by decide +kernel
theorem dX12_aStep_63 : decode cX12_aStep 63 = .ok (.getfield 42, 3) := by decide +kernel
theorem dX12_aStep_66 : decode cX12_aStep 66 = .ok (.iconst 1, 1) := by decide +kernel
theorem dX12_aStep_67 : decode cX12_aStep 67 = .ok (.iaload, 1) := by decide +kernel
theorem dX12_aStep_68 : decode cX12_aStep 68 = .ok (.if_icmp .ge 27, 3) := by decide +kernel
theorem dX12_aStep_71 : decode cX12_aStep 71 = .ok (.aload_n 0, 1) := by decide +kernel
theorem dX12_aStep_72 : decode cX12_aStep 72 = .ok (.getfield 81, 3) := by decide +kernel
theorem dX12_aStep_75 : decode cX12_aStep 75 = .ok (.iload_n 1, 1) := by decide +kernel
theorem dX12_aStep_76 : decode cX12_aStep 76 = .ok (.iconst 0, 1) := by decide +kernel
theorem dX12_aStep_77 : decode cX12_aStep 77 = .ok (.aload_n 0, 1) := by decide +kernel
theorem dX12_aStep_78 : decode cX12_aStep 78 = .ok (.getfield 81, 3) := by decide +kernel
theorem dX12_aStep_81 : decode cX12_aStep 81 = .ok (.iload_n 1, 1) := by decide +kernel
theorem dX12_aStep_82 : decode cX12_aStep 82 = .ok (.iaload, 1) := by decide +kernel
theorem dX12_aStep_83 : decode cX12_aStep 83 = .ok (.iconst 1, 1) := by decide +kernel
theorem dX12_aStep_84 : decode cX12_aStep 84 = .ok (.isub, 1) := by decide +kernel
theorem dX12_aStep_85 : decode cX12_aStep 85 = .ok (.invokestatic 360, 3) := by decide +kernel
theorem dX12_aStep_88 : decode cX12_aStep 88 = .ok (.iastore, 1) := by decide +kernel
theorem dX12_aStep_89 : decode cX12_aStep 89 = .ok (.iinc 1 1, 3) := by decide +kernel
theorem dX12_aStep_92 : decode cX12_aStep 92 = .ok (.goto (-31), 3) := by decide +kernel
theorem dX12_aStep_95 : decode cX12_aStep 95 = .ok (.aload_n 0, 1) := by decide +kernel
theorem dX12_aStep_96 : decode cX12_aStep 96 = .ok (.dup, 1) := by decide +kernel
theorem dX12_aStep_97 : decode cX12_aStep 97 = .ok (.getfield 308, 3) := by decide +kernel
theorem dX12_aStep_100 : decode cX12_aStep 100 = .ok (.iconst 1, 1) := by decide +kernel
theorem dX12_aStep_101 : decode cX12_aStep 101 = .ok (.iadd, 1) := by decide +kernel
theorem dX12_aStep_102 : decode cX12_aStep 102 = .ok (.putfield 308, 3) := by decide +kernel
theorem dX12_aStep_105 : decode cX12_aStep 105 = .ok (.aload_n 0, 1) := by decide +kernel
theorem dX12_aStep_106 : decode cX12_aStep 106 = .ok (.aload_n 0, 1) := by decide +kernel
theorem dX12_aStep_107 : decode cX12_aStep 107 = .ok (.getfield 313, 3) := by decide +kernel
theorem dX12_aStep_110 : decode cX12_aStep 110 = .ok (.iconst 1, 1) := by decide +kernel
theorem dX12_aStep_111 : decode cX12_aStep 111 = .ok (.if_icmp .ne 10, 3) := by decide +kernel
theorem dX12_aStep_114 : decode cX12_aStep 114 = .ok (.aload_n 0, 1) := by decide +kernel
theorem dX12_aStep_115 : decode cX12_aStep 115 = .ok (.getfield 311, 3) := by decide +kernel
theorem dX12_aStep_118 : decode cX12_aStep 118 = .ok (.goto 12, 3) := by decide +kernel
theorem dX12_aStep_121 : decode cX12_aStep 121 = .ok (.aload_n 0, 1) := by decide +kernel
theorem dX12_aStep_122 : decode cX12_aStep 122 = .ok (.getfield 311, 3) := by decide +kernel
theorem dX12_aStep_125 : decode cX12_aStep 125 = .ok (.iconst 5, 1) := by decide +kernel
theorem dX12_aStep_126 : decode cX12_aStep 126 = .ok (.iadd, 1) := by decide +kernel
theorem dX12_aStep_127 : decode cX12_aStep 127 = .ok (.invokestatic 334, 3) := by decide +kernel
theorem dX12_aStep_130 : decode cX12_aStep 130 = .ok (.putfield 311, 3) := by decide +kernel
theorem dX12_aStep_133 : decode cX12_aStep 133 = .ok (.return_, 1) := by decide +kernel
theorem dX12_goOn_0 : decode cX12_goOn 0 = .ok (.iconst 0, 1) := by decide +kernel
theorem dX12_goOn_1 : decode cX12_goOn 1 = .ok (.istore_n 2, 1) := by decide +kernel
theorem dX12_goOn_2 : decode cX12_goOn 2 = .ok (.iload_n 2, 1) := by decide +kernel
theorem dX12_goOn_3 : decode cX12_goOn 3 = .ok (.iload_n 1, 1) := by decide +kernel
theorem dX12_goOn_4 : decode cX12_goOn 4 = .ok (.if_icmp .ge 13, 3) := by decide +kernel
theorem dX12_goOn_7 : decode cX12_goOn 7 = .ok (.aload_n 0, 1) := by decide +kernel
theorem dX12_goOn_8 : decode cX12_goOn 8 = .ok (.invokevirtual 385, 3) := by decide +kernel
theorem dX12_goOn_11 : decode cX12_goOn 11 = .ok (.iinc 2 1, 3) := by decide +kernel
theorem dX12_goOn_14 : decode cX12_goOn 14 = .ok (.goto (-12), 3) := by decide +kernel
theorem dX12_goOn_17 : decode cX12_goOn 17 = .ok (.return_, 1) := by decide +kernel
theorem dX12_allLeft_0 : decode cX12_allLeft 0 = .ok (.iconst 0, 1) := by decide +kernel
theorem dX12_allLeft_1 : decode cX12_allLeft 1 = .ok (.istore_n 1, 1) := by decide +kernel
theorem dX12_allLeft_2 : decode cX12_allLeft 2 = .ok (.iconst 0, 1) := by decide +kernel
theorem dX12_allLeft_3 : decode cX12_allLeft 3 = .ok (.istore_n 2, 1) := by decide +kernel
theorem dX12_allLeft_4 : decode cX12_allLeft 4 = .ok (.iload_n 2, 1) := by decide +kernel
theorem dX12_allLeft_5 : decode cX12_allLeft 5 = .ok (.aload_n 0, 1) := by decide +kernel
theorem dX12_allLeft_6 : decode cX12_allLeft 6 = .ok (.getfield 42, 3) := by decide +kernel
theorem dX12_allLeft_9 : decode cX12_allLeft 9 = .ok (.iconst 1, 1) := by decide +kernel
theorem dX12_allLeft_10 : decode cX12_allLeft 10 = .ok (.iaload, 1) := by decide +kernel
theorem dX12_allLeft_11 : decode cX12_allLeft 11 = .ok (.if_icmp .ge 18, 3) := by decide +kernel
theorem dX12_allLeft_14 : decode cX12_allLeft 14 = .ok (.iload_n 1, 1) := by decide +kernel
theorem dX12_allLeft_15 : decode cX12_allLeft 15 = .ok (.aload_n 0, 1) := by decide +kernel
theorem dX12_allLeft_16 : decode cX12_allLeft 16 = .ok (.getfield 81, 3) := by decide +kernel
theorem dX12_allLeft_19 : decode cX12_allLeft 19 = .ok (.iload_n 2, 1) := by decide +kernel
theorem dX12_allLeft_20 : decode cX12_allLeft 20 = .ok (.iaload, 1) := by decide +kernel
theorem dX12_allLeft_21 : decode cX12_allLeft 21 = .ok (.iadd, 1) := by decide +kernel
theorem dX12_allLeft_22 : decode cX12_allLeft 22 = .ok (.istore_n 1, 1) := by decide +kernel
theorem dX12_allLeft_23 : decode cX12_allLeft 23 = .ok (.iinc 2 1, 3) := by decide +kernel
theorem dX12_allLeft_26 : decode cX12_allLeft 26 = .ok (.goto (-22), 3) := by decide +kernel
theorem dX12_allLeft_29 : decode cX12_allLeft 29 = .ok (.iload_n 1, 1) := by decide +kernel
theorem dX12_allLeft_30 : decode cX12_allLeft 30 = .ok (.ireturn, 1) := by decide +kernel
theorem dX12_companiesNow_0 : decode cX12_companiesNow 0 = .ok (.iconst 0, 1) := by decide +kernel
theorem dX12_companiesNow_1 : decode cX12_companiesNow 1 = .ok (.istore_n 1, 1) := by decide +kernel
theorem dX12_companiesNow_2 : decode cX12_companiesNow 2 = .ok (.iconst 0, 1) := by decide +kernel
theorem dX12_companiesNow_3 : decode cX12_companiesNow 3 = .ok (.istore_n 2, 1) := by decide +kernel
theorem dX12_companiesNow_4 : decode cX12_companiesNow 4 = .ok (.iload_n 2, 1) := by decide +kernel
theorem dX12_companiesNow_5 : decode cX12_companiesNow 5 = .ok (.aload_n 0, 1) := by decide +kernel
theorem dX12_companiesNow_6 : decode cX12_companiesNow 6 = .ok (.getfield 42, 3) := by decide +kernel
theorem dX12_companiesNow_9 : decode cX12_companiesNow 9 = .ok (.iconst 0, 1) := by decide +kernel
theorem dX12_companiesNow_10 : decode cX12_companiesNow 10 = .ok (.iaload, 1) := by decide +kernel
theorem dX12_companiesNow_11 : decode cX12_companiesNow 11 = .ok (.if_icmp .ge 33, 3) := by decide +kernel
theorem dX12_companiesNow_14 : decode cX12_companiesNow 14 = .ok (.iload_n 1, 1) := by decide +kernel
theorem dX12_companiesNow_15 : decode cX12_companiesNow 15 = .ok (.aload_n 0, 1) := by decide +kernel
theorem dX12_companiesNow_16 : decode cX12_companiesNow 16 = .ok (.iload_n 2, 1) := by decide +kernel
theorem dX12_companiesNow_17 : decode cX12_companiesNow 17 = .ok (.aload_n 0, 1) := by decide +kernel
theorem dX12_companiesNow_18 : decode cX12_companiesNow 18 = .ok (.getfield 308, 3) := by decide +kernel
theorem dX12_companiesNow_21 : decode cX12_companiesNow 21 = .ok (.invokevirtual 331, 3) := by decide +kernel
theorem dX12_companiesNow_24 : decode cX12_companiesNow 24 = .ok (.invokestatic 350, 3) := by decide +kernel
theorem dX12_companiesNow_27 : decode cX12_companiesNow 27 = .ok (.iconst 1, 1) := by decide +kernel
theorem dX12_companiesNow_28 : decode cX12_companiesNow 28 = .ok (.if_icmp .le 7, 3) := by decide +kernel
theorem dX12_companiesNow_31 : decode cX12_companiesNow 31 = .ok (.iconst 1, 1) := by decide +kernel
theorem dX12_companiesNow_32 : decode cX12_companiesNow 32 = .ok (.goto 4, 3) := by decide +kernel
theorem dX12_companiesNow_35 : decode cX12_companiesNow 35 = .ok (.iconst 0, 1) := by decide +kernel
theorem dX12_companiesNow_36 : decode cX12_companiesNow 36 = .ok (.iadd, 1) := by decide +kernel
theorem dX12_companiesNow_37 : decode cX12_companiesNow 37 = .ok (.istore_n 1, 1) := by decide +kernel
theorem dX12_companiesNow_38 : decode cX12_companiesNow 38 = .ok (.iinc 2 1, 3) := by decide +kernel
theorem dX12_companiesNow_41 : decode cX12_companiesNow 41 = .ok (.goto (-37), 3) := by decide +kernel
theorem dX12_companiesNow_44 : decode cX12_companiesNow 44 = .ok (.iload_n 1, 1) := by decide +kernel
theorem dX12_companiesNow_45 : decode cX12_companiesNow 45 = .ok (.ireturn, 1) := by decide +kernel
theorem dX12_count_0 : decode cX12_count 0 = .ok (.aload_n 0, 1) := by decide +kernel
theorem dX12_count_1 : decode cX12_count 1 = .ok (.iconst 0, 1) := by decide +kernel
theorem dX12_count_2 : decode cX12_count 2 = .ok (.putfield 154, 3) := by decide +kernel
theorem dX12_count_5 : decode cX12_count 5 = .ok (.iload_n 1, 1) := by decide +kernel
theorem dX12_count_6 : decode cX12_count 6 = .ok (.tableswitch 141 0 14 #[74, 74, 81, 86, 91, 96, 101, 106, 111, 116, 121, 126, 131, 131, 131], 74) := by decide +kernel
theorem dX12_count_80 : decode cX12_count 80 = .ok (.aload_n 0, 1) := by decide +kernel
theorem dX12_count_81 : decode cX12_count 81 = .ok (.getfield 42, 3) := by decide +kernel
theorem dX12_count_84 : decode cX12_count 84 = .ok (.iload_n 1, 1) := by decide +kernel
theorem dX12_count_85 : decode cX12_count 85 = .ok (.iaload, 1) := by decide +kernel
theorem dX12_count_86 : decode cX12_count 86 = .ok (.ireturn, 1) := by decide +kernel
theorem dX12_count_87 : decode cX12_count 87 = .ok (.aload_n 0, 1) := by decide +kernel
theorem dX12_count_88 : decode cX12_count 88 = .ok (.getfield 308, 3) := by decide +kernel
theorem dX12_count_91 : decode cX12_count 91 = .ok (.ireturn, 1) := by decide +kernel
theorem dX12_count_92 : decode cX12_count 92 = .ok (.aload_n 0, 1) := by decide +kernel
theorem dX12_count_93 : decode cX12_count 93 = .ok (.getfield 311, 3) := by decide +kernel
theorem dX12_count_96 : decode cX12_count 96 = .ok (.ireturn, 1) := by decide +kernel
theorem dX12_count_97 : decode cX12_count 97 = .ok (.aload_n 0, 1) := by decide +kernel
theorem dX12_count_98 : decode cX12_count 98 = .ok (.getfield 313, 3) := by decide +kernel
theorem dX12_count_101 : decode cX12_count 101 = .ok (.ireturn, 1) := by decide +kernel
theorem dX12_count_102 : decode cX12_count 102 = .ok (.aload_n 0, 1) := by decide +kernel
theorem dX12_count_103 : decode cX12_count 103 = .ok (.invokevirtual 347, 3) := by decide +kernel
theorem dX12_count_106 : decode cX12_count 106 = .ok (.ireturn, 1) := by decide +kernel
theorem dX12_count_107 : decode cX12_count 107 = .ok (.aload_n 0, 1) := by decide +kernel
theorem dX12_count_108 : decode cX12_count 108 = .ok (.getfield 316, 3) := by decide +kernel
theorem dX12_count_111 : decode cX12_count 111 = .ok (.ireturn, 1) := by decide +kernel
theorem dX12_count_112 : decode cX12_count 112 = .ok (.aload_n 0, 1) := by decide +kernel
theorem dX12_count_113 : decode cX12_count 113 = .ok (.invokevirtual 388, 3) := by decide +kernel
theorem dX12_count_116 : decode cX12_count 116 = .ok (.ireturn, 1) := by decide +kernel
theorem dX12_count_117 : decode cX12_count 117 = .ok (.aload_n 0, 1) := by decide +kernel
theorem dX12_count_118 : decode cX12_count 118 = .ok (.invokevirtual 391, 3) := by decide +kernel
theorem dX12_count_121 : decode cX12_count 121 = .ok (.ireturn, 1) := by decide +kernel
theorem dX12_count_122 : decode cX12_count 122 = .ok (.aload_n 0, 1) := by decide +kernel
theorem dX12_count_123 : decode cX12_count 123 = .ok (.getfield 319, 3) := by decide +kernel
theorem dX12_count_126 : decode cX12_count 126 = .ok (.ireturn, 1) := by decide +kernel
theorem dX12_count_127 : decode cX12_count 127 = .ok (.aload_n 0, 1) := by decide +kernel
theorem dX12_count_128 : decode cX12_count 128 = .ok (.getfield 322, 3) := by decide +kernel
theorem dX12_count_131 : decode cX12_count 131 = .ok (.ireturn, 1) := by decide +kernel
theorem dX12_count_132 : decode cX12_count 132 = .ok (.aload_n 0, 1) := by decide +kernel
theorem dX12_count_133 : decode cX12_count 133 = .ok (.getfield 161, 3) := by decide +kernel
theorem dX12_count_136 : decode cX12_count 136 = .ok (.ireturn, 1) := by decide +kernel
theorem dX12_count_137 : decode cX12_count 137 = .ok (.aload_n 0, 1) := by decide +kernel
theorem dX12_count_138 : decode cX12_count 138 = .ok (.getfield 69, 3) := by decide +kernel
theorem dX12_count_141 : decode cX12_count 141 = .ok (.iload_n 1, 1) := by decide +kernel
theorem dX12_count_142 : decode cX12_count 142 = .ok (.bipush 12, 2) := by decide +kernel
theorem dX12_count_144 : decode cX12_count 144 = .ok (.isub, 1) := by decide +kernel
theorem dX12_count_145 : decode cX12_count 145 = .ok (.iaload, 1) := by decide +kernel
theorem dX12_count_146 : decode cX12_count 146 = .ok (.ireturn, 1) := by decide +kernel
theorem dX12_count_147 : decode cX12_count 147 = .ok (.aload_n 0, 1) := by decide +kernel
theorem dX12_count_148 : decode cX12_count 148 = .ok (.iconst 1, 1) := by decide +kernel
theorem dX12_count_149 : decode cX12_count 149 = .ok (.invokevirtual 295, 3) := by decide +kernel
theorem dX12_count_152 : decode cX12_count 152 = .ok (.ireturn, 1) := by decide +kernel
theorem dX12_person_0 : decode cX12_person 0 = .ok (.aload_n 0, 1) := by decide +kernel
theorem dX12_person_1 : decode cX12_person 1 = .ok (.iconst 0, 1) := by decide +kernel
theorem dX12_person_2 : decode cX12_person 2 = .ok (.putfield 154, 3) := by decide +kernel
theorem dX12_person_5 : decode cX12_person 5 = .ok (.aload_n 0, 1) := by decide +kernel
theorem dX12_person_6 : decode cX12_person 6 = .ok (.iload_n 1, 1) := by decide +kernel
theorem dX12_person_7 : decode cX12_person 7 = .ok (.invokevirtual 394, 3) := by decide +kernel
theorem dX12_person_10 : decode cX12_person 10 = .ok (.ifCond .ne 9, 3) := by decide +kernel
theorem dX12_person_13 : decode cX12_person 13 = .ok (.aload_n 0, 1) := by decide +kernel
theorem dX12_person_14 : decode cX12_person 14 = .ok (.iconst 1, 1) := by decide +kernel
theorem dX12_person_15 : decode cX12_person 15 = .ok (.invokevirtual 295, 3) := by decide +kernel
theorem dX12_person_18 : decode cX12_person 18 = .ok (.ireturn, 1) := by decide +kernel
theorem dX12_person_19 : decode cX12_person 19 = .ok (.iload_n 2, 1) := by decide +kernel
theorem dX12_person_20 : decode cX12_person 20 = .ok (.tableswitch 118 0 8 #[52, 59, 66, 72, 79, 89, 96, 103, 112], 52) := by decide +kernel
theorem dX12_person_72 : decode cX12_person 72 = .ok (.aload_n 0, 1) := by decide +kernel
theorem dX12_person_73 : decode cX12_person 73 = .ok (.getfield 81, 3) := by decide +kernel
theorem dX12_person_76 : decode cX12_person 76 = .ok (.iload_n 1, 1) := by decide +kernel
theorem dX12_person_77 : decode cX12_person 77 = .ok (.iaload, 1) := by decide +kernel
theorem dX12_person_78 : decode cX12_person 78 = .ok (.ireturn, 1) := by decide +kernel
theorem dX12_person_79 : decode cX12_person 79 = .ok (.aload_n 0, 1) := by decide +kernel
theorem dX12_person_80 : decode cX12_person 80 = .ok (.getfield 85, 3) := by decide +kernel
theorem dX12_person_83 : decode cX12_person 83 = .ok (.iload_n 1, 1) := by decide +kernel
theorem dX12_person_84 : decode cX12_person 84 = .ok (.iaload, 1) := by decide +kernel
theorem dX12_person_85 : decode cX12_person 85 = .ok (.ireturn, 1) := by decide +kernel
theorem dX12_person_86 : decode cX12_person 86 = .ok (.aload_n 0, 1) := by decide +kernel
theorem dX12_person_87 : decode cX12_person 87 = .ok (.iload_n 1, 1) := by decide +kernel
theorem dX12_person_88 : decode cX12_person 88 = .ok (.invokevirtual 341, 3) := by decide +kernel
theorem dX12_person_91 : decode cX12_person 91 = .ok (.ireturn, 1) := by decide +kernel
theorem dX12_person_92 : decode cX12_person 92 = .ok (.aload_n 0, 1) := by decide +kernel
theorem dX12_person_93 : decode cX12_person 93 = .ok (.getfield 72, 3) := by decide +kernel
theorem dX12_person_96 : decode cX12_person 96 = .ok (.iload_n 1, 1) := by decide +kernel
theorem dX12_person_97 : decode cX12_person 97 = .ok (.iaload, 1) := by decide +kernel
theorem dX12_person_98 : decode cX12_person 98 = .ok (.ireturn, 1) := by decide +kernel
theorem dX12_person_99 : decode cX12_person 99 = .ok (.aload_n 0, 1) := by decide +kernel
theorem dX12_person_100 : decode cX12_person 100 = .ok (.iload_n 1, 1) := by decide +kernel
theorem dX12_person_101 : decode cX12_person 101 = .ok (.aload_n 0, 1) := by decide +kernel
theorem dX12_person_102 : decode cX12_person 102 = .ok (.getfield 308, 3) := by decide +kernel
theorem dX12_person_105 : decode cX12_person 105 = .ok (.invokevirtual 328, 3) := by decide +kernel
theorem dX12_person_108 : decode cX12_person 108 = .ok (.ireturn, 1) := by decide +kernel
theorem dX12_person_109 : decode cX12_person 109 = .ok (.aload_n 0, 1) := by decide +kernel
theorem dX12_person_110 : decode cX12_person 110 = .ok (.getfield 83, 3) := by decide +kernel
theorem dX12_person_113 : decode cX12_person 113 = .ok (.iload_n 1, 1) := by decide +kernel
theorem dX12_person_114 : decode cX12_person 114 = .ok (.iaload, 1) := by decide +kernel
theorem dX12_person_115 : decode cX12_person 115 = .ok (.ireturn, 1) := by decide +kernel
theorem dX12_person_116 : decode cX12_person 116 = .ok (.aload_n 0, 1) := by decide +kernel
theorem dX12_person_117 : decode cX12_person 117 = .ok (.getfield 46, 3) := by decide +kernel
theorem dX12_person_120 : decode cX12_person 120 = .ok (.iload_n 1, 1) := by decide +kernel
theorem dX12_person_121 : decode cX12_person 121 = .ok (.iaload, 1) := by decide +kernel
theorem dX12_person_122 : decode cX12_person 122 = .ok (.ireturn, 1) := by decide +kernel
theorem dX12_person_123 : decode cX12_person 123 = .ok (.aload_n 0, 1) := by decide +kernel
theorem dX12_person_124 : decode cX12_person 124 = .ok (.getfield 316, 3) := by decide +kernel
theorem dX12_person_127 : decode cX12_person 127 = .ok (.iload_n 1, 1) := by decide +kernel
theorem dX12_person_128 : decode cX12_person 128 = .ok (.ishr, 1) := by decide +kernel
theorem dX12_person_129 : decode cX12_person 129 = .ok (.iconst 1, 1) := by decide +kernel
theorem dX12_person_130 : decode cX12_person 130 = .ok (.iand, 1) := by decide +kernel
theorem dX12_person_131 : decode cX12_person 131 = .ok (.ireturn, 1) := by decide +kernel
theorem dX12_person_132 : decode cX12_person 132 = .ok (.aload_n 0, 1) := by decide +kernel
theorem dX12_person_133 : decode cX12_person 133 = .ok (.iload_n 1, 1) := by decide +kernel
theorem dX12_person_134 : decode cX12_person 134 = .ok (.invokevirtual 344, 3) := by decide +kernel
theorem dX12_person_137 : decode cX12_person 137 = .ok (.ireturn, 1) := by decide +kernel
theorem dX12_person_138 : decode cX12_person 138 = .ok (.aload_n 0, 1) := by decide +kernel
theorem dX12_person_139 : decode cX12_person 139 = .ok (.iconst 1, 1) := by decide +kernel
theorem dX12_person_140 : decode cX12_person 140 = .ok (.invokevirtual 295, 3) := by decide +kernel
theorem dX12_person_143 : decode cX12_person 143 = .ok (.ireturn, 1) := by decide +kernel
theorem dX12_refuse_0 : decode cX12_refuse 0 = .ok (.aload_n 0, 1) := by decide +kernel
theorem dX12_refuse_1 : decode cX12_refuse 1 = .ok (.getfield 69, 3) := by decide +kernel
theorem dX12_refuse_4 : decode cX12_refuse 4 = .ok (.iload_n 1, 1) := by decide +kernel
theorem dX12_refuse_5 : decode cX12_refuse 5 = .ok (.dup2, 1) := by decide +kernel
theorem dX12_refuse_6 : decode cX12_refuse 6 = .ok (.iaload, 1) := by decide +kernel
theorem dX12_refuse_7 : decode cX12_refuse 7 = .ok (.iconst 1, 1) := by decide +kernel
theorem dX12_refuse_8 : decode cX12_refuse 8 = .ok (.iadd, 1) := by decide +kernel
theorem dX12_refuse_9 : decode cX12_refuse 9 = .ok (.iastore, 1) := by decide +kernel
theorem dX12_refuse_10 : decode cX12_refuse 10 = .ok (.iconst (-1), 1) := by decide +kernel
theorem dX12_refuse_11 : decode cX12_refuse 11 = .ok (.ireturn, 1) := by decide +kernel
theorem dX12_refused_0 : decode cX12_refused 0 = .ok (.aload_n 0, 1) := by decide +kernel
theorem dX12_refused_1 : decode cX12_refused 1 = .ok (.getfield 69, 3) := by decide +kernel
theorem dX12_refused_4 : decode cX12_refused 4 = .ok (.iconst 1, 1) := by decide +kernel
theorem dX12_refused_5 : decode cX12_refused 5 = .ok (.dup2, 1) := by decide +kernel
theorem dX12_refused_6 : decode cX12_refused 6 = .ok (.iaload, 1) := by decide +kernel
theorem dX12_refused_7 : decode cX12_refused 7 = .ok (.iconst 1, 1) := by decide +kernel
theorem dX12_refused_8 : decode cX12_refused 8 = .ok (.iadd, 1) := by decide +kernel
theorem dX12_refused_9 : decode cX12_refused 9 = .ok (.iastore, 1) := by decide +kernel
theorem dX12_refused_10 : decode cX12_refused 10 = .ok (.iconst 0, 1) := by decide +kernel
theorem dX12_refused_11 : decode cX12_refused 11 = .ok (.ireturn, 1) := by decide +kernel
theorem dX12_keep_0 : decode cX12_keep 0 = .ok (.aload_n 0, 1) := by decide +kernel
theorem dX12_keep_1 : decode cX12_keep 1 = .ok (.getfield 319, 3) := by decide +kernel
theorem dX12_keep_4 : decode cX12_keep 4 = .ok (.bipush 40, 2) := by decide +kernel
theorem dX12_keep_6 : decode cX12_keep 6 = .ok (.if_icmp .ne 46, 3) := by decide +kernel
theorem dX12_keep_9 : decode cX12_keep 9 = .ok (.bipush 28, 2) := by decide +kernel
theorem dX12_keep_11 : decode cX12_keep 11 = .ok (.istore_n 1, 1) := by decide +kernel
theorem dX12_keep_12 : decode cX12_keep 12 = .ok (.iload_n 1, 1) := by decide +kernel
theorem dX12_keep_13 : decode cX12_keep 13 = .ok (.aload_n 0, 1) := by decide +kernel
theorem dX12_keep_14 : decode cX12_keep 14 = .ok (.getfield 88, 3) := by decide +kernel
theorem dX12_keep_17 : decode cX12_keep 17 = .ok (.arraylength, 1) := by decide +kernel
theorem dX12_keep_18 : decode cX12_keep 18 = .ok (.if_icmp .ge 24, 3) := by decide +kernel
theorem dX12_keep_21 : decode cX12_keep 21 = .ok (.aload_n 0, 1) := by decide +kernel
theorem dX12_keep_22 : decode cX12_keep 22 = .ok (.getfield 88, 3) := by decide +kernel
theorem dX12_keep_25 : decode cX12_keep 25 = .ok (.iload_n 1, 1) := by decide +kernel
theorem dX12_keep_26 : decode cX12_keep 26 = .ok (.bipush 28, 2) := by decide +kernel
theorem dX12_keep_28 : decode cX12_keep 28 = .ok (.isub, 1) := by decide +kernel
theorem dX12_keep_29 : decode cX12_keep 29 = .ok (.aload_n 0, 1) := by decide +kernel
theorem dX12_keep_30 : decode cX12_keep 30 = .ok (.getfield 88, 3) := by decide +kernel
theorem dX12_keep_33 : decode cX12_keep 33 = .ok (.iload_n 1, 1) := by decide +kernel
theorem dX12_keep_34 : decode cX12_keep 34 = .ok (.iaload, 1) := by decide +kernel
theorem dX12_keep_35 : decode cX12_keep 35 = .ok (.iastore, 1) := by decide +kernel
theorem dX12_keep_36 : decode cX12_keep 36 = .ok (.iinc 1 1, 3) := by decide +kernel
theorem dX12_keep_39 : decode cX12_keep 39 = .ok (.goto (-27), 3) := by decide +kernel
theorem dX12_keep_42 : decode cX12_keep 42 = .ok (.aload_n 0, 1) := by decide +kernel
theorem dX12_keep_43 : decode cX12_keep 43 = .ok (.dup, 1) := by decide +kernel
theorem dX12_keep_44 : decode cX12_keep 44 = .ok (.getfield 319, 3) := by decide +kernel
theorem dX12_keep_47 : decode cX12_keep 47 = .ok (.iconst 1, 1) := by decide +kernel
theorem dX12_keep_48 : decode cX12_keep 48 = .ok (.isub, 1) := by decide +kernel
theorem dX12_keep_49 : decode cX12_keep 49 = .ok (.putfield 319, 3) := by decide +kernel
theorem dX12_keep_52 : decode cX12_keep 52 = .ok (.aload_n 0, 1) := by decide +kernel
theorem dX12_keep_53 : decode cX12_keep 53 = .ok (.aload_n 0, 1) := by decide +kernel
theorem dX12_keep_54 : decode cX12_keep 54 = .ok (.getfield 88, 3) := by decide +kernel
theorem dX12_keep_57 : decode cX12_keep 57 = .ok (.bipush 28, 2) := by decide +kernel
theorem dX12_keep_59 : decode cX12_keep 59 = .ok (.aload_n 0, 1) := by decide +kernel
theorem dX12_keep_60 : decode cX12_keep 60 = .ok (.getfield 319, 3) := by decide +kernel
theorem dX12_keep_63 : decode cX12_keep 63 = .ok (.imul, 1) := by decide +kernel
theorem dX12_keep_64 : decode cX12_keep 64 = .ok (.invokevirtual 397, 3) := by decide +kernel
theorem dX12_keep_67 : decode cX12_keep 67 = .ok (.aload_n 0, 1) := by decide +kernel
theorem dX12_keep_68 : decode cX12_keep 68 = .ok (.dup, 1) := by decide +kernel
theorem dX12_keep_69 : decode cX12_keep 69 = .ok (.getfield 319, 3) := by decide +kernel
theorem dX12_keep_72 : decode cX12_keep 72 = .ok (.iconst 1, 1) := by decide +kernel
theorem dX12_keep_73 : decode cX12_keep 73 = .ok (.iadd, 1) := by decide +kernel
theorem dX12_keep_74 : decode cX12_keep 74 = .ok (.putfield 319, 3) := by decide +kernel
theorem dX12_keep_77 : decode cX12_keep 77 = .ok (.return_, 1) := by decide +kernel
theorem dX12_steps_0 : decode cX12_steps 0 = .ok (.aload_n 0, 1) := by decide +kernel
theorem dX12_steps_1 : decode cX12_steps 1 = .ok (.iconst 0, 1) := by decide +kernel
theorem dX12_steps_2 : decode cX12_steps 2 = .ok (.putfield 154, 3) := by decide +kernel
theorem dX12_steps_5 : decode cX12_steps 5 = .ok (.iload_n 1, 1) := by decide +kernel
theorem dX12_steps_6 : decode cX12_steps 6 = .ok (.i2l, 1) := by decide +kernel
theorem dX12_steps_7 : decode cX12_steps 7 = .ok (.lconst 1, 1) := by decide +kernel
theorem dX12_steps_8 : decode cX12_steps 8 = .ok (.ldc2_w 401, 3) := by decide +kernel
theorem dX12_steps_11 : decode cX12_steps 11 = .ok (.invokestatic 157, 3) := by decide +kernel
theorem dX12_steps_14 : decode cX12_steps 14 = .ok (.ifCond .eq 15, 3) := by decide +kernel
theorem dX12_steps_17 : decode cX12_steps 17 = .ok (.aload_n 0, 1) := by decide +kernel
theorem dX12_steps_18 : decode cX12_steps 18 = .ok (.getfield 308, 3) := by decide +kernel
theorem dX12_steps_21 : decode cX12_steps 21 = .ok (.iload_n 1, 1) := by decide +kernel
theorem dX12_steps_22 : decode cX12_steps 22 = .ok (.iadd, 1) := by decide +kernel
theorem dX12_steps_23 : decode cX12_steps 23 = .ok (.sipush 999, 3) := by decide +kernel
theorem dX12_steps_26 : decode cX12_steps 26 = .ok (.if_icmp .le 9, 3) := by decide +kernel
theorem dX12_steps_29 : decode cX12_steps 29 = .ok (.aload_n 0, 1) := by decide +kernel
theorem dX12_steps_30 : decode cX12_steps 30 = .ok (.iconst 1, 1) := by decide +kernel
theorem dX12_steps_31 : decode cX12_steps 31 = .ok (.invokevirtual 403, 3) := by decide +kernel
theorem dX12_steps_34 : decode cX12_steps 34 = .ok (.ireturn, 1) := by decide +kernel
theorem dX12_steps_35 : decode cX12_steps 35 = .ok (.aload_n 0, 1) := by decide +kernel
theorem dX12_steps_36 : decode cX12_steps 36 = .ok (.invokevirtual 406, 3) := by decide +kernel
theorem dX12_steps_39 : decode cX12_steps 39 = .ok (.aload_n 0, 1) := by decide +kernel
theorem dX12_steps_40 : decode cX12_steps 40 = .ok (.iload_n 1, 1) := by decide +kernel
theorem dX12_steps_41 : decode cX12_steps 41 = .ok (.invokevirtual 409, 3) := by decide +kernel
theorem dX12_steps_44 : decode cX12_steps 44 = .ok (.aload_n 0, 1) := by decide +kernel
theorem dX12_steps_45 : decode cX12_steps 45 = .ok (.getfield 308, 3) := by decide +kernel
theorem dX12_steps_48 : decode cX12_steps 48 = .ok (.ireturn, 1) := by decide +kernel
theorem dX12_set_0 : decode cX12_set 0 = .ok (.aload_n 0, 1) := by decide +kernel
theorem dX12_set_1 : decode cX12_set 1 = .ok (.iconst 0, 1) := by decide +kernel
theorem dX12_set_2 : decode cX12_set 2 = .ok (.putfield 154, 3) := by decide +kernel
theorem dX12_set_5 : decode cX12_set 5 = .ok (.aload_n 0, 1) := by decide +kernel
theorem dX12_set_6 : decode cX12_set 6 = .ok (.iload_n 1, 1) := by decide +kernel
theorem dX12_set_7 : decode cX12_set 7 = .ok (.invokevirtual 394, 3) := by decide +kernel
theorem dX12_set_10 : decode cX12_set 10 = .ok (.ifCond .ne 9, 3) := by decide +kernel
theorem dX12_set_13 : decode cX12_set 13 = .ok (.aload_n 0, 1) := by decide +kernel
theorem dX12_set_14 : decode cX12_set 14 = .ok (.iconst 1, 1) := by decide +kernel
theorem dX12_set_15 : decode cX12_set 15 = .ok (.invokevirtual 295, 3) := by decide +kernel
theorem dX12_set_18 : decode cX12_set 18 = .ok (.ireturn, 1) := by decide +kernel
theorem dX12_set_19 : decode cX12_set 19 = .ok (.aload_n 0, 1) := by decide +kernel
theorem dX12_set_20 : decode cX12_set 20 = .ok (.getfield 85, 3) := by decide +kernel
theorem dX12_set_23 : decode cX12_set 23 = .ok (.iload_n 1, 1) := by decide +kernel
theorem dX12_set_24 : decode cX12_set 24 = .ok (.iaload, 1) := by decide +kernel
theorem dX12_set_25 : decode cX12_set 25 = .ok (.istore_n 3, 1) := by decide +kernel
theorem dX12_set_26 : decode cX12_set 26 = .ok (.iload_n 2, 1) := by decide +kernel
theorem dX12_set_27 : decode cX12_set 27 = .ok (.i2l, 1) := by decide +kernel
theorem dX12_set_28 : decode cX12_set 28 = .ok (.lconst 0, 1) := by decide +kernel
theorem dX12_set_29 : decode cX12_set 29 = .ok (.ldc2_w 412, 3) := by decide +kernel
theorem dX12_set_32 : decode cX12_set 32 = .ok (.invokestatic 157, 3) := by decide +kernel
theorem dX12_set_35 : decode cX12_set 35 = .ok (.ifCond .eq 8, 3) := by decide +kernel
theorem dX12_set_38 : decode cX12_set 38 = .ok (.iload_n 2, 1) := by decide +kernel
theorem dX12_set_39 : decode cX12_set 39 = .ok (.iload_n 3, 1) := by decide +kernel
theorem dX12_set_40 : decode cX12_set 40 = .ok (.if_icmp .ne 9, 3) := by decide +kernel
theorem dX12_set_43 : decode cX12_set 43 = .ok (.aload_n 0, 1) := by decide +kernel
theorem dX12_set_44 : decode cX12_set 44 = .ok (.iconst 1, 1) := by decide +kernel
theorem dX12_set_45 : decode cX12_set 45 = .ok (.invokevirtual 403, 3) := by decide +kernel
theorem dX12_set_48 : decode cX12_set 48 = .ok (.ireturn, 1) := by decide +kernel
theorem dX12_set_49 : decode cX12_set 49 = .ok (.aload_n 0, 1) := by decide +kernel
theorem dX12_set_50 : decode cX12_set 50 = .ok (.invokevirtual 406, 3) := by decide +kernel
theorem dX12_set_53 : decode cX12_set 53 = .ok (.aload_n 0, 1) := by decide +kernel
theorem dX12_set_54 : decode cX12_set 54 = .ok (.getfield 85, 3) := by decide +kernel
theorem dX12_set_57 : decode cX12_set 57 = .ok (.iload_n 1, 1) := by decide +kernel
theorem dX12_set_58 : decode cX12_set 58 = .ok (.iload_n 2, 1) := by decide +kernel
theorem dX12_set_59 : decode cX12_set 59 = .ok (.iastore, 1) := by decide +kernel
theorem dX12_set_60 : decode cX12_set 60 = .ok (.iload_n 3, 1) := by decide +kernel
theorem dX12_set_61 : decode cX12_set 61 = .ok (.ireturn, 1) := by decide +kernel
theorem dX12_give_0 : decode cX12_give 0 = .ok (.aload_n 0, 1) := by decide +kernel
theorem dX12_give_1 : decode cX12_give 1 = .ok (.iconst 0, 1) := by decide +kernel
theorem dX12_give_2 : decode cX12_give 2 = .ok (.putfield 154, 3) := by decide +kernel
theorem dX12_give_5 : decode cX12_give 5 = .ok (.aload_n 0, 1) := by decide +kernel
theorem dX12_give_6 : decode cX12_give 6 = .ok (.iload_n 1, 1) := by decide +kernel
theorem dX12_give_7 : decode cX12_give 7 = .ok (.invokevirtual 394, 3) := by decide +kernel
theorem dX12_give_10 : decode cX12_give 10 = .ok (.ifCond .ne 9, 3) := by decide +kernel
theorem dX12_give_13 : decode cX12_give 13 = .ok (.aload_n 0, 1) := by decide +kernel
theorem dX12_give_14 : decode cX12_give 14 = .ok (.iconst 1, 1) := by decide +kernel
theorem dX12_give_15 : decode cX12_give 15 = .ok (.invokevirtual 295, 3) := by decide +kernel
theorem dX12_give_18 : decode cX12_give 18 = .ok (.ireturn, 1) := by decide +kernel
theorem dX12_give_19 : decode cX12_give 19 = .ok (.iload_n 2, 1) := by decide +kernel
theorem dX12_give_20 : decode cX12_give 20 = .ok (.i2l, 1) := by decide +kernel
theorem dX12_give_21 : decode cX12_give 21 = .ok (.lconst 1, 1) := by decide +kernel
theorem dX12_give_22 : decode cX12_give 22 = .ok (.ldc2_w 414, 3) := by decide +kernel
theorem dX12_give_25 : decode cX12_give 25 = .ok (.invokestatic 157, 3) := by decide +kernel
theorem dX12_give_28 : decode cX12_give 28 = .ok (.ifCond .ne 9, 3) := by decide +kernel
theorem dX12_give_31 : decode cX12_give 31 = .ok (.aload_n 0, 1) := by decide +kernel
theorem dX12_give_32 : decode cX12_give 32 = .ok (.iconst 1, 1) := by decide +kernel
theorem dX12_give_33 : decode cX12_give 33 = .ok (.invokevirtual 403, 3) := by decide +kernel
theorem dX12_give_36 : decode cX12_give 36 = .ok (.ireturn, 1) := by decide +kernel
theorem dX12_give_37 : decode cX12_give 37 = .ok (.aload_n 0, 1) := by decide +kernel
theorem dX12_give_38 : decode cX12_give 38 = .ok (.invokevirtual 406, 3) := by decide +kernel
theorem dX12_give_41 : decode cX12_give 41 = .ok (.aload_n 0, 1) := by decide +kernel
theorem dX12_give_42 : decode cX12_give 42 = .ok (.getfield 81, 3) := by decide +kernel
theorem dX12_give_45 : decode cX12_give 45 = .ok (.iload_n 1, 1) := by decide +kernel
theorem dX12_give_46 : decode cX12_give 46 = .ok (.sipush 999, 3) := by decide +kernel
theorem dX12_give_49 : decode cX12_give 49 = .ok (.aload_n 0, 1) := by decide +kernel
theorem dX12_give_50 : decode cX12_give 50 = .ok (.getfield 81, 3) := by decide +kernel
theorem dX12_give_53 : decode cX12_give 53 = .ok (.iload_n 1, 1) := by decide +kernel
theorem dX12_give_54 : decode cX12_give 54 = .ok (.iaload, 1) := by decide +kernel
theorem dX12_give_55 : decode cX12_give 55 = .ok (.iload_n 2, 1) := by decide +kernel
theorem dX12_give_56 : decode cX12_give 56 = .ok (.iadd, 1) := by decide +kernel
theorem dX12_give_57 : decode cX12_give 57 = .ok (.invokestatic 191, 3) := by decide +kernel
theorem dX12_give_60 : decode cX12_give 60 = .ok (.iastore, 1) := by decide +kernel
theorem dX12_give_61 : decode cX12_give 61 = .ok (.aload_n 0, 1) := by decide +kernel
theorem dX12_give_62 : decode cX12_give 62 = .ok (.getfield 81, 3) := by decide +kernel
theorem dX12_give_65 : decode cX12_give 65 = .ok (.iload_n 1, 1) := by decide +kernel
theorem dX12_give_66 : decode cX12_give 66 = .ok (.iaload, 1) := by decide +kernel
theorem dX12_give_67 : decode cX12_give 67 = .ok (.ireturn, 1) := by decide +kernel
theorem dX12_stop_0 : decode cX12_stop 0 = .ok (.aload_n 0, 1) := by decide +kernel
theorem dX12_stop_1 : decode cX12_stop 1 = .ok (.iconst 0, 1) := by decide +kernel
theorem dX12_stop_2 : decode cX12_stop 2 = .ok (.putfield 154, 3) := by decide +kernel
theorem dX12_stop_5 : decode cX12_stop 5 = .ok (.aload_n 0, 1) := by decide +kernel
theorem dX12_stop_6 : decode cX12_stop 6 = .ok (.getfield 313, 3) := by decide +kernel
theorem dX12_stop_9 : decode cX12_stop 9 = .ok (.iconst 1, 1) := by decide +kernel
theorem dX12_stop_10 : decode cX12_stop 10 = .ok (.if_icmp .ne 7, 3) := by decide +kernel
theorem dX12_stop_13 : decode cX12_stop 13 = .ok (.iconst 1, 1) := by decide +kernel
theorem dX12_stop_14 : decode cX12_stop 14 = .ok (.goto 4, 3) := by decide +kernel
theorem dX12_stop_17 : decode cX12_stop 17 = .ok (.iconst 0, 1) := by decide +kernel
theorem dX12_stop_18 : decode cX12_stop 18 = .ok (.iload_n 1, 1) := by decide +kernel
theorem dX12_stop_19 : decode cX12_stop 19 = .ok (.if_icmp .ne 8, 3) := by decide +kernel
theorem dX12_stop_22 : decode cX12_stop 22 = .ok (.aload_n 0, 1) := by decide +kernel
theorem dX12_stop_23 : decode cX12_stop 23 = .ok (.invokevirtual 416, 3) := by decide +kernel
theorem dX12_stop_26 : decode cX12_stop 26 = .ok (.ireturn, 1) := by decide +kernel
theorem dX12_stop_27 : decode cX12_stop 27 = .ok (.aload_n 0, 1) := by decide +kernel
theorem dX12_stop_28 : decode cX12_stop 28 = .ok (.invokevirtual 406, 3) := by decide +kernel
theorem dX12_stop_31 : decode cX12_stop 31 = .ok (.aload_n 0, 1) := by decide +kernel
theorem dX12_stop_32 : decode cX12_stop 32 = .ok (.iload_n 1, 1) := by decide +kernel
theorem dX12_stop_33 : decode cX12_stop 33 = .ok (.ifCond .eq 7, 3) := by decide +kernel
theorem dX12_stop_36 : decode cX12_stop 36 = .ok (.iconst 1, 1) := by decide +kernel
theorem dX12_stop_37 : decode cX12_stop 37 = .ok (.goto 4, 3) := by decide +kernel
theorem dX12_stop_40 : decode cX12_stop 40 = .ok (.iconst 0, 1) := by decide +kernel
theorem dX12_stop_41 : decode cX12_stop 41 = .ok (.putfield 313, 3) := by decide +kernel
theorem dX12_stop_44 : decode cX12_stop 44 = .ok (.iconst 1, 1) := by decide +kernel
theorem dX12_stop_45 : decode cX12_stop 45 = .ok (.ireturn, 1) := by decide +kernel
theorem dX12_stay_0 : decode cX12_stay 0 = .ok (.aload_n 0, 1) := by decide +kernel
theorem dX12_stay_1 : decode cX12_stay 1 = .ok (.iconst 0, 1) := by decide +kernel
theorem dX12_stay_2 : decode cX12_stay 2 = .ok (.putfield 154, 3) := by decide +kernel
theorem dX12_stay_5 : decode cX12_stay 5 = .ok (.aload_n 0, 1) := by decide +kernel
theorem dX12_stay_6 : decode cX12_stay 6 = .ok (.iload_n 1, 1) := by decide +kernel
theorem dX12_stay_7 : decode cX12_stay 7 = .ok (.invokevirtual 394, 3) := by decide +kernel
theorem dX12_stay_10 : decode cX12_stay 10 = .ok (.ifCond .ne 9, 3) := by decide +kernel
theorem dX12_stay_13 : decode cX12_stay 13 = .ok (.aload_n 0, 1) := by decide +kernel
theorem dX12_stay_14 : decode cX12_stay 14 = .ok (.iconst 1, 1) := by decide +kernel
theorem dX12_stay_15 : decode cX12_stay 15 = .ok (.invokevirtual 420, 3) := by decide +kernel
theorem dX12_stay_18 : decode cX12_stay 18 = .ok (.ireturn, 1) := by decide +kernel
theorem dX12_stay_19 : decode cX12_stay 19 = .ok (.aload_n 0, 1) := by decide +kernel
theorem dX12_stay_20 : decode cX12_stay 20 = .ok (.getfield 316, 3) := by decide +kernel
theorem dX12_stay_23 : decode cX12_stay 23 = .ok (.iload_n 1, 1) := by decide +kernel
theorem dX12_stay_24 : decode cX12_stay 24 = .ok (.invokestatic 363, 3) := by decide +kernel
theorem dX12_stay_27 : decode cX12_stay 27 = .ok (.iload_n 2, 1) := by decide +kernel
theorem dX12_stay_28 : decode cX12_stay 28 = .ok (.if_icmp .ne 8, 3) := by decide +kernel
theorem dX12_stay_31 : decode cX12_stay 31 = .ok (.aload_n 0, 1) := by decide +kernel
theorem dX12_stay_32 : decode cX12_stay 32 = .ok (.invokevirtual 416, 3) := by decide +kernel
theorem dX12_stay_35 : decode cX12_stay 35 = .ok (.ireturn, 1) := by decide +kernel
theorem dX12_stay_36 : decode cX12_stay 36 = .ok (.aload_n 0, 1) := by decide +kernel
theorem dX12_stay_37 : decode cX12_stay 37 = .ok (.invokevirtual 406, 3) := by decide +kernel
theorem dX12_stay_40 : decode cX12_stay 40 = .ok (.aload_n 0, 1) := by decide +kernel
theorem dX12_stay_41 : decode cX12_stay 41 = .ok (.dup, 1) := by decide +kernel
theorem dX12_stay_42 : decode cX12_stay 42 = .ok (.getfield 316, 3) := by decide +kernel
theorem dX12_stay_45 : decode cX12_stay 45 = .ok (.iconst 1, 1) := by decide +kernel
theorem dX12_stay_46 : decode cX12_stay 46 = .ok (.iload_n 1, 1) := by decide +kernel
theorem dX12_stay_47 : decode cX12_stay 47 = .ok (.ishl, 1) := by decide +kernel
theorem dX12_stay_48 : decode cX12_stay 48 = .ok (.ixor, 1) := by decide +kernel
theorem dX12_stay_49 : decode cX12_stay 49 = .ok (.putfield 316, 3) := by decide +kernel
theorem dX12_stay_52 : decode cX12_stay 52 = .ok (.iconst 1, 1) := by decide +kernel
theorem dX12_stay_53 : decode cX12_stay 53 = .ok (.ireturn, 1) := by decide +kernel
theorem dX12_undo_0 : decode cX12_undo 0 = .ok (.aload_n 0, 1) := by decide +kernel
theorem dX12_undo_1 : decode cX12_undo 1 = .ok (.iconst 0, 1) := by decide +kernel
theorem dX12_undo_2 : decode cX12_undo 2 = .ok (.putfield 154, 3) := by decide +kernel
theorem dX12_undo_5 : decode cX12_undo 5 = .ok (.aload_n 0, 1) := by decide +kernel
theorem dX12_undo_6 : decode cX12_undo 6 = .ok (.getfield 319, 3) := by decide +kernel
theorem dX12_undo_9 : decode cX12_undo 9 = .ok (.ifCond .ne 5, 3) := by decide +kernel
theorem dX12_undo_12 : decode cX12_undo 12 = .ok (.iconst (-1), 1) := by decide +kernel
theorem dX12_undo_13 : decode cX12_undo 13 = .ok (.ireturn, 1) := by decide +kernel
theorem dX12_undo_14 : decode cX12_undo 14 = .ok (.aload_n 0, 1) := by decide +kernel
theorem dX12_undo_15 : decode cX12_undo 15 = .ok (.dup, 1) := by decide +kernel
theorem dX12_undo_16 : decode cX12_undo 16 = .ok (.getfield 319, 3) := by decide +kernel
theorem dX12_undo_19 : decode cX12_undo 19 = .ok (.iconst 1, 1) := by decide +kernel
theorem dX12_undo_20 : decode cX12_undo 20 = .ok (.isub, 1) := by decide +kernel
theorem dX12_undo_21 : decode cX12_undo 21 = .ok (.putfield 319, 3) := by decide +kernel
theorem dX12_undo_24 : decode cX12_undo 24 = .ok (.aload_n 0, 1) := by decide +kernel
theorem dX12_undo_25 : decode cX12_undo 25 = .ok (.aload_n 0, 1) := by decide +kernel
theorem dX12_undo_26 : decode cX12_undo 26 = .ok (.getfield 88, 3) := by decide +kernel
theorem dX12_undo_29 : decode cX12_undo 29 = .ok (.bipush 28, 2) := by decide +kernel
theorem dX12_undo_31 : decode cX12_undo 31 = .ok (.aload_n 0, 1) := by decide +kernel
theorem dX12_undo_32 : decode cX12_undo 32 = .ok (.getfield 319, 3) := by decide +kernel
theorem dX12_undo_35 : decode cX12_undo 35 = .ok (.imul, 1) := by decide +kernel
theorem dX12_undo_36 : decode cX12_undo 36 = .ok (.invokevirtual 423, 3) := by decide +kernel
theorem dX12_undo_39 : decode cX12_undo 39 = .ok (.aload_n 0, 1) := by decide +kernel
theorem dX12_undo_40 : decode cX12_undo 40 = .ok (.getfield 319, 3) := by decide +kernel
theorem dX12_undo_43 : decode cX12_undo 43 = .ok (.ireturn, 1) := by decide +kernel
theorem dX12_leftThen_0 : decode cX12_leftThen 0 = .ok (.aload_n 0, 1) := by decide +kernel
theorem dX12_leftThen_1 : decode cX12_leftThen 1 = .ok (.aload_n 0, 1) := by decide +kernel
theorem dX12_leftThen_2 : decode cX12_leftThen 2 = .ok (.getfield 103, 3) := by decide +kernel
theorem dX12_leftThen_5 : decode cX12_leftThen 5 = .ok (.iconst 0, 1) := by decide +kernel
theorem dX12_leftThen_6 : decode cX12_leftThen 6 = .ok (.invokevirtual 397, 3) := by decide +kernel
theorem dX12_leftThen_9 : decode cX12_leftThen 9 = .ok (.aload_n 0, 1) := by decide +kernel
theorem dX12_leftThen_10 : decode cX12_leftThen 10 = .ok (.iload_n 2, 1) := by decide +kernel
theorem dX12_leftThen_11 : decode cX12_leftThen 11 = .ok (.invokevirtual 409, 3) := by decide +kernel
theorem dX12_leftThen_14 : decode cX12_leftThen 14 = .ok (.aload_n 0, 1) := by decide +kernel
theorem dX12_leftThen_15 : decode cX12_leftThen 15 = .ok (.getfield 81, 3) := by decide +kernel
theorem dX12_leftThen_18 : decode cX12_leftThen 18 = .ok (.iload_n 1, 1) := by decide +kernel
theorem dX12_leftThen_19 : decode cX12_leftThen 19 = .ok (.iaload, 1) := by decide +kernel
theorem dX12_leftThen_20 : decode cX12_leftThen 20 = .ok (.istore_n 3, 1) := by decide +kernel
theorem dX12_leftThen_21 : decode cX12_leftThen 21 = .ok (.aload_n 0, 1) := by decide +kernel
theorem dX12_leftThen_22 : decode cX12_leftThen 22 = .ok (.aload_n 0, 1) := by decide +kernel
theorem dX12_leftThen_23 : decode cX12_leftThen 23 = .ok (.getfield 103, 3) := by decide +kernel
theorem dX12_leftThen_26 : decode cX12_leftThen 26 = .ok (.iconst 0, 1) := by decide +kernel
theorem dX12_leftThen_27 : decode cX12_leftThen 27 = .ok (.invokevirtual 423, 3) := by decide +kernel
theorem dX12_leftThen_30 : decode cX12_leftThen 30 = .ok (.iload_n 3, 1) := by decide +kernel
theorem dX12_leftThen_31 : decode cX12_leftThen 31 = .ok (.ireturn, 1) := by decide +kernel
theorem dX12_then_0 : decode cX12_then 0 = .ok (.aload_n 0, 1) := by decide +kernel
theorem dX12_then_1 : decode cX12_then 1 = .ok (.iconst 0, 1) := by decide +kernel
theorem dX12_then_2 : decode cX12_then 2 = .ok (.putfield 154, 3) := by decide +kernel
theorem dX12_then_5 : decode cX12_then 5 = .ok (.aload_n 0, 1) := by decide +kernel
theorem dX12_then_6 : decode cX12_then 6 = .ok (.iload_n 1, 1) := by decide +kernel
theorem dX12_then_7 : decode cX12_then 7 = .ok (.invokevirtual 394, 3) := by decide +kernel
theorem dX12_then_10 : decode cX12_then 10 = .ok (.ifCond .eq 12, 3) := by decide +kernel
theorem dX12_then_13 : decode cX12_then 13 = .ok (.iload_n 3, 1) := by decide +kernel
theorem dX12_then_14 : decode cX12_then 14 = .ok (.ifCond .lt 8, 3) := by decide +kernel
theorem dX12_then_17 : decode cX12_then 17 = .ok (.iload_n 3, 1) := by decide +kernel
theorem dX12_then_18 : decode cX12_then 18 = .ok (.iconst 1, 1) := by decide +kernel
theorem dX12_then_19 : decode cX12_then 19 = .ok (.if_icmp .le 9, 3) := by decide +kernel
theorem dX12_then_22 : decode cX12_then 22 = .ok (.aload_n 0, 1) := by decide +kernel
theorem dX12_then_23 : decode cX12_then 23 = .ok (.iconst 1, 1) := by decide +kernel
theorem dX12_then_24 : decode cX12_then 24 = .ok (.invokevirtual 295, 3) := by decide +kernel
theorem dX12_then_27 : decode cX12_then 27 = .ok (.ireturn, 1) := by decide +kernel
theorem dX12_then_28 : decode cX12_then 28 = .ok (.iload_n 2, 1) := by decide +kernel
theorem dX12_then_29 : decode cX12_then 29 = .ok (.i2l, 1) := by decide +kernel
theorem dX12_then_30 : decode cX12_then 30 = .ok (.lconst 0, 1) := by decide +kernel
theorem dX12_then_31 : decode cX12_then 31 = .ok (.ldc2_w 426, 3) := by decide +kernel
theorem dX12_then_34 : decode cX12_then 34 = .ok (.invokestatic 157, 3) := by decide +kernel
theorem dX12_then_37 : decode cX12_then 37 = .ok (.ifCond .ne 9, 3) := by decide +kernel
theorem dX12_then_40 : decode cX12_then 40 = .ok (.aload_n 0, 1) := by decide +kernel
theorem dX12_then_41 : decode cX12_then 41 = .ok (.iconst 2, 1) := by decide +kernel
theorem dX12_then_42 : decode cX12_then 42 = .ok (.invokevirtual 295, 3) := by decide +kernel
theorem dX12_then_45 : decode cX12_then 45 = .ok (.ireturn, 1) := by decide +kernel
theorem dX12_then_46 : decode cX12_then 46 = .ok (.aload_n 0, 1) := by decide +kernel
theorem dX12_then_47 : decode cX12_then 47 = .ok (.aload_n 0, 1) := by decide +kernel
theorem dX12_then_48 : decode cX12_then 48 = .ok (.getfield 103, 3) := by decide +kernel
theorem dX12_then_51 : decode cX12_then 51 = .ok (.iconst 0, 1) := by decide +kernel
theorem dX12_then_52 : decode cX12_then 52 = .ok (.invokevirtual 397, 3) := by decide +kernel
theorem dX12_then_55 : decode cX12_then 55 = .ok (.aload_n 0, 1) := by decide +kernel
theorem dX12_then_56 : decode cX12_then 56 = .ok (.iload_n 2, 1) := by decide +kernel
theorem dX12_then_57 : decode cX12_then 57 = .ok (.invokevirtual 409, 3) := by decide +kernel
theorem dX12_then_60 : decode cX12_then 60 = .ok (.iload_n 3, 1) := by decide +kernel
theorem dX12_then_61 : decode cX12_then 61 = .ok (.ifCond .ne 12, 3) := by decide +kernel
theorem dX12_then_64 : decode cX12_then 64 = .ok (.aload_n 0, 1) := by decide +kernel
theorem dX12_then_65 : decode cX12_then 65 = .ok (.getfield 81, 3) := by decide +kernel
theorem dX12_then_68 : decode cX12_then 68 = .ok (.iload_n 1, 1) := by decide +kernel
theorem dX12_then_69 : decode cX12_then 69 = .ok (.iaload, 1) := by decide +kernel
theorem dX12_then_70 : decode cX12_then 70 = .ok (.goto 9, 3) := by decide +kernel
theorem dX12_then_73 : decode cX12_then 73 = .ok (.aload_n 0, 1) := by decide +kernel
theorem dX12_then_74 : decode cX12_then 74 = .ok (.getfield 83, 3) := by decide +kernel
theorem dX12_then_77 : decode cX12_then 77 = .ok (.iload_n 1, 1) := by decide +kernel
theorem dX12_then_78 : decode cX12_then 78 = .ok (.iaload, 1) := by decide +kernel
theorem dX12_then_79 : decode cX12_then 79 = .ok (.istore 4, 2) := by decide +kernel
theorem dX12_then_81 : decode cX12_then 81 = .ok (.aload_n 0, 1) := by decide +kernel
theorem dX12_then_82 : decode cX12_then 82 = .ok (.aload_n 0, 1) := by decide +kernel
theorem dX12_then_83 : decode cX12_then 83 = .ok (.getfield 103, 3) := by decide +kernel
theorem dX12_then_86 : decode cX12_then 86 = .ok (.iconst 0, 1) := by decide +kernel
theorem dX12_then_87 : decode cX12_then 87 = .ok (.invokevirtual 423, 3) := by decide +kernel
theorem dX12_then_90 : decode cX12_then 90 = .ok (.iload 4, 2) := by decide +kernel
theorem dX12_then_92 : decode cX12_then 92 = .ok (.ireturn, 1) := by decide +kernel
theorem dX12_gained_0 : decode cX12_gained 0 = .ok (.aload_n 0, 1) := by decide +kernel
theorem dX12_gained_1 : decode cX12_gained 1 = .ok (.iconst 0, 1) := by decide +kernel
theorem dX12_gained_2 : decode cX12_gained 2 = .ok (.putfield 154, 3) := by decide +kernel
theorem dX12_gained_5 : decode cX12_gained 5 = .ok (.aload_n 0, 1) := by decide +kernel
theorem dX12_gained_6 : decode cX12_gained 6 = .ok (.iload_n 1, 1) := by decide +kernel
theorem dX12_gained_7 : decode cX12_gained 7 = .ok (.invokevirtual 394, 3) := by decide +kernel
theorem dX12_gained_10 : decode cX12_gained 10 = .ok (.ifCond .ne 9, 3) := by decide +kernel
theorem dX12_gained_13 : decode cX12_gained 13 = .ok (.aload_n 0, 1) := by decide +kernel
theorem dX12_gained_14 : decode cX12_gained 14 = .ok (.iconst 1, 1) := by decide +kernel
theorem dX12_gained_15 : decode cX12_gained 15 = .ok (.invokevirtual 295, 3) := by decide +kernel
theorem dX12_gained_18 : decode cX12_gained 18 = .ok (.ireturn, 1) := by decide +kernel
theorem dX12_gained_19 : decode cX12_gained 19 = .ok (.iload_n 2, 1) := by decide +kernel
theorem dX12_gained_20 : decode cX12_gained 20 = .ok (.i2l, 1) := by decide +kernel
theorem dX12_gained_21 : decode cX12_gained 21 = .ok (.lconst 0, 1) := by decide +kernel
theorem dX12_gained_22 : decode cX12_gained 22 = .ok (.ldc2_w 426, 3) := by decide +kernel
theorem dX12_gained_25 : decode cX12_gained 25 = .ok (.invokestatic 157, 3) := by decide +kernel
theorem dX12_gained_28 : decode cX12_gained 28 = .ok (.ifCond .eq 19, 3) := by decide +kernel
theorem dX12_gained_31 : decode cX12_gained 31 = .ok (.aload_n 0, 1) := by decide +kernel
theorem dX12_gained_32 : decode cX12_gained 32 = .ok (.iload_n 1, 1) := by decide +kernel
theorem dX12_gained_33 : decode cX12_gained 33 = .ok (.iload_n 2, 1) := by decide +kernel
theorem dX12_gained_34 : decode cX12_gained 34 = .ok (.invokevirtual 428, 3) := by decide +kernel
theorem dX12_gained_37 : decode cX12_gained 37 = .ok (.aload_n 0, 1) := by decide +kernel
theorem dX12_gained_38 : decode cX12_gained 38 = .ok (.getfield 81, 3) := by decide +kernel
theorem dX12_gained_41 : decode cX12_gained 41 = .ok (.iload_n 1, 1) := by decide +kernel
theorem dX12_gained_42 : decode cX12_gained 42 = .ok (.iaload, 1) := by decide +kernel
theorem dX12_gained_43 : decode cX12_gained 43 = .ok (.isub, 1) := by decide +kernel
theorem dX12_gained_44 : decode cX12_gained 44 = .ok (.goto 8, 3) := by decide +kernel
theorem dX12_gained_47 : decode cX12_gained 47 = .ok (.aload_n 0, 1) := by decide +kernel
theorem dX12_gained_48 : decode cX12_gained 48 = .ok (.iconst 2, 1) := by decide +kernel
theorem dX12_gained_49 : decode cX12_gained 49 = .ok (.invokevirtual 295, 3) := by decide +kernel
theorem dX12_gained_52 : decode cX12_gained 52 = .ok (.ireturn, 1) := by decide +kernel
theorem dX12_asked_0 : decode cX12_asked 0 = .ok (.aload_n 0, 1) := by decide +kernel
theorem dX12_asked_1 : decode cX12_asked 1 = .ok (.iconst 0, 1) := by decide +kernel
theorem dX12_asked_2 : decode cX12_asked 2 = .ok (.putfield 154, 3) := by decide +kernel
theorem dX12_asked_5 : decode cX12_asked 5 = .ok (.aload_n 0, 1) := by decide +kernel
theorem dX12_asked_6 : decode cX12_asked 6 = .ok (.iload_n 1, 1) := by decide +kernel
theorem dX12_asked_7 : decode cX12_asked 7 = .ok (.invokevirtual 394, 3) := by decide +kernel
theorem dX12_asked_10 : decode cX12_asked 10 = .ok (.ifCond .ne 9, 3) := by decide +kernel
theorem dX12_asked_13 : decode cX12_asked 13 = .ok (.aload_n 0, 1) := by decide +kernel
theorem dX12_asked_14 : decode cX12_asked 14 = .ok (.iconst 1, 1) := by decide +kernel
theorem dX12_asked_15 : decode cX12_asked 15 = .ok (.invokevirtual 295, 3) := by decide +kernel
theorem dX12_asked_18 : decode cX12_asked 18 = .ok (.ireturn, 1) := by decide +kernel
theorem dX12_asked_19 : decode cX12_asked 19 = .ok (.iload_n 2, 1) := by decide +kernel
theorem dX12_asked_20 : decode cX12_asked 20 = .ok (.i2l, 1) := by decide +kernel
theorem dX12_asked_21 : decode cX12_asked 21 = .ok (.lconst 1, 1) := by decide +kernel
theorem dX12_asked_22 : decode cX12_asked 22 = .ok (.ldc2_w 426, 3) := by decide +kernel
theorem dX12_asked_25 : decode cX12_asked 25 = .ok (.invokestatic 157, 3) := by decide +kernel
theorem dX12_asked_28 : decode cX12_asked 28 = .ok (.ifCond .ne 9, 3) := by decide +kernel
theorem dX12_asked_31 : decode cX12_asked 31 = .ok (.aload_n 0, 1) := by decide +kernel
theorem dX12_asked_32 : decode cX12_asked 32 = .ok (.iconst 2, 1) := by decide +kernel
theorem dX12_asked_33 : decode cX12_asked 33 = .ok (.invokevirtual 295, 3) := by decide +kernel
theorem dX12_asked_36 : decode cX12_asked 36 = .ok (.ireturn, 1) := by decide +kernel
theorem dX12_asked_37 : decode cX12_asked 37 = .ok (.aload_n 0, 1) := by decide +kernel
theorem dX12_asked_38 : decode cX12_asked 38 = .ok (.aload_n 0, 1) := by decide +kernel
theorem dX12_asked_39 : decode cX12_asked 39 = .ok (.getfield 103, 3) := by decide +kernel
theorem dX12_asked_42 : decode cX12_asked 42 = .ok (.iconst 0, 1) := by decide +kernel
theorem dX12_asked_43 : decode cX12_asked 43 = .ok (.invokevirtual 397, 3) := by decide +kernel
theorem dX12_asked_46 : decode cX12_asked 46 = .ok (.aload_n 0, 1) := by decide +kernel
theorem dX12_asked_47 : decode cX12_asked 47 = .ok (.iload_n 2, 1) := by decide +kernel
theorem dX12_asked_48 : decode cX12_asked 48 = .ok (.invokevirtual 409, 3) := by decide +kernel
theorem dX12_asked_51 : decode cX12_asked 51 = .ok (.aload_n 0, 1) := by decide +kernel
theorem dX12_asked_52 : decode cX12_asked 52 = .ok (.aload_n 0, 1) := by decide +kernel
theorem dX12_asked_53 : decode cX12_asked 53 = .ok (.getfield 103, 3) := by decide +kernel
theorem dX12_asked_56 : decode cX12_asked 56 = .ok (.iconst 0, 1) := by decide +kernel
theorem dX12_asked_57 : decode cX12_asked 57 = .ok (.invokevirtual 423, 3) := by decide +kernel
theorem dX12_asked_60 : decode cX12_asked 60 = .ok (.aload_n 0, 1) := by decide +kernel
theorem dX12_asked_61 : decode cX12_asked 61 = .ok (.getfield 97, 3) := by decide +kernel
theorem dX12_asked_64 : decode cX12_asked 64 = .ok (.iload_n 1, 1) := by decide +kernel
theorem dX12_asked_65 : decode cX12_asked 65 = .ok (.iaload, 1) := by decide +kernel
theorem dX12_asked_66 : decode cX12_asked 66 = .ok (.ireturn, 1) := by decide +kernel
theorem dX12_spent_0 : decode cX12_spent 0 = .ok (.aload_n 0, 1) := by decide +kernel
theorem dX12_spent_1 : decode cX12_spent 1 = .ok (.iconst 0, 1) := by decide +kernel
theorem dX12_spent_2 : decode cX12_spent 2 = .ok (.putfield 154, 3) := by decide +kernel
theorem dX12_spent_5 : decode cX12_spent 5 = .ok (.aload_n 0, 1) := by decide +kernel
theorem dX12_spent_6 : decode cX12_spent 6 = .ok (.iload_n 1, 1) := by decide +kernel
theorem dX12_spent_7 : decode cX12_spent 7 = .ok (.invokevirtual 394, 3) := by decide +kernel
theorem dX12_spent_10 : decode cX12_spent 10 = .ok (.ifCond .ne 9, 3) := by decide +kernel
theorem dX12_spent_13 : decode cX12_spent 13 = .ok (.aload_n 0, 1) := by decide +kernel
theorem dX12_spent_14 : decode cX12_spent 14 = .ok (.iconst 1, 1) := by decide +kernel
theorem dX12_spent_15 : decode cX12_spent 15 = .ok (.invokevirtual 295, 3) := by decide +kernel
theorem dX12_spent_18 : decode cX12_spent 18 = .ok (.ireturn, 1) := by decide +kernel
theorem dX12_spent_19 : decode cX12_spent 19 = .ok (.aload_n 0, 1) := by decide +kernel
theorem dX12_spent_20 : decode cX12_spent 20 = .ok (.aload_n 0, 1) := by decide +kernel
theorem dX12_spent_21 : decode cX12_spent 21 = .ok (.getfield 103, 3) := by decide +kernel
theorem dX12_spent_24 : decode cX12_spent 24 = .ok (.iconst 0, 1) := by decide +kernel
theorem dX12_spent_25 : decode cX12_spent 25 = .ok (.invokevirtual 397, 3) := by decide +kernel
theorem dX12_spent_28 : decode cX12_spent 28 = .ok (.iconst (-1), 1) := by decide +kernel
theorem dX12_spent_29 : decode cX12_spent 29 = .ok (.istore_n 2, 1) := by decide +kernel
theorem dX12_spent_30 : decode cX12_spent 30 = .ok (.iconst 0, 1) := by decide +kernel
theorem dX12_spent_31 : decode cX12_spent 31 = .ok (.istore_n 3, 1) := by decide +kernel
theorem dX12_spent_32 : decode cX12_spent 32 = .ok (.iload_n 3, 1) := by decide +kernel
theorem dX12_spent_33 : decode cX12_spent 33 = .ok (.bipush 60, 2) := by decide +kernel
theorem dX12_spent_35 : decode cX12_spent 35 = .ok (.if_icmp .gt 29, 3) := by decide +kernel
theorem dX12_spent_38 : decode cX12_spent 38 = .ok (.iload_n 2, 1) := by decide +kernel
theorem dX12_spent_39 : decode cX12_spent 39 = .ok (.iconst (-1), 1) := by decide +kernel
theorem dX12_spent_40 : decode cX12_spent 40 = .ok (.if_icmp .ne 24, 3) := by decide +kernel
theorem dX12_spent_43 : decode cX12_spent 43 = .ok (.aload_n 0, 1) := by decide +kernel
theorem dX12_spent_44 : decode cX12_spent 44 = .ok (.getfield 81, 3) := by decide +kernel
theorem dX12_spent_47 : decode cX12_spent 47 = .ok (.iload_n 1, 1) := by decide +kernel
theorem dX12_spent_48 : decode cX12_spent 48 = .ok (.iaload, 1) := by decide +kernel
theorem dX12_spent_49 : decode cX12_spent 49 = .ok (.ifCond .ne 5, 3) := by decide +kernel
theorem dX12_spent_52 : decode cX12_spent 52 = .ok (.iload_n 3, 1) := by decide +kernel
theorem dX12_spent_53 : decode cX12_spent 53 = .ok (.istore_n 2, 1) := by decide +kernel
theorem dX12_spent_54 : decode cX12_spent 54 = .ok (.aload_n 0, 1) := by decide +kernel
theorem dX12_spent_55 : decode cX12_spent 55 = .ok (.invokevirtual 385, 3) := by decide +kernel
theorem dX12_spent_58 : decode cX12_spent 58 = .ok (.iinc 3 1, 3) := by decide +kernel
theorem dX12_spent_61 : decode cX12_spent 61 = .ok (.goto (-29), 3) := by decide +kernel
theorem dX12_spent_64 : decode cX12_spent 64 = .ok (.aload_n 0, 1) := by decide +kernel
theorem dX12_spent_65 : decode cX12_spent 65 = .ok (.aload_n 0, 1) := by decide +kernel
theorem dX12_spent_66 : decode cX12_spent 66 = .ok (.getfield 103, 3) := by decide +kernel
theorem dX12_spent_69 : decode cX12_spent 69 = .ok (.iconst 0, 1) := by decide +kernel
theorem dX12_spent_70 : decode cX12_spent 70 = .ok (.invokevirtual 423, 3) := by decide +kernel
theorem dX12_spent_73 : decode cX12_spent 73 = .ok (.iload_n 2, 1) := by decide +kernel
theorem dX12_spent_74 : decode cX12_spent 74 = .ok (.ireturn, 1) := by decide +kernel
theorem dX12_poorest_0 : decode cX12_poorest 0 = .ok (.iconst (-1), 1) := by decide +kernel
theorem dX12_poorest_1 : decode cX12_poorest 1 = .ok (.istore_n 1, 1) := by decide +kernel
theorem dX12_poorest_2 : decode cX12_poorest 2 = .ok (.iconst 0, 1) := by decide +kernel
theorem dX12_poorest_3 : decode cX12_poorest 3 = .ok (.istore_n 2, 1) := by decide +kernel
theorem dX12_poorest_4 : decode cX12_poorest 4 = .ok (.iload_n 2, 1) := by decide +kernel
theorem dX12_poorest_5 : decode cX12_poorest 5 = .ok (.aload_n 0, 1) := by decide +kernel
theorem dX12_poorest_6 : decode cX12_poorest 6 = .ok (.getfield 42, 3) := by decide +kernel
theorem dX12_poorest_9 : decode cX12_poorest 9 = .ok (.iconst 1, 1) := by decide +kernel
theorem dX12_poorest_10 : decode cX12_poorest 10 = .ok (.iaload, 1) := by decide +kernel
theorem dX12_poorest_11 : decode cX12_poorest 11 = .ok (.if_icmp .ge 40, 3) := by decide +kernel
theorem dX12_poorest_14 : decode cX12_poorest 14 = .ok (.aload_n 0, 1) := by decide +kernel
theorem dX12_poorest_15 : decode cX12_poorest 15 = .ok (.getfield 81, 3) := by decide +kernel
theorem dX12_poorest_18 : decode cX12_poorest 18 = .ok (.iload_n 2, 1) := by decide +kernel
theorem dX12_poorest_19 : decode cX12_poorest 19 = .ok (.iaload, 1) := by decide +kernel
theorem dX12_poorest_20 : decode cX12_poorest 20 = .ok (.ifCond .le 25, 3) := by decide +kernel
theorem dX12_poorest_23 : decode cX12_poorest 23 = .ok (.iload_n 1, 1) := by decide +kernel
theorem dX12_poorest_24 : decode cX12_poorest 24 = .ok (.iconst (-1), 1) := by decide +kernel
theorem dX12_poorest_25 : decode cX12_poorest 25 = .ok (.if_icmp .eq 18, 3) := by decide +kernel
theorem dX12_poorest_28 : decode cX12_poorest 28 = .ok (.aload_n 0, 1) := by decide +kernel
theorem dX12_poorest_29 : decode cX12_poorest 29 = .ok (.getfield 81, 3) := by decide +kernel
theorem dX12_poorest_32 : decode cX12_poorest 32 = .ok (.iload_n 2, 1) := by decide +kernel
theorem dX12_poorest_33 : decode cX12_poorest 33 = .ok (.iaload, 1) := by decide +kernel
theorem dX12_poorest_34 : decode cX12_poorest 34 = .ok (.aload_n 0, 1) := by decide +kernel
theorem dX12_poorest_35 : decode cX12_poorest 35 = .ok (.getfield 81, 3) := by decide +kernel
theorem dX12_poorest_38 : decode cX12_poorest 38 = .ok (.iload_n 1, 1) := by decide +kernel
theorem dX12_poorest_39 : decode cX12_poorest 39 = .ok (.iaload, 1) := by decide +kernel
theorem dX12_poorest_40 : decode cX12_poorest 40 = .ok (.if_icmp .ge 5, 3) := by decide +kernel
theorem dX12_poorest_43 : decode cX12_poorest 43 = .ok (.iload_n 2, 1) := by decide +kernel
theorem dX12_poorest_44 : decode cX12_poorest 44 = .ok (.istore_n 1, 1) := by decide +kernel
theorem dX12_poorest_45 : decode cX12_poorest 45 = .ok (.iinc 2 1, 3) := by decide +kernel
theorem dX12_poorest_48 : decode cX12_poorest 48 = .ok (.goto (-44), 3) := by decide +kernel
theorem dX12_poorest_51 : decode cX12_poorest 51 = .ok (.iload_n 1, 1) := by decide +kernel
theorem dX12_poorest_52 : decode cX12_poorest 52 = .ok (.ireturn, 1) := by decide +kernel
theorem dX12_later_0 : decode cX12_later 0 = .ok (.aload_n 0, 1) := by decide +kernel
theorem dX12_later_1 : decode cX12_later 1 = .ok (.iconst 0, 1) := by decide +kernel
theorem dX12_later_2 : decode cX12_later 2 = .ok (.putfield 154, 3) := by decide +kernel
theorem dX12_later_5 : decode cX12_later 5 = .ok (.iload_n 2, 1) := by decide +kernel
theorem dX12_later_6 : decode cX12_later 6 = .ok (.i2l, 1) := by decide +kernel
theorem dX12_later_7 : decode cX12_later 7 = .ok (.lconst 0, 1) := by decide +kernel
theorem dX12_later_8 : decode cX12_later 8 = .ok (.ldc2_w 431, 3) := by decide +kernel
theorem dX12_later_11 : decode cX12_later 11 = .ok (.invokestatic 157, 3) := by decide +kernel
theorem dX12_later_14 : decode cX12_later 14 = .ok (.ifCond .ne 9, 3) := by decide +kernel
theorem dX12_later_17 : decode cX12_later 17 = .ok (.aload_n 0, 1) := by decide +kernel
theorem dX12_later_18 : decode cX12_later 18 = .ok (.iconst 1, 1) := by decide +kernel
theorem dX12_later_19 : decode cX12_later 19 = .ok (.invokevirtual 295, 3) := by decide +kernel
theorem dX12_later_22 : decode cX12_later 22 = .ok (.ireturn, 1) := by decide +kernel
theorem dX12_later_23 : decode cX12_later 23 = .ok (.iload_n 1, 1) := by decide +kernel
theorem dX12_later_24 : decode cX12_later 24 = .ok (.i2l, 1) := by decide +kernel
theorem dX12_later_25 : decode cX12_later 25 = .ok (.lconst 0, 1) := by decide +kernel
theorem dX12_later_26 : decode cX12_later 26 = .ok (.ldc2_w 426, 3) := by decide +kernel
theorem dX12_later_29 : decode cX12_later 29 = .ok (.invokestatic 157, 3) := by decide +kernel
theorem dX12_later_32 : decode cX12_later 32 = .ok (.ifCond .ne 9, 3) := by decide +kernel
theorem dX12_later_35 : decode cX12_later 35 = .ok (.aload_n 0, 1) := by decide +kernel
theorem dX12_later_36 : decode cX12_later 36 = .ok (.iconst 2, 1) := by decide +kernel
theorem dX12_later_37 : decode cX12_later 37 = .ok (.invokevirtual 295, 3) := by decide +kernel
theorem dX12_later_40 : decode cX12_later 40 = .ok (.ireturn, 1) := by decide +kernel
theorem dX12_later_41 : decode cX12_later 41 = .ok (.aload_n 0, 1) := by decide +kernel
theorem dX12_later_42 : decode cX12_later 42 = .ok (.aload_n 0, 1) := by decide +kernel
theorem dX12_later_43 : decode cX12_later 43 = .ok (.getfield 103, 3) := by decide +kernel
theorem dX12_later_46 : decode cX12_later 46 = .ok (.iconst 0, 1) := by decide +kernel
theorem dX12_later_47 : decode cX12_later 47 = .ok (.invokevirtual 397, 3) := by decide +kernel
theorem dX12_later_50 : decode cX12_later 50 = .ok (.iconst 0, 1) := by decide +kernel
theorem dX12_later_51 : decode cX12_later 51 = .ok (.istore_n 3, 1) := by decide +kernel
theorem dX12_later_52 : decode cX12_later 52 = .ok (.iconst 0, 1) := by decide +kernel
theorem dX12_later_53 : decode cX12_later 53 = .ok (.istore 4, 2) := by decide +kernel
theorem dX12_later_55 : decode cX12_later 55 = .ok (.iload 4, 2) := by decide +kernel
theorem dX12_later_57 : decode cX12_later 57 = .ok (.iload_n 1, 1) := by decide +kernel
theorem dX12_later_58 : decode cX12_later 58 = .ok (.if_icmp .ge 20, 3) := by decide +kernel
theorem dX12_later_61 : decode cX12_later 61 = .ok (.aload_n 0, 1) := by decide +kernel
theorem dX12_later_62 : decode cX12_later 62 = .ok (.invokevirtual 385, 3) := by decide +kernel
theorem dX12_later_65 : decode cX12_later 65 = .ok (.iload_n 3, 1) := by decide +kernel
theorem dX12_later_66 : decode cX12_later 66 = .ok (.aload_n 0, 1) := by decide +kernel
theorem dX12_later_67 : decode cX12_later 67 = .ok (.getfield 379, 3) := by decide +kernel
theorem dX12_later_70 : decode cX12_later 70 = .ok (.iadd, 1) := by decide +kernel
theorem dX12_later_71 : decode cX12_later 71 = .ok (.istore_n 3, 1) := by decide +kernel
theorem dX12_later_72 : decode cX12_later 72 = .ok (.iinc 4 1, 3) := by decide +kernel
theorem dX12_later_75 : decode cX12_later 75 = .ok (.goto (-20), 3) := by decide +kernel
theorem dX12_later_78 : decode cX12_later 78 = .ok (.iload_n 2, 1) := by decide +kernel
theorem dX12_later_79 : decode cX12_later 79 = .ok (.ifCond .ne 10, 3) := by decide +kernel
theorem dX12_later_82 : decode cX12_later 82 = .ok (.aload_n 0, 1) := by decide +kernel
theorem dX12_later_83 : decode cX12_later 83 = .ok (.invokevirtual 347, 3) := by decide +kernel
theorem dX12_later_86 : decode cX12_later 86 = .ok (.goto 44, 3) := by decide +kernel
theorem dX12_later_89 : decode cX12_later 89 = .ok (.iload_n 2, 1) := by decide +kernel
theorem dX12_later_90 : decode cX12_later 90 = .ok (.iconst 1, 1) := by decide +kernel
theorem dX12_later_91 : decode cX12_later 91 = .ok (.if_icmp .ne 14, 3) := by decide +kernel
theorem dX12_later_94 : decode cX12_later 94 = .ok (.aload_n 0, 1) := by decide +kernel
theorem dX12_later_95 : decode cX12_later 95 = .ok (.aload_n 0, 1) := by decide +kernel
theorem dX12_later_96 : decode cX12_later 96 = .ok (.invokevirtual 347, 3) := by decide +kernel
theorem dX12_later_99 : decode cX12_later 99 = .ok (.invokevirtual 373, 3) := by decide +kernel
theorem dX12_later_102 : decode cX12_later 102 = .ok (.goto 28, 3) := by decide +kernel
theorem dX12_later_105 : decode cX12_later 105 = .ok (.iload_n 2, 1) := by decide +kernel
theorem dX12_later_106 : decode cX12_later 106 = .ok (.iconst 2, 1) := by decide +kernel
theorem dX12_later_107 : decode cX12_later 107 = .ok (.if_icmp .ne 10, 3) := by decide +kernel
theorem dX12_later_110 : decode cX12_later 110 = .ok (.aload_n 0, 1) := by decide +kernel
theorem dX12_later_111 : decode cX12_later 111 = .ok (.invokevirtual 433, 3) := by decide +kernel
theorem dX12_later_114 : decode cX12_later 114 = .ok (.goto 16, 3) := by decide +kernel
theorem dX12_later_117 : decode cX12_later 117 = .ok (.iload_n 2, 1) := by decide +kernel
theorem dX12_later_118 : decode cX12_later 118 = .ok (.iconst 3, 1) := by decide +kernel
theorem dX12_later_119 : decode cX12_later 119 = .ok (.if_icmp .ne 10, 3) := by decide +kernel
theorem dX12_later_122 : decode cX12_later 122 = .ok (.aload_n 0, 1) := by decide +kernel
theorem dX12_later_123 : decode cX12_later 123 = .ok (.invokevirtual 388, 3) := by decide +kernel
theorem dX12_later_126 : decode cX12_later 126 = .ok (.goto 4, 3) := by decide +kernel
theorem dX12_later_129 : decode cX12_later 129 = .ok (.iload_n 3, 1) := by decide +kernel
theorem dX12_later_130 : decode cX12_later 130 = .ok (.istore 4, 2) := by decide +kernel
theorem dX12_later_132 : decode cX12_later 132 = .ok (.aload_n 0, 1) := by decide +kernel
theorem dX12_later_133 : decode cX12_later 133 = .ok (.aload_n 0, 1) := by decide +kernel
theorem dX12_later_134 : decode cX12_later 134 = .ok (.getfield 103, 3) := by decide +kernel
theorem dX12_later_137 : decode cX12_later 137 = .ok (.iconst 0, 1) := by decide +kernel
theorem dX12_later_138 : decode cX12_later 138 = .ok (.invokevirtual 423, 3) := by decide +kernel
theorem dX12_later_141 : decode cX12_later 141 = .ok (.iload 4, 2) := by decide +kernel
theorem dX12_later_143 : decode cX12_later 143 = .ok (.ireturn, 1) := by decide +kernel
theorem dX12_busiest_0 : decode cX12_busiest 0 = .ok (.aload_n 0, 1) := by decide +kernel
theorem dX12_busiest_1 : decode cX12_busiest 1 = .ok (.iconst 0, 1) := by decide +kernel
theorem dX12_busiest_2 : decode cX12_busiest 2 = .ok (.putfield 154, 3) := by decide +kernel
theorem dX12_busiest_5 : decode cX12_busiest 5 = .ok (.iload_n 1, 1) := by decide +kernel
theorem dX12_busiest_6 : decode cX12_busiest 6 = .ok (.i2l, 1) := by decide +kernel
theorem dX12_busiest_7 : decode cX12_busiest 7 = .ok (.lconst 1, 1) := by decide +kernel
theorem dX12_busiest_8 : decode cX12_busiest 8 = .ok (.ldc2_w 426, 3) := by decide +kernel
theorem dX12_busiest_11 : decode cX12_busiest 11 = .ok (.invokestatic 157, 3) := by decide +kernel
theorem dX12_busiest_14 : decode cX12_busiest 14 = .ok (.ifCond .ne 9, 3) := by decide +kernel
theorem dX12_busiest_17 : decode cX12_busiest 17 = .ok (.aload_n 0, 1) := by decide +kernel
theorem dX12_busiest_18 : decode cX12_busiest 18 = .ok (.iconst 1, 1) := by decide +kernel
theorem dX12_busiest_19 : decode cX12_busiest 19 = .ok (.invokevirtual 295, 3) := by decide +kernel
theorem dX12_busiest_22 : decode cX12_busiest 22 = .ok (.ireturn, 1) := by decide +kernel
theorem dX12_busiest_23 : decode cX12_busiest 23 = .ok (.iconst 0, 1) := by decide +kernel
theorem dX12_busiest_24 : decode cX12_busiest 24 = .ok (.istore_n 2, 1) := by decide +kernel
theorem dX12_busiest_25 : decode cX12_busiest 25 = .ok (.iload_n 2, 1) := by decide +kernel
theorem dX12_busiest_26 : decode cX12_busiest 26 = .ok (.bipush 8, 2) := by decide +kernel
theorem dX12_busiest_28 : decode cX12_busiest 28 = .ok (.if_icmp .ge 16, 3) := by decide +kernel
theorem dX12_busiest_31 : decode cX12_busiest 31 = .ok (.aload_n 0, 1) := by decide +kernel
theorem dX12_busiest_32 : decode cX12_busiest 32 = .ok (.getfield 106, 3) := by decide +kernel
theorem dX12_busiest_35 : decode cX12_busiest 35 = .ok (.iload_n 2, 1) := by decide +kernel
theorem dX12_busiest_36 : decode cX12_busiest 36 = .ok (.iconst 0, 1) := by decide +kernel
theorem dX12_busiest_37 : decode cX12_busiest 37 = .ok (.iastore, 1) := by decide +kernel
theorem dX12_busiest_38 : decode cX12_busiest 38 = .ok (.iinc 2 1, 3) := by decide +kernel
theorem dX12_busiest_41 : decode cX12_busiest 41 = .ok (.goto (-16), 3) := by decide +kernel
theorem dX12_busiest_44 : decode cX12_busiest 44 = .ok (.aload_n 0, 1) := by decide +kernel
theorem dX12_busiest_45 : decode cX12_busiest 45 = .ok (.aload_n 0, 1) := by decide +kernel
theorem dX12_busiest_46 : decode cX12_busiest 46 = .ok (.getfield 103, 3) := by decide +kernel
theorem dX12_busiest_49 : decode cX12_busiest 49 = .ok (.iconst 0, 1) := by decide +kernel
theorem dX12_busiest_50 : decode cX12_busiest 50 = .ok (.invokevirtual 397, 3) := by decide +kernel
theorem dX12_busiest_53 : decode cX12_busiest 53 = .ok (.iconst 0, 1) := by decide +kernel
theorem dX12_busiest_54 : decode cX12_busiest 54 = .ok (.istore_n 2, 1) := by decide +kernel
theorem dX12_busiest_55 : decode cX12_busiest 55 = .ok (.iload_n 2, 1) := by decide +kernel
theorem dX12_busiest_56 : decode cX12_busiest 56 = .ok (.iload_n 1, 1) := by decide +kernel
theorem dX12_busiest_57 : decode cX12_busiest 57 = .ok (.if_icmp .ge 56, 3) := by decide +kernel
theorem dX12_busiest_60 : decode cX12_busiest 60 = .ok (.aload_n 0, 1) := by decide +kernel
theorem dX12_busiest_61 : decode cX12_busiest 61 = .ok (.invokevirtual 385, 3) := by decide +kernel
theorem dX12_busiest_64 : decode cX12_busiest 64 = .ok (.iconst 0, 1) := by decide +kernel
theorem dX12_busiest_65 : decode cX12_busiest 65 = .ok (.istore_n 3, 1) := by decide +kernel
theorem dX12_busiest_66 : decode cX12_busiest 66 = .ok (.iload_n 3, 1) := by decide +kernel
theorem dX12_busiest_67 : decode cX12_busiest 67 = .ok (.aload_n 0, 1) := by decide +kernel
theorem dX12_busiest_68 : decode cX12_busiest 68 = .ok (.getfield 42, 3) := by decide +kernel
theorem dX12_busiest_71 : decode cX12_busiest 71 = .ok (.iconst 1, 1) := by decide +kernel
theorem dX12_busiest_72 : decode cX12_busiest 72 = .ok (.iaload, 1) := by decide +kernel
theorem dX12_busiest_73 : decode cX12_busiest 73 = .ok (.if_icmp .ge 34, 3) := by decide +kernel
theorem dX12_busiest_76 : decode cX12_busiest 76 = .ok (.aload_n 0, 1) := by decide +kernel
theorem dX12_busiest_77 : decode cX12_busiest 77 = .ok (.getfield 97, 3) := by decide +kernel
theorem dX12_busiest_80 : decode cX12_busiest 80 = .ok (.iload_n 3, 1) := by decide +kernel
theorem dX12_busiest_81 : decode cX12_busiest 81 = .ok (.iaload, 1) := by decide +kernel
theorem dX12_busiest_82 : decode cX12_busiest 82 = .ok (.iconst (-1), 1) := by decide +kernel
theorem dX12_busiest_83 : decode cX12_busiest 83 = .ok (.if_icmp .eq 18, 3) := by decide +kernel
theorem dX12_busiest_86 : decode cX12_busiest 86 = .ok (.aload_n 0, 1) := by decide +kernel
theorem dX12_busiest_87 : decode cX12_busiest 87 = .ok (.getfield 106, 3) := by decide +kernel
theorem dX12_busiest_90 : decode cX12_busiest 90 = .ok (.aload_n 0, 1) := by decide +kernel
theorem dX12_busiest_91 : decode cX12_busiest 91 = .ok (.getfield 97, 3) := by decide +kernel
theorem dX12_busiest_94 : decode cX12_busiest 94 = .ok (.iload_n 3, 1) := by decide +kernel
theorem dX12_busiest_95 : decode cX12_busiest 95 = .ok (.iaload, 1) := by decide +kernel
theorem dX12_busiest_96 : decode cX12_busiest 96 = .ok (.dup2, 1) := by decide +kernel
theorem dX12_busiest_97 : decode cX12_busiest 97 = .ok (.iaload, 1) := by decide +kernel
theorem dX12_busiest_98 : decode cX12_busiest 98 = .ok (.iconst 1, 1) := by decide +kernel
theorem dX12_busiest_99 : decode cX12_busiest 99 = .ok (.iadd, 1) := by decide +kernel
theorem dX12_busiest_100 : decode cX12_busiest 100 = .ok (.iastore, 1) := by decide +kernel
theorem dX12_busiest_101 : decode cX12_busiest 101 = .ok (.iinc 3 1, 3) := by decide +kernel
theorem dX12_busiest_104 : decode cX12_busiest 104 = .ok (.goto (-38), 3) := by decide +kernel
theorem dX12_busiest_107 : decode cX12_busiest 107 = .ok (.iinc 2 1, 3) := by decide +kernel
theorem dX12_busiest_110 : decode cX12_busiest 110 = .ok (.goto (-55), 3) := by decide +kernel
theorem dX12_busiest_113 : decode cX12_busiest 113 = .ok (.aload_n 0, 1) := by decide +kernel
theorem dX12_busiest_114 : decode cX12_busiest 114 = .ok (.aload_n 0, 1) := by decide +kernel
theorem dX12_busiest_115 : decode cX12_busiest 115 = .ok (.getfield 103, 3) := by decide +kernel
theorem dX12_busiest_118 : decode cX12_busiest 118 = .ok (.iconst 0, 1) := by decide +kernel
theorem dX12_busiest_119 : decode cX12_busiest 119 = .ok (.invokevirtual 423, 3) := by decide +kernel
theorem dX12_busiest_122 : decode cX12_busiest 122 = .ok (.iconst (-1), 1) := by decide +kernel
theorem dX12_busiest_123 : decode cX12_busiest 123 = .ok (.istore_n 2, 1) := by decide +kernel
theorem dX12_busiest_124 : decode cX12_busiest 124 = .ok (.iconst 0, 1) := by decide +kernel
theorem dX12_busiest_125 : decode cX12_busiest 125 = .ok (.istore_n 3, 1) := by decide +kernel
theorem dX12_busiest_126 : decode cX12_busiest 126 = .ok (.iload_n 3, 1) := by decide +kernel
theorem dX12_busiest_127 : decode cX12_busiest 127 = .ok (.aload_n 0, 1) := by decide +kernel
theorem dX12_busiest_128 : decode cX12_busiest 128 = .ok (.getfield 42, 3) := by decide +kernel
theorem dX12_busiest_131 : decode cX12_busiest 131 = .ok (.iconst 1, 1) := by decide +kernel
theorem dX12_busiest_132 : decode cX12_busiest 132 = .ok (.iaload, 1) := by decide +kernel
theorem dX12_busiest_133 : decode cX12_busiest 133 = .ok (.if_icmp .ge 31, 3) := by decide +kernel
theorem dX12_busiest_136 : decode cX12_busiest 136 = .ok (.iload_n 2, 1) := by decide +kernel
theorem dX12_busiest_137 : decode cX12_busiest 137 = .ok (.iconst (-1), 1) := by decide +kernel
theorem dX12_busiest_138 : decode cX12_busiest 138 = .ok (.if_icmp .eq 18, 3) := by decide +kernel
theorem dX12_busiest_141 : decode cX12_busiest 141 = .ok (.aload_n 0, 1) := by decide +kernel
theorem dX12_busiest_142 : decode cX12_busiest 142 = .ok (.getfield 106, 3) := by decide +kernel
theorem dX12_busiest_145 : decode cX12_busiest 145 = .ok (.iload_n 3, 1) := by decide +kernel
theorem dX12_busiest_146 : decode cX12_busiest 146 = .ok (.iaload, 1) := by decide +kernel
theorem dX12_busiest_147 : decode cX12_busiest 147 = .ok (.aload_n 0, 1) := by decide +kernel
theorem dX12_busiest_148 : decode cX12_busiest 148 = .ok (.getfield 106, 3) := by decide +kernel
theorem dX12_busiest_151 : decode cX12_busiest 151 = .ok (.iload_n 2, 1) := by decide +kernel
theorem dX12_busiest_152 : decode cX12_busiest 152 = .ok (.iaload, 1) := by decide +kernel
theorem dX12_busiest_153 : decode cX12_busiest 153 = .ok (.if_icmp .le 5, 3) := by decide +kernel
theorem dX12_busiest_156 : decode cX12_busiest 156 = .ok (.iload_n 3, 1) := by decide +kernel
theorem dX12_busiest_157 : decode cX12_busiest 157 = .ok (.istore_n 2, 1) := by decide +kernel
theorem dX12_busiest_158 : decode cX12_busiest 158 = .ok (.iinc 3 1, 3) := by decide +kernel
theorem dX12_busiest_161 : decode cX12_busiest 161 = .ok (.goto (-35), 3) := by decide +kernel
theorem dX12_busiest_164 : decode cX12_busiest 164 = .ok (.iload_n 2, 1) := by decide +kernel
theorem dX12_busiest_165 : decode cX12_busiest 165 = .ok (.ireturn, 1) := by decide +kernel
theorem dX12_robbed_0 : decode cX12_robbed 0 = .ok (.aload_n 0, 1) := by decide +kernel
theorem dX12_robbed_1 : decode cX12_robbed 1 = .ok (.iconst 0, 1) := by decide +kernel
theorem dX12_robbed_2 : decode cX12_robbed 2 = .ok (.putfield 154, 3) := by decide +kernel
theorem dX12_robbed_5 : decode cX12_robbed 5 = .ok (.aload_n 0, 1) := by decide +kernel
theorem dX12_robbed_6 : decode cX12_robbed 6 = .ok (.iload_n 1, 1) := by decide +kernel
theorem dX12_robbed_7 : decode cX12_robbed 7 = .ok (.invokevirtual 394, 3) := by decide +kernel
theorem dX12_robbed_10 : decode cX12_robbed 10 = .ok (.ifCond .eq 11, 3) := by decide +kernel
theorem dX12_robbed_13 : decode cX12_robbed 13 = .ok (.aload_n 0, 1) := by decide +kernel
theorem dX12_robbed_14 : decode cX12_robbed 14 = .ok (.iload_n 2, 1) := by decide +kernel
theorem dX12_robbed_15 : decode cX12_robbed 15 = .ok (.invokevirtual 394, 3) := by decide +kernel
theorem dX12_robbed_18 : decode cX12_robbed 18 = .ok (.ifCond .ne 9, 3) := by decide +kernel
theorem dX12_robbed_21 : decode cX12_robbed 21 = .ok (.aload_n 0, 1) := by decide +kernel
theorem dX12_robbed_22 : decode cX12_robbed 22 = .ok (.iconst 1, 1) := by decide +kernel
theorem dX12_robbed_23 : decode cX12_robbed 23 = .ok (.invokevirtual 295, 3) := by decide +kernel
theorem dX12_robbed_26 : decode cX12_robbed 26 = .ok (.ireturn, 1) := by decide +kernel
theorem dX12_robbed_27 : decode cX12_robbed 27 = .ok (.iload_n 3, 1) := by decide +kernel
theorem dX12_robbed_28 : decode cX12_robbed 28 = .ok (.i2l, 1) := by decide +kernel
theorem dX12_robbed_29 : decode cX12_robbed 29 = .ok (.lconst 0, 1) := by decide +kernel
theorem dX12_robbed_30 : decode cX12_robbed 30 = .ok (.ldc2_w 426, 3) := by decide +kernel
theorem dX12_robbed_33 : decode cX12_robbed 33 = .ok (.invokestatic 157, 3) := by decide +kernel
theorem dX12_robbed_36 : decode cX12_robbed 36 = .ok (.ifCond .ne 9, 3) := by decide +kernel
theorem dX12_robbed_39 : decode cX12_robbed 39 = .ok (.aload_n 0, 1) := by decide +kernel
theorem dX12_robbed_40 : decode cX12_robbed 40 = .ok (.iconst 2, 1) := by decide +kernel
theorem dX12_robbed_41 : decode cX12_robbed 41 = .ok (.invokevirtual 295, 3) := by decide +kernel
theorem dX12_robbed_44 : decode cX12_robbed 44 = .ok (.ireturn, 1) := by decide +kernel
theorem dX12_robbed_45 : decode cX12_robbed 45 = .ok (.aload_n 0, 1) := by decide +kernel
theorem dX12_robbed_46 : decode cX12_robbed 46 = .ok (.aload_n 0, 1) := by decide +kernel
theorem dX12_robbed_47 : decode cX12_robbed 47 = .ok (.getfield 103, 3) := by decide +kernel
theorem dX12_robbed_50 : decode cX12_robbed 50 = .ok (.iconst 0, 1) := by decide +kernel
theorem dX12_robbed_51 : decode cX12_robbed 51 = .ok (.invokevirtual 397, 3) := by decide +kernel
theorem dX12_robbed_54 : decode cX12_robbed 54 = .ok (.iconst 0, 1) := by decide +kernel
theorem dX12_robbed_55 : decode cX12_robbed 55 = .ok (.istore 4, 2) := by decide +kernel
theorem dX12_robbed_57 : decode cX12_robbed 57 = .ok (.iconst 0, 1) := by decide +kernel
theorem dX12_robbed_58 : decode cX12_robbed 58 = .ok (.istore 5, 2) := by decide +kernel
theorem dX12_robbed_60 : decode cX12_robbed 60 = .ok (.iload 5, 2) := by decide +kernel
theorem dX12_robbed_62 : decode cX12_robbed 62 = .ok (.iload_n 3, 1) := by decide +kernel
theorem dX12_robbed_63 : decode cX12_robbed 63 = .ok (.if_icmp .ge 29, 3) := by decide +kernel
theorem dX12_robbed_66 : decode cX12_robbed 66 = .ok (.aload_n 0, 1) := by decide +kernel
theorem dX12_robbed_67 : decode cX12_robbed 67 = .ok (.invokevirtual 385, 3) := by decide +kernel
theorem dX12_robbed_70 : decode cX12_robbed 70 = .ok (.iload 4, 2) := by decide +kernel
theorem dX12_robbed_72 : decode cX12_robbed 72 = .ok (.aload_n 0, 1) := by decide +kernel
theorem dX12_robbed_73 : decode cX12_robbed 73 = .ok (.getfield 100, 3) := by decide +kernel
theorem dX12_robbed_76 : decode cX12_robbed 76 = .ok (.bipush 8, 2) := by decide +kernel
theorem dX12_robbed_78 : decode cX12_robbed 78 = .ok (.iload_n 1, 1) := by decide +kernel
theorem dX12_robbed_79 : decode cX12_robbed 79 = .ok (.imul, 1) := by decide +kernel
theorem dX12_robbed_80 : decode cX12_robbed 80 = .ok (.iload_n 2, 1) := by decide +kernel
theorem dX12_robbed_81 : decode cX12_robbed 81 = .ok (.iadd, 1) := by decide +kernel
theorem dX12_robbed_82 : decode cX12_robbed 82 = .ok (.iaload, 1) := by decide +kernel
theorem dX12_robbed_83 : decode cX12_robbed 83 = .ok (.iadd, 1) := by decide +kernel
theorem dX12_robbed_84 : decode cX12_robbed 84 = .ok (.istore 4, 2) := by decide +kernel
theorem dX12_robbed_86 : decode cX12_robbed 86 = .ok (.iinc 5 1, 3) := by decide +kernel
theorem dX12_robbed_89 : decode cX12_robbed 89 = .ok (.goto (-29), 3) := by decide +kernel
theorem dX12_robbed_92 : decode cX12_robbed 92 = .ok (.aload_n 0, 1) := by decide +kernel
theorem dX12_robbed_93 : decode cX12_robbed 93 = .ok (.aload_n 0, 1) := by decide +kernel
theorem dX12_robbed_94 : decode cX12_robbed 94 = .ok (.getfield 103, 3) := by decide +kernel
theorem dX12_robbed_97 : decode cX12_robbed 97 = .ok (.iconst 0, 1) := by decide +kernel
theorem dX12_robbed_98 : decode cX12_robbed 98 = .ok (.invokevirtual 423, 3) := by decide +kernel
theorem dX12_robbed_101 : decode cX12_robbed 101 = .ok (.iload 4, 2) := by decide +kernel
theorem dX12_robbed_103 : decode cX12_robbed 103 = .ok (.ireturn, 1) := by decide +kernel
theorem dX12_silent_0 : decode cX12_silent 0 = .ok (.aload_n 0, 1) := by decide +kernel
theorem dX12_silent_1 : decode cX12_silent 1 = .ok (.iconst 0, 1) := by decide +kernel
theorem dX12_silent_2 : decode cX12_silent 2 = .ok (.putfield 154, 3) := by decide +kernel
theorem dX12_silent_5 : decode cX12_silent 5 = .ok (.iload_n 1, 1) := by decide +kernel
theorem dX12_silent_6 : decode cX12_silent 6 = .ok (.i2l, 1) := by decide +kernel
theorem dX12_silent_7 : decode cX12_silent 7 = .ok (.lconst 1, 1) := by decide +kernel
theorem dX12_silent_8 : decode cX12_silent 8 = .ok (.ldc2_w 426, 3) := by decide +kernel
theorem dX12_silent_11 : decode cX12_silent 11 = .ok (.invokestatic 157, 3) := by decide +kernel
theorem dX12_silent_14 : decode cX12_silent 14 = .ok (.ifCond .ne 9, 3) := by decide +kernel
theorem dX12_silent_17 : decode cX12_silent 17 = .ok (.aload_n 0, 1) := by decide +kernel
theorem dX12_silent_18 : decode cX12_silent 18 = .ok (.iconst 1, 1) := by decide +kernel
theorem dX12_silent_19 : decode cX12_silent 19 = .ok (.invokevirtual 295, 3) := by decide +kernel
theorem dX12_silent_22 : decode cX12_silent 22 = .ok (.ireturn, 1) := by decide +kernel
theorem dX12_silent_23 : decode cX12_silent 23 = .ok (.aload_n 0, 1) := by decide +kernel
theorem dX12_silent_24 : decode cX12_silent 24 = .ok (.aload_n 0, 1) := by decide +kernel
theorem dX12_silent_25 : decode cX12_silent 25 = .ok (.getfield 103, 3) := by decide +kernel
theorem dX12_silent_28 : decode cX12_silent 28 = .ok (.iconst 0, 1) := by decide +kernel
theorem dX12_silent_29 : decode cX12_silent 29 = .ok (.invokevirtual 397, 3) := by decide +kernel
theorem dX12_silent_32 : decode cX12_silent 32 = .ok (.iconst 0, 1) := by decide +kernel
theorem dX12_silent_33 : decode cX12_silent 33 = .ok (.istore_n 2, 1) := by decide +kernel
theorem dX12_silent_34 : decode cX12_silent 34 = .ok (.iconst 0, 1) := by decide +kernel
theorem dX12_silent_35 : decode cX12_silent 35 = .ok (.istore_n 3, 1) := by decide +kernel
theorem dX12_silent_36 : decode cX12_silent 36 = .ok (.iload_n 3, 1) := by decide +kernel
theorem dX12_silent_37 : decode cX12_silent 37 = .ok (.iload_n 1, 1) := by decide +kernel
theorem dX12_silent_38 : decode cX12_silent 38 = .ok (.if_icmp .ge 72, 3) := by decide +kernel
theorem dX12_silent_41 : decode cX12_silent 41 = .ok (.aload_n 0, 1) := by decide +kernel
theorem dX12_silent_42 : decode cX12_silent 42 = .ok (.invokevirtual 385, 3) := by decide +kernel
theorem dX12_silent_45 : decode cX12_silent 45 = .ok (.iconst 1, 1) := by decide +kernel
theorem dX12_silent_46 : decode cX12_silent 46 = .ok (.istore 4, 2) := by decide +kernel
theorem dX12_silent_48 : decode cX12_silent 48 = .ok (.iconst 0, 1) := by decide +kernel
theorem dX12_silent_49 : decode cX12_silent 49 = .ok (.istore 5, 2) := by decide +kernel
theorem dX12_silent_51 : decode cX12_silent 51 = .ok (.iload 5, 2) := by decide +kernel
theorem dX12_silent_53 : decode cX12_silent 53 = .ok (.aload_n 0, 1) := by decide +kernel
theorem dX12_silent_54 : decode cX12_silent 54 = .ok (.getfield 42, 3) := by decide +kernel
theorem dX12_silent_57 : decode cX12_silent 57 = .ok (.iconst 1, 1) := by decide +kernel
theorem dX12_silent_58 : decode cX12_silent 58 = .ok (.iaload, 1) := by decide +kernel
theorem dX12_silent_59 : decode cX12_silent 59 = .ok (.if_icmp .ge 32, 3) := by decide +kernel
theorem dX12_silent_62 : decode cX12_silent 62 = .ok (.iload 4, 2) := by decide +kernel
theorem dX12_silent_64 : decode cX12_silent 64 = .ok (.ifCond .eq 18, 3) := by decide +kernel
theorem dX12_silent_67 : decode cX12_silent 67 = .ok (.aload_n 0, 1) := by decide +kernel
theorem dX12_silent_68 : decode cX12_silent 68 = .ok (.getfield 97, 3) := by decide +kernel
theorem dX12_silent_71 : decode cX12_silent 71 = .ok (.iload 5, 2) := by decide +kernel
theorem dX12_silent_73 : decode cX12_silent 73 = .ok (.iaload, 1) := by decide +kernel
theorem dX12_silent_74 : decode cX12_silent 74 = .ok (.iconst (-1), 1) := by decide +kernel
theorem dX12_silent_75 : decode cX12_silent 75 = .ok (.if_icmp .ne 7, 3) := by decide +kernel
theorem dX12_silent_78 : decode cX12_silent 78 = .ok (.iconst 1, 1) := by decide +kernel
theorem dX12_silent_79 : decode cX12_silent 79 = .ok (.goto 4, 3) := by decide +kernel
theorem dX12_silent_82 : decode cX12_silent 82 = .ok (.iconst 0, 1) := by decide +kernel
theorem dX12_silent_83 : decode cX12_silent 83 = .ok (.istore 4, 2) := by decide +kernel
theorem dX12_silent_85 : decode cX12_silent 85 = .ok (.iinc 5 1, 3) := by decide +kernel
theorem dX12_silent_88 : decode cX12_silent 88 = .ok (.goto (-37), 3) := by decide +kernel
theorem dX12_silent_91 : decode cX12_silent 91 = .ok (.iload_n 2, 1) := by decide +kernel
theorem dX12_silent_92 : decode cX12_silent 92 = .ok (.iload 4, 2) := by decide +kernel
theorem dX12_silent_94 : decode cX12_silent 94 = .ok (.ifCond .eq 7, 3) := by decide +kernel
theorem dX12_silent_97 : decode cX12_silent 97 = .ok (.iconst 1, 1) := by decide +kernel
theorem dX12_silent_98 : decode cX12_silent 98 = .ok (.goto 4, 3) := by decide +kernel
theorem dX12_silent_101 : decode cX12_silent 101 = .ok (.iconst 0, 1) := by decide +kernel
theorem dX12_silent_102 : decode cX12_silent 102 = .ok (.iadd, 1) := by decide +kernel
theorem dX12_silent_103 : decode cX12_silent 103 = .ok (.istore_n 2, 1) := by decide +kernel
theorem dX12_silent_104 : decode cX12_silent 104 = .ok (.iinc 3 1, 3) := by decide +kernel
theorem dX12_silent_107 : decode cX12_silent 107 = .ok (.goto (-71), 3) := by decide +kernel
theorem dX12_silent_110 : decode cX12_silent 110 = .ok (.aload_n 0, 1) := by decide +kernel
theorem dX12_silent_111 : decode cX12_silent 111 = .ok (.aload_n 0, 1) := by decide +kernel
theorem dX12_silent_112 : decode cX12_silent 112 = .ok (.getfield 103, 3) := by decide +kernel
theorem dX12_silent_115 : decode cX12_silent 115 = .ok (.iconst 0, 1) := by decide +kernel
theorem dX12_silent_116 : decode cX12_silent 116 = .ok (.invokevirtual 423, 3) := by decide +kernel
theorem dX12_silent_119 : decode cX12_silent 119 = .ok (.iload_n 2, 1) := by decide +kernel
theorem dX12_silent_120 : decode cX12_silent 120 = .ok (.ireturn, 1) := by decide +kernel
theorem dX12_meet_0 : decode cX12_meet 0 = .ok (.aload_n 0, 1) := by decide +kernel
theorem dX12_meet_1 : decode cX12_meet 1 = .ok (.iconst 0, 1) := by decide +kernel
theorem dX12_meet_2 : decode cX12_meet 2 = .ok (.putfield 154, 3) := by decide +kernel
theorem dX12_meet_5 : decode cX12_meet 5 = .ok (.aload_n 0, 1) := by decide +kernel
theorem dX12_meet_6 : decode cX12_meet 6 = .ok (.iload_n 1, 1) := by decide +kernel
theorem dX12_meet_7 : decode cX12_meet 7 = .ok (.invokevirtual 394, 3) := by decide +kernel
theorem dX12_meet_10 : decode cX12_meet 10 = .ok (.ifCond .eq 11, 3) := by decide +kernel
theorem dX12_meet_13 : decode cX12_meet 13 = .ok (.aload_n 0, 1) := by decide +kernel
theorem dX12_meet_14 : decode cX12_meet 14 = .ok (.iload_n 2, 1) := by decide +kernel
theorem dX12_meet_15 : decode cX12_meet 15 = .ok (.invokevirtual 394, 3) := by decide +kernel
theorem dX12_meet_18 : decode cX12_meet 18 = .ok (.ifCond .ne 9, 3) := by decide +kernel
theorem dX12_meet_21 : decode cX12_meet 21 = .ok (.aload_n 0, 1) := by decide +kernel
theorem dX12_meet_22 : decode cX12_meet 22 = .ok (.iconst 1, 1) := by decide +kernel
theorem dX12_meet_23 : decode cX12_meet 23 = .ok (.invokevirtual 295, 3) := by decide +kernel
theorem dX12_meet_26 : decode cX12_meet 26 = .ok (.ireturn, 1) := by decide +kernel
theorem dX12_meet_27 : decode cX12_meet 27 = .ok (.iconst 1, 1) := by decide +kernel
theorem dX12_meet_28 : decode cX12_meet 28 = .ok (.istore_n 3, 1) := by decide +kernel
theorem dX12_meet_29 : decode cX12_meet 29 = .ok (.iload_n 3, 1) := by decide +kernel
theorem dX12_meet_30 : decode cX12_meet 30 = .ok (.bipush 60, 2) := by decide +kernel
theorem dX12_meet_32 : decode cX12_meet 32 = .ok (.if_icmp .gt 45, 3) := by decide +kernel
theorem dX12_meet_35 : decode cX12_meet 35 = .ok (.iload_n 1, 1) := by decide +kernel
theorem dX12_meet_36 : decode cX12_meet 36 = .ok (.iload_n 2, 1) := by decide +kernel
theorem dX12_meet_37 : decode cX12_meet 37 = .ok (.if_icmp .eq 40, 3) := by decide +kernel
theorem dX12_meet_40 : decode cX12_meet 40 = .ok (.aload_n 0, 1) := by decide +kernel
theorem dX12_meet_41 : decode cX12_meet 41 = .ok (.iload_n 1, 1) := by decide +kernel
theorem dX12_meet_42 : decode cX12_meet 42 = .ok (.aload_n 0, 1) := by decide +kernel
theorem dX12_meet_43 : decode cX12_meet 43 = .ok (.getfield 308, 3) := by decide +kernel
theorem dX12_meet_46 : decode cX12_meet 46 = .ok (.iload_n 3, 1) := by decide +kernel
theorem dX12_meet_47 : decode cX12_meet 47 = .ok (.iadd, 1) := by decide +kernel
theorem dX12_meet_48 : decode cX12_meet 48 = .ok (.iconst 1, 1) := by decide +kernel
theorem dX12_meet_49 : decode cX12_meet 49 = .ok (.isub, 1) := by decide +kernel
theorem dX12_meet_50 : decode cX12_meet 50 = .ok (.invokevirtual 328, 3) := by decide +kernel
theorem dX12_meet_53 : decode cX12_meet 53 = .ok (.aload_n 0, 1) := by decide +kernel
theorem dX12_meet_54 : decode cX12_meet 54 = .ok (.iload_n 2, 1) := by decide +kernel
theorem dX12_meet_55 : decode cX12_meet 55 = .ok (.aload_n 0, 1) := by decide +kernel
theorem dX12_meet_56 : decode cX12_meet 56 = .ok (.getfield 308, 3) := by decide +kernel
theorem dX12_meet_59 : decode cX12_meet 59 = .ok (.iload_n 3, 1) := by decide +kernel
theorem dX12_meet_60 : decode cX12_meet 60 = .ok (.iadd, 1) := by decide +kernel
theorem dX12_meet_61 : decode cX12_meet 61 = .ok (.iconst 1, 1) := by decide +kernel
theorem dX12_meet_62 : decode cX12_meet 62 = .ok (.isub, 1) := by decide +kernel
theorem dX12_meet_63 : decode cX12_meet 63 = .ok (.invokevirtual 328, 3) := by decide +kernel
theorem dX12_meet_66 : decode cX12_meet 66 = .ok (.if_icmp .ne 5, 3) := by decide +kernel
theorem dX12_meet_69 : decode cX12_meet 69 = .ok (.iload_n 3, 1) := by decide +kernel
theorem dX12_meet_70 : decode cX12_meet 70 = .ok (.ireturn, 1) := by decide +kernel
theorem dX12_meet_71 : decode cX12_meet 71 = .ok (.iinc 3 1, 3) := by decide +kernel
theorem dX12_meet_74 : decode cX12_meet 74 = .ok (.goto (-45), 3) := by decide +kernel
theorem dX12_meet_77 : decode cX12_meet 77 = .ok (.iconst (-1), 1) := by decide +kernel
theorem dX12_meet_78 : decode cX12_meet 78 = .ok (.ireturn, 1) := by decide +kernel
theorem dX12_often_0 : decode cX12_often 0 = .ok (.aload_n 0, 1) := by decide +kernel
theorem dX12_often_1 : decode cX12_often 1 = .ok (.iconst 0, 1) := by decide +kernel
theorem dX12_often_2 : decode cX12_often 2 = .ok (.putfield 154, 3) := by decide +kernel
theorem dX12_often_5 : decode cX12_often 5 = .ok (.aload_n 0, 1) := by decide +kernel
theorem dX12_often_6 : decode cX12_often 6 = .ok (.iload_n 1, 1) := by decide +kernel
theorem dX12_often_7 : decode cX12_often 7 = .ok (.invokevirtual 394, 3) := by decide +kernel
theorem dX12_often_10 : decode cX12_often 10 = .ok (.ifCond .eq 11, 3) := by decide +kernel
theorem dX12_often_13 : decode cX12_often 13 = .ok (.aload_n 0, 1) := by decide +kernel
theorem dX12_often_14 : decode cX12_often 14 = .ok (.iload_n 2, 1) := by decide +kernel
theorem dX12_often_15 : decode cX12_often 15 = .ok (.invokevirtual 394, 3) := by decide +kernel
theorem dX12_often_18 : decode cX12_often 18 = .ok (.ifCond .ne 9, 3) := by decide +kernel
theorem dX12_often_21 : decode cX12_often 21 = .ok (.aload_n 0, 1) := by decide +kernel
theorem dX12_often_22 : decode cX12_often 22 = .ok (.iconst 1, 1) := by decide +kernel
theorem dX12_often_23 : decode cX12_often 23 = .ok (.invokevirtual 295, 3) := by decide +kernel
theorem dX12_often_26 : decode cX12_often 26 = .ok (.ireturn, 1) := by decide +kernel
theorem dX12_often_27 : decode cX12_often 27 = .ok (.iload_n 3, 1) := by decide +kernel
theorem dX12_often_28 : decode cX12_often 28 = .ok (.i2l, 1) := by decide +kernel
theorem dX12_often_29 : decode cX12_often 29 = .ok (.lconst 1, 1) := by decide +kernel
theorem dX12_often_30 : decode cX12_often 30 = .ok (.ldc2_w 426, 3) := by decide +kernel
theorem dX12_often_33 : decode cX12_often 33 = .ok (.invokestatic 157, 3) := by decide +kernel
theorem dX12_often_36 : decode cX12_often 36 = .ok (.ifCond .ne 9, 3) := by decide +kernel
theorem dX12_often_39 : decode cX12_often 39 = .ok (.aload_n 0, 1) := by decide +kernel
theorem dX12_often_40 : decode cX12_often 40 = .ok (.iconst 2, 1) := by decide +kernel
theorem dX12_often_41 : decode cX12_often 41 = .ok (.invokevirtual 295, 3) := by decide +kernel
theorem dX12_often_44 : decode cX12_often 44 = .ok (.ireturn, 1) := by decide +kernel
theorem dX12_often_45 : decode cX12_often 45 = .ok (.iconst 0, 1) := by decide +kernel
theorem dX12_often_46 : decode cX12_often 46 = .ok (.istore 4, 2) := by decide +kernel
theorem dX12_often_48 : decode cX12_often 48 = .ok (.iconst 0, 1) := by decide +kernel
theorem dX12_often_49 : decode cX12_often 49 = .ok (.istore 5, 2) := by decide +kernel
theorem dX12_often_51 : decode cX12_often 51 = .ok (.iload 5, 2) := by decide +kernel
theorem dX12_often_53 : decode cX12_often 53 = .ok (.iload_n 3, 1) := by decide +kernel
theorem dX12_often_54 : decode cX12_often 54 = .ok (.if_icmp .ge 46, 3) := by decide +kernel
theorem dX12_often_57 : decode cX12_often 57 = .ok (.iload 4, 2) := by decide +kernel
theorem dX12_often_59 : decode cX12_often 59 = .ok (.aload_n 0, 1) := by decide +kernel
theorem dX12_often_60 : decode cX12_often 60 = .ok (.iload_n 1, 1) := by decide +kernel
theorem dX12_often_61 : decode cX12_often 61 = .ok (.aload_n 0, 1) := by decide +kernel
theorem dX12_often_62 : decode cX12_often 62 = .ok (.getfield 308, 3) := by decide +kernel
theorem dX12_often_65 : decode cX12_often 65 = .ok (.iload 5, 2) := by decide +kernel
theorem dX12_often_67 : decode cX12_often 67 = .ok (.iadd, 1) := by decide +kernel
theorem dX12_often_68 : decode cX12_often 68 = .ok (.invokevirtual 328, 3) := by decide +kernel
theorem dX12_often_71 : decode cX12_often 71 = .ok (.aload_n 0, 1) := by decide +kernel
theorem dX12_often_72 : decode cX12_often 72 = .ok (.iload_n 2, 1) := by decide +kernel
theorem dX12_often_73 : decode cX12_often 73 = .ok (.aload_n 0, 1) := by decide +kernel
theorem dX12_often_74 : decode cX12_often 74 = .ok (.getfield 308, 3) := by decide +kernel
theorem dX12_often_77 : decode cX12_often 77 = .ok (.iload 5, 2) := by decide +kernel
theorem dX12_often_79 : decode cX12_often 79 = .ok (.iadd, 1) := by decide +kernel
theorem dX12_often_80 : decode cX12_often 80 = .ok (.invokevirtual 328, 3) := by decide +kernel
theorem dX12_often_83 : decode cX12_often 83 = .ok (.if_icmp .ne 7, 3) := by decide +kernel
theorem dX12_often_86 : decode cX12_often 86 = .ok (.iconst 1, 1) := by decide +kernel
theorem dX12_often_87 : decode cX12_often 87 = .ok (.goto 4, 3) := by decide +kernel
theorem dX12_often_90 : decode cX12_often 90 = .ok (.iconst 0, 1) := by decide +kernel
theorem dX12_often_91 : decode cX12_often 91 = .ok (.iadd, 1) := by decide +kernel
theorem dX12_often_92 : decode cX12_often 92 = .ok (.istore 4, 2) := by decide +kernel
theorem dX12_often_94 : decode cX12_often 94 = .ok (.iinc 5 1, 3) := by decide +kernel
theorem dX12_often_97 : decode cX12_often 97 = .ok (.goto (-46), 3) := by decide +kernel
theorem dX12_often_100 : decode cX12_often 100 = .ok (.iload 4, 2) := by decide +kernel
theorem dX12_often_102 : decode cX12_often 102 = .ok (.ireturn, 1) := by decide +kernel
theorem dX12_crowd_0 : decode cX12_crowd 0 = .ok (.aload_n 0, 1) := by decide +kernel
theorem dX12_crowd_1 : decode cX12_crowd 1 = .ok (.iconst 0, 1) := by decide +kernel
theorem dX12_crowd_2 : decode cX12_crowd 2 = .ok (.putfield 154, 3) := by decide +kernel
theorem dX12_crowd_5 : decode cX12_crowd 5 = .ok (.iload_n 1, 1) := by decide +kernel
theorem dX12_crowd_6 : decode cX12_crowd 6 = .ok (.i2l, 1) := by decide +kernel
theorem dX12_crowd_7 : decode cX12_crowd 7 = .ok (.lconst 1, 1) := by decide +kernel
theorem dX12_crowd_8 : decode cX12_crowd 8 = .ok (.ldc2_w 426, 3) := by decide +kernel
theorem dX12_crowd_11 : decode cX12_crowd 11 = .ok (.invokestatic 157, 3) := by decide +kernel
theorem dX12_crowd_14 : decode cX12_crowd 14 = .ok (.ifCond .ne 9, 3) := by decide +kernel
theorem dX12_crowd_17 : decode cX12_crowd 17 = .ok (.aload_n 0, 1) := by decide +kernel
theorem dX12_crowd_18 : decode cX12_crowd 18 = .ok (.iconst 1, 1) := by decide +kernel
theorem dX12_crowd_19 : decode cX12_crowd 19 = .ok (.invokevirtual 295, 3) := by decide +kernel
theorem dX12_crowd_22 : decode cX12_crowd 22 = .ok (.ireturn, 1) := by decide +kernel
theorem dX12_crowd_23 : decode cX12_crowd 23 = .ok (.iconst (-1), 1) := by decide +kernel
theorem dX12_crowd_24 : decode cX12_crowd 24 = .ok (.istore_n 2, 1) := by decide +kernel
theorem dX12_crowd_25 : decode cX12_crowd 25 = .ok (.iconst (-1), 1) := by decide +kernel
theorem dX12_crowd_26 : decode cX12_crowd 26 = .ok (.istore_n 3, 1) := by decide +kernel
theorem dX12_crowd_27 : decode cX12_crowd 27 = .ok (.iconst 1, 1) := by decide +kernel
theorem dX12_crowd_28 : decode cX12_crowd 28 = .ok (.istore 4, 2) := by decide +kernel
theorem dX12_crowd_30 : decode cX12_crowd 30 = .ok (.iload 4, 2) := by decide +kernel
theorem dX12_crowd_32 : decode cX12_crowd 32 = .ok (.iload_n 1, 1) := by decide +kernel
theorem dX12_crowd_33 : decode cX12_crowd 33 = .ok (.if_icmp .gt 65, 3) := by decide +kernel
theorem dX12_crowd_36 : decode cX12_crowd 36 = .ok (.iconst 0, 1) := by decide +kernel
theorem dX12_crowd_37 : decode cX12_crowd 37 = .ok (.istore 5, 2) := by decide +kernel
theorem dX12_crowd_39 : decode cX12_crowd 39 = .ok (.iload 5, 2) := by decide +kernel
theorem dX12_crowd_41 : decode cX12_crowd 41 = .ok (.aload_n 0, 1) := by decide +kernel
theorem dX12_crowd_42 : decode cX12_crowd 42 = .ok (.getfield 42, 3) := by decide +kernel
theorem dX12_crowd_45 : decode cX12_crowd 45 = .ok (.iconst 0, 1) := by decide +kernel
theorem dX12_crowd_46 : decode cX12_crowd 46 = .ok (.iaload, 1) := by decide +kernel
theorem dX12_crowd_47 : decode cX12_crowd 47 = .ok (.if_icmp .ge 45, 3) := by decide +kernel
theorem dX12_crowd_50 : decode cX12_crowd 50 = .ok (.aload_n 0, 1) := by decide +kernel
theorem dX12_crowd_51 : decode cX12_crowd 51 = .ok (.iload 5, 2) := by decide +kernel
theorem dX12_crowd_53 : decode cX12_crowd 53 = .ok (.aload_n 0, 1) := by decide +kernel
theorem dX12_crowd_54 : decode cX12_crowd 54 = .ok (.getfield 308, 3) := by decide +kernel
theorem dX12_crowd_57 : decode cX12_crowd 57 = .ok (.iload 4, 2) := by decide +kernel
theorem dX12_crowd_59 : decode cX12_crowd 59 = .ok (.iadd, 1) := by decide +kernel
theorem dX12_crowd_60 : decode cX12_crowd 60 = .ok (.iconst 1, 1) := by decide +kernel
theorem dX12_crowd_61 : decode cX12_crowd 61 = .ok (.isub, 1) := by decide +kernel
theorem dX12_crowd_62 : decode cX12_crowd 62 = .ok (.invokevirtual 331, 3) := by decide +kernel
theorem dX12_crowd_65 : decode cX12_crowd 65 = .ok (.invokestatic 350, 3) := by decide +kernel
theorem dX12_crowd_68 : decode cX12_crowd 68 = .ok (.istore 6, 2) := by decide +kernel
theorem dX12_crowd_70 : decode cX12_crowd 70 = .ok (.iload 6, 2) := by decide +kernel
theorem dX12_crowd_72 : decode cX12_crowd 72 = .ok (.iload_n 3, 1) := by decide +kernel
theorem dX12_crowd_73 : decode cX12_crowd 73 = .ok (.if_icmp .le 6, 3) := by decide +kernel
theorem dX12_crowd_76 : decode cX12_crowd 76 = .ok (.iload 4, 2) := by decide +kernel
theorem dX12_crowd_78 : decode cX12_crowd 78 = .ok (.istore_n 2, 1) := by decide +kernel
theorem dX12_crowd_79 : decode cX12_crowd 79 = .ok (.iload_n 3, 1) := by decide +kernel
theorem dX12_crowd_80 : decode cX12_crowd 80 = .ok (.iload 6, 2) := by decide +kernel
theorem dX12_crowd_82 : decode cX12_crowd 82 = .ok (.invokestatic 360, 3) := by decide +kernel
theorem dX12_crowd_85 : decode cX12_crowd 85 = .ok (.istore_n 3, 1) := by decide +kernel
theorem dX12_crowd_86 : decode cX12_crowd 86 = .ok (.iinc 5 1, 3) := by decide +kernel
theorem dX12_crowd_89 : decode cX12_crowd 89 = .ok (.goto (-50), 3) := by decide +kernel
theorem dX12_crowd_92 : decode cX12_crowd 92 = .ok (.iinc 4 1, 3) := by decide +kernel
theorem dX12_crowd_95 : decode cX12_crowd 95 = .ok (.goto (-65), 3) := by decide +kernel
theorem dX12_crowd_98 : decode cX12_crowd 98 = .ok (.iload_n 2, 1) := by decide +kernel
theorem dX12_crowd_99 : decode cX12_crowd 99 = .ok (.ireturn, 1) := by decide +kernel
theorem dX12_where_0 : decode cX12_where 0 = .ok (.aload_n 0, 1) := by decide +kernel
theorem dX12_where_1 : decode cX12_where 1 = .ok (.iconst 0, 1) := by decide +kernel
theorem dX12_where_2 : decode cX12_where 2 = .ok (.putfield 154, 3) := by decide +kernel
theorem dX12_where_5 : decode cX12_where 5 = .ok (.aload_n 0, 1) := by decide +kernel
theorem dX12_where_6 : decode cX12_where 6 = .ok (.iload_n 1, 1) := by decide +kernel
theorem dX12_where_7 : decode cX12_where 7 = .ok (.invokevirtual 394, 3) := by decide +kernel
theorem dX12_where_10 : decode cX12_where 10 = .ok (.ifCond .ne 9, 3) := by decide +kernel
theorem dX12_where_13 : decode cX12_where 13 = .ok (.aload_n 0, 1) := by decide +kernel
theorem dX12_where_14 : decode cX12_where 14 = .ok (.iconst 1, 1) := by decide +kernel
theorem dX12_where_15 : decode cX12_where 15 = .ok (.invokevirtual 295, 3) := by decide +kernel
theorem dX12_where_18 : decode cX12_where 18 = .ok (.ireturn, 1) := by decide +kernel
theorem dX12_where_19 : decode cX12_where 19 = .ok (.iload_n 2, 1) := by decide +kernel
theorem dX12_where_20 : decode cX12_where 20 = .ok (.i2l, 1) := by decide +kernel
theorem dX12_where_21 : decode cX12_where 21 = .ok (.lconst 1, 1) := by decide +kernel
theorem dX12_where_22 : decode cX12_where 22 = .ok (.ldc2_w 426, 3) := by decide +kernel
theorem dX12_where_25 : decode cX12_where 25 = .ok (.invokestatic 157, 3) := by decide +kernel
theorem dX12_where_28 : decode cX12_where 28 = .ok (.ifCond .eq 19, 3) := by decide +kernel
theorem dX12_where_31 : decode cX12_where 31 = .ok (.aload_n 0, 1) := by decide +kernel
theorem dX12_where_32 : decode cX12_where 32 = .ok (.iload_n 1, 1) := by decide +kernel
theorem dX12_where_33 : decode cX12_where 33 = .ok (.aload_n 0, 1) := by decide +kernel
theorem dX12_where_34 : decode cX12_where 34 = .ok (.getfield 308, 3) := by decide +kernel
theorem dX12_where_37 : decode cX12_where 37 = .ok (.iload_n 2, 1) := by decide +kernel
theorem dX12_where_38 : decode cX12_where 38 = .ok (.iadd, 1) := by decide +kernel
theorem dX12_where_39 : decode cX12_where 39 = .ok (.iconst 1, 1) := by decide +kernel
theorem dX12_where_40 : decode cX12_where 40 = .ok (.isub, 1) := by decide +kernel
theorem dX12_where_41 : decode cX12_where 41 = .ok (.invokevirtual 328, 3) := by decide +kernel
theorem dX12_where_44 : decode cX12_where 44 = .ok (.goto 8, 3) := by decide +kernel
theorem dX12_where_47 : decode cX12_where 47 = .ok (.aload_n 0, 1) := by decide +kernel
theorem dX12_where_48 : decode cX12_where 48 = .ok (.iconst 2, 1) := by decide +kernel
theorem dX12_where_49 : decode cX12_where 49 = .ok (.invokevirtual 295, 3) := by decide +kernel
theorem dX12_where_52 : decode cX12_where 52 = .ok (.ireturn, 1) := by decide +kernel
theorem dX12_watch_0 : decode cX12_watch 0 = .ok (.aload_n 0, 1) := by decide +kernel
theorem dX12_watch_1 : decode cX12_watch 1 = .ok (.iconst 0, 1) := by decide +kernel
theorem dX12_watch_2 : decode cX12_watch 2 = .ok (.putfield 154, 3) := by decide +kernel
theorem dX12_watch_5 : decode cX12_watch 5 = .ok (.iload_n 1, 1) := by decide +kernel
theorem dX12_watch_6 : decode cX12_watch 6 = .ok (.i2l, 1) := by decide +kernel
theorem dX12_watch_7 : decode cX12_watch 7 = .ok (.lconst 1, 1) := by decide +kernel
theorem dX12_watch_8 : decode cX12_watch 8 = .ok (.ldc2_w 426, 3) := by decide +kernel
theorem dX12_watch_11 : decode cX12_watch 11 = .ok (.invokestatic 157, 3) := by decide +kernel
theorem dX12_watch_14 : decode cX12_watch 14 = .ok (.ifCond .ne 9, 3) := by decide +kernel
theorem dX12_watch_17 : decode cX12_watch 17 = .ok (.aload_n 0, 1) := by decide +kernel
theorem dX12_watch_18 : decode cX12_watch 18 = .ok (.iconst 1, 1) := by decide +kernel
theorem dX12_watch_19 : decode cX12_watch 19 = .ok (.invokevirtual 295, 3) := by decide +kernel
theorem dX12_watch_22 : decode cX12_watch 22 = .ok (.ireturn, 1) := by decide +kernel
theorem dX12_watch_23 : decode cX12_watch 23 = .ok (.iconst 0, 1) := by decide +kernel
theorem dX12_watch_24 : decode cX12_watch 24 = .ok (.istore_n 2, 1) := by decide +kernel
theorem dX12_watch_25 : decode cX12_watch 25 = .ok (.iload_n 2, 1) := by decide +kernel
theorem dX12_watch_26 : decode cX12_watch 26 = .ok (.aload_n 0, 1) := by decide +kernel
theorem dX12_watch_27 : decode cX12_watch 27 = .ok (.getfield 42, 3) := by decide +kernel
theorem dX12_watch_30 : decode cX12_watch 30 = .ok (.iconst 0, 1) := by decide +kernel
theorem dX12_watch_31 : decode cX12_watch 31 = .ok (.iaload, 1) := by decide +kernel
theorem dX12_watch_32 : decode cX12_watch 32 = .ok (.if_icmp .ge 49, 3) := by decide +kernel
theorem dX12_watch_35 : decode cX12_watch 35 = .ok (.aload_n 0, 1) := by decide +kernel
theorem dX12_watch_36 : decode cX12_watch 36 = .ok (.getfield 109, 3) := by decide +kernel
theorem dX12_watch_39 : decode cX12_watch 39 = .ok (.iload_n 2, 1) := by decide +kernel
theorem dX12_watch_40 : decode cX12_watch 40 = .ok (.iconst 0, 1) := by decide +kernel
theorem dX12_watch_41 : decode cX12_watch 41 = .ok (.iastore, 1) := by decide +kernel
theorem dX12_watch_42 : decode cX12_watch 42 = .ok (.iconst 0, 1) := by decide +kernel
theorem dX12_watch_43 : decode cX12_watch 43 = .ok (.istore_n 3, 1) := by decide +kernel
theorem dX12_watch_44 : decode cX12_watch 44 = .ok (.iload_n 3, 1) := by decide +kernel
theorem dX12_watch_45 : decode cX12_watch 45 = .ok (.iload_n 1, 1) := by decide +kernel
theorem dX12_watch_46 : decode cX12_watch 46 = .ok (.if_icmp .ge 29, 3) := by decide +kernel
theorem dX12_watch_49 : decode cX12_watch 49 = .ok (.aload_n 0, 1) := by decide +kernel
theorem dX12_watch_50 : decode cX12_watch 50 = .ok (.getfield 109, 3) := by decide +kernel
theorem dX12_watch_53 : decode cX12_watch 53 = .ok (.iload_n 2, 1) := by decide +kernel
theorem dX12_watch_54 : decode cX12_watch 54 = .ok (.dup2, 1) := by decide +kernel
theorem dX12_watch_55 : decode cX12_watch 55 = .ok (.iaload, 1) := by decide +kernel
theorem dX12_watch_56 : decode cX12_watch 56 = .ok (.aload_n 0, 1) := by decide +kernel
theorem dX12_watch_57 : decode cX12_watch 57 = .ok (.iload_n 2, 1) := by decide +kernel
theorem dX12_watch_58 : decode cX12_watch 58 = .ok (.aload_n 0, 1) := by decide +kernel
theorem dX12_watch_59 : decode cX12_watch 59 = .ok (.getfield 308, 3) := by decide +kernel
theorem dX12_watch_62 : decode cX12_watch 62 = .ok (.iload_n 3, 1) := by decide +kernel
theorem dX12_watch_63 : decode cX12_watch 63 = .ok (.iadd, 1) := by decide +kernel
theorem dX12_watch_64 : decode cX12_watch 64 = .ok (.invokevirtual 331, 3) := by decide +kernel
theorem dX12_watch_67 : decode cX12_watch 67 = .ok (.ior, 1) := by decide +kernel
theorem dX12_watch_68 : decode cX12_watch 68 = .ok (.iastore, 1) := by decide +kernel
theorem dX12_watch_69 : decode cX12_watch 69 = .ok (.iinc 3 1, 3) := by decide +kernel
theorem dX12_watch_72 : decode cX12_watch 72 = .ok (.goto (-28), 3) := by decide +kernel
theorem dX12_watch_75 : decode cX12_watch 75 = .ok (.iinc 2 1, 3) := by decide +kernel
theorem dX12_watch_78 : decode cX12_watch 78 = .ok (.goto (-53), 3) := by decide +kernel
theorem dX12_watch_81 : decode cX12_watch 81 = .ok (.iconst (-1), 1) := by decide +kernel
theorem dX12_watch_82 : decode cX12_watch 82 = .ok (.istore_n 2, 1) := by decide +kernel
theorem dX12_watch_83 : decode cX12_watch 83 = .ok (.iconst 0, 1) := by decide +kernel
theorem dX12_watch_84 : decode cX12_watch 84 = .ok (.istore_n 3, 1) := by decide +kernel
theorem dX12_watch_85 : decode cX12_watch 85 = .ok (.iload_n 3, 1) := by decide +kernel
theorem dX12_watch_86 : decode cX12_watch 86 = .ok (.iconst 1, 1) := by decide +kernel
theorem dX12_watch_87 : decode cX12_watch 87 = .ok (.aload_n 0, 1) := by decide +kernel
theorem dX12_watch_88 : decode cX12_watch 88 = .ok (.getfield 42, 3) := by decide +kernel
theorem dX12_watch_91 : decode cX12_watch 91 = .ok (.iconst 0, 1) := by decide +kernel
theorem dX12_watch_92 : decode cX12_watch 92 = .ok (.iaload, 1) := by decide +kernel
theorem dX12_watch_93 : decode cX12_watch 93 = .ok (.ishl, 1) := by decide +kernel
theorem dX12_watch_94 : decode cX12_watch 94 = .ok (.if_icmp .ge 87, 3) := by decide +kernel
theorem dX12_watch_97 : decode cX12_watch 97 = .ok (.iload_n 2, 1) := by decide +kernel
theorem dX12_watch_98 : decode cX12_watch 98 = .ok (.iconst (-1), 1) := by decide +kernel
theorem dX12_watch_99 : decode cX12_watch 99 = .ok (.if_icmp .eq 17, 3) := by decide +kernel
theorem dX12_watch_102 : decode cX12_watch 102 = .ok (.iload_n 3, 1) := by decide +kernel
theorem dX12_watch_103 : decode cX12_watch 103 = .ok (.invokestatic 350, 3) := by decide +kernel
theorem dX12_watch_106 : decode cX12_watch 106 = .ok (.iload_n 2, 1) := by decide +kernel
theorem dX12_watch_107 : decode cX12_watch 107 = .ok (.invokestatic 350, 3) := by decide +kernel
theorem dX12_watch_110 : decode cX12_watch 110 = .ok (.if_icmp .lt 6, 3) := by decide +kernel
theorem dX12_watch_113 : decode cX12_watch 113 = .ok (.goto 62, 3) := by decide +kernel
theorem dX12_watch_116 : decode cX12_watch 116 = .ok (.iconst 0, 1) := by decide +kernel
theorem dX12_watch_117 : decode cX12_watch 117 = .ok (.istore 4, 2) := by decide +kernel
theorem dX12_watch_119 : decode cX12_watch 119 = .ok (.iconst 0, 1) := by decide +kernel
theorem dX12_watch_120 : decode cX12_watch 120 = .ok (.istore 5, 2) := by decide +kernel
theorem dX12_watch_122 : decode cX12_watch 122 = .ok (.iload 5, 2) := by decide +kernel
theorem dX12_watch_124 : decode cX12_watch 124 = .ok (.aload_n 0, 1) := by decide +kernel
theorem dX12_watch_125 : decode cX12_watch 125 = .ok (.getfield 42, 3) := by decide +kernel
theorem dX12_watch_128 : decode cX12_watch 128 = .ok (.iconst 0, 1) := by decide +kernel
theorem dX12_watch_129 : decode cX12_watch 129 = .ok (.iaload, 1) := by decide +kernel
theorem dX12_watch_130 : decode cX12_watch 130 = .ok (.if_icmp .ge 34, 3) := by decide +kernel
theorem dX12_watch_133 : decode cX12_watch 133 = .ok (.iload 4, 2) := by decide +kernel
theorem dX12_watch_135 : decode cX12_watch 135 = .ok (.iload_n 3, 1) := by decide +kernel
theorem dX12_watch_136 : decode cX12_watch 136 = .ok (.iload 5, 2) := by decide +kernel
theorem dX12_watch_138 : decode cX12_watch 138 = .ok (.invokestatic 363, 3) := by decide +kernel
theorem dX12_watch_141 : decode cX12_watch 141 = .ok (.ifCond .eq 13, 3) := by decide +kernel
theorem dX12_watch_144 : decode cX12_watch 144 = .ok (.aload_n 0, 1) := by decide +kernel
theorem dX12_watch_145 : decode cX12_watch 145 = .ok (.getfield 109, 3) := by decide +kernel
theorem dX12_watch_148 : decode cX12_watch 148 = .ok (.iload 5, 2) := by decide +kernel
theorem dX12_watch_150 : decode cX12_watch 150 = .ok (.iaload, 1) := by decide +kernel
theorem dX12_watch_151 : decode cX12_watch 151 = .ok (.goto 4, 3) := by decide +kernel
theorem dX12_watch_154 : decode cX12_watch 154 = .ok (.iconst 0, 1) := by decide +kernel
theorem dX12_watch_155 : decode cX12_watch 155 = .ok (.ior, 1) := by decide +kernel
theorem dX12_watch_156 : decode cX12_watch 156 = .ok (.istore 4, 2) := by decide +kernel
theorem dX12_watch_158 : decode cX12_watch 158 = .ok (.iinc 5 1, 3) := by decide +kernel
theorem dX12_watch_161 : decode cX12_watch 161 = .ok (.goto (-39), 3) := by decide +kernel
theorem dX12_watch_164 : decode cX12_watch 164 = .ok (.iload 4, 2) := by decide +kernel
theorem dX12_watch_166 : decode cX12_watch 166 = .ok (.aload_n 0, 1) := by decide +kernel
theorem dX12_watch_167 : decode cX12_watch 167 = .ok (.invokevirtual 436, 3) := by decide +kernel
theorem dX12_watch_170 : decode cX12_watch 170 = .ok (.if_icmp .ne 5, 3) := by decide +kernel
theorem dX12_watch_173 : decode cX12_watch 173 = .ok (.iload_n 3, 1) := by decide +kernel
theorem dX12_watch_174 : decode cX12_watch 174 = .ok (.istore_n 2, 1) := by decide +kernel
theorem dX12_watch_175 : decode cX12_watch 175 = .ok (.iinc 3 1, 3) := by decide +kernel
theorem dX12_watch_178 : decode cX12_watch 178 = .ok (.goto (-93), 3) := by decide +kernel
theorem dX12_watch_181 : decode cX12_watch 181 = .ok (.iload_n 2, 1) := by decide +kernel
theorem dX12_watch_182 : decode cX12_watch 182 = .ok (.ireturn, 1) := by decide +kernel
theorem dX12_shows_0 : decode cX12_shows 0 = .ok (.aload_n 0, 1) := by decide +kernel
theorem dX12_shows_1 : decode cX12_shows 1 = .ok (.iconst 0, 1) := by decide +kernel
theorem dX12_shows_2 : decode cX12_shows 2 = .ok (.putfield 154, 3) := by decide +kernel
theorem dX12_shows_5 : decode cX12_shows 5 = .ok (.aload_n 0, 1) := by decide +kernel
theorem dX12_shows_6 : decode cX12_shows 6 = .ok (.iload_n 1, 1) := by decide +kernel
theorem dX12_shows_7 : decode cX12_shows 7 = .ok (.invokevirtual 394, 3) := by decide +kernel
theorem dX12_shows_10 : decode cX12_shows 10 = .ok (.ifCond .ne 9, 3) := by decide +kernel
theorem dX12_shows_13 : decode cX12_shows 13 = .ok (.aload_n 0, 1) := by decide +kernel
theorem dX12_shows_14 : decode cX12_shows 14 = .ok (.iconst 1, 1) := by decide +kernel
theorem dX12_shows_15 : decode cX12_shows 15 = .ok (.invokevirtual 295, 3) := by decide +kernel
theorem dX12_shows_18 : decode cX12_shows 18 = .ok (.ireturn, 1) := by decide +kernel
theorem dX12_shows_19 : decode cX12_shows 19 = .ok (.iload_n 2, 1) := by decide +kernel
theorem dX12_shows_20 : decode cX12_shows 20 = .ok (.i2l, 1) := by decide +kernel
theorem dX12_shows_21 : decode cX12_shows 21 = .ok (.lconst 1, 1) := by decide +kernel
theorem dX12_shows_22 : decode cX12_shows 22 = .ok (.ldc2_w 426, 3) := by decide +kernel
theorem dX12_shows_25 : decode cX12_shows 25 = .ok (.invokestatic 157, 3) := by decide +kernel
theorem dX12_shows_28 : decode cX12_shows 28 = .ok (.ifCond .ne 9, 3) := by decide +kernel
theorem dX12_shows_31 : decode cX12_shows 31 = .ok (.aload_n 0, 1) := by decide +kernel
theorem dX12_shows_32 : decode cX12_shows 32 = .ok (.iconst 2, 1) := by decide +kernel
theorem dX12_shows_33 : decode cX12_shows 33 = .ok (.invokevirtual 295, 3) := by decide +kernel
theorem dX12_shows_36 : decode cX12_shows 36 = .ok (.ireturn, 1) := by decide +kernel
theorem dX12_shows_37 : decode cX12_shows 37 = .ok (.aload_n 0, 1) := by decide +kernel
theorem dX12_shows_38 : decode cX12_shows 38 = .ok (.iload_n 1, 1) := by decide +kernel
theorem dX12_shows_39 : decode cX12_shows 39 = .ok (.invokevirtual 341, 3) := by decide +kernel
theorem dX12_shows_42 : decode cX12_shows 42 = .ok (.aload_n 0, 1) := by decide +kernel
theorem dX12_shows_43 : decode cX12_shows 43 = .ok (.getfield 313, 3) := by decide +kernel
theorem dX12_shows_46 : decode cX12_shows 46 = .ok (.iconst 1, 1) := by decide +kernel
theorem dX12_shows_47 : decode cX12_shows 47 = .ok (.if_icmp .ne 7, 3) := by decide +kernel
theorem dX12_shows_50 : decode cX12_shows 50 = .ok (.iconst 0, 1) := by decide +kernel
theorem dX12_shows_51 : decode cX12_shows 51 = .ok (.goto 8, 3) := by decide +kernel
theorem dX12_shows_54 : decode cX12_shows 54 = .ok (.iconst 5, 1) := by decide +kernel
theorem dX12_shows_55 : decode cX12_shows 55 = .ok (.iload_n 2, 1) := by decide +kernel
theorem dX12_shows_56 : decode cX12_shows 56 = .ok (.iconst 1, 1) := by decide +kernel
theorem dX12_shows_57 : decode cX12_shows 57 = .ok (.isub, 1) := by decide +kernel
theorem dX12_shows_58 : decode cX12_shows 58 = .ok (.imul, 1) := by decide +kernel
theorem dX12_shows_59 : decode cX12_shows 59 = .ok (.iadd, 1) := by decide +kernel
theorem dX12_shows_60 : decode cX12_shows 60 = .ok (.invokestatic 334, 3) := by decide +kernel
theorem dX12_shows_63 : decode cX12_shows 63 = .ok (.ireturn, 1) := by decide +kernel
theorem dX12_alike_0 : decode cX12_alike 0 = .ok (.aload_n 0, 1) := by decide +kernel
theorem dX12_alike_1 : decode cX12_alike 1 = .ok (.iconst 0, 1) := by decide +kernel
theorem dX12_alike_2 : decode cX12_alike 2 = .ok (.putfield 154, 3) := by decide +kernel
theorem dX12_alike_5 : decode cX12_alike 5 = .ok (.iconst 0, 1) := by decide +kernel
theorem dX12_alike_6 : decode cX12_alike 6 = .ok (.istore_n 1, 1) := by decide +kernel
theorem dX12_alike_7 : decode cX12_alike 7 = .ok (.iconst 0, 1) := by decide +kernel
theorem dX12_alike_8 : decode cX12_alike 8 = .ok (.istore_n 2, 1) := by decide +kernel
theorem dX12_alike_9 : decode cX12_alike 9 = .ok (.iload_n 2, 1) := by decide +kernel
theorem dX12_alike_10 : decode cX12_alike 10 = .ok (.aload_n 0, 1) := by decide +kernel
theorem dX12_alike_11 : decode cX12_alike 11 = .ok (.getfield 42, 3) := by decide +kernel
theorem dX12_alike_14 : decode cX12_alike 14 = .ok (.iconst 1, 1) := by decide +kernel
theorem dX12_alike_15 : decode cX12_alike 15 = .ok (.iaload, 1) := by decide +kernel
theorem dX12_alike_16 : decode cX12_alike 16 = .ok (.if_icmp .ge 45, 3) := by decide +kernel
theorem dX12_alike_19 : decode cX12_alike 19 = .ok (.iconst 0, 1) := by decide +kernel
theorem dX12_alike_20 : decode cX12_alike 20 = .ok (.istore_n 3, 1) := by decide +kernel
theorem dX12_alike_21 : decode cX12_alike 21 = .ok (.iload_n 3, 1) := by decide +kernel
theorem dX12_alike_22 : decode cX12_alike 22 = .ok (.iload_n 2, 1) := by decide +kernel
theorem dX12_alike_23 : decode cX12_alike 23 = .ok (.if_icmp .ge 32, 3) := by decide +kernel
theorem dX12_alike_26 : decode cX12_alike 26 = .ok (.iload_n 1, 1) := by decide +kernel
theorem dX12_alike_27 : decode cX12_alike 27 = .ok (.aload_n 0, 1) := by decide +kernel
theorem dX12_alike_28 : decode cX12_alike 28 = .ok (.getfield 85, 3) := by decide +kernel
theorem dX12_alike_31 : decode cX12_alike 31 = .ok (.iload_n 2, 1) := by decide +kernel
theorem dX12_alike_32 : decode cX12_alike 32 = .ok (.iaload, 1) := by decide +kernel
theorem dX12_alike_33 : decode cX12_alike 33 = .ok (.aload_n 0, 1) := by decide +kernel
theorem dX12_alike_34 : decode cX12_alike 34 = .ok (.getfield 85, 3) := by decide +kernel
theorem dX12_alike_37 : decode cX12_alike 37 = .ok (.iload_n 3, 1) := by decide +kernel
theorem dX12_alike_38 : decode cX12_alike 38 = .ok (.iaload, 1) := by decide +kernel
theorem dX12_alike_39 : decode cX12_alike 39 = .ok (.if_icmp .ne 7, 3) := by decide +kernel
theorem dX12_alike_42 : decode cX12_alike 42 = .ok (.iconst 1, 1) := by decide +kernel
theorem dX12_alike_43 : decode cX12_alike 43 = .ok (.goto 4, 3) := by decide +kernel
theorem dX12_alike_46 : decode cX12_alike 46 = .ok (.iconst 0, 1) := by decide +kernel
theorem dX12_alike_47 : decode cX12_alike 47 = .ok (.iadd, 1) := by decide +kernel
theorem dX12_alike_48 : decode cX12_alike 48 = .ok (.istore_n 1, 1) := by decide +kernel
theorem dX12_alike_49 : decode cX12_alike 49 = .ok (.iinc 3 1, 3) := by decide +kernel
theorem dX12_alike_52 : decode cX12_alike 52 = .ok (.goto (-31), 3) := by decide +kernel
theorem dX12_alike_55 : decode cX12_alike 55 = .ok (.iinc 2 1, 3) := by decide +kernel
theorem dX12_alike_58 : decode cX12_alike 58 = .ok (.goto (-49), 3) := by decide +kernel
theorem dX12_alike_61 : decode cX12_alike 61 = .ok (.iload_n 1, 1) := by decide +kernel
theorem dX12_alike_62 : decode cX12_alike 62 = .ok (.ireturn, 1) := by decide +kernel
theorem dX12_toSet_0 : decode cX12_toSet 0 = .ok (.aload_n 0, 1) := by decide +kernel
theorem dX12_toSet_1 : decode cX12_toSet 1 = .ok (.iconst 0, 1) := by decide +kernel
theorem dX12_toSet_2 : decode cX12_toSet 2 = .ok (.putfield 154, 3) := by decide +kernel
theorem dX12_toSet_5 : decode cX12_toSet 5 = .ok (.aload_n 0, 1) := by decide +kernel
theorem dX12_toSet_6 : decode cX12_toSet 6 = .ok (.iload_n 1, 1) := by decide +kernel
theorem dX12_toSet_7 : decode cX12_toSet 7 = .ok (.invokevirtual 394, 3) := by decide +kernel
theorem dX12_toSet_10 : decode cX12_toSet 10 = .ok (.ifCond .eq 12, 3) := by decide +kernel
theorem dX12_toSet_13 : decode cX12_toSet 13 = .ok (.iload_n 3, 1) := by decide +kernel
theorem dX12_toSet_14 : decode cX12_toSet 14 = .ok (.ifCond .lt 8, 3) := by decide +kernel
theorem dX12_toSet_17 : decode cX12_toSet 17 = .ok (.iload_n 3, 1) := by decide +kernel
theorem dX12_toSet_18 : decode cX12_toSet 18 = .ok (.iconst 1, 1) := by decide +kernel
theorem dX12_toSet_19 : decode cX12_toSet 19 = .ok (.if_icmp .le 9, 3) := by decide +kernel
theorem dX12_toSet_22 : decode cX12_toSet 22 = .ok (.aload_n 0, 1) := by decide +kernel
theorem dX12_toSet_23 : decode cX12_toSet 23 = .ok (.iconst 1, 1) := by decide +kernel
theorem dX12_toSet_24 : decode cX12_toSet 24 = .ok (.invokevirtual 295, 3) := by decide +kernel
theorem dX12_toSet_27 : decode cX12_toSet 27 = .ok (.ireturn, 1) := by decide +kernel
theorem dX12_toSet_28 : decode cX12_toSet 28 = .ok (.iload_n 2, 1) := by decide +kernel
theorem dX12_toSet_29 : decode cX12_toSet 29 = .ok (.i2l, 1) := by decide +kernel
theorem dX12_toSet_30 : decode cX12_toSet 30 = .ok (.lconst 1, 1) := by decide +kernel
theorem dX12_toSet_31 : decode cX12_toSet 31 = .ok (.ldc2_w 426, 3) := by decide +kernel
theorem dX12_toSet_34 : decode cX12_toSet 34 = .ok (.invokestatic 157, 3) := by decide +kernel
theorem dX12_toSet_37 : decode cX12_toSet 37 = .ok (.ifCond .ne 9, 3) := by decide +kernel
theorem dX12_toSet_40 : decode cX12_toSet 40 = .ok (.aload_n 0, 1) := by decide +kernel
theorem dX12_toSet_41 : decode cX12_toSet 41 = .ok (.iconst 2, 1) := by decide +kernel
theorem dX12_toSet_42 : decode cX12_toSet 42 = .ok (.invokevirtual 295, 3) := by decide +kernel
theorem dX12_toSet_45 : decode cX12_toSet 45 = .ok (.ireturn, 1) := by decide +kernel
theorem dX12_toSet_46 : decode cX12_toSet 46 = .ok (.aload_n 0, 1) := by decide +kernel
theorem dX12_toSet_47 : decode cX12_toSet 47 = .ok (.getfield 85, 3) := by decide +kernel
theorem dX12_toSet_50 : decode cX12_toSet 50 = .ok (.iload_n 1, 1) := by decide +kernel
theorem dX12_toSet_51 : decode cX12_toSet 51 = .ok (.iaload, 1) := by decide +kernel
theorem dX12_toSet_52 : decode cX12_toSet 52 = .ok (.istore 4, 2) := by decide +kernel
theorem dX12_toSet_54 : decode cX12_toSet 54 = .ok (.iconst (-1), 1) := by decide +kernel
theorem dX12_toSet_55 : decode cX12_toSet 55 = .ok (.istore 5, 2) := by decide +kernel
theorem dX12_toSet_57 : decode cX12_toSet 57 = .ok (.iconst (-1), 1) := by decide +kernel
theorem dX12_toSet_58 : decode cX12_toSet 58 = .ok (.istore 6, 2) := by decide +kernel
theorem dX12_toSet_60 : decode cX12_toSet 60 = .ok (.iconst 0, 1) := by decide +kernel
theorem dX12_toSet_61 : decode cX12_toSet 61 = .ok (.istore 7, 2) := by decide +kernel
theorem dX12_toSet_63 : decode cX12_toSet 63 = .ok (.iload 7, 2) := by decide +kernel
theorem dX12_toSet_65 : decode cX12_toSet 65 = .ok (.bipush 60, 2) := by decide +kernel
theorem dX12_toSet_67 : decode cX12_toSet 67 = .ok (.if_icmp .ge 43, 3) := by decide +kernel
theorem dX12_toSet_70 : decode cX12_toSet 70 = .ok (.aload_n 0, 1) := by decide +kernel
theorem dX12_toSet_71 : decode cX12_toSet 71 = .ok (.getfield 85, 3) := by decide +kernel
theorem dX12_toSet_74 : decode cX12_toSet 74 = .ok (.iload_n 1, 1) := by decide +kernel
theorem dX12_toSet_75 : decode cX12_toSet 75 = .ok (.iload 7, 2) := by decide +kernel
theorem dX12_toSet_77 : decode cX12_toSet 77 = .ok (.iastore, 1) := by decide +kernel
theorem dX12_toSet_78 : decode cX12_toSet 78 = .ok (.aload_n 0, 1) := by decide +kernel
theorem dX12_toSet_79 : decode cX12_toSet 79 = .ok (.iload_n 1, 1) := by decide +kernel
theorem dX12_toSet_80 : decode cX12_toSet 80 = .ok (.iload_n 2, 1) := by decide +kernel
theorem dX12_toSet_81 : decode cX12_toSet 81 = .ok (.invokevirtual 428, 3) := by decide +kernel
theorem dX12_toSet_84 : decode cX12_toSet 84 = .ok (.istore 8, 2) := by decide +kernel
theorem dX12_toSet_86 : decode cX12_toSet 86 = .ok (.iload 8, 2) := by decide +kernel
theorem dX12_toSet_88 : decode cX12_toSet 88 = .ok (.iload 6, 2) := by decide +kernel
theorem dX12_toSet_90 : decode cX12_toSet 90 = .ok (.if_icmp .gt 6, 3) := by decide +kernel
theorem dX12_toSet_93 : decode cX12_toSet 93 = .ok (.goto 11, 3) := by decide +kernel
theorem dX12_toSet_96 : decode cX12_toSet 96 = .ok (.iload 7, 2) := by decide +kernel
theorem dX12_toSet_98 : decode cX12_toSet 98 = .ok (.istore 5, 2) := by decide +kernel
theorem dX12_toSet_100 : decode cX12_toSet 100 = .ok (.iload 8, 2) := by decide +kernel
theorem dX12_toSet_102 : decode cX12_toSet 102 = .ok (.istore 6, 2) := by decide +kernel
theorem dX12_toSet_104 : decode cX12_toSet 104 = .ok (.iinc 7 1, 3) := by decide +kernel
theorem dX12_toSet_107 : decode cX12_toSet 107 = .ok (.goto (-44), 3) := by decide +kernel
theorem dX12_toSet_110 : decode cX12_toSet 110 = .ok (.aload_n 0, 1) := by decide +kernel
theorem dX12_toSet_111 : decode cX12_toSet 111 = .ok (.getfield 85, 3) := by decide +kernel
theorem dX12_toSet_114 : decode cX12_toSet 114 = .ok (.iload_n 1, 1) := by decide +kernel
theorem dX12_toSet_115 : decode cX12_toSet 115 = .ok (.iload 4, 2) := by decide +kernel
theorem dX12_toSet_117 : decode cX12_toSet 117 = .ok (.iastore, 1) := by decide +kernel
theorem dX12_toSet_118 : decode cX12_toSet 118 = .ok (.iload_n 3, 1) := by decide +kernel
theorem dX12_toSet_119 : decode cX12_toSet 119 = .ok (.ifCond .ne 8, 3) := by decide +kernel
theorem dX12_toSet_122 : decode cX12_toSet 122 = .ok (.iload 5, 2) := by decide +kernel
theorem dX12_toSet_124 : decode cX12_toSet 124 = .ok (.goto 5, 3) := by decide +kernel
theorem dX12_toSet_127 : decode cX12_toSet 127 = .ok (.iload 6, 2) := by decide +kernel
theorem dX12_toSet_129 : decode cX12_toSet 129 = .ok (.ireturn, 1) := by decide +kernel
theorem dX12_toStay_0 : decode cX12_toStay 0 = .ok (.aload_n 0, 1) := by decide +kernel
theorem dX12_toStay_1 : decode cX12_toStay 1 = .ok (.iconst 0, 1) := by decide +kernel
theorem dX12_toStay_2 : decode cX12_toStay 2 = .ok (.putfield 154, 3) := by decide +kernel
theorem dX12_toStay_5 : decode cX12_toStay 5 = .ok (.aload_n 0, 1) := by decide +kernel
theorem dX12_toStay_6 : decode cX12_toStay 6 = .ok (.iload_n 1, 1) := by decide +kernel
theorem dX12_toStay_7 : decode cX12_toStay 7 = .ok (.invokevirtual 394, 3) := by decide +kernel
theorem dX12_toStay_10 : decode cX12_toStay 10 = .ok (.ifCond .ne 9, 3) := by decide +kernel
theorem dX12_toStay_13 : decode cX12_toStay 13 = .ok (.aload_n 0, 1) := by decide +kernel
theorem dX12_toStay_14 : decode cX12_toStay 14 = .ok (.iconst 1, 1) := by decide +kernel
theorem dX12_toStay_15 : decode cX12_toStay 15 = .ok (.invokevirtual 295, 3) := by decide +kernel
theorem dX12_toStay_18 : decode cX12_toStay 18 = .ok (.ireturn, 1) := by decide +kernel
theorem dX12_toStay_19 : decode cX12_toStay 19 = .ok (.iload_n 2, 1) := by decide +kernel
theorem dX12_toStay_20 : decode cX12_toStay 20 = .ok (.i2l, 1) := by decide +kernel
theorem dX12_toStay_21 : decode cX12_toStay 21 = .ok (.lconst 1, 1) := by decide +kernel
theorem dX12_toStay_22 : decode cX12_toStay 22 = .ok (.ldc2_w 426, 3) := by decide +kernel
theorem dX12_toStay_25 : decode cX12_toStay 25 = .ok (.invokestatic 157, 3) := by decide +kernel
theorem dX12_toStay_28 : decode cX12_toStay 28 = .ok (.ifCond .ne 9, 3) := by decide +kernel
theorem dX12_toStay_31 : decode cX12_toStay 31 = .ok (.aload_n 0, 1) := by decide +kernel
theorem dX12_toStay_32 : decode cX12_toStay 32 = .ok (.iconst 2, 1) := by decide +kernel
theorem dX12_toStay_33 : decode cX12_toStay 33 = .ok (.invokevirtual 295, 3) := by decide +kernel
theorem dX12_toStay_36 : decode cX12_toStay 36 = .ok (.ireturn, 1) := by decide +kernel
theorem dX12_toStay_37 : decode cX12_toStay 37 = .ok (.aload_n 0, 1) := by decide +kernel
theorem dX12_toStay_38 : decode cX12_toStay 38 = .ok (.getfield 316, 3) := by decide +kernel
theorem dX12_toStay_41 : decode cX12_toStay 41 = .ok (.istore_n 3, 1) := by decide +kernel
theorem dX12_toStay_42 : decode cX12_toStay 42 = .ok (.iconst (-1), 1) := by decide +kernel
theorem dX12_toStay_43 : decode cX12_toStay 43 = .ok (.istore 4, 2) := by decide +kernel
theorem dX12_toStay_45 : decode cX12_toStay 45 = .ok (.aload_n 0, 1) := by decide +kernel
theorem dX12_toStay_46 : decode cX12_toStay 46 = .ok (.iload_n 1, 1) := by decide +kernel
theorem dX12_toStay_47 : decode cX12_toStay 47 = .ok (.iload_n 2, 1) := by decide +kernel
theorem dX12_toStay_48 : decode cX12_toStay 48 = .ok (.invokevirtual 428, 3) := by decide +kernel
theorem dX12_toStay_51 : decode cX12_toStay 51 = .ok (.istore 5, 2) := by decide +kernel
theorem dX12_toStay_53 : decode cX12_toStay 53 = .ok (.iconst 0, 1) := by decide +kernel
theorem dX12_toStay_54 : decode cX12_toStay 54 = .ok (.istore 6, 2) := by decide +kernel
theorem dX12_toStay_56 : decode cX12_toStay 56 = .ok (.iload 6, 2) := by decide +kernel
theorem dX12_toStay_58 : decode cX12_toStay 58 = .ok (.aload_n 0, 1) := by decide +kernel
theorem dX12_toStay_59 : decode cX12_toStay 59 = .ok (.getfield 42, 3) := by decide +kernel
theorem dX12_toStay_62 : decode cX12_toStay 62 = .ok (.iconst 1, 1) := by decide +kernel
theorem dX12_toStay_63 : decode cX12_toStay 63 = .ok (.iaload, 1) := by decide +kernel
theorem dX12_toStay_64 : decode cX12_toStay 64 = .ok (.if_icmp .ge 62, 3) := by decide +kernel
theorem dX12_toStay_67 : decode cX12_toStay 67 = .ok (.iload_n 3, 1) := by decide +kernel
theorem dX12_toStay_68 : decode cX12_toStay 68 = .ok (.iload 6, 2) := by decide +kernel
theorem dX12_toStay_70 : decode cX12_toStay 70 = .ok (.invokestatic 363, 3) := by decide +kernel
theorem dX12_toStay_73 : decode cX12_toStay 73 = .ok (.ifCond .eq 6, 3) := by decide +kernel
theorem dX12_toStay_76 : decode cX12_toStay 76 = .ok (.goto 44, 3) := by decide +kernel
theorem dX12_toStay_79 : decode cX12_toStay 79 = .ok (.aload_n 0, 1) := by decide +kernel
theorem dX12_toStay_80 : decode cX12_toStay 80 = .ok (.iload_n 3, 1) := by decide +kernel
theorem dX12_toStay_81 : decode cX12_toStay 81 = .ok (.iconst 1, 1) := by decide +kernel
theorem dX12_toStay_82 : decode cX12_toStay 82 = .ok (.iload 6, 2) := by decide +kernel
theorem dX12_toStay_84 : decode cX12_toStay 84 = .ok (.ishl, 1) := by decide +kernel
theorem dX12_toStay_85 : decode cX12_toStay 85 = .ok (.ior, 1) := by decide +kernel
theorem dX12_toStay_86 : decode cX12_toStay 86 = .ok (.putfield 316, 3) := by decide +kernel
theorem dX12_toStay_89 : decode cX12_toStay 89 = .ok (.aload_n 0, 1) := by decide +kernel
theorem dX12_toStay_90 : decode cX12_toStay 90 = .ok (.iload_n 1, 1) := by decide +kernel
theorem dX12_toStay_91 : decode cX12_toStay 91 = .ok (.iload_n 2, 1) := by decide +kernel
theorem dX12_toStay_92 : decode cX12_toStay 92 = .ok (.invokevirtual 428, 3) := by decide +kernel
theorem dX12_toStay_95 : decode cX12_toStay 95 = .ok (.istore 7, 2) := by decide +kernel
theorem dX12_toStay_97 : decode cX12_toStay 97 = .ok (.aload_n 0, 1) := by decide +kernel
theorem dX12_toStay_98 : decode cX12_toStay 98 = .ok (.iload_n 3, 1) := by decide +kernel
theorem dX12_toStay_99 : decode cX12_toStay 99 = .ok (.putfield 316, 3) := by decide +kernel
theorem dX12_toStay_102 : decode cX12_toStay 102 = .ok (.iload 7, 2) := by decide +kernel
theorem dX12_toStay_104 : decode cX12_toStay 104 = .ok (.iload 5, 2) := by decide +kernel
theorem dX12_toStay_106 : decode cX12_toStay 106 = .ok (.if_icmp .gt 6, 3) := by decide +kernel
theorem dX12_toStay_109 : decode cX12_toStay 109 = .ok (.goto 11, 3) := by decide +kernel
theorem dX12_toStay_112 : decode cX12_toStay 112 = .ok (.iload 6, 2) := by decide +kernel
theorem dX12_toStay_114 : decode cX12_toStay 114 = .ok (.istore 4, 2) := by decide +kernel
theorem dX12_toStay_116 : decode cX12_toStay 116 = .ok (.iload 7, 2) := by decide +kernel
theorem dX12_toStay_118 : decode cX12_toStay 118 = .ok (.istore 5, 2) := by decide +kernel
theorem dX12_toStay_120 : decode cX12_toStay 120 = .ok (.iinc 6 1, 3) := by decide +kernel
theorem dX12_toStay_123 : decode cX12_toStay 123 = .ok (.goto (-67), 3) := by decide +kernel
theorem dX12_toStay_126 : decode cX12_toStay 126 = .ok (.iload 4, 2) := by decide +kernel
theorem dX12_toStay_128 : decode cX12_toStay 128 = .ok (.ireturn, 1) := by decide +kernel
theorem dX12_toLast_0 : decode cX12_toLast 0 = .ok (.aload_n 0, 1) := by decide +kernel
theorem dX12_toLast_1 : decode cX12_toLast 1 = .ok (.iconst 0, 1) := by decide +kernel
theorem dX12_toLast_2 : decode cX12_toLast 2 = .ok (.putfield 154, 3) := by decide +kernel
theorem dX12_toLast_5 : decode cX12_toLast 5 = .ok (.aload_n 0, 1) := by decide +kernel
theorem dX12_toLast_6 : decode cX12_toLast 6 = .ok (.iload_n 1, 1) := by decide +kernel
theorem dX12_toLast_7 : decode cX12_toLast 7 = .ok (.invokevirtual 394, 3) := by decide +kernel
theorem dX12_toLast_10 : decode cX12_toLast 10 = .ok (.ifCond .ne 9, 3) := by decide +kernel
theorem dX12_toLast_13 : decode cX12_toLast 13 = .ok (.aload_n 0, 1) := by decide +kernel
theorem dX12_toLast_14 : decode cX12_toLast 14 = .ok (.iconst 1, 1) := by decide +kernel
theorem dX12_toLast_15 : decode cX12_toLast 15 = .ok (.invokevirtual 295, 3) := by decide +kernel
theorem dX12_toLast_18 : decode cX12_toLast 18 = .ok (.ireturn, 1) := by decide +kernel
theorem dX12_toLast_19 : decode cX12_toLast 19 = .ok (.iload_n 2, 1) := by decide +kernel
theorem dX12_toLast_20 : decode cX12_toLast 20 = .ok (.i2l, 1) := by decide +kernel
theorem dX12_toLast_21 : decode cX12_toLast 21 = .ok (.lconst 1, 1) := by decide +kernel
theorem dX12_toLast_22 : decode cX12_toLast 22 = .ok (.ldc2_w 426, 3) := by decide +kernel
theorem dX12_toLast_25 : decode cX12_toLast 25 = .ok (.invokestatic 157, 3) := by decide +kernel
theorem dX12_toLast_28 : decode cX12_toLast 28 = .ok (.ifCond .ne 9, 3) := by decide +kernel
theorem dX12_toLast_31 : decode cX12_toLast 31 = .ok (.aload_n 0, 1) := by decide +kernel
theorem dX12_toLast_32 : decode cX12_toLast 32 = .ok (.iconst 2, 1) := by decide +kernel
theorem dX12_toLast_33 : decode cX12_toLast 33 = .ok (.invokevirtual 295, 3) := by decide +kernel
theorem dX12_toLast_36 : decode cX12_toLast 36 = .ok (.ireturn, 1) := by decide +kernel
theorem dX12_toLast_37 : decode cX12_toLast 37 = .ok (.aload_n 0, 1) := by decide +kernel
theorem dX12_toLast_38 : decode cX12_toLast 38 = .ok (.getfield 81, 3) := by decide +kernel
theorem dX12_toLast_41 : decode cX12_toLast 41 = .ok (.iload_n 1, 1) := by decide +kernel
theorem dX12_toLast_42 : decode cX12_toLast 42 = .ok (.iaload, 1) := by decide +kernel
theorem dX12_toLast_43 : decode cX12_toLast 43 = .ok (.istore_n 3, 1) := by decide +kernel
theorem dX12_toLast_44 : decode cX12_toLast 44 = .ok (.iconst (-1), 1) := by decide +kernel
theorem dX12_toLast_45 : decode cX12_toLast 45 = .ok (.istore 4, 2) := by decide +kernel
theorem dX12_toLast_47 : decode cX12_toLast 47 = .ok (.iconst 0, 1) := by decide +kernel
theorem dX12_toLast_48 : decode cX12_toLast 48 = .ok (.istore 5, 2) := by decide +kernel
theorem dX12_toLast_50 : decode cX12_toLast 50 = .ok (.iload 5, 2) := by decide +kernel
theorem dX12_toLast_52 : decode cX12_toLast 52 = .ok (.sipush 999, 3) := by decide +kernel
theorem dX12_toLast_55 : decode cX12_toLast 55 = .ok (.if_icmp .gt 36, 3) := by decide +kernel
theorem dX12_toLast_58 : decode cX12_toLast 58 = .ok (.iload 4, 2) := by decide +kernel
theorem dX12_toLast_60 : decode cX12_toLast 60 = .ok (.iconst (-1), 1) := by decide +kernel
theorem dX12_toLast_61 : decode cX12_toLast 61 = .ok (.if_icmp .ne 30, 3) := by decide +kernel
theorem dX12_toLast_64 : decode cX12_toLast 64 = .ok (.aload_n 0, 1) := by decide +kernel
theorem dX12_toLast_65 : decode cX12_toLast 65 = .ok (.getfield 81, 3) := by decide +kernel
theorem dX12_toLast_68 : decode cX12_toLast 68 = .ok (.iload_n 1, 1) := by decide +kernel
theorem dX12_toLast_69 : decode cX12_toLast 69 = .ok (.iload 5, 2) := by decide +kernel
theorem dX12_toLast_71 : decode cX12_toLast 71 = .ok (.iastore, 1) := by decide +kernel
theorem dX12_toLast_72 : decode cX12_toLast 72 = .ok (.aload_n 0, 1) := by decide +kernel
theorem dX12_toLast_73 : decode cX12_toLast 73 = .ok (.iload_n 1, 1) := by decide +kernel
theorem dX12_toLast_74 : decode cX12_toLast 74 = .ok (.iload_n 2, 1) := by decide +kernel
theorem dX12_toLast_75 : decode cX12_toLast 75 = .ok (.invokevirtual 428, 3) := by decide +kernel
theorem dX12_toLast_78 : decode cX12_toLast 78 = .ok (.ifCond .le 7, 3) := by decide +kernel
theorem dX12_toLast_81 : decode cX12_toLast 81 = .ok (.iload 5, 2) := by decide +kernel
theorem dX12_toLast_83 : decode cX12_toLast 83 = .ok (.istore 4, 2) := by decide +kernel
theorem dX12_toLast_85 : decode cX12_toLast 85 = .ok (.iinc 5 1, 3) := by decide +kernel
theorem dX12_toLast_88 : decode cX12_toLast 88 = .ok (.goto (-38), 3) := by decide +kernel
theorem dX12_toLast_91 : decode cX12_toLast 91 = .ok (.aload_n 0, 1) := by decide +kernel
theorem dX12_toLast_92 : decode cX12_toLast 92 = .ok (.getfield 81, 3) := by decide +kernel
theorem dX12_toLast_95 : decode cX12_toLast 95 = .ok (.iload_n 1, 1) := by decide +kernel
theorem dX12_toLast_96 : decode cX12_toLast 96 = .ok (.iload_n 3, 1) := by decide +kernel
theorem dX12_toLast_97 : decode cX12_toLast 97 = .ok (.iastore, 1) := by decide +kernel
theorem dX12_toLast_98 : decode cX12_toLast 98 = .ok (.iload 4, 2) := by decide +kernel
theorem dX12_toLast_100 : decode cX12_toLast 100 = .ok (.ireturn, 1) := by decide +kernel
theorem dX12_differ_0 : decode cX12_differ 0 = .ok (.aload_n 0, 1) := by decide +kernel
theorem dX12_differ_1 : decode cX12_differ 1 = .ok (.getfield 81, 3) := by decide +kernel
theorem dX12_differ_4 : decode cX12_differ 4 = .ok (.iload_n 1, 1) := by decide +kernel
theorem dX12_differ_5 : decode cX12_differ 5 = .ok (.iaload, 1) := by decide +kernel
theorem dX12_differ_6 : decode cX12_differ 6 = .ok (.aload_n 0, 1) := by decide +kernel
theorem dX12_differ_7 : decode cX12_differ 7 = .ok (.getfield 81, 3) := by decide +kernel
theorem dX12_differ_10 : decode cX12_differ 10 = .ok (.iload_n 2, 1) := by decide +kernel
theorem dX12_differ_11 : decode cX12_differ 11 = .ok (.iaload, 1) := by decide +kernel
theorem dX12_differ_12 : decode cX12_differ 12 = .ok (.isub, 1) := by decide +kernel
theorem dX12_differ_13 : decode cX12_differ 13 = .ok (.invokestatic 439, 3) := by decide +kernel
theorem dX12_differ_16 : decode cX12_differ 16 = .ok (.ireturn, 1) := by decide +kernel
theorem dX12_tellPairs_0 : decode cX12_tellPairs 0 = .ok (.aload_n 0, 1) := by decide +kernel
theorem dX12_tellPairs_1 : decode cX12_tellPairs 1 = .ok (.getfield 112, 3) := by decide +kernel
theorem dX12_tellPairs_4 : decode cX12_tellPairs 4 = .ok (.iconst 0, 1) := by decide +kernel
theorem dX12_tellPairs_5 : decode cX12_tellPairs 5 = .ok (.iconst 0, 1) := by decide +kernel
theorem dX12_tellPairs_6 : decode cX12_tellPairs 6 = .ok (.iastore, 1) := by decide +kernel
theorem dX12_tellPairs_7 : decode cX12_tellPairs 7 = .ok (.iconst 1, 1) := by decide +kernel
theorem dX12_tellPairs_8 : decode cX12_tellPairs 8 = .ok (.istore_n 1, 1) := by decide +kernel
theorem dX12_tellPairs_9 : decode cX12_tellPairs 9 = .ok (.iload_n 1, 1) := by decide +kernel
theorem dX12_tellPairs_10 : decode cX12_tellPairs 10 = .ok (.aload_n 0, 1) := by decide +kernel
theorem dX12_tellPairs_11 : decode cX12_tellPairs 11 = .ok (.invokevirtual 436, 3) := by decide +kernel
theorem dX12_tellPairs_14 : decode cX12_tellPairs 14 = .ok (.if_icmp .gt 125, 3) := by decide +kernel
theorem dX12_tellPairs_17 : decode cX12_tellPairs 17 = .ok (.iconst 0, 1) := by decide +kernel
theorem dX12_tellPairs_18 : decode cX12_tellPairs 18 = .ok (.istore_n 2, 1) := by decide +kernel
theorem dX12_tellPairs_19 : decode cX12_tellPairs 19 = .ok (.iload_n 1, 1) := by decide +kernel
theorem dX12_tellPairs_20 : decode cX12_tellPairs 20 = .ok (.iload_n 2, 1) := by decide +kernel
theorem dX12_tellPairs_21 : decode cX12_tellPairs 21 = .ok (.invokestatic 363, 3) := by decide +kernel
theorem dX12_tellPairs_24 : decode cX12_tellPairs 24 = .ok (.ifCond .ne 9, 3) := by decide +kernel
theorem dX12_tellPairs_27 : decode cX12_tellPairs 27 = .ok (.iinc 2 1, 3) := by decide +kernel
theorem dX12_tellPairs_30 : decode cX12_tellPairs 30 = .ok (.goto (-11), 3) := by decide +kernel
theorem dX12_tellPairs_33 : decode cX12_tellPairs 33 = .ok (.iload_n 1, 1) := by decide +kernel
theorem dX12_tellPairs_34 : decode cX12_tellPairs 34 = .ok (.iconst 1, 1) := by decide +kernel
theorem dX12_tellPairs_35 : decode cX12_tellPairs 35 = .ok (.iload_n 2, 1) := by decide +kernel
theorem dX12_tellPairs_36 : decode cX12_tellPairs 36 = .ok (.ishl, 1) := by decide +kernel
theorem dX12_tellPairs_37 : decode cX12_tellPairs 37 = .ok (.iconst (-1), 1) := by decide +kernel
theorem dX12_tellPairs_38 : decode cX12_tellPairs 38 = .ok (.ixor, 1) := by decide +kernel
theorem dX12_tellPairs_39 : decode cX12_tellPairs 39 = .ok (.iand, 1) := by decide +kernel
theorem dX12_tellPairs_40 : decode cX12_tellPairs 40 = .ok (.istore_n 3, 1) := by decide +kernel
theorem dX12_tellPairs_41 : decode cX12_tellPairs 41 = .ok (.iload_n 3, 1) := by decide +kernel
theorem dX12_tellPairs_42 : decode cX12_tellPairs 42 = .ok (.aload_n 0, 1) := by decide +kernel
theorem dX12_tellPairs_43 : decode cX12_tellPairs 43 = .ok (.iload_n 2, 1) := by decide +kernel
theorem dX12_tellPairs_44 : decode cX12_tellPairs 44 = .ok (.invokevirtual 344, 3) := by decide +kernel
theorem dX12_tellPairs_47 : decode cX12_tellPairs 47 = .ok (.iand, 1) := by decide +kernel
theorem dX12_tellPairs_48 : decode cX12_tellPairs 48 = .ok (.istore 4, 2) := by decide +kernel
theorem dX12_tellPairs_50 : decode cX12_tellPairs 50 = .ok (.aload_n 0, 1) := by decide +kernel
theorem dX12_tellPairs_51 : decode cX12_tellPairs 51 = .ok (.getfield 112, 3) := by decide +kernel
theorem dX12_tellPairs_54 : decode cX12_tellPairs 54 = .ok (.iload_n 1, 1) := by decide +kernel
theorem dX12_tellPairs_55 : decode cX12_tellPairs 55 = .ok (.ldc 190, 2) := by decide +kernel
theorem dX12_tellPairs_57 : decode cX12_tellPairs 57 = .ok (.aload_n 0, 1) := by decide +kernel
theorem dX12_tellPairs_58 : decode cX12_tellPairs 58 = .ok (.getfield 112, 3) := by decide +kernel
theorem dX12_tellPairs_61 : decode cX12_tellPairs 61 = .ok (.iload_n 3, 1) := by decide +kernel
theorem dX12_tellPairs_62 : decode cX12_tellPairs 62 = .ok (.iaload, 1) := by decide +kernel
theorem dX12_tellPairs_63 : decode cX12_tellPairs 63 = .ok (.iadd, 1) := by decide +kernel
theorem dX12_tellPairs_64 : decode cX12_tellPairs 64 = .ok (.iastore, 1) := by decide +kernel
theorem dX12_tellPairs_65 : decode cX12_tellPairs 65 = .ok (.iload_n 2, 1) := by decide +kernel
theorem dX12_tellPairs_66 : decode cX12_tellPairs 66 = .ok (.iconst 1, 1) := by decide +kernel
theorem dX12_tellPairs_67 : decode cX12_tellPairs 67 = .ok (.iadd, 1) := by decide +kernel
theorem dX12_tellPairs_68 : decode cX12_tellPairs 68 = .ok (.istore 5, 2) := by decide +kernel
theorem dX12_tellPairs_70 : decode cX12_tellPairs 70 = .ok (.iload 5, 2) := by decide +kernel
theorem dX12_tellPairs_72 : decode cX12_tellPairs 72 = .ok (.aload_n 0, 1) := by decide +kernel
theorem dX12_tellPairs_73 : decode cX12_tellPairs 73 = .ok (.getfield 42, 3) := by decide +kernel
theorem dX12_tellPairs_76 : decode cX12_tellPairs 76 = .ok (.iconst 1, 1) := by decide +kernel
theorem dX12_tellPairs_77 : decode cX12_tellPairs 77 = .ok (.iaload, 1) := by decide +kernel
theorem dX12_tellPairs_78 : decode cX12_tellPairs 78 = .ok (.if_icmp .ge 55, 3) := by decide +kernel
theorem dX12_tellPairs_81 : decode cX12_tellPairs 81 = .ok (.iload 4, 2) := by decide +kernel
theorem dX12_tellPairs_83 : decode cX12_tellPairs 83 = .ok (.iload 5, 2) := by decide +kernel
theorem dX12_tellPairs_85 : decode cX12_tellPairs 85 = .ok (.invokestatic 363, 3) := by decide +kernel
theorem dX12_tellPairs_88 : decode cX12_tellPairs 88 = .ok (.ifCond .eq 39, 3) := by decide +kernel
theorem dX12_tellPairs_91 : decode cX12_tellPairs 91 = .ok (.aload_n 0, 1) := by decide +kernel
theorem dX12_tellPairs_92 : decode cX12_tellPairs 92 = .ok (.getfield 112, 3) := by decide +kernel
theorem dX12_tellPairs_95 : decode cX12_tellPairs 95 = .ok (.iload_n 1, 1) := by decide +kernel
theorem dX12_tellPairs_96 : decode cX12_tellPairs 96 = .ok (.aload_n 0, 1) := by decide +kernel
theorem dX12_tellPairs_97 : decode cX12_tellPairs 97 = .ok (.getfield 112, 3) := by decide +kernel
theorem dX12_tellPairs_100 : decode cX12_tellPairs 100 = .ok (.iload_n 1, 1) := by decide +kernel
theorem dX12_tellPairs_101 : decode cX12_tellPairs 101 = .ok (.iaload, 1) := by decide +kernel
theorem dX12_tellPairs_102 : decode cX12_tellPairs 102 = .ok (.aload_n 0, 1) := by decide +kernel
theorem dX12_tellPairs_103 : decode cX12_tellPairs 103 = .ok (.iload_n 2, 1) := by decide +kernel
theorem dX12_tellPairs_104 : decode cX12_tellPairs 104 = .ok (.iload 5, 2) := by decide +kernel
theorem dX12_tellPairs_106 : decode cX12_tellPairs 106 = .ok (.invokevirtual 442, 3) := by decide +kernel
theorem dX12_tellPairs_109 : decode cX12_tellPairs 109 = .ok (.aload_n 0, 1) := by decide +kernel
theorem dX12_tellPairs_110 : decode cX12_tellPairs 110 = .ok (.getfield 112, 3) := by decide +kernel
theorem dX12_tellPairs_113 : decode cX12_tellPairs 113 = .ok (.iload_n 3, 1) := by decide +kernel
theorem dX12_tellPairs_114 : decode cX12_tellPairs 114 = .ok (.iconst 1, 1) := by decide +kernel
theorem dX12_tellPairs_115 : decode cX12_tellPairs 115 = .ok (.iload 5, 2) := by decide +kernel
theorem dX12_tellPairs_117 : decode cX12_tellPairs 117 = .ok (.ishl, 1) := by decide +kernel
theorem dX12_tellPairs_118 : decode cX12_tellPairs 118 = .ok (.iconst (-1), 1) := by decide +kernel
theorem dX12_tellPairs_119 : decode cX12_tellPairs 119 = .ok (.ixor, 1) := by decide +kernel
theorem dX12_tellPairs_120 : decode cX12_tellPairs 120 = .ok (.iand, 1) := by decide +kernel
theorem dX12_tellPairs_121 : decode cX12_tellPairs 121 = .ok (.iaload, 1) := by decide +kernel
theorem dX12_tellPairs_122 : decode cX12_tellPairs 122 = .ok (.iadd, 1) := by decide +kernel
theorem dX12_tellPairs_123 : decode cX12_tellPairs 123 = .ok (.invokestatic 191, 3) := by decide +kernel
theorem dX12_tellPairs_126 : decode cX12_tellPairs 126 = .ok (.iastore, 1) := by decide +kernel
theorem dX12_tellPairs_127 : decode cX12_tellPairs 127 = .ok (.iinc 5 1, 3) := by decide +kernel
theorem dX12_tellPairs_130 : decode cX12_tellPairs 130 = .ok (.goto (-60), 3) := by decide +kernel
theorem dX12_tellPairs_133 : decode cX12_tellPairs 133 = .ok (.iinc 1 1, 3) := by decide +kernel
theorem dX12_tellPairs_136 : decode cX12_tellPairs 136 = .ok (.goto (-127), 3) := by decide +kernel
theorem dX12_tellPairs_139 : decode cX12_tellPairs 139 = .ok (.return_, 1) := by decide +kernel
theorem dX12_pairs_0 : decode cX12_pairs 0 = .ok (.aload_n 0, 1) := by decide +kernel
theorem dX12_pairs_1 : decode cX12_pairs 1 = .ok (.iconst 0, 1) := by decide +kernel
theorem dX12_pairs_2 : decode cX12_pairs 2 = .ok (.putfield 154, 3) := by decide +kernel
theorem dX12_pairs_5 : decode cX12_pairs 5 = .ok (.iload_n 1, 1) := by decide +kernel
theorem dX12_pairs_6 : decode cX12_pairs 6 = .ok (.ifCond .lt 8, 3) := by decide +kernel
theorem dX12_pairs_9 : decode cX12_pairs 9 = .ok (.iload_n 1, 1) := by decide +kernel
theorem dX12_pairs_10 : decode cX12_pairs 10 = .ok (.iconst 1, 1) := by decide +kernel
theorem dX12_pairs_11 : decode cX12_pairs 11 = .ok (.if_icmp .le 9, 3) := by decide +kernel
theorem dX12_pairs_14 : decode cX12_pairs 14 = .ok (.aload_n 0, 1) := by decide +kernel
theorem dX12_pairs_15 : decode cX12_pairs 15 = .ok (.iconst 1, 1) := by decide +kernel
theorem dX12_pairs_16 : decode cX12_pairs 16 = .ok (.invokevirtual 295, 3) := by decide +kernel
theorem dX12_pairs_19 : decode cX12_pairs 19 = .ok (.ireturn, 1) := by decide +kernel
theorem dX12_pairs_20 : decode cX12_pairs 20 = .ok (.aload_n 0, 1) := by decide +kernel
theorem dX12_pairs_21 : decode cX12_pairs 21 = .ok (.invokevirtual 445, 3) := by decide +kernel
theorem dX12_pairs_24 : decode cX12_pairs 24 = .ok (.aload_n 0, 1) := by decide +kernel
theorem dX12_pairs_25 : decode cX12_pairs 25 = .ok (.getfield 112, 3) := by decide +kernel
theorem dX12_pairs_28 : decode cX12_pairs 28 = .ok (.aload_n 0, 1) := by decide +kernel
theorem dX12_pairs_29 : decode cX12_pairs 29 = .ok (.invokevirtual 436, 3) := by decide +kernel
theorem dX12_pairs_32 : decode cX12_pairs 32 = .ok (.iaload, 1) := by decide +kernel
theorem dX12_pairs_33 : decode cX12_pairs 33 = .ok (.istore_n 2, 1) := by decide +kernel
theorem dX12_pairs_34 : decode cX12_pairs 34 = .ok (.iload_n 1, 1) := by decide +kernel
theorem dX12_pairs_35 : decode cX12_pairs 35 = .ok (.ifCond .ne 19, 3) := by decide +kernel
theorem dX12_pairs_38 : decode cX12_pairs 38 = .ok (.aload_n 0, 1) := by decide +kernel
theorem dX12_pairs_39 : decode cX12_pairs 39 = .ok (.getfield 42, 3) := by decide +kernel
theorem dX12_pairs_42 : decode cX12_pairs 42 = .ok (.iconst 1, 1) := by decide +kernel
theorem dX12_pairs_43 : decode cX12_pairs 43 = .ok (.iaload, 1) := by decide +kernel
theorem dX12_pairs_44 : decode cX12_pairs 44 = .ok (.iload_n 2, 1) := by decide +kernel
theorem dX12_pairs_45 : decode cX12_pairs 45 = .ok (.ldc 190, 2) := by decide +kernel
theorem dX12_pairs_47 : decode cX12_pairs 47 = .ok (.idiv, 1) := by decide +kernel
theorem dX12_pairs_48 : decode cX12_pairs 48 = .ok (.isub, 1) := by decide +kernel
theorem dX12_pairs_49 : decode cX12_pairs 49 = .ok (.iconst 2, 1) := by decide +kernel
theorem dX12_pairs_50 : decode cX12_pairs 50 = .ok (.idiv, 1) := by decide +kernel
theorem dX12_pairs_51 : decode cX12_pairs 51 = .ok (.goto 7, 3) := by decide +kernel
theorem dX12_pairs_54 : decode cX12_pairs 54 = .ok (.iload_n 2, 1) := by decide +kernel
theorem dX12_pairs_55 : decode cX12_pairs 55 = .ok (.ldc 190, 2) := by decide +kernel
theorem dX12_pairs_57 : decode cX12_pairs 57 = .ok (.irem, 1) := by decide +kernel
theorem dX12_pairs_58 : decode cX12_pairs 58 = .ok (.ireturn, 1) := by decide +kernel
theorem dX12_pair_0 : decode cX12_pair 0 = .ok (.aload_n 0, 1) := by decide +kernel
theorem dX12_pair_1 : decode cX12_pair 1 = .ok (.iconst 0, 1) := by decide +kernel
theorem dX12_pair_2 : decode cX12_pair 2 = .ok (.putfield 154, 3) := by decide +kernel
theorem dX12_pair_5 : decode cX12_pair 5 = .ok (.aload_n 0, 1) := by decide +kernel
theorem dX12_pair_6 : decode cX12_pair 6 = .ok (.iload_n 1, 1) := by decide +kernel
theorem dX12_pair_7 : decode cX12_pair 7 = .ok (.invokevirtual 394, 3) := by decide +kernel
theorem dX12_pair_10 : decode cX12_pair 10 = .ok (.ifCond .ne 9, 3) := by decide +kernel
theorem dX12_pair_13 : decode cX12_pair 13 = .ok (.aload_n 0, 1) := by decide +kernel
theorem dX12_pair_14 : decode cX12_pair 14 = .ok (.iconst 1, 1) := by decide +kernel
theorem dX12_pair_15 : decode cX12_pair 15 = .ok (.invokevirtual 295, 3) := by decide +kernel
theorem dX12_pair_18 : decode cX12_pair 18 = .ok (.ireturn, 1) := by decide +kernel
theorem dX12_pair_19 : decode cX12_pair 19 = .ok (.aload_n 0, 1) := by decide +kernel
theorem dX12_pair_20 : decode cX12_pair 20 = .ok (.invokevirtual 445, 3) := by decide +kernel
theorem dX12_pair_23 : decode cX12_pair 23 = .ok (.aload_n 0, 1) := by decide +kernel
theorem dX12_pair_24 : decode cX12_pair 24 = .ok (.invokevirtual 436, 3) := by decide +kernel
theorem dX12_pair_27 : decode cX12_pair 27 = .ok (.istore_n 2, 1) := by decide +kernel
theorem dX12_pair_28 : decode cX12_pair 28 = .ok (.iconst 0, 1) := by decide +kernel
theorem dX12_pair_29 : decode cX12_pair 29 = .ok (.istore_n 3, 1) := by decide +kernel
theorem dX12_pair_30 : decode cX12_pair 30 = .ok (.iload_n 3, 1) := by decide +kernel
theorem dX12_pair_31 : decode cX12_pair 31 = .ok (.aload_n 0, 1) := by decide +kernel
theorem dX12_pair_32 : decode cX12_pair 32 = .ok (.getfield 42, 3) := by decide +kernel
theorem dX12_pair_35 : decode cX12_pair 35 = .ok (.iconst 1, 1) := by decide +kernel
theorem dX12_pair_36 : decode cX12_pair 36 = .ok (.iaload, 1) := by decide +kernel
theorem dX12_pair_37 : decode cX12_pair 37 = .ok (.if_icmp .ge 146, 3) := by decide +kernel
theorem dX12_pair_40 : decode cX12_pair 40 = .ok (.iload_n 2, 1) := by decide +kernel
theorem dX12_pair_41 : decode cX12_pair 41 = .ok (.iload_n 3, 1) := by decide +kernel
theorem dX12_pair_42 : decode cX12_pair 42 = .ok (.invokestatic 363, 3) := by decide +kernel
theorem dX12_pair_45 : decode cX12_pair 45 = .ok (.ifCond .ne 6, 3) := by decide +kernel
theorem dX12_pair_48 : decode cX12_pair 48 = .ok (.goto 129, 3) := by decide +kernel
theorem dX12_pair_51 : decode cX12_pair 51 = .ok (.iload_n 2, 1) := by decide +kernel
theorem dX12_pair_52 : decode cX12_pair 52 = .ok (.iconst 1, 1) := by decide +kernel
theorem dX12_pair_53 : decode cX12_pair 53 = .ok (.iload_n 3, 1) := by decide +kernel
theorem dX12_pair_54 : decode cX12_pair 54 = .ok (.ishl, 1) := by decide +kernel
theorem dX12_pair_55 : decode cX12_pair 55 = .ok (.iconst (-1), 1) := by decide +kernel
theorem dX12_pair_56 : decode cX12_pair 56 = .ok (.ixor, 1) := by decide +kernel
theorem dX12_pair_57 : decode cX12_pair 57 = .ok (.iand, 1) := by decide +kernel
theorem dX12_pair_58 : decode cX12_pair 58 = .ok (.istore 4, 2) := by decide +kernel
theorem dX12_pair_60 : decode cX12_pair 60 = .ok (.iload 4, 2) := by decide +kernel
theorem dX12_pair_62 : decode cX12_pair 62 = .ok (.aload_n 0, 1) := by decide +kernel
theorem dX12_pair_63 : decode cX12_pair 63 = .ok (.iload_n 3, 1) := by decide +kernel
theorem dX12_pair_64 : decode cX12_pair 64 = .ok (.invokevirtual 344, 3) := by decide +kernel
theorem dX12_pair_67 : decode cX12_pair 67 = .ok (.iand, 1) := by decide +kernel
theorem dX12_pair_68 : decode cX12_pair 68 = .ok (.istore 5, 2) := by decide +kernel
theorem dX12_pair_70 : decode cX12_pair 70 = .ok (.iconst (-1), 1) := by decide +kernel
theorem dX12_pair_71 : decode cX12_pair 71 = .ok (.istore 6, 2) := by decide +kernel
theorem dX12_pair_73 : decode cX12_pair 73 = .ok (.aload_n 0, 1) := by decide +kernel
theorem dX12_pair_74 : decode cX12_pair 74 = .ok (.getfield 42, 3) := by decide +kernel
theorem dX12_pair_77 : decode cX12_pair 77 = .ok (.iconst 1, 1) := by decide +kernel
theorem dX12_pair_78 : decode cX12_pair 78 = .ok (.iaload, 1) := by decide +kernel
theorem dX12_pair_79 : decode cX12_pair 79 = .ok (.iconst 1, 1) := by decide +kernel
theorem dX12_pair_80 : decode cX12_pair 80 = .ok (.isub, 1) := by decide +kernel
theorem dX12_pair_81 : decode cX12_pair 81 = .ok (.istore 7, 2) := by decide +kernel
theorem dX12_pair_83 : decode cX12_pair 83 = .ok (.iload 7, 2) := by decide +kernel
theorem dX12_pair_85 : decode cX12_pair 85 = .ok (.iload_n 3, 1) := by decide +kernel
theorem dX12_pair_86 : decode cX12_pair 86 = .ok (.if_icmp .le 54, 3) := by decide +kernel
theorem dX12_pair_89 : decode cX12_pair 89 = .ok (.iload 5, 2) := by decide +kernel
theorem dX12_pair_91 : decode cX12_pair 91 = .ok (.iload 7, 2) := by decide +kernel
theorem dX12_pair_93 : decode cX12_pair 93 = .ok (.invokestatic 363, 3) := by decide +kernel
theorem dX12_pair_96 : decode cX12_pair 96 = .ok (.ifCond .eq 38, 3) := by decide +kernel
theorem dX12_pair_99 : decode cX12_pair 99 = .ok (.aload_n 0, 1) := by decide +kernel
theorem dX12_pair_100 : decode cX12_pair 100 = .ok (.iload_n 3, 1) := by decide +kernel
theorem dX12_pair_101 : decode cX12_pair 101 = .ok (.iload 7, 2) := by decide +kernel
theorem dX12_pair_103 : decode cX12_pair 103 = .ok (.invokevirtual 442, 3) := by decide +kernel
theorem dX12_pair_106 : decode cX12_pair 106 = .ok (.aload_n 0, 1) := by decide +kernel
theorem dX12_pair_107 : decode cX12_pair 107 = .ok (.getfield 112, 3) := by decide +kernel
theorem dX12_pair_110 : decode cX12_pair 110 = .ok (.iload 4, 2) := by decide +kernel
theorem dX12_pair_112 : decode cX12_pair 112 = .ok (.iconst 1, 1) := by decide +kernel
theorem dX12_pair_113 : decode cX12_pair 113 = .ok (.iload 7, 2) := by decide +kernel
theorem dX12_pair_115 : decode cX12_pair 115 = .ok (.ishl, 1) := by decide +kernel
theorem dX12_pair_116 : decode cX12_pair 116 = .ok (.iconst (-1), 1) := by decide +kernel
theorem dX12_pair_117 : decode cX12_pair 117 = .ok (.ixor, 1) := by decide +kernel
theorem dX12_pair_118 : decode cX12_pair 118 = .ok (.iand, 1) := by decide +kernel
theorem dX12_pair_119 : decode cX12_pair 119 = .ok (.iaload, 1) := by decide +kernel
theorem dX12_pair_120 : decode cX12_pair 120 = .ok (.iadd, 1) := by decide +kernel
theorem dX12_pair_121 : decode cX12_pair 121 = .ok (.aload_n 0, 1) := by decide +kernel
theorem dX12_pair_122 : decode cX12_pair 122 = .ok (.getfield 112, 3) := by decide +kernel
theorem dX12_pair_125 : decode cX12_pair 125 = .ok (.iload_n 2, 1) := by decide +kernel
theorem dX12_pair_126 : decode cX12_pair 126 = .ok (.iaload, 1) := by decide +kernel
theorem dX12_pair_127 : decode cX12_pair 127 = .ok (.if_icmp .ne 7, 3) := by decide +kernel
theorem dX12_pair_130 : decode cX12_pair 130 = .ok (.iload 7, 2) := by decide +kernel
theorem dX12_pair_132 : decode cX12_pair 132 = .ok (.istore 6, 2) := by decide +kernel
theorem dX12_pair_134 : decode cX12_pair 134 = .ok (.iinc 7 (-1), 3) := by decide +kernel
theorem dX12_pair_137 : decode cX12_pair 137 = .ok (.goto (-54), 3) := by decide +kernel
theorem dX12_pair_140 : decode cX12_pair 140 = .ok (.iload_n 3, 1) := by decide +kernel
theorem dX12_pair_141 : decode cX12_pair 141 = .ok (.iload_n 1, 1) := by decide +kernel
theorem dX12_pair_142 : decode cX12_pair 142 = .ok (.if_icmp .ne 6, 3) := by decide +kernel
theorem dX12_pair_145 : decode cX12_pair 145 = .ok (.iload 6, 2) := by decide +kernel
theorem dX12_pair_147 : decode cX12_pair 147 = .ok (.ireturn, 1) := by decide +kernel
theorem dX12_pair_148 : decode cX12_pair 148 = .ok (.iload 6, 2) := by decide +kernel
theorem dX12_pair_150 : decode cX12_pair 150 = .ok (.iload_n 1, 1) := by decide +kernel
theorem dX12_pair_151 : decode cX12_pair 151 = .ok (.if_icmp .ne 5, 3) := by decide +kernel
theorem dX12_pair_154 : decode cX12_pair 154 = .ok (.iload_n 3, 1) := by decide +kernel
theorem dX12_pair_155 : decode cX12_pair 155 = .ok (.ireturn, 1) := by decide +kernel
theorem dX12_pair_156 : decode cX12_pair 156 = .ok (.iload 6, 2) := by decide +kernel
theorem dX12_pair_158 : decode cX12_pair 158 = .ok (.iconst (-1), 1) := by decide +kernel
theorem dX12_pair_159 : decode cX12_pair 159 = .ok (.if_icmp .ne 8, 3) := by decide +kernel
theorem dX12_pair_162 : decode cX12_pair 162 = .ok (.iload 4, 2) := by decide +kernel
theorem dX12_pair_164 : decode cX12_pair 164 = .ok (.goto 12, 3) := by decide +kernel
theorem dX12_pair_167 : decode cX12_pair 167 = .ok (.iload 4, 2) := by decide +kernel
theorem dX12_pair_169 : decode cX12_pair 169 = .ok (.iconst 1, 1) := by decide +kernel
theorem dX12_pair_170 : decode cX12_pair 170 = .ok (.iload 6, 2) := by decide +kernel
theorem dX12_pair_172 : decode cX12_pair 172 = .ok (.ishl, 1) := by decide +kernel
theorem dX12_pair_173 : decode cX12_pair 173 = .ok (.iconst (-1), 1) := by decide +kernel
theorem dX12_pair_174 : decode cX12_pair 174 = .ok (.ixor, 1) := by decide +kernel
theorem dX12_pair_175 : decode cX12_pair 175 = .ok (.iand, 1) := by decide +kernel
theorem dX12_pair_176 : decode cX12_pair 176 = .ok (.istore_n 2, 1) := by decide +kernel
theorem dX12_pair_177 : decode cX12_pair 177 = .ok (.iinc 3 1, 3) := by decide +kernel
theorem dX12_pair_180 : decode cX12_pair 180 = .ok (.goto (-150), 3) := by decide +kernel
theorem dX12_pair_183 : decode cX12_pair 183 = .ok (.iconst (-1), 1) := by decide +kernel
theorem dX12_pair_184 : decode cX12_pair 184 = .ok (.ireturn, 1) := by decide +kernel
theorem dX12_see_0 : decode cX12_see 0 = .ok (.aload_n 0, 1) := by decide +kernel
theorem dX12_see_1 : decode cX12_see 1 = .ok (.iconst 0, 1) := by decide +kernel
theorem dX12_see_2 : decode cX12_see 2 = .ok (.putfield 154, 3) := by decide +kernel
theorem dX12_see_5 : decode cX12_see 5 = .ok (.aload_n 0, 1) := by decide +kernel
theorem dX12_see_6 : decode cX12_see 6 = .ok (.iload_n 1, 1) := by decide +kernel
theorem dX12_see_7 : decode cX12_see 7 = .ok (.invokevirtual 394, 3) := by decide +kernel
theorem dX12_see_10 : decode cX12_see 10 = .ok (.ifCond .ne 9, 3) := by decide +kernel
theorem dX12_see_13 : decode cX12_see 13 = .ok (.aload_n 0, 1) := by decide +kernel
theorem dX12_see_14 : decode cX12_see 14 = .ok (.iconst 1, 1) := by decide +kernel
theorem dX12_see_15 : decode cX12_see 15 = .ok (.invokevirtual 295, 3) := by decide +kernel
theorem dX12_see_18 : decode cX12_see 18 = .ok (.ireturn, 1) := by decide +kernel
theorem dX12_see_19 : decode cX12_see 19 = .ok (.aload_n 0, 1) := by decide +kernel
theorem dX12_see_20 : decode cX12_see 20 = .ok (.getfield 322, 3) := by decide +kernel
theorem dX12_see_23 : decode cX12_see 23 = .ok (.bipush 8, 2) := by decide +kernel
theorem dX12_see_25 : decode cX12_see 25 = .ok (.if_icmp .eq 27, 3) := by decide +kernel
theorem dX12_see_28 : decode cX12_see 28 = .ok (.iload_n 2, 1) := by decide +kernel
theorem dX12_see_29 : decode cX12_see 29 = .ok (.i2l, 1) := by decide +kernel
theorem dX12_see_30 : decode cX12_see 30 = .ok (.lconst 0, 1) := by decide +kernel
theorem dX12_see_31 : decode cX12_see 31 = .ok (.ldc2_w 401, 3) := by decide +kernel
theorem dX12_see_34 : decode cX12_see 34 = .ok (.invokestatic 157, 3) := by decide +kernel
theorem dX12_see_37 : decode cX12_see 37 = .ok (.ifCond .eq 15, 3) := by decide +kernel
theorem dX12_see_40 : decode cX12_see 40 = .ok (.iload_n 3, 1) := by decide +kernel
theorem dX12_see_41 : decode cX12_see 41 = .ok (.i2l, 1) := by decide +kernel
theorem dX12_see_42 : decode cX12_see 42 = .ok (.lconst 0, 1) := by decide +kernel
theorem dX12_see_43 : decode cX12_see 43 = .ok (.ldc2_w 448, 3) := by decide +kernel
theorem dX12_see_46 : decode cX12_see 46 = .ok (.invokestatic 157, 3) := by decide +kernel
theorem dX12_see_49 : decode cX12_see 49 = .ok (.ifCond .ne 9, 3) := by decide +kernel
theorem dX12_see_52 : decode cX12_see 52 = .ok (.aload_n 0, 1) := by decide +kernel
theorem dX12_see_53 : decode cX12_see 53 = .ok (.iconst 2, 1) := by decide +kernel
theorem dX12_see_54 : decode cX12_see 54 = .ok (.invokevirtual 403, 3) := by decide +kernel
theorem dX12_see_57 : decode cX12_see 57 = .ok (.ireturn, 1) := by decide +kernel
theorem dX12_see_58 : decode cX12_see 58 = .ok (.aload_n 0, 1) := by decide +kernel
theorem dX12_see_59 : decode cX12_see 59 = .ok (.getfield 115, 3) := by decide +kernel
theorem dX12_see_62 : decode cX12_see 62 = .ok (.aload_n 0, 1) := by decide +kernel
theorem dX12_see_63 : decode cX12_see 63 = .ok (.getfield 322, 3) := by decide +kernel
theorem dX12_see_66 : decode cX12_see 66 = .ok (.iload_n 1, 1) := by decide +kernel
theorem dX12_see_67 : decode cX12_see 67 = .ok (.iastore, 1) := by decide +kernel
theorem dX12_see_68 : decode cX12_see 68 = .ok (.aload_n 0, 1) := by decide +kernel
theorem dX12_see_69 : decode cX12_see 69 = .ok (.getfield 118, 3) := by decide +kernel
theorem dX12_see_72 : decode cX12_see 72 = .ok (.aload_n 0, 1) := by decide +kernel
theorem dX12_see_73 : decode cX12_see 73 = .ok (.getfield 322, 3) := by decide +kernel
theorem dX12_see_76 : decode cX12_see 76 = .ok (.iload_n 2, 1) := by decide +kernel
theorem dX12_see_77 : decode cX12_see 77 = .ok (.iastore, 1) := by decide +kernel
theorem dX12_see_78 : decode cX12_see 78 = .ok (.aload_n 0, 1) := by decide +kernel
theorem dX12_see_79 : decode cX12_see 79 = .ok (.getfield 121, 3) := by decide +kernel
theorem dX12_see_82 : decode cX12_see 82 = .ok (.aload_n 0, 1) := by decide +kernel
theorem dX12_see_83 : decode cX12_see 83 = .ok (.getfield 322, 3) := by decide +kernel
theorem dX12_see_86 : decode cX12_see 86 = .ok (.iload_n 3, 1) := by decide +kernel
theorem dX12_see_87 : decode cX12_see 87 = .ok (.iastore, 1) := by decide +kernel
theorem dX12_see_88 : decode cX12_see 88 = .ok (.aload_n 0, 1) := by decide +kernel
theorem dX12_see_89 : decode cX12_see 89 = .ok (.dup, 1) := by decide +kernel
theorem dX12_see_90 : decode cX12_see 90 = .ok (.getfield 322, 3) := by decide +kernel
theorem dX12_see_93 : decode cX12_see 93 = .ok (.iconst 1, 1) := by decide +kernel
theorem dX12_see_94 : decode cX12_see 94 = .ok (.iadd, 1) := by decide +kernel
theorem dX12_see_95 : decode cX12_see 95 = .ok (.putfield 322, 3) := by decide +kernel
theorem dX12_see_98 : decode cX12_see 98 = .ok (.aload_n 0, 1) := by decide +kernel
theorem dX12_see_99 : decode cX12_see 99 = .ok (.getfield 322, 3) := by decide +kernel
theorem dX12_see_102 : decode cX12_see 102 = .ok (.ireturn, 1) := by decide +kernel
theorem dX12_isAsSeen_0 : decode cX12_isAsSeen 0 = .ok (.aload_n 0, 1) := by decide +kernel
theorem dX12_isAsSeen_1 : decode cX12_isAsSeen 1 = .ok (.aload_n 0, 1) := by decide +kernel
theorem dX12_isAsSeen_2 : decode cX12_isAsSeen 2 = .ok (.getfield 124, 3) := by decide +kernel
theorem dX12_isAsSeen_5 : decode cX12_isAsSeen 5 = .ok (.iconst 0, 1) := by decide +kernel
theorem dX12_isAsSeen_6 : decode cX12_isAsSeen 6 = .ok (.invokevirtual 397, 3) := by decide +kernel
theorem dX12_isAsSeen_9 : decode cX12_isAsSeen 9 = .ok (.iconst 0, 1) := by decide +kernel
theorem dX12_isAsSeen_10 : decode cX12_isAsSeen 10 = .ok (.istore_n 1, 1) := by decide +kernel
theorem dX12_isAsSeen_11 : decode cX12_isAsSeen 11 = .ok (.iconst 0, 1) := by decide +kernel
theorem dX12_isAsSeen_12 : decode cX12_isAsSeen 12 = .ok (.istore_n 2, 1) := by decide +kernel
theorem dX12_isAsSeen_13 : decode cX12_isAsSeen 13 = .ok (.iload_n 2, 1) := by decide +kernel
theorem dX12_isAsSeen_14 : decode cX12_isAsSeen 14 = .ok (.aload_n 0, 1) := by decide +kernel
theorem dX12_isAsSeen_15 : decode cX12_isAsSeen 15 = .ok (.getfield 322, 3) := by decide +kernel
theorem dX12_isAsSeen_18 : decode cX12_isAsSeen 18 = .ok (.if_icmp .ge 20, 3) := by decide +kernel
theorem dX12_isAsSeen_21 : decode cX12_isAsSeen 21 = .ok (.iload_n 1, 1) := by decide +kernel
theorem dX12_isAsSeen_22 : decode cX12_isAsSeen 22 = .ok (.aload_n 0, 1) := by decide +kernel
theorem dX12_isAsSeen_23 : decode cX12_isAsSeen 23 = .ok (.getfield 118, 3) := by decide +kernel
theorem dX12_isAsSeen_26 : decode cX12_isAsSeen 26 = .ok (.iload_n 2, 1) := by decide +kernel
theorem dX12_isAsSeen_27 : decode cX12_isAsSeen 27 = .ok (.iaload, 1) := by decide +kernel
theorem dX12_isAsSeen_28 : decode cX12_isAsSeen 28 = .ok (.invokestatic 360, 3) := by decide +kernel
theorem dX12_isAsSeen_31 : decode cX12_isAsSeen 31 = .ok (.istore_n 1, 1) := by decide +kernel
theorem dX12_isAsSeen_32 : decode cX12_isAsSeen 32 = .ok (.iinc 2 1, 3) := by decide +kernel
theorem dX12_isAsSeen_35 : decode cX12_isAsSeen 35 = .ok (.goto (-22), 3) := by decide +kernel
theorem dX12_isAsSeen_38 : decode cX12_isAsSeen 38 = .ok (.iconst 1, 1) := by decide +kernel
theorem dX12_isAsSeen_39 : decode cX12_isAsSeen 39 = .ok (.istore_n 2, 1) := by decide +kernel
theorem dX12_isAsSeen_40 : decode cX12_isAsSeen 40 = .ok (.iconst 0, 1) := by decide +kernel
theorem dX12_isAsSeen_41 : decode cX12_isAsSeen 41 = .ok (.istore_n 3, 1) := by decide +kernel
theorem dX12_isAsSeen_42 : decode cX12_isAsSeen 42 = .ok (.iload_n 3, 1) := by decide +kernel
theorem dX12_isAsSeen_43 : decode cX12_isAsSeen 43 = .ok (.iload_n 1, 1) := by decide +kernel
theorem dX12_isAsSeen_44 : decode cX12_isAsSeen 44 = .ok (.if_icmp .gt 78, 3) := by decide +kernel
theorem dX12_isAsSeen_47 : decode cX12_isAsSeen 47 = .ok (.iload_n 2, 1) := by decide +kernel
theorem dX12_isAsSeen_48 : decode cX12_isAsSeen 48 = .ok (.ifCond .eq 74, 3) := by decide +kernel
theorem dX12_isAsSeen_51 : decode cX12_isAsSeen 51 = .ok (.iconst 0, 1) := by decide +kernel
theorem dX12_isAsSeen_52 : decode cX12_isAsSeen 52 = .ok (.istore 4, 2) := by decide +kernel
theorem dX12_isAsSeen_54 : decode cX12_isAsSeen 54 = .ok (.iload 4, 2) := by decide +kernel
theorem dX12_isAsSeen_56 : decode cX12_isAsSeen 56 = .ok (.aload_n 0, 1) := by decide +kernel
theorem dX12_isAsSeen_57 : decode cX12_isAsSeen 57 = .ok (.getfield 322, 3) := by decide +kernel
theorem dX12_isAsSeen_60 : decode cX12_isAsSeen 60 = .ok (.if_icmp .ge 52, 3) := by decide +kernel
theorem dX12_isAsSeen_63 : decode cX12_isAsSeen 63 = .ok (.iload_n 2, 1) := by decide +kernel
theorem dX12_isAsSeen_64 : decode cX12_isAsSeen 64 = .ok (.ifCond .eq 40, 3) := by decide +kernel
theorem dX12_isAsSeen_67 : decode cX12_isAsSeen 67 = .ok (.aload_n 0, 1) := by decide +kernel
theorem dX12_isAsSeen_68 : decode cX12_isAsSeen 68 = .ok (.getfield 118, 3) := by decide +kernel
theorem dX12_isAsSeen_71 : decode cX12_isAsSeen 71 = .ok (.iload 4, 2) := by decide +kernel
theorem dX12_isAsSeen_73 : decode cX12_isAsSeen 73 = .ok (.iaload, 1) := by decide +kernel
theorem dX12_isAsSeen_74 : decode cX12_isAsSeen 74 = .ok (.iload_n 3, 1) := by decide +kernel
theorem dX12_isAsSeen_75 : decode cX12_isAsSeen 75 = .ok (.if_icmp .ne 25, 3) := by decide +kernel
theorem dX12_isAsSeen_78 : decode cX12_isAsSeen 78 = .ok (.aload_n 0, 1) := by decide +kernel
theorem dX12_isAsSeen_79 : decode cX12_isAsSeen 79 = .ok (.getfield 81, 3) := by decide +kernel
theorem dX12_isAsSeen_82 : decode cX12_isAsSeen 82 = .ok (.aload_n 0, 1) := by decide +kernel
theorem dX12_isAsSeen_83 : decode cX12_isAsSeen 83 = .ok (.getfield 115, 3) := by decide +kernel
theorem dX12_isAsSeen_86 : decode cX12_isAsSeen 86 = .ok (.iload 4, 2) := by decide +kernel
theorem dX12_isAsSeen_88 : decode cX12_isAsSeen 88 = .ok (.iaload, 1) := by decide +kernel
theorem dX12_isAsSeen_89 : decode cX12_isAsSeen 89 = .ok (.iaload, 1) := by decide +kernel
theorem dX12_isAsSeen_90 : decode cX12_isAsSeen 90 = .ok (.aload_n 0, 1) := by decide +kernel
theorem dX12_isAsSeen_91 : decode cX12_isAsSeen 91 = .ok (.getfield 121, 3) := by decide +kernel
theorem dX12_isAsSeen_94 : decode cX12_isAsSeen 94 = .ok (.iload 4, 2) := by decide +kernel
theorem dX12_isAsSeen_96 : decode cX12_isAsSeen 96 = .ok (.iaload, 1) := by decide +kernel
theorem dX12_isAsSeen_97 : decode cX12_isAsSeen 97 = .ok (.if_icmp .ne 7, 3) := by decide +kernel
theorem dX12_isAsSeen_100 : decode cX12_isAsSeen 100 = .ok (.iconst 1, 1) := by decide +kernel
theorem dX12_isAsSeen_101 : decode cX12_isAsSeen 101 = .ok (.goto 4, 3) := by decide +kernel
theorem dX12_isAsSeen_104 : decode cX12_isAsSeen 104 = .ok (.iconst 0, 1) := by decide +kernel
theorem dX12_isAsSeen_105 : decode cX12_isAsSeen 105 = .ok (.istore_n 2, 1) := by decide +kernel
theorem dX12_isAsSeen_106 : decode cX12_isAsSeen 106 = .ok (.iinc 4 1, 3) := by decide +kernel
theorem dX12_isAsSeen_109 : decode cX12_isAsSeen 109 = .ok (.goto (-55), 3) := by decide +kernel
theorem dX12_isAsSeen_112 : decode cX12_isAsSeen 112 = .ok (.aload_n 0, 1) := by decide +kernel
theorem dX12_isAsSeen_113 : decode cX12_isAsSeen 113 = .ok (.invokevirtual 385, 3) := by decide +kernel
theorem dX12_isAsSeen_116 : decode cX12_isAsSeen 116 = .ok (.iinc 3 1, 3) := by decide +kernel
theorem dX12_isAsSeen_119 : decode cX12_isAsSeen 119 = .ok (.goto (-77), 3) := by decide +kernel
theorem dX12_isAsSeen_122 : decode cX12_isAsSeen 122 = .ok (.aload_n 0, 1) := by decide +kernel
theorem dX12_isAsSeen_123 : decode cX12_isAsSeen 123 = .ok (.aload_n 0, 1) := by decide +kernel
theorem dX12_isAsSeen_124 : decode cX12_isAsSeen 124 = .ok (.getfield 124, 3) := by decide +kernel
theorem dX12_isAsSeen_127 : decode cX12_isAsSeen 127 = .ok (.iconst 0, 1) := by decide +kernel
theorem dX12_isAsSeen_128 : decode cX12_isAsSeen 128 = .ok (.invokevirtual 423, 3) := by decide +kernel
theorem dX12_isAsSeen_131 : decode cX12_isAsSeen 131 = .ok (.iload_n 2, 1) := by decide +kernel
theorem dX12_isAsSeen_132 : decode cX12_isAsSeen 132 = .ok (.ireturn, 1) := by decide +kernel
theorem dX12_tellFits_0 : decode cX12_tellFits 0 = .ok (.aload_n 0, 1) := by decide +kernel
theorem dX12_tellFits_1 : decode cX12_tellFits 1 = .ok (.iconst 0, 1) := by decide +kernel
theorem dX12_tellFits_2 : decode cX12_tellFits 2 = .ok (.putfield 450, 3) := by decide +kernel
theorem dX12_tellFits_5 : decode cX12_tellFits 5 = .ok (.iconst 0, 1) := by decide +kernel
theorem dX12_tellFits_6 : decode cX12_tellFits 6 = .ok (.istore_n 1, 1) := by decide +kernel
theorem dX12_tellFits_7 : decode cX12_tellFits 7 = .ok (.iload_n 1, 1) := by decide +kernel
theorem dX12_tellFits_8 : decode cX12_tellFits 8 = .ok (.aload_n 0, 1) := by decide +kernel
theorem dX12_tellFits_9 : decode cX12_tellFits 9 = .ok (.getfield 42, 3) := by decide +kernel
theorem dX12_tellFits_12 : decode cX12_tellFits 12 = .ok (.iconst 1, 1) := by decide +kernel
theorem dX12_tellFits_13 : decode cX12_tellFits 13 = .ok (.iaload, 1) := by decide +kernel
theorem dX12_tellFits_14 : decode cX12_tellFits 14 = .ok (.if_icmp .ge 84, 3) := by decide +kernel
theorem dX12_tellFits_17 : decode cX12_tellFits 17 = .ok (.aload_n 0, 1) := by decide +kernel
theorem dX12_tellFits_18 : decode cX12_tellFits 18 = .ok (.getfield 85, 3) := by decide +kernel
theorem dX12_tellFits_21 : decode cX12_tellFits 21 = .ok (.iload_n 1, 1) := by decide +kernel
theorem dX12_tellFits_22 : decode cX12_tellFits 22 = .ok (.iaload, 1) := by decide +kernel
theorem dX12_tellFits_23 : decode cX12_tellFits 23 = .ok (.istore_n 2, 1) := by decide +kernel
theorem dX12_tellFits_24 : decode cX12_tellFits 24 = .ok (.iconst 0, 1) := by decide +kernel
theorem dX12_tellFits_25 : decode cX12_tellFits 25 = .ok (.istore_n 3, 1) := by decide +kernel
theorem dX12_tellFits_26 : decode cX12_tellFits 26 = .ok (.iload_n 3, 1) := by decide +kernel
theorem dX12_tellFits_27 : decode cX12_tellFits 27 = .ok (.bipush 60, 2) := by decide +kernel
theorem dX12_tellFits_29 : decode cX12_tellFits 29 = .ok (.if_icmp .ge 56, 3) := by decide +kernel
theorem dX12_tellFits_32 : decode cX12_tellFits 32 = .ok (.aload_n 0, 1) := by decide +kernel
theorem dX12_tellFits_33 : decode cX12_tellFits 33 = .ok (.getfield 85, 3) := by decide +kernel
theorem dX12_tellFits_36 : decode cX12_tellFits 36 = .ok (.iload_n 1, 1) := by decide +kernel
theorem dX12_tellFits_37 : decode cX12_tellFits 37 = .ok (.iload_n 3, 1) := by decide +kernel
theorem dX12_tellFits_38 : decode cX12_tellFits 38 = .ok (.iastore, 1) := by decide +kernel
theorem dX12_tellFits_39 : decode cX12_tellFits 39 = .ok (.iload_n 3, 1) := by decide +kernel
theorem dX12_tellFits_40 : decode cX12_tellFits 40 = .ok (.iload_n 2, 1) := by decide +kernel
theorem dX12_tellFits_41 : decode cX12_tellFits 41 = .ok (.if_icmp .eq 38, 3) := by decide +kernel
theorem dX12_tellFits_44 : decode cX12_tellFits 44 = .ok (.aload_n 0, 1) := by decide +kernel
theorem dX12_tellFits_45 : decode cX12_tellFits 45 = .ok (.invokevirtual 453, 3) := by decide +kernel
theorem dX12_tellFits_48 : decode cX12_tellFits 48 = .ok (.ifCond .ne 6, 3) := by decide +kernel
theorem dX12_tellFits_51 : decode cX12_tellFits 51 = .ok (.goto 28, 3) := by decide +kernel
theorem dX12_tellFits_54 : decode cX12_tellFits 54 = .ok (.aload_n 0, 1) := by decide +kernel
theorem dX12_tellFits_55 : decode cX12_tellFits 55 = .ok (.getfield 127, 3) := by decide +kernel
theorem dX12_tellFits_58 : decode cX12_tellFits 58 = .ok (.aload_n 0, 1) := by decide +kernel
theorem dX12_tellFits_59 : decode cX12_tellFits 59 = .ok (.getfield 450, 3) := by decide +kernel
theorem dX12_tellFits_62 : decode cX12_tellFits 62 = .ok (.bipush 100, 2) := by decide +kernel
theorem dX12_tellFits_64 : decode cX12_tellFits 64 = .ok (.iload_n 1, 1) := by decide +kernel
theorem dX12_tellFits_65 : decode cX12_tellFits 65 = .ok (.imul, 1) := by decide +kernel
theorem dX12_tellFits_66 : decode cX12_tellFits 66 = .ok (.iload_n 3, 1) := by decide +kernel
theorem dX12_tellFits_67 : decode cX12_tellFits 67 = .ok (.iadd, 1) := by decide +kernel
theorem dX12_tellFits_68 : decode cX12_tellFits 68 = .ok (.iastore, 1) := by decide +kernel
theorem dX12_tellFits_69 : decode cX12_tellFits 69 = .ok (.aload_n 0, 1) := by decide +kernel
theorem dX12_tellFits_70 : decode cX12_tellFits 70 = .ok (.dup, 1) := by decide +kernel
theorem dX12_tellFits_71 : decode cX12_tellFits 71 = .ok (.getfield 450, 3) := by decide +kernel
theorem dX12_tellFits_74 : decode cX12_tellFits 74 = .ok (.iconst 1, 1) := by decide +kernel
theorem dX12_tellFits_75 : decode cX12_tellFits 75 = .ok (.iadd, 1) := by decide +kernel
theorem dX12_tellFits_76 : decode cX12_tellFits 76 = .ok (.putfield 450, 3) := by decide +kernel
theorem dX12_tellFits_79 : decode cX12_tellFits 79 = .ok (.iinc 3 1, 3) := by decide +kernel
theorem dX12_tellFits_82 : decode cX12_tellFits 82 = .ok (.goto (-56), 3) := by decide +kernel
theorem dX12_tellFits_85 : decode cX12_tellFits 85 = .ok (.aload_n 0, 1) := by decide +kernel
theorem dX12_tellFits_86 : decode cX12_tellFits 86 = .ok (.getfield 85, 3) := by decide +kernel
theorem dX12_tellFits_89 : decode cX12_tellFits 89 = .ok (.iload_n 1, 1) := by decide +kernel
theorem dX12_tellFits_90 : decode cX12_tellFits 90 = .ok (.iload_n 2, 1) := by decide +kernel
theorem dX12_tellFits_91 : decode cX12_tellFits 91 = .ok (.iastore, 1) := by decide +kernel
theorem dX12_tellFits_92 : decode cX12_tellFits 92 = .ok (.iinc 1 1, 3) := by decide +kernel
theorem dX12_tellFits_95 : decode cX12_tellFits 95 = .ok (.goto (-88), 3) := by decide +kernel
theorem dX12_tellFits_98 : decode cX12_tellFits 98 = .ok (.return_, 1) := by decide +kernel
theorem dX12_fast_0 : decode cX12_fast 0 = .ok (.aload_n 0, 1) := by decide +kernel
theorem dX12_fast_1 : decode cX12_fast 1 = .ok (.iconst 0, 1) := by decide +kernel
theorem dX12_fast_2 : decode cX12_fast 2 = .ok (.putfield 154, 3) := by decide +kernel
theorem dX12_fast_5 : decode cX12_fast 5 = .ok (.iload_n 1, 1) := by decide +kernel
theorem dX12_fast_6 : decode cX12_fast 6 = .ok (.i2l, 1) := by decide +kernel
theorem dX12_fast_7 : decode cX12_fast 7 = .ok (.lconst 0, 1) := by decide +kernel
theorem dX12_fast_8 : decode cX12_fast 8 = .ok (.ldc2_w 456, 3) := by decide +kernel
theorem dX12_fast_11 : decode cX12_fast 11 = .ok (.invokestatic 157, 3) := by decide +kernel
theorem dX12_fast_14 : decode cX12_fast 14 = .ok (.ifCond .ne 9, 3) := by decide +kernel
theorem dX12_fast_17 : decode cX12_fast 17 = .ok (.aload_n 0, 1) := by decide +kernel
theorem dX12_fast_18 : decode cX12_fast 18 = .ok (.iconst 1, 1) := by decide +kernel
theorem dX12_fast_19 : decode cX12_fast 19 = .ok (.invokevirtual 295, 3) := by decide +kernel
theorem dX12_fast_22 : decode cX12_fast 22 = .ok (.ireturn, 1) := by decide +kernel
theorem dX12_fast_23 : decode cX12_fast 23 = .ok (.iload_n 1, 1) := by decide +kernel
theorem dX12_fast_24 : decode cX12_fast 24 = .ok (.iconst 2, 1) := by decide +kernel
theorem dX12_fast_25 : decode cX12_fast 25 = .ok (.if_icmp .ne 16, 3) := by decide +kernel
theorem dX12_fast_28 : decode cX12_fast 28 = .ok (.aload_n 0, 1) := by decide +kernel
theorem dX12_fast_29 : decode cX12_fast 29 = .ok (.invokevirtual 453, 3) := by decide +kernel
theorem dX12_fast_32 : decode cX12_fast 32 = .ok (.ifCond .eq 7, 3) := by decide +kernel
theorem dX12_fast_35 : decode cX12_fast 35 = .ok (.iconst 1, 1) := by decide +kernel
theorem dX12_fast_36 : decode cX12_fast 36 = .ok (.goto 4, 3) := by decide +kernel
theorem dX12_fast_39 : decode cX12_fast 39 = .ok (.iconst 0, 1) := by decide +kernel
theorem dX12_fast_40 : decode cX12_fast 40 = .ok (.ireturn, 1) := by decide +kernel
theorem dX12_fast_41 : decode cX12_fast 41 = .ok (.aload_n 0, 1) := by decide +kernel
theorem dX12_fast_42 : decode cX12_fast 42 = .ok (.invokevirtual 458, 3) := by decide +kernel
theorem dX12_fast_45 : decode cX12_fast 45 = .ok (.iload_n 1, 1) := by decide +kernel
theorem dX12_fast_46 : decode cX12_fast 46 = .ok (.ifCond .ne 10, 3) := by decide +kernel
theorem dX12_fast_49 : decode cX12_fast 49 = .ok (.aload_n 0, 1) := by decide +kernel
theorem dX12_fast_50 : decode cX12_fast 50 = .ok (.getfield 450, 3) := by decide +kernel
theorem dX12_fast_53 : decode cX12_fast 53 = .ok (.goto 20, 3) := by decide +kernel
theorem dX12_fast_56 : decode cX12_fast 56 = .ok (.aload_n 0, 1) := by decide +kernel
theorem dX12_fast_57 : decode cX12_fast 57 = .ok (.getfield 450, 3) := by decide +kernel
theorem dX12_fast_60 : decode cX12_fast 60 = .ok (.ifCond .ne 7, 3) := by decide +kernel
theorem dX12_fast_63 : decode cX12_fast 63 = .ok (.iconst (-1), 1) := by decide +kernel
theorem dX12_fast_64 : decode cX12_fast 64 = .ok (.goto 9, 3) := by decide +kernel
theorem dX12_fast_67 : decode cX12_fast 67 = .ok (.aload_n 0, 1) := by decide +kernel
theorem dX12_fast_68 : decode cX12_fast 68 = .ok (.getfield 127, 3) := by decide +kernel
theorem dX12_fast_71 : decode cX12_fast 71 = .ok (.iconst 0, 1) := by decide +kernel
theorem dX12_fast_72 : decode cX12_fast 72 = .ok (.iaload, 1) := by decide +kernel
theorem dX12_fast_73 : decode cX12_fast 73 = .ok (.ireturn, 1) := by decide +kernel
theorem dX12_unlike_0 : decode cX12_unlike 0 = .ok (.iconst 0, 1) := by decide +kernel
theorem dX12_unlike_1 : decode cX12_unlike 1 = .ok (.istore_n 2, 1) := by decide +kernel
theorem dX12_unlike_2 : decode cX12_unlike 2 = .ok (.iconst 0, 1) := by decide +kernel
theorem dX12_unlike_3 : decode cX12_unlike 3 = .ok (.istore_n 3, 1) := by decide +kernel
theorem dX12_unlike_4 : decode cX12_unlike 4 = .ok (.iload_n 3, 1) := by decide +kernel
theorem dX12_unlike_5 : decode cX12_unlike 5 = .ok (.aload_n 0, 1) := by decide +kernel
theorem dX12_unlike_6 : decode cX12_unlike 6 = .ok (.getfield 450, 3) := by decide +kernel
theorem dX12_unlike_9 : decode cX12_unlike 9 = .ok (.if_icmp .ge 78, 3) := by decide +kernel
theorem dX12_unlike_12 : decode cX12_unlike 12 = .ok (.iconst 1, 1) := by decide +kernel
theorem dX12_unlike_13 : decode cX12_unlike 13 = .ok (.istore 4, 2) := by decide +kernel
theorem dX12_unlike_15 : decode cX12_unlike 15 = .ok (.iconst 0, 1) := by decide +kernel
theorem dX12_unlike_16 : decode cX12_unlike 16 = .ok (.istore 5, 2) := by decide +kernel
theorem dX12_unlike_18 : decode cX12_unlike 18 = .ok (.iload 5, 2) := by decide +kernel
theorem dX12_unlike_20 : decode cX12_unlike 20 = .ok (.iload_n 3, 1) := by decide +kernel
theorem dX12_unlike_21 : decode cX12_unlike 21 = .ok (.if_icmp .ge 47, 3) := by decide +kernel
theorem dX12_unlike_24 : decode cX12_unlike 24 = .ok (.iload 4, 2) := by decide +kernel
theorem dX12_unlike_26 : decode cX12_unlike 26 = .ok (.ifCond .eq 42, 3) := by decide +kernel
theorem dX12_unlike_29 : decode cX12_unlike 29 = .ok (.aload_n 0, 1) := by decide +kernel
theorem dX12_unlike_30 : decode cX12_unlike 30 = .ok (.getfield 130, 3) := by decide +kernel
theorem dX12_unlike_33 : decode cX12_unlike 33 = .ok (.bipush 8, 2) := by decide +kernel
theorem dX12_unlike_35 : decode cX12_unlike 35 = .ok (.iload 5, 2) := by decide +kernel
theorem dX12_unlike_37 : decode cX12_unlike 37 = .ok (.imul, 1) := by decide +kernel
theorem dX12_unlike_38 : decode cX12_unlike 38 = .ok (.iload_n 1, 1) := by decide +kernel
theorem dX12_unlike_39 : decode cX12_unlike 39 = .ok (.iadd, 1) := by decide +kernel
theorem dX12_unlike_40 : decode cX12_unlike 40 = .ok (.iaload, 1) := by decide +kernel
theorem dX12_unlike_41 : decode cX12_unlike 41 = .ok (.aload_n 0, 1) := by decide +kernel
theorem dX12_unlike_42 : decode cX12_unlike 42 = .ok (.getfield 130, 3) := by decide +kernel
theorem dX12_unlike_45 : decode cX12_unlike 45 = .ok (.bipush 8, 2) := by decide +kernel
theorem dX12_unlike_47 : decode cX12_unlike 47 = .ok (.iload_n 3, 1) := by decide +kernel
theorem dX12_unlike_48 : decode cX12_unlike 48 = .ok (.imul, 1) := by decide +kernel
theorem dX12_unlike_49 : decode cX12_unlike 49 = .ok (.iload_n 1, 1) := by decide +kernel
theorem dX12_unlike_50 : decode cX12_unlike 50 = .ok (.iadd, 1) := by decide +kernel
theorem dX12_unlike_51 : decode cX12_unlike 51 = .ok (.iaload, 1) := by decide +kernel
theorem dX12_unlike_52 : decode cX12_unlike 52 = .ok (.if_icmp .eq 7, 3) := by decide +kernel
theorem dX12_unlike_55 : decode cX12_unlike 55 = .ok (.iconst 1, 1) := by decide +kernel
theorem dX12_unlike_56 : decode cX12_unlike 56 = .ok (.goto 4, 3) := by decide +kernel
theorem dX12_unlike_59 : decode cX12_unlike 59 = .ok (.iconst 0, 1) := by decide +kernel
theorem dX12_unlike_60 : decode cX12_unlike 60 = .ok (.istore 4, 2) := by decide +kernel
theorem dX12_unlike_62 : decode cX12_unlike 62 = .ok (.iinc 5 1, 3) := by decide +kernel
theorem dX12_unlike_65 : decode cX12_unlike 65 = .ok (.goto (-47), 3) := by decide +kernel
theorem dX12_unlike_68 : decode cX12_unlike 68 = .ok (.iload_n 2, 1) := by decide +kernel
theorem dX12_unlike_69 : decode cX12_unlike 69 = .ok (.iload 4, 2) := by decide +kernel
theorem dX12_unlike_71 : decode cX12_unlike 71 = .ok (.ifCond .eq 7, 3) := by decide +kernel
theorem dX12_unlike_74 : decode cX12_unlike 74 = .ok (.iconst 1, 1) := by decide +kernel
theorem dX12_unlike_75 : decode cX12_unlike 75 = .ok (.goto 4, 3) := by decide +kernel
theorem dX12_unlike_78 : decode cX12_unlike 78 = .ok (.iconst 0, 1) := by decide +kernel
theorem dX12_unlike_79 : decode cX12_unlike 79 = .ok (.iadd, 1) := by decide +kernel
theorem dX12_unlike_80 : decode cX12_unlike 80 = .ok (.istore_n 2, 1) := by decide +kernel
theorem dX12_unlike_81 : decode cX12_unlike 81 = .ok (.iinc 3 1, 3) := by decide +kernel
theorem dX12_unlike_84 : decode cX12_unlike 84 = .ok (.goto (-80), 3) := by decide +kernel
theorem dX12_unlike_87 : decode cX12_unlike 87 = .ok (.iload_n 2, 1) := by decide +kernel
theorem dX12_unlike_88 : decode cX12_unlike 88 = .ok (.ireturn, 1) := by decide +kernel
theorem dX12_look_0 : decode cX12_look 0 = .ok (.aload_n 0, 1) := by decide +kernel
theorem dX12_look_1 : decode cX12_look 1 = .ok (.iconst 0, 1) := by decide +kernel
theorem dX12_look_2 : decode cX12_look 2 = .ok (.putfield 154, 3) := by decide +kernel
theorem dX12_look_5 : decode cX12_look 5 = .ok (.iload_n 1, 1) := by decide +kernel
theorem dX12_look_6 : decode cX12_look 6 = .ok (.ifCond .lt 8, 3) := by decide +kernel
theorem dX12_look_9 : decode cX12_look 9 = .ok (.iload_n 1, 1) := by decide +kernel
theorem dX12_look_10 : decode cX12_look 10 = .ok (.iconst 1, 1) := by decide +kernel
theorem dX12_look_11 : decode cX12_look 11 = .ok (.if_icmp .le 9, 3) := by decide +kernel
theorem dX12_look_14 : decode cX12_look 14 = .ok (.aload_n 0, 1) := by decide +kernel
theorem dX12_look_15 : decode cX12_look 15 = .ok (.iconst 1, 1) := by decide +kernel
theorem dX12_look_16 : decode cX12_look 16 = .ok (.invokevirtual 295, 3) := by decide +kernel
theorem dX12_look_19 : decode cX12_look 19 = .ok (.ireturn, 1) := by decide +kernel
theorem dX12_look_20 : decode cX12_look 20 = .ok (.aload_n 0, 1) := by decide +kernel
theorem dX12_look_21 : decode cX12_look 21 = .ok (.invokevirtual 458, 3) := by decide +kernel
theorem dX12_look_24 : decode cX12_look 24 = .ok (.aload_n 0, 1) := by decide +kernel
theorem dX12_look_25 : decode cX12_look 25 = .ok (.aload_n 0, 1) := by decide +kernel
theorem dX12_look_26 : decode cX12_look 26 = .ok (.getfield 103, 3) := by decide +kernel
theorem dX12_look_29 : decode cX12_look 29 = .ok (.iconst 0, 1) := by decide +kernel
theorem dX12_look_30 : decode cX12_look 30 = .ok (.invokevirtual 397, 3) := by decide +kernel
theorem dX12_look_33 : decode cX12_look 33 = .ok (.iconst 0, 1) := by decide +kernel
theorem dX12_look_34 : decode cX12_look 34 = .ok (.istore_n 2, 1) := by decide +kernel
theorem dX12_look_35 : decode cX12_look 35 = .ok (.iload_n 2, 1) := by decide +kernel
theorem dX12_look_36 : decode cX12_look 36 = .ok (.aload_n 0, 1) := by decide +kernel
theorem dX12_look_37 : decode cX12_look 37 = .ok (.getfield 450, 3) := by decide +kernel
theorem dX12_look_40 : decode cX12_look 40 = .ok (.if_icmp .ge 77, 3) := by decide +kernel
theorem dX12_look_43 : decode cX12_look 43 = .ok (.aload_n 0, 1) := by decide +kernel
theorem dX12_look_44 : decode cX12_look 44 = .ok (.getfield 85, 3) := by decide +kernel
theorem dX12_look_47 : decode cX12_look 47 = .ok (.aload_n 0, 1) := by decide +kernel
theorem dX12_look_48 : decode cX12_look 48 = .ok (.getfield 127, 3) := by decide +kernel
theorem dX12_look_51 : decode cX12_look 51 = .ok (.iload_n 2, 1) := by decide +kernel
theorem dX12_look_52 : decode cX12_look 52 = .ok (.iaload, 1) := by decide +kernel
theorem dX12_look_53 : decode cX12_look 53 = .ok (.bipush 100, 2) := by decide +kernel
theorem dX12_look_55 : decode cX12_look 55 = .ok (.idiv, 1) := by decide +kernel
theorem dX12_look_56 : decode cX12_look 56 = .ok (.aload_n 0, 1) := by decide +kernel
theorem dX12_look_57 : decode cX12_look 57 = .ok (.getfield 127, 3) := by decide +kernel
theorem dX12_look_60 : decode cX12_look 60 = .ok (.iload_n 2, 1) := by decide +kernel
theorem dX12_look_61 : decode cX12_look 61 = .ok (.iaload, 1) := by decide +kernel
theorem dX12_look_62 : decode cX12_look 62 = .ok (.bipush 100, 2) := by decide +kernel
theorem dX12_look_64 : decode cX12_look 64 = .ok (.irem, 1) := by decide +kernel
theorem dX12_look_65 : decode cX12_look 65 = .ok (.iastore, 1) := by decide +kernel
theorem dX12_look_66 : decode cX12_look 66 = .ok (.aload_n 0, 1) := by decide +kernel
theorem dX12_look_67 : decode cX12_look 67 = .ok (.iconst 5, 1) := by decide +kernel
theorem dX12_look_68 : decode cX12_look 68 = .ok (.invokevirtual 409, 3) := by decide +kernel
theorem dX12_look_71 : decode cX12_look 71 = .ok (.iconst 0, 1) := by decide +kernel
theorem dX12_look_72 : decode cX12_look 72 = .ok (.istore_n 3, 1) := by decide +kernel
theorem dX12_look_73 : decode cX12_look 73 = .ok (.iload_n 3, 1) := by decide +kernel
theorem dX12_look_74 : decode cX12_look 74 = .ok (.bipush 8, 2) := by decide +kernel
theorem dX12_look_76 : decode cX12_look 76 = .ok (.if_icmp .ge 26, 3) := by decide +kernel
theorem dX12_look_79 : decode cX12_look 79 = .ok (.aload_n 0, 1) := by decide +kernel
theorem dX12_look_80 : decode cX12_look 80 = .ok (.getfield 130, 3) := by decide +kernel
theorem dX12_look_83 : decode cX12_look 83 = .ok (.bipush 8, 2) := by decide +kernel
theorem dX12_look_85 : decode cX12_look 85 = .ok (.iload_n 2, 1) := by decide +kernel
theorem dX12_look_86 : decode cX12_look 86 = .ok (.imul, 1) := by decide +kernel
theorem dX12_look_87 : decode cX12_look 87 = .ok (.iload_n 3, 1) := by decide +kernel
theorem dX12_look_88 : decode cX12_look 88 = .ok (.iadd, 1) := by decide +kernel
theorem dX12_look_89 : decode cX12_look 89 = .ok (.aload_n 0, 1) := by decide +kernel
theorem dX12_look_90 : decode cX12_look 90 = .ok (.getfield 81, 3) := by decide +kernel
theorem dX12_look_93 : decode cX12_look 93 = .ok (.iload_n 3, 1) := by decide +kernel
theorem dX12_look_94 : decode cX12_look 94 = .ok (.iaload, 1) := by decide +kernel
theorem dX12_look_95 : decode cX12_look 95 = .ok (.iastore, 1) := by decide +kernel
theorem dX12_look_96 : decode cX12_look 96 = .ok (.iinc 3 1, 3) := by decide +kernel
theorem dX12_look_99 : decode cX12_look 99 = .ok (.goto (-26), 3) := by decide +kernel
theorem dX12_look_102 : decode cX12_look 102 = .ok (.aload_n 0, 1) := by decide +kernel
theorem dX12_look_103 : decode cX12_look 103 = .ok (.aload_n 0, 1) := by decide +kernel
theorem dX12_look_104 : decode cX12_look 104 = .ok (.getfield 103, 3) := by decide +kernel
theorem dX12_look_107 : decode cX12_look 107 = .ok (.iconst 0, 1) := by decide +kernel
theorem dX12_look_108 : decode cX12_look 108 = .ok (.invokevirtual 423, 3) := by decide +kernel
theorem dX12_look_111 : decode cX12_look 111 = .ok (.iinc 2 1, 3) := by decide +kernel
theorem dX12_look_114 : decode cX12_look 114 = .ok (.goto (-79), 3) := by decide +kernel
theorem dX12_look_117 : decode cX12_look 117 = .ok (.iconst (-1), 1) := by decide +kernel
theorem dX12_look_118 : decode cX12_look 118 = .ok (.istore_n 2, 1) := by decide +kernel
theorem dX12_look_119 : decode cX12_look 119 = .ok (.iconst 0, 1) := by decide +kernel
theorem dX12_look_120 : decode cX12_look 120 = .ok (.istore_n 3, 1) := by decide +kernel
theorem dX12_look_121 : decode cX12_look 121 = .ok (.iconst 0, 1) := by decide +kernel
theorem dX12_look_122 : decode cX12_look 122 = .ok (.istore 4, 2) := by decide +kernel
theorem dX12_look_124 : decode cX12_look 124 = .ok (.iload 4, 2) := by decide +kernel
theorem dX12_look_126 : decode cX12_look 126 = .ok (.aload_n 0, 1) := by decide +kernel
theorem dX12_look_127 : decode cX12_look 127 = .ok (.getfield 42, 3) := by decide +kernel
theorem dX12_look_130 : decode cX12_look 130 = .ok (.iconst 1, 1) := by decide +kernel
theorem dX12_look_131 : decode cX12_look 131 = .ok (.iaload, 1) := by decide +kernel
theorem dX12_look_132 : decode cX12_look 132 = .ok (.if_icmp .ge 32, 3) := by decide +kernel
theorem dX12_look_135 : decode cX12_look 135 = .ok (.aload_n 0, 1) := by decide +kernel
theorem dX12_look_136 : decode cX12_look 136 = .ok (.iload 4, 2) := by decide +kernel
theorem dX12_look_138 : decode cX12_look 138 = .ok (.invokevirtual 461, 3) := by decide +kernel
theorem dX12_look_141 : decode cX12_look 141 = .ok (.istore 5, 2) := by decide +kernel
theorem dX12_look_143 : decode cX12_look 143 = .ok (.iload 5, 2) := by decide +kernel
theorem dX12_look_145 : decode cX12_look 145 = .ok (.iload_n 3, 1) := by decide +kernel
theorem dX12_look_146 : decode cX12_look 146 = .ok (.if_icmp .gt 6, 3) := by decide +kernel
theorem dX12_look_149 : decode cX12_look 149 = .ok (.goto 9, 3) := by decide +kernel
theorem dX12_look_152 : decode cX12_look 152 = .ok (.iload 4, 2) := by decide +kernel
theorem dX12_look_154 : decode cX12_look 154 = .ok (.istore_n 2, 1) := by decide +kernel
theorem dX12_look_155 : decode cX12_look 155 = .ok (.iload 5, 2) := by decide +kernel
theorem dX12_look_157 : decode cX12_look 157 = .ok (.istore_n 3, 1) := by decide +kernel
theorem dX12_look_158 : decode cX12_look 158 = .ok (.iinc 4 1, 3) := by decide +kernel
theorem dX12_look_161 : decode cX12_look 161 = .ok (.goto (-37), 3) := by decide +kernel
theorem dX12_look_164 : decode cX12_look 164 = .ok (.iload_n 1, 1) := by decide +kernel
theorem dX12_look_165 : decode cX12_look 165 = .ok (.ifCond .ne 7, 3) := by decide +kernel
theorem dX12_look_168 : decode cX12_look 168 = .ok (.iload_n 2, 1) := by decide +kernel
theorem dX12_look_169 : decode cX12_look 169 = .ok (.goto 4, 3) := by decide +kernel
theorem dX12_look_172 : decode cX12_look 172 = .ok (.iload_n 3, 1) := by decide +kernel
theorem dX12_look_173 : decode cX12_look 173 = .ok (.ireturn, 1) := by decide +kernel
theorem dX12_forget_0 : decode cX12_forget 0 = .ok (.aload_n 0, 1) := by decide +kernel
theorem dX12_forget_1 : decode cX12_forget 1 = .ok (.iconst 0, 1) := by decide +kernel
theorem dX12_forget_2 : decode cX12_forget 2 = .ok (.putfield 154, 3) := by decide +kernel
theorem dX12_forget_5 : decode cX12_forget 5 = .ok (.aload_n 0, 1) := by decide +kernel
theorem dX12_forget_6 : decode cX12_forget 6 = .ok (.iconst 0, 1) := by decide +kernel
theorem dX12_forget_7 : decode cX12_forget 7 = .ok (.putfield 322, 3) := by decide +kernel
theorem dX12_forget_10 : decode cX12_forget 10 = .ok (.return_, 1) := by decide +kernel
theorem dX12_fog_0 : decode cX12_fog 0 = .ok (.aload_n 0, 1) := by decide +kernel
theorem dX12_fog_1 : decode cX12_fog 1 = .ok (.iconst 0, 1) := by decide +kernel
theorem dX12_fog_2 : decode cX12_fog 2 = .ok (.putfield 154, 3) := by decide +kernel
theorem dX12_fog_5 : decode cX12_fog 5 = .ok (.aload_n 0, 1) := by decide +kernel
theorem dX12_fog_6 : decode cX12_fog 6 = .ok (.iload_n 1, 1) := by decide +kernel
theorem dX12_fog_7 : decode cX12_fog 7 = .ok (.invokevirtual 394, 3) := by decide +kernel
theorem dX12_fog_10 : decode cX12_fog 10 = .ok (.ifCond .ne 9, 3) := by decide +kernel
theorem dX12_fog_13 : decode cX12_fog 13 = .ok (.aload_n 0, 1) := by decide +kernel
theorem dX12_fog_14 : decode cX12_fog 14 = .ok (.iconst 1, 1) := by decide +kernel
theorem dX12_fog_15 : decode cX12_fog 15 = .ok (.invokevirtual 295, 3) := by decide +kernel
theorem dX12_fog_18 : decode cX12_fog 18 = .ok (.ireturn, 1) := by decide +kernel
theorem dX12_fog_19 : decode cX12_fog 19 = .ok (.iload_n 2, 1) := by decide +kernel
theorem dX12_fog_20 : decode cX12_fog 20 = .ok (.i2l, 1) := by decide +kernel
theorem dX12_fog_21 : decode cX12_fog 21 = .ok (.lconst 1, 1) := by decide +kernel
theorem dX12_fog_22 : decode cX12_fog 22 = .ok (.ldc2_w 464, 3) := by decide +kernel
theorem dX12_fog_25 : decode cX12_fog 25 = .ok (.invokestatic 157, 3) := by decide +kernel
theorem dX12_fog_28 : decode cX12_fog 28 = .ok (.ifCond .eq 15, 3) := by decide +kernel
theorem dX12_fog_31 : decode cX12_fog 31 = .ok (.iload_n 3, 1) := by decide +kernel
theorem dX12_fog_32 : decode cX12_fog 32 = .ok (.i2l, 1) := by decide +kernel
theorem dX12_fog_33 : decode cX12_fog 33 = .ok (.lconst 0, 1) := by decide +kernel
theorem dX12_fog_34 : decode cX12_fog 34 = .ok (.ldc2_w 466, 3) := by decide +kernel
theorem dX12_fog_37 : decode cX12_fog 37 = .ok (.invokestatic 157, 3) := by decide +kernel
theorem dX12_fog_40 : decode cX12_fog 40 = .ok (.ifCond .ne 9, 3) := by decide +kernel
theorem dX12_fog_43 : decode cX12_fog 43 = .ok (.aload_n 0, 1) := by decide +kernel
theorem dX12_fog_44 : decode cX12_fog 44 = .ok (.iconst 2, 1) := by decide +kernel
theorem dX12_fog_45 : decode cX12_fog 45 = .ok (.invokevirtual 295, 3) := by decide +kernel
theorem dX12_fog_48 : decode cX12_fog 48 = .ok (.ireturn, 1) := by decide +kernel
theorem dX12_fog_49 : decode cX12_fog 49 = .ok (.iconst 0, 1) := by decide +kernel
theorem dX12_fog_50 : decode cX12_fog 50 = .ok (.istore 4, 2) := by decide +kernel
theorem dX12_fog_52 : decode cX12_fog 52 = .ok (.aload_n 0, 1) := by decide +kernel
theorem dX12_fog_53 : decode cX12_fog 53 = .ok (.aload_n 0, 1) := by decide +kernel
theorem dX12_fog_54 : decode cX12_fog 54 = .ok (.getfield 103, 3) := by decide +kernel
theorem dX12_fog_57 : decode cX12_fog 57 = .ok (.iconst 0, 1) := by decide +kernel
theorem dX12_fog_58 : decode cX12_fog 58 = .ok (.invokevirtual 397, 3) := by decide +kernel
theorem dX12_fog_61 : decode cX12_fog 61 = .ok (.iconst 0, 1) := by decide +kernel
theorem dX12_fog_62 : decode cX12_fog 62 = .ok (.istore 5, 2) := by decide +kernel
theorem dX12_fog_64 : decode cX12_fog 64 = .ok (.iload 5, 2) := by decide +kernel
theorem dX12_fog_66 : decode cX12_fog 66 = .ok (.iconst 1, 1) := by decide +kernel
theorem dX12_fog_67 : decode cX12_fog 67 = .ok (.iload_n 2, 1) := by decide +kernel
theorem dX12_fog_68 : decode cX12_fog 68 = .ok (.ishl, 1) := by decide +kernel
theorem dX12_fog_69 : decode cX12_fog 69 = .ok (.if_icmp .ge 91, 3) := by decide +kernel
theorem dX12_fog_72 : decode cX12_fog 72 = .ok (.iconst 1, 1) := by decide +kernel
theorem dX12_fog_73 : decode cX12_fog 73 = .ok (.istore 6, 2) := by decide +kernel
theorem dX12_fog_75 : decode cX12_fog 75 = .ok (.iconst 0, 1) := by decide +kernel
theorem dX12_fog_76 : decode cX12_fog 76 = .ok (.istore 7, 2) := by decide +kernel
theorem dX12_fog_78 : decode cX12_fog 78 = .ok (.iload 7, 2) := by decide +kernel
theorem dX12_fog_80 : decode cX12_fog 80 = .ok (.iload_n 2, 1) := by decide +kernel
theorem dX12_fog_81 : decode cX12_fog 81 = .ok (.if_icmp .ge 44, 3) := by decide +kernel
theorem dX12_fog_84 : decode cX12_fog 84 = .ok (.aload_n 0, 1) := by decide +kernel
theorem dX12_fog_85 : decode cX12_fog 85 = .ok (.iload 5, 2) := by decide +kernel
theorem dX12_fog_87 : decode cX12_fog 87 = .ok (.iload 7, 2) := by decide +kernel
theorem dX12_fog_89 : decode cX12_fog 89 = .ok (.invokestatic 363, 3) := by decide +kernel
theorem dX12_fog_92 : decode cX12_fog 92 = .ok (.putfield 367, 3) := by decide +kernel
theorem dX12_fog_95 : decode cX12_fog 95 = .ok (.iload 6, 2) := by decide +kernel
theorem dX12_fog_97 : decode cX12_fog 97 = .ok (.aload_n 0, 1) := by decide +kernel
theorem dX12_fog_98 : decode cX12_fog 98 = .ok (.getfield 367, 3) := by decide +kernel
theorem dX12_fog_101 : decode cX12_fog 101 = .ok (.ifCond .eq 7, 3) := by decide +kernel
theorem dX12_fog_104 : decode cX12_fog 104 = .ok (.iload_n 3, 1) := by decide +kernel
theorem dX12_fog_105 : decode cX12_fog 105 = .ok (.goto 7, 3) := by decide +kernel
theorem dX12_fog_108 : decode cX12_fog 108 = .ok (.bipush 10, 2) := by decide +kernel
theorem dX12_fog_110 : decode cX12_fog 110 = .ok (.iload_n 3, 1) := by decide +kernel
theorem dX12_fog_111 : decode cX12_fog 111 = .ok (.isub, 1) := by decide +kernel
theorem dX12_fog_112 : decode cX12_fog 112 = .ok (.imul, 1) := by decide +kernel
theorem dX12_fog_113 : decode cX12_fog 113 = .ok (.istore 6, 2) := by decide +kernel
theorem dX12_fog_115 : decode cX12_fog 115 = .ok (.aload_n 0, 1) := by decide +kernel
theorem dX12_fog_116 : decode cX12_fog 116 = .ok (.invokevirtual 385, 3) := by decide +kernel
theorem dX12_fog_119 : decode cX12_fog 119 = .ok (.iinc 7 1, 3) := by decide +kernel
theorem dX12_fog_122 : decode cX12_fog 122 = .ok (.goto (-44), 3) := by decide +kernel
theorem dX12_fog_125 : decode cX12_fog 125 = .ok (.iload 4, 2) := by decide +kernel
theorem dX12_fog_127 : decode cX12_fog 127 = .ok (.aload_n 0, 1) := by decide +kernel
theorem dX12_fog_128 : decode cX12_fog 128 = .ok (.getfield 81, 3) := by decide +kernel
theorem dX12_fog_131 : decode cX12_fog 131 = .ok (.iload_n 1, 1) := by decide +kernel
theorem dX12_fog_132 : decode cX12_fog 132 = .ok (.iaload, 1) := by decide +kernel
theorem dX12_fog_133 : decode cX12_fog 133 = .ok (.ifCond .ne 8, 3) := by decide +kernel
theorem dX12_fog_136 : decode cX12_fog 136 = .ok (.iload 6, 2) := by decide +kernel
theorem dX12_fog_138 : decode cX12_fog 138 = .ok (.goto 4, 3) := by decide +kernel
theorem dX12_fog_141 : decode cX12_fog 141 = .ok (.iconst 0, 1) := by decide +kernel
theorem dX12_fog_142 : decode cX12_fog 142 = .ok (.iadd, 1) := by decide +kernel
theorem dX12_fog_143 : decode cX12_fog 143 = .ok (.istore 4, 2) := by decide +kernel
theorem dX12_fog_145 : decode cX12_fog 145 = .ok (.aload_n 0, 1) := by decide +kernel
theorem dX12_fog_146 : decode cX12_fog 146 = .ok (.aload_n 0, 1) := by decide +kernel
theorem dX12_fog_147 : decode cX12_fog 147 = .ok (.getfield 103, 3) := by decide +kernel
theorem dX12_fog_150 : decode cX12_fog 150 = .ok (.iconst 0, 1) := by decide +kernel
theorem dX12_fog_151 : decode cX12_fog 151 = .ok (.invokevirtual 423, 3) := by decide +kernel
theorem dX12_fog_154 : decode cX12_fog 154 = .ok (.iinc 5 1, 3) := by decide +kernel
theorem dX12_fog_157 : decode cX12_fog 157 = .ok (.goto (-93), 3) := by decide +kernel
theorem dX12_fog_160 : decode cX12_fog 160 = .ok (.aload_n 0, 1) := by decide +kernel
theorem dX12_fog_161 : decode cX12_fog 161 = .ok (.iconst 0, 1) := by decide +kernel
theorem dX12_fog_162 : decode cX12_fog 162 = .ok (.putfield 367, 3) := by decide +kernel
theorem dX12_fog_165 : decode cX12_fog 165 = .ok (.iload 4, 2) := by decide +kernel
theorem dX12_fog_167 : decode cX12_fog 167 = .ok (.ireturn, 1) := by decide +kernel
theorem dX12_tellGains_0 : decode cX12_tellGains 0 = .ok (.aload_n 0, 1) := by decide +kernel
theorem dX12_tellGains_1 : decode cX12_tellGains 1 = .ok (.getfield 72, 3) := by decide +kernel
theorem dX12_tellGains_4 : decode cX12_tellGains 4 = .ok (.iload_n 1, 1) := by decide +kernel
theorem dX12_tellGains_5 : decode cX12_tellGains 5 = .ok (.iaload, 1) := by decide +kernel
theorem dX12_tellGains_6 : decode cX12_tellGains 6 = .ok (.istore_n 3, 1) := by decide +kernel
theorem dX12_tellGains_7 : decode cX12_tellGains 7 = .ok (.aload_n 0, 1) := by decide +kernel
theorem dX12_tellGains_8 : decode cX12_tellGains 8 = .ok (.getfield 72, 3) := by decide +kernel
theorem dX12_tellGains_11 : decode cX12_tellGains 11 = .ok (.iload_n 2, 1) := by decide +kernel
theorem dX12_tellGains_12 : decode cX12_tellGains 12 = .ok (.iaload, 1) := by decide +kernel
theorem dX12_tellGains_13 : decode cX12_tellGains 13 = .ok (.istore 4, 2) := by decide +kernel
theorem dX12_tellGains_15 : decode cX12_tellGains 15 = .ok (.aload_n 0, 1) := by decide +kernel
theorem dX12_tellGains_16 : decode cX12_tellGains 16 = .ok (.aload_n 0, 1) := by decide +kernel
theorem dX12_tellGains_17 : decode cX12_tellGains 17 = .ok (.getfield 103, 3) := by decide +kernel
theorem dX12_tellGains_20 : decode cX12_tellGains 20 = .ok (.iconst 0, 1) := by decide +kernel
theorem dX12_tellGains_21 : decode cX12_tellGains 21 = .ok (.invokevirtual 397, 3) := by decide +kernel
theorem dX12_tellGains_24 : decode cX12_tellGains 24 = .ok (.iconst 0, 1) := by decide +kernel
theorem dX12_tellGains_25 : decode cX12_tellGains 25 = .ok (.istore 5, 2) := by decide +kernel
theorem dX12_tellGains_27 : decode cX12_tellGains 27 = .ok (.iload 5, 2) := by decide +kernel
theorem dX12_tellGains_29 : decode cX12_tellGains 29 = .ok (.iconst 4, 1) := by decide +kernel
theorem dX12_tellGains_30 : decode cX12_tellGains 30 = .ok (.if_icmp .ge 173, 3) := by decide +kernel
theorem dX12_tellGains_33 : decode cX12_tellGains 33 = .ok (.iload 5, 2) := by decide +kernel
theorem dX12_tellGains_35 : decode cX12_tellGains 35 = .ok (.iconst 2, 1) := by decide +kernel
theorem dX12_tellGains_36 : decode cX12_tellGains 36 = .ok (.idiv, 1) := by decide +kernel
theorem dX12_tellGains_37 : decode cX12_tellGains 37 = .ok (.iconst 1, 1) := by decide +kernel
theorem dX12_tellGains_38 : decode cX12_tellGains 38 = .ok (.if_icmp .ne 7, 3) := by decide +kernel
theorem dX12_tellGains_41 : decode cX12_tellGains 41 = .ok (.iconst 1, 1) := by decide +kernel
theorem dX12_tellGains_42 : decode cX12_tellGains 42 = .ok (.goto 4, 3) := by decide +kernel
theorem dX12_tellGains_45 : decode cX12_tellGains 45 = .ok (.iconst 0, 1) := by decide +kernel
theorem dX12_tellGains_46 : decode cX12_tellGains 46 = .ok (.istore 6, 2) := by decide +kernel
theorem dX12_tellGains_48 : decode cX12_tellGains 48 = .ok (.iload 5, 2) := by decide +kernel
theorem dX12_tellGains_50 : decode cX12_tellGains 50 = .ok (.iconst 2, 1) := by decide +kernel
theorem dX12_tellGains_51 : decode cX12_tellGains 51 = .ok (.irem, 1) := by decide +kernel
theorem dX12_tellGains_52 : decode cX12_tellGains 52 = .ok (.iconst 1, 1) := by decide +kernel
theorem dX12_tellGains_53 : decode cX12_tellGains 53 = .ok (.if_icmp .ne 7, 3) := by decide +kernel
theorem dX12_tellGains_56 : decode cX12_tellGains 56 = .ok (.iconst 1, 1) := by decide +kernel
theorem dX12_tellGains_57 : decode cX12_tellGains 57 = .ok (.goto 4, 3) := by decide +kernel
theorem dX12_tellGains_60 : decode cX12_tellGains 60 = .ok (.iconst 0, 1) := by decide +kernel
theorem dX12_tellGains_61 : decode cX12_tellGains 61 = .ok (.istore 7, 2) := by decide +kernel
theorem dX12_tellGains_63 : decode cX12_tellGains 63 = .ok (.aload_n 0, 1) := by decide +kernel
theorem dX12_tellGains_64 : decode cX12_tellGains 64 = .ok (.getfield 72, 3) := by decide +kernel
theorem dX12_tellGains_67 : decode cX12_tellGains 67 = .ok (.iload_n 1, 1) := by decide +kernel
theorem dX12_tellGains_68 : decode cX12_tellGains 68 = .ok (.iload 6, 2) := by decide +kernel
theorem dX12_tellGains_70 : decode cX12_tellGains 70 = .ok (.ifCond .eq 8, 3) := by decide +kernel
theorem dX12_tellGains_73 : decode cX12_tellGains 73 = .ok (.bipush 9, 2) := by decide +kernel
theorem dX12_tellGains_75 : decode cX12_tellGains 75 = .ok (.goto 4, 3) := by decide +kernel
theorem dX12_tellGains_78 : decode cX12_tellGains 78 = .ok (.iload_n 3, 1) := by decide +kernel
theorem dX12_tellGains_79 : decode cX12_tellGains 79 = .ok (.iastore, 1) := by decide +kernel
theorem dX12_tellGains_80 : decode cX12_tellGains 80 = .ok (.aload_n 0, 1) := by decide +kernel
theorem dX12_tellGains_81 : decode cX12_tellGains 81 = .ok (.getfield 72, 3) := by decide +kernel
theorem dX12_tellGains_84 : decode cX12_tellGains 84 = .ok (.iload_n 2, 1) := by decide +kernel
theorem dX12_tellGains_85 : decode cX12_tellGains 85 = .ok (.iload 7, 2) := by decide +kernel
theorem dX12_tellGains_87 : decode cX12_tellGains 87 = .ok (.ifCond .eq 8, 3) := by decide +kernel
theorem dX12_tellGains_90 : decode cX12_tellGains 90 = .ok (.bipush 9, 2) := by decide +kernel
theorem dX12_tellGains_92 : decode cX12_tellGains 92 = .ok (.goto 5, 3) := by decide +kernel
theorem dX12_tellGains_95 : decode cX12_tellGains 95 = .ok (.iload 4, 2) := by decide +kernel
theorem dX12_tellGains_97 : decode cX12_tellGains 97 = .ok (.iastore, 1) := by decide +kernel
theorem dX12_tellGains_98 : decode cX12_tellGains 98 = .ok (.aload_n 0, 1) := by decide +kernel
theorem dX12_tellGains_99 : decode cX12_tellGains 99 = .ok (.dup, 1) := by decide +kernel
theorem dX12_tellGains_100 : decode cX12_tellGains 100 = .ok (.getfield 316, 3) := by decide +kernel
theorem dX12_tellGains_103 : decode cX12_tellGains 103 = .ok (.iload 6, 2) := by decide +kernel
theorem dX12_tellGains_105 : decode cX12_tellGains 105 = .ok (.ifCond .eq 9, 3) := by decide +kernel
theorem dX12_tellGains_108 : decode cX12_tellGains 108 = .ok (.iconst 1, 1) := by decide +kernel
theorem dX12_tellGains_109 : decode cX12_tellGains 109 = .ok (.iload_n 1, 1) := by decide +kernel
theorem dX12_tellGains_110 : decode cX12_tellGains 110 = .ok (.ishl, 1) := by decide +kernel
theorem dX12_tellGains_111 : decode cX12_tellGains 111 = .ok (.goto 4, 3) := by decide +kernel
theorem dX12_tellGains_114 : decode cX12_tellGains 114 = .ok (.iconst 0, 1) := by decide +kernel
theorem dX12_tellGains_115 : decode cX12_tellGains 115 = .ok (.iload 7, 2) := by decide +kernel
theorem dX12_tellGains_117 : decode cX12_tellGains 117 = .ok (.ifCond .eq 9, 3) := by decide +kernel
theorem dX12_tellGains_120 : decode cX12_tellGains 120 = .ok (.iconst 1, 1) := by decide +kernel
theorem dX12_tellGains_121 : decode cX12_tellGains 121 = .ok (.iload_n 2, 1) := by decide +kernel
theorem dX12_tellGains_122 : decode cX12_tellGains 122 = .ok (.ishl, 1) := by decide +kernel
theorem dX12_tellGains_123 : decode cX12_tellGains 123 = .ok (.goto 4, 3) := by decide +kernel
theorem dX12_tellGains_126 : decode cX12_tellGains 126 = .ok (.iconst 0, 1) := by decide +kernel
theorem dX12_tellGains_127 : decode cX12_tellGains 127 = .ok (.ior, 1) := by decide +kernel
theorem dX12_tellGains_128 : decode cX12_tellGains 128 = .ok (.ior, 1) := by decide +kernel
theorem dX12_tellGains_129 : decode cX12_tellGains 129 = .ok (.putfield 316, 3) := by decide +kernel
theorem dX12_tellGains_132 : decode cX12_tellGains 132 = .ok (.aload_n 0, 1) := by decide +kernel
theorem dX12_tellGains_133 : decode cX12_tellGains 133 = .ok (.bipush 6, 2) := by decide +kernel
theorem dX12_tellGains_135 : decode cX12_tellGains 135 = .ok (.invokevirtual 409, 3) := by decide +kernel
theorem dX12_tellGains_138 : decode cX12_tellGains 138 = .ok (.aload_n 0, 1) := by decide +kernel
theorem dX12_tellGains_139 : decode cX12_tellGains 139 = .ok (.getfield 133, 3) := by decide +kernel
theorem dX12_tellGains_142 : decode cX12_tellGains 142 = .ok (.iconst 2, 1) := by decide +kernel
theorem dX12_tellGains_143 : decode cX12_tellGains 143 = .ok (.iload 5, 2) := by decide +kernel
theorem dX12_tellGains_145 : decode cX12_tellGains 145 = .ok (.imul, 1) := by decide +kernel
theorem dX12_tellGains_146 : decode cX12_tellGains 146 = .ok (.aload_n 0, 1) := by decide +kernel
theorem dX12_tellGains_147 : decode cX12_tellGains 147 = .ok (.getfield 81, 3) := by decide +kernel
theorem dX12_tellGains_150 : decode cX12_tellGains 150 = .ok (.iload_n 1, 1) := by decide +kernel
theorem dX12_tellGains_151 : decode cX12_tellGains 151 = .ok (.iaload, 1) := by decide +kernel
theorem dX12_tellGains_152 : decode cX12_tellGains 152 = .ok (.iconst 4, 1) := by decide +kernel
theorem dX12_tellGains_153 : decode cX12_tellGains 153 = .ok (.idiv, 1) := by decide +kernel
theorem dX12_tellGains_154 : decode cX12_tellGains 154 = .ok (.iconst 2, 1) := by decide +kernel
theorem dX12_tellGains_155 : decode cX12_tellGains 155 = .ok (.iload 5, 2) := by decide +kernel
theorem dX12_tellGains_157 : decode cX12_tellGains 157 = .ok (.iconst 2, 1) := by decide +kernel
theorem dX12_tellGains_158 : decode cX12_tellGains 158 = .ok (.idiv, 1) := by decide +kernel
theorem dX12_tellGains_159 : decode cX12_tellGains 159 = .ok (.imul, 1) := by decide +kernel
theorem dX12_tellGains_160 : decode cX12_tellGains 160 = .ok (.isub, 1) := by decide +kernel
theorem dX12_tellGains_161 : decode cX12_tellGains 161 = .ok (.iastore, 1) := by decide +kernel
theorem dX12_tellGains_162 : decode cX12_tellGains 162 = .ok (.aload_n 0, 1) := by decide +kernel
theorem dX12_tellGains_163 : decode cX12_tellGains 163 = .ok (.getfield 133, 3) := by decide +kernel
theorem dX12_tellGains_166 : decode cX12_tellGains 166 = .ok (.iconst 2, 1) := by decide +kernel
theorem dX12_tellGains_167 : decode cX12_tellGains 167 = .ok (.iload 5, 2) := by decide +kernel
theorem dX12_tellGains_169 : decode cX12_tellGains 169 = .ok (.imul, 1) := by decide +kernel
theorem dX12_tellGains_170 : decode cX12_tellGains 170 = .ok (.iconst 1, 1) := by decide +kernel
theorem dX12_tellGains_171 : decode cX12_tellGains 171 = .ok (.iadd, 1) := by decide +kernel
theorem dX12_tellGains_172 : decode cX12_tellGains 172 = .ok (.aload_n 0, 1) := by decide +kernel
theorem dX12_tellGains_173 : decode cX12_tellGains 173 = .ok (.getfield 81, 3) := by decide +kernel
theorem dX12_tellGains_176 : decode cX12_tellGains 176 = .ok (.iload_n 2, 1) := by decide +kernel
theorem dX12_tellGains_177 : decode cX12_tellGains 177 = .ok (.iaload, 1) := by decide +kernel
theorem dX12_tellGains_178 : decode cX12_tellGains 178 = .ok (.iconst 4, 1) := by decide +kernel
theorem dX12_tellGains_179 : decode cX12_tellGains 179 = .ok (.idiv, 1) := by decide +kernel
theorem dX12_tellGains_180 : decode cX12_tellGains 180 = .ok (.iconst 2, 1) := by decide +kernel
theorem dX12_tellGains_181 : decode cX12_tellGains 181 = .ok (.iload 5, 2) := by decide +kernel
theorem dX12_tellGains_183 : decode cX12_tellGains 183 = .ok (.iconst 2, 1) := by decide +kernel
theorem dX12_tellGains_184 : decode cX12_tellGains 184 = .ok (.irem, 1) := by decide +kernel
theorem dX12_tellGains_185 : decode cX12_tellGains 185 = .ok (.imul, 1) := by decide +kernel
theorem dX12_tellGains_186 : decode cX12_tellGains 186 = .ok (.isub, 1) := by decide +kernel
theorem dX12_tellGains_187 : decode cX12_tellGains 187 = .ok (.iastore, 1) := by decide +kernel
theorem dX12_tellGains_188 : decode cX12_tellGains 188 = .ok (.aload_n 0, 1) := by decide +kernel
theorem dX12_tellGains_189 : decode cX12_tellGains 189 = .ok (.aload_n 0, 1) := by decide +kernel
theorem dX12_tellGains_190 : decode cX12_tellGains 190 = .ok (.getfield 103, 3) := by decide +kernel
theorem dX12_tellGains_193 : decode cX12_tellGains 193 = .ok (.iconst 0, 1) := by decide +kernel
theorem dX12_tellGains_194 : decode cX12_tellGains 194 = .ok (.invokevirtual 423, 3) := by decide +kernel
theorem dX12_tellGains_197 : decode cX12_tellGains 197 = .ok (.iinc 5 1, 3) := by decide +kernel
theorem dX12_tellGains_200 : decode cX12_tellGains 200 = .ok (.goto (-173), 3) := by decide +kernel
theorem dX12_tellGains_203 : decode cX12_tellGains 203 = .ok (.aload_n 0, 1) := by decide +kernel
theorem dX12_tellGains_204 : decode cX12_tellGains 204 = .ok (.getfield 72, 3) := by decide +kernel
theorem dX12_tellGains_207 : decode cX12_tellGains 207 = .ok (.iload_n 1, 1) := by decide +kernel
theorem dX12_tellGains_208 : decode cX12_tellGains 208 = .ok (.iload_n 3, 1) := by decide +kernel
theorem dX12_tellGains_209 : decode cX12_tellGains 209 = .ok (.iastore, 1) := by decide +kernel
theorem dX12_tellGains_210 : decode cX12_tellGains 210 = .ok (.aload_n 0, 1) := by decide +kernel
theorem dX12_tellGains_211 : decode cX12_tellGains 211 = .ok (.getfield 72, 3) := by decide +kernel
theorem dX12_tellGains_214 : decode cX12_tellGains 214 = .ok (.iload_n 2, 1) := by decide +kernel
theorem dX12_tellGains_215 : decode cX12_tellGains 215 = .ok (.iload 4, 2) := by decide +kernel
theorem dX12_tellGains_217 : decode cX12_tellGains 217 = .ok (.iastore, 1) := by decide +kernel
theorem dX12_tellGains_218 : decode cX12_tellGains 218 = .ok (.return_, 1) := by decide +kernel
theorem dX12_game_0 : decode cX12_game 0 = .ok (.aload_n 0, 1) := by decide +kernel
theorem dX12_game_1 : decode cX12_game 1 = .ok (.iconst 0, 1) := by decide +kernel
theorem dX12_game_2 : decode cX12_game 2 = .ok (.putfield 154, 3) := by decide +kernel
theorem dX12_game_5 : decode cX12_game 5 = .ok (.aload_n 0, 1) := by decide +kernel
theorem dX12_game_6 : decode cX12_game 6 = .ok (.iload_n 1, 1) := by decide +kernel
theorem dX12_game_7 : decode cX12_game 7 = .ok (.invokevirtual 394, 3) := by decide +kernel
theorem dX12_game_10 : decode cX12_game 10 = .ok (.ifCond .eq 20, 3) := by decide +kernel
theorem dX12_game_13 : decode cX12_game 13 = .ok (.aload_n 0, 1) := by decide +kernel
theorem dX12_game_14 : decode cX12_game 14 = .ok (.iload_n 2, 1) := by decide +kernel
theorem dX12_game_15 : decode cX12_game 15 = .ok (.invokevirtual 394, 3) := by decide +kernel
theorem dX12_game_18 : decode cX12_game 18 = .ok (.ifCond .eq 12, 3) := by decide +kernel
theorem dX12_game_21 : decode cX12_game 21 = .ok (.iload_n 3, 1) := by decide +kernel
theorem dX12_game_22 : decode cX12_game 22 = .ok (.ifCond .lt 8, 3) := by decide +kernel
theorem dX12_game_25 : decode cX12_game 25 = .ok (.iload_n 3, 1) := by decide +kernel
theorem dX12_game_26 : decode cX12_game 26 = .ok (.iconst 1, 1) := by decide +kernel
theorem dX12_game_27 : decode cX12_game 27 = .ok (.if_icmp .le 9, 3) := by decide +kernel
theorem dX12_game_30 : decode cX12_game 30 = .ok (.aload_n 0, 1) := by decide +kernel
theorem dX12_game_31 : decode cX12_game 31 = .ok (.iconst 1, 1) := by decide +kernel
theorem dX12_game_32 : decode cX12_game 32 = .ok (.invokevirtual 295, 3) := by decide +kernel
theorem dX12_game_35 : decode cX12_game 35 = .ok (.ireturn, 1) := by decide +kernel
theorem dX12_game_36 : decode cX12_game 36 = .ok (.iload_n 1, 1) := by decide +kernel
theorem dX12_game_37 : decode cX12_game 37 = .ok (.iload_n 2, 1) := by decide +kernel
theorem dX12_game_38 : decode cX12_game 38 = .ok (.if_icmp .ne 9, 3) := by decide +kernel
theorem dX12_game_41 : decode cX12_game 41 = .ok (.aload_n 0, 1) := by decide +kernel
theorem dX12_game_42 : decode cX12_game 42 = .ok (.iconst 2, 1) := by decide +kernel
theorem dX12_game_43 : decode cX12_game 43 = .ok (.invokevirtual 295, 3) := by decide +kernel
theorem dX12_game_46 : decode cX12_game 46 = .ok (.ireturn, 1) := by decide +kernel
theorem dX12_game_47 : decode cX12_game 47 = .ok (.aload_n 0, 1) := by decide +kernel
theorem dX12_game_48 : decode cX12_game 48 = .ok (.iload_n 1, 1) := by decide +kernel
theorem dX12_game_49 : decode cX12_game 49 = .ok (.iload_n 2, 1) := by decide +kernel
theorem dX12_game_50 : decode cX12_game 50 = .ok (.invokevirtual 468, 3) := by decide +kernel
theorem dX12_game_53 : decode cX12_game 53 = .ok (.iconst 0, 1) := by decide +kernel
theorem dX12_game_54 : decode cX12_game 54 = .ok (.istore 4, 2) := by decide +kernel
theorem dX12_game_56 : decode cX12_game 56 = .ok (.iconst (-1), 1) := by decide +kernel
theorem dX12_game_57 : decode cX12_game 57 = .ok (.istore 5, 2) := by decide +kernel
theorem dX12_game_59 : decode cX12_game 59 = .ok (.iconst 0, 1) := by decide +kernel
theorem dX12_game_60 : decode cX12_game 60 = .ok (.istore 6, 2) := by decide +kernel
theorem dX12_game_62 : decode cX12_game 62 = .ok (.iload 6, 2) := by decide +kernel
theorem dX12_game_64 : decode cX12_game 64 = .ok (.iconst 4, 1) := by decide +kernel
theorem dX12_game_65 : decode cX12_game 65 = .ok (.if_icmp .ge 90, 3) := by decide +kernel
theorem dX12_game_68 : decode cX12_game 68 = .ok (.aload_n 0, 1) := by decide +kernel
theorem dX12_game_69 : decode cX12_game 69 = .ok (.getfield 133, 3) := by decide +kernel
theorem dX12_game_72 : decode cX12_game 72 = .ok (.iconst 2, 1) := by decide +kernel
theorem dX12_game_73 : decode cX12_game 73 = .ok (.iload 6, 2) := by decide +kernel
theorem dX12_game_75 : decode cX12_game 75 = .ok (.iconst 2, 1) := by decide +kernel
theorem dX12_game_76 : decode cX12_game 76 = .ok (.ixor, 1) := by decide +kernel
theorem dX12_game_77 : decode cX12_game 77 = .ok (.imul, 1) := by decide +kernel
theorem dX12_game_78 : decode cX12_game 78 = .ok (.iaload, 1) := by decide +kernel
theorem dX12_game_79 : decode cX12_game 79 = .ok (.aload_n 0, 1) := by decide +kernel
theorem dX12_game_80 : decode cX12_game 80 = .ok (.getfield 133, 3) := by decide +kernel
theorem dX12_game_83 : decode cX12_game 83 = .ok (.iconst 2, 1) := by decide +kernel
theorem dX12_game_84 : decode cX12_game 84 = .ok (.iload 6, 2) := by decide +kernel
theorem dX12_game_86 : decode cX12_game 86 = .ok (.imul, 1) := by decide +kernel
theorem dX12_game_87 : decode cX12_game 87 = .ok (.iaload, 1) := by decide +kernel
theorem dX12_game_88 : decode cX12_game 88 = .ok (.if_icmp .gt 61, 3) := by decide +kernel
theorem dX12_game_91 : decode cX12_game 91 = .ok (.aload_n 0, 1) := by decide +kernel
theorem dX12_game_92 : decode cX12_game 92 = .ok (.getfield 133, 3) := by decide +kernel
theorem dX12_game_95 : decode cX12_game 95 = .ok (.iconst 2, 1) := by decide +kernel
theorem dX12_game_96 : decode cX12_game 96 = .ok (.iload 6, 2) := by decide +kernel
theorem dX12_game_98 : decode cX12_game 98 = .ok (.iconst 1, 1) := by decide +kernel
theorem dX12_game_99 : decode cX12_game 99 = .ok (.ixor, 1) := by decide +kernel
theorem dX12_game_100 : decode cX12_game 100 = .ok (.imul, 1) := by decide +kernel
theorem dX12_game_101 : decode cX12_game 101 = .ok (.iconst 1, 1) := by decide +kernel
theorem dX12_game_102 : decode cX12_game 102 = .ok (.iadd, 1) := by decide +kernel
theorem dX12_game_103 : decode cX12_game 103 = .ok (.iaload, 1) := by decide +kernel
theorem dX12_game_104 : decode cX12_game 104 = .ok (.aload_n 0, 1) := by decide +kernel
theorem dX12_game_105 : decode cX12_game 105 = .ok (.getfield 133, 3) := by decide +kernel
theorem dX12_game_108 : decode cX12_game 108 = .ok (.iconst 2, 1) := by decide +kernel
theorem dX12_game_109 : decode cX12_game 109 = .ok (.iload 6, 2) := by decide +kernel
theorem dX12_game_111 : decode cX12_game 111 = .ok (.imul, 1) := by decide +kernel
theorem dX12_game_112 : decode cX12_game 112 = .ok (.iconst 1, 1) := by decide +kernel
theorem dX12_game_113 : decode cX12_game 113 = .ok (.iadd, 1) := by decide +kernel
theorem dX12_game_114 : decode cX12_game 114 = .ok (.iaload, 1) := by decide +kernel
theorem dX12_game_115 : decode cX12_game 115 = .ok (.if_icmp .le 6, 3) := by decide +kernel
theorem dX12_game_118 : decode cX12_game 118 = .ok (.goto 31, 3) := by decide +kernel
theorem dX12_game_121 : decode cX12_game 121 = .ok (.iinc 4 1, 3) := by decide +kernel
theorem dX12_game_124 : decode cX12_game 124 = .ok (.iload 5, 2) := by decide +kernel
theorem dX12_game_126 : decode cX12_game 126 = .ok (.iconst (-1), 1) := by decide +kernel
theorem dX12_game_127 : decode cX12_game 127 = .ok (.if_icmp .ne 18, 3) := by decide +kernel
theorem dX12_game_130 : decode cX12_game 130 = .ok (.bipush 10, 2) := by decide +kernel
theorem dX12_game_132 : decode cX12_game 132 = .ok (.iload 6, 2) := by decide +kernel
theorem dX12_game_134 : decode cX12_game 134 = .ok (.iconst 2, 1) := by decide +kernel
theorem dX12_game_135 : decode cX12_game 135 = .ok (.idiv, 1) := by decide +kernel
theorem dX12_game_136 : decode cX12_game 136 = .ok (.imul, 1) := by decide +kernel
theorem dX12_game_137 : decode cX12_game 137 = .ok (.iload 6, 2) := by decide +kernel
theorem dX12_game_139 : decode cX12_game 139 = .ok (.iconst 2, 1) := by decide +kernel
theorem dX12_game_140 : decode cX12_game 140 = .ok (.irem, 1) := by decide +kernel
theorem dX12_game_141 : decode cX12_game 141 = .ok (.iadd, 1) := by decide +kernel
theorem dX12_game_142 : decode cX12_game 142 = .ok (.goto 5, 3) := by decide +kernel
theorem dX12_game_145 : decode cX12_game 145 = .ok (.iload 5, 2) := by decide +kernel
theorem dX12_game_147 : decode cX12_game 147 = .ok (.istore 5, 2) := by decide +kernel
theorem dX12_game_149 : decode cX12_game 149 = .ok (.iinc 6 1, 3) := by decide +kernel
theorem dX12_game_152 : decode cX12_game 152 = .ok (.goto (-90), 3) := by decide +kernel
theorem dX12_game_155 : decode cX12_game 155 = .ok (.iload_n 3, 1) := by decide +kernel
theorem dX12_game_156 : decode cX12_game 156 = .ok (.ifCond .ne 8, 3) := by decide +kernel
theorem dX12_game_159 : decode cX12_game 159 = .ok (.iload 4, 2) := by decide +kernel
theorem dX12_game_161 : decode cX12_game 161 = .ok (.goto 5, 3) := by decide +kernel
theorem dX12_game_164 : decode cX12_game 164 = .ok (.iload 5, 2) := by decide +kernel
theorem dX12_game_166 : decode cX12_game 166 = .ok (.ireturn, 1) := by decide +kernel
theorem dX12_drawOf_0 : decode cX12_drawOf 0 = .ok (.aload_n 0, 1) := by decide +kernel
theorem dX12_drawOf_1 : decode cX12_drawOf 1 = .ok (.aload_n 0, 1) := by decide +kernel
theorem dX12_drawOf_2 : decode cX12_drawOf 2 = .ok (.getfield 472, 3) := by decide +kernel
theorem dX12_drawOf_5 : decode cX12_drawOf 5 = .ok (.ldc_w 475, 3) := by decide +kernel
theorem dX12_drawOf_8 : decode cX12_drawOf 8 = .ok (.imul, 1) := by decide +kernel
theorem dX12_drawOf_9 : decode cX12_drawOf 9 = .ok (.sipush 12345, 3) := by decide +kernel
theorem dX12_drawOf_12 : decode cX12_drawOf 12 = .ok (.iadd, 1) := by decide +kernel
theorem dX12_drawOf_13 : decode cX12_drawOf 13 = .ok (.putfield 472, 3) := by decide +kernel
theorem dX12_drawOf_16 : decode cX12_drawOf 16 = .ok (.aload_n 0, 1) := by decide +kernel
theorem dX12_drawOf_17 : decode cX12_drawOf 17 = .ok (.getfield 472, 3) := by decide +kernel
theorem dX12_drawOf_20 : decode cX12_drawOf 20 = .ok (.bipush 16, 2) := by decide +kernel
theorem dX12_drawOf_22 : decode cX12_drawOf 22 = .ok (.ishr, 1) := by decide +kernel
theorem dX12_drawOf_23 : decode cX12_drawOf 23 = .ok (.sipush 32767, 3) := by decide +kernel
theorem dX12_drawOf_26 : decode cX12_drawOf 26 = .ok (.iand, 1) := by decide +kernel
theorem dX12_drawOf_27 : decode cX12_drawOf 27 = .ok (.iload_n 1, 1) := by decide +kernel
theorem dX12_drawOf_28 : decode cX12_drawOf 28 = .ok (.irem, 1) := by decide +kernel
theorem dX12_drawOf_29 : decode cX12_drawOf 29 = .ok (.ireturn, 1) := by decide +kernel
theorem dX12_something_0 : decode cX12_something 0 = .ok (.aload_n 0, 1) := by decide +kernel
theorem dX12_something_1 : decode cX12_something 1 = .ok (.bipush 6, 2) := by decide +kernel
theorem dX12_something_3 : decode cX12_something 3 = .ok (.invokevirtual 476, 3) := by decide +kernel
theorem dX12_something_6 : decode cX12_something 6 = .ok (.istore_n 1, 1) := by decide +kernel
theorem dX12_something_7 : decode cX12_something 7 = .ok (.iload_n 1, 1) := by decide +kernel
theorem dX12_something_8 : decode cX12_something 8 = .ok (.iconst 3, 1) := by decide +kernel
theorem dX12_something_9 : decode cX12_something 9 = .ok (.if_icmp .ne 13, 3) := by decide +kernel
theorem dX12_something_12 : decode cX12_something 12 = .ok (.aload_n 0, 1) := by decide +kernel
theorem dX12_something_13 : decode cX12_something 13 = .ok (.aload_n 0, 1) := by decide +kernel
theorem dX12_something_14 : decode cX12_something 14 = .ok (.bipush 60, 2) := by decide +kernel
theorem dX12_something_16 : decode cX12_something 16 = .ok (.invokevirtual 476, 3) := by decide +kernel
theorem dX12_something_19 : decode cX12_something 19 = .ok (.putfield 311, 3) := by decide +kernel
theorem dX12_something_22 : decode cX12_something 22 = .ok (.iload_n 1, 1) := by decide +kernel
theorem dX12_something_23 : decode cX12_something 23 = .ok (.iconst 2, 1) := by decide +kernel
theorem dX12_something_24 : decode cX12_something 24 = .ok (.if_icmp .gt 12, 3) := by decide +kernel
theorem dX12_something_27 : decode cX12_something 27 = .ok (.aload_n 0, 1) := by decide +kernel
theorem dX12_something_28 : decode cX12_something 28 = .ok (.getfield 42, 3) := by decide +kernel
theorem dX12_something_31 : decode cX12_something 31 = .ok (.iconst 1, 1) := by decide +kernel
theorem dX12_something_32 : decode cX12_something 32 = .ok (.iaload, 1) := by decide +kernel
theorem dX12_something_33 : decode cX12_something 33 = .ok (.ifCond .ne 4, 3) := by decide +kernel
theorem dX12_something_36 : decode cX12_something 36 = .ok (.return_, 1) := by decide +kernel
theorem dX12_something_37 : decode cX12_something 37 = .ok (.aload_n 0, 1) := by decide +kernel
theorem dX12_something_38 : decode cX12_something 38 = .ok (.aload_n 0, 1) := by decide +kernel
theorem dX12_something_39 : decode cX12_something 39 = .ok (.getfield 42, 3) := by decide +kernel
theorem dX12_something_42 : decode cX12_something 42 = .ok (.iconst 1, 1) := by decide +kernel
theorem dX12_something_43 : decode cX12_something 43 = .ok (.iaload, 1) := by decide +kernel
theorem dX12_something_44 : decode cX12_something 44 = .ok (.invokevirtual 476, 3) := by decide +kernel
theorem dX12_something_47 : decode cX12_something 47 = .ok (.istore_n 2, 1) := by decide +kernel
theorem dX12_something_48 : decode cX12_something 48 = .ok (.iload_n 1, 1) := by decide +kernel
theorem dX12_something_49 : decode cX12_something 49 = .ok (.ifCond .ne 15, 3) := by decide +kernel
theorem dX12_something_52 : decode cX12_something 52 = .ok (.aload_n 0, 1) := by decide +kernel
theorem dX12_something_53 : decode cX12_something 53 = .ok (.getfield 85, 3) := by decide +kernel
theorem dX12_something_56 : decode cX12_something 56 = .ok (.iload_n 2, 1) := by decide +kernel
theorem dX12_something_57 : decode cX12_something 57 = .ok (.aload_n 0, 1) := by decide +kernel
theorem dX12_something_58 : decode cX12_something 58 = .ok (.bipush 60, 2) := by decide +kernel
theorem dX12_something_60 : decode cX12_something 60 = .ok (.invokevirtual 476, 3) := by decide +kernel
theorem dX12_something_63 : decode cX12_something 63 = .ok (.iastore, 1) := by decide +kernel
theorem dX12_something_64 : decode cX12_something 64 = .ok (.iload_n 1, 1) := by decide +kernel
theorem dX12_something_65 : decode cX12_something 65 = .ok (.iconst 1, 1) := by decide +kernel
theorem dX12_something_66 : decode cX12_something 66 = .ok (.if_icmp .ne 15, 3) := by decide +kernel
theorem dX12_something_69 : decode cX12_something 69 = .ok (.aload_n 0, 1) := by decide +kernel
theorem dX12_something_70 : decode cX12_something 70 = .ok (.dup, 1) := by decide +kernel
theorem dX12_something_71 : decode cX12_something 71 = .ok (.getfield 316, 3) := by decide +kernel
theorem dX12_something_74 : decode cX12_something 74 = .ok (.iconst 1, 1) := by decide +kernel
theorem dX12_something_75 : decode cX12_something 75 = .ok (.iload_n 2, 1) := by decide +kernel
theorem dX12_something_76 : decode cX12_something 76 = .ok (.ishl, 1) := by decide +kernel
theorem dX12_something_77 : decode cX12_something 77 = .ok (.ixor, 1) := by decide +kernel
theorem dX12_something_78 : decode cX12_something 78 = .ok (.putfield 316, 3) := by decide +kernel
theorem dX12_something_81 : decode cX12_something 81 = .ok (.iload_n 1, 1) := by decide +kernel
theorem dX12_something_82 : decode cX12_something 82 = .ok (.iconst 2, 1) := by decide +kernel
theorem dX12_something_83 : decode cX12_something 83 = .ok (.if_icmp .ne 24, 3) := by decide +kernel
theorem dX12_something_86 : decode cX12_something 86 = .ok (.aload_n 0, 1) := by decide +kernel
theorem dX12_something_87 : decode cX12_something 87 = .ok (.getfield 81, 3) := by decide +kernel
theorem dX12_something_90 : decode cX12_something 90 = .ok (.iload_n 2, 1) := by decide +kernel
theorem dX12_something_91 : decode cX12_something 91 = .ok (.sipush 999, 3) := by decide +kernel
theorem dX12_something_94 : decode cX12_something 94 = .ok (.aload_n 0, 1) := by decide +kernel
theorem dX12_something_95 : decode cX12_something 95 = .ok (.getfield 81, 3) := by decide +kernel
theorem dX12_something_98 : decode cX12_something 98 = .ok (.iload_n 2, 1) := by decide +kernel
theorem dX12_something_99 : decode cX12_something 99 = .ok (.iaload, 1) := by decide +kernel
theorem dX12_something_100 : decode cX12_something 100 = .ok (.bipush 20, 2) := by decide +kernel
theorem dX12_something_102 : decode cX12_something 102 = .ok (.iadd, 1) := by decide +kernel
theorem dX12_something_103 : decode cX12_something 103 = .ok (.invokestatic 191, 3) := by decide +kernel
theorem dX12_something_106 : decode cX12_something 106 = .ok (.iastore, 1) := by decide +kernel
theorem dX12_something_107 : decode cX12_something 107 = .ok (.return_, 1) := by decide +kernel
theorem dX12_years_0 : decode cX12_years 0 = .ok (.aload_n 0, 1) := by decide +kernel
theorem dX12_years_1 : decode cX12_years 1 = .ok (.iconst 0, 1) := by decide +kernel
theorem dX12_years_2 : decode cX12_years 2 = .ok (.putfield 154, 3) := by decide +kernel
theorem dX12_years_5 : decode cX12_years 5 = .ok (.iload_n 3, 1) := by decide +kernel
theorem dX12_years_6 : decode cX12_years 6 = .ok (.i2l, 1) := by decide +kernel
theorem dX12_years_7 : decode cX12_years 7 = .ok (.lconst 0, 1) := by decide +kernel
theorem dX12_years_8 : decode cX12_years 8 = .ok (.ldc2_w 456, 3) := by decide +kernel
theorem dX12_years_11 : decode cX12_years 11 = .ok (.invokestatic 157, 3) := by decide +kernel
theorem dX12_years_14 : decode cX12_years 14 = .ok (.ifCond .ne 9, 3) := by decide +kernel
theorem dX12_years_17 : decode cX12_years 17 = .ok (.aload_n 0, 1) := by decide +kernel
theorem dX12_years_18 : decode cX12_years 18 = .ok (.iconst 1, 1) := by decide +kernel
theorem dX12_years_19 : decode cX12_years 19 = .ok (.invokevirtual 295, 3) := by decide +kernel
theorem dX12_years_22 : decode cX12_years 22 = .ok (.ireturn, 1) := by decide +kernel
theorem dX12_years_23 : decode cX12_years 23 = .ok (.iload_n 2, 1) := by decide +kernel
theorem dX12_years_24 : decode cX12_years 24 = .ok (.i2l, 1) := by decide +kernel
theorem dX12_years_25 : decode cX12_years 25 = .ok (.lconst 0, 1) := by decide +kernel
theorem dX12_years_26 : decode cX12_years 26 = .ok (.ldc2_w 426, 3) := by decide +kernel
theorem dX12_years_29 : decode cX12_years 29 = .ok (.invokestatic 157, 3) := by decide +kernel
theorem dX12_years_32 : decode cX12_years 32 = .ok (.ifCond .ne 9, 3) := by decide +kernel
theorem dX12_years_35 : decode cX12_years 35 = .ok (.aload_n 0, 1) := by decide +kernel
theorem dX12_years_36 : decode cX12_years 36 = .ok (.iconst 2, 1) := by decide +kernel
theorem dX12_years_37 : decode cX12_years 37 = .ok (.invokevirtual 295, 3) := by decide +kernel
theorem dX12_years_40 : decode cX12_years 40 = .ok (.ireturn, 1) := by decide +kernel
theorem dX12_years_41 : decode cX12_years 41 = .ok (.aload_n 0, 1) := by decide +kernel
theorem dX12_years_42 : decode cX12_years 42 = .ok (.aload_n 0, 1) := by decide +kernel
theorem dX12_years_43 : decode cX12_years 43 = .ok (.getfield 103, 3) := by decide +kernel
theorem dX12_years_46 : decode cX12_years 46 = .ok (.iconst 0, 1) := by decide +kernel
theorem dX12_years_47 : decode cX12_years 47 = .ok (.invokevirtual 397, 3) := by decide +kernel
theorem dX12_years_50 : decode cX12_years 50 = .ok (.aload_n 0, 1) := by decide +kernel
theorem dX12_years_51 : decode cX12_years 51 = .ok (.iload_n 1, 1) := by decide +kernel
theorem dX12_years_52 : decode cX12_years 52 = .ok (.putfield 472, 3) := by decide +kernel
theorem dX12_years_55 : decode cX12_years 55 = .ok (.iconst 0, 1) := by decide +kernel
theorem dX12_years_56 : decode cX12_years 56 = .ok (.istore 4, 2) := by decide +kernel
theorem dX12_years_58 : decode cX12_years 58 = .ok (.iconst 0, 1) := by decide +kernel
theorem dX12_years_59 : decode cX12_years 59 = .ok (.istore 5, 2) := by decide +kernel
theorem dX12_years_61 : decode cX12_years 61 = .ok (.iload 5, 2) := by decide +kernel
theorem dX12_years_63 : decode cX12_years 63 = .ok (.iload_n 2, 1) := by decide +kernel
theorem dX12_years_64 : decode cX12_years 64 = .ok (.if_icmp .ge 26, 3) := by decide +kernel
theorem dX12_years_67 : decode cX12_years 67 = .ok (.aload_n 0, 1) := by decide +kernel
theorem dX12_years_68 : decode cX12_years 68 = .ok (.invokevirtual 479, 3) := by decide +kernel
theorem dX12_years_71 : decode cX12_years 71 = .ok (.aload_n 0, 1) := by decide +kernel
theorem dX12_years_72 : decode cX12_years 72 = .ok (.invokevirtual 385, 3) := by decide +kernel
theorem dX12_years_75 : decode cX12_years 75 = .ok (.iload 4, 2) := by decide +kernel
theorem dX12_years_77 : decode cX12_years 77 = .ok (.aload_n 0, 1) := by decide +kernel
theorem dX12_years_78 : decode cX12_years 78 = .ok (.getfield 379, 3) := by decide +kernel
theorem dX12_years_81 : decode cX12_years 81 = .ok (.iadd, 1) := by decide +kernel
theorem dX12_years_82 : decode cX12_years 82 = .ok (.istore 4, 2) := by decide +kernel
theorem dX12_years_84 : decode cX12_years 84 = .ok (.iinc 5 1, 3) := by decide +kernel
theorem dX12_years_87 : decode cX12_years 87 = .ok (.goto (-26), 3) := by decide +kernel
theorem dX12_years_90 : decode cX12_years 90 = .ok (.iload_n 3, 1) := by decide +kernel
theorem dX12_years_91 : decode cX12_years 91 = .ok (.ifCond .ne 8, 3) := by decide +kernel
theorem dX12_years_94 : decode cX12_years 94 = .ok (.iload 4, 2) := by decide +kernel
theorem dX12_years_96 : decode cX12_years 96 = .ok (.goto 19, 3) := by decide +kernel
theorem dX12_years_99 : decode cX12_years 99 = .ok (.iload_n 3, 1) := by decide +kernel
theorem dX12_years_100 : decode cX12_years 100 = .ok (.iconst 1, 1) := by decide +kernel
theorem dX12_years_101 : decode cX12_years 101 = .ok (.if_icmp .ne 10, 3) := by decide +kernel
theorem dX12_years_104 : decode cX12_years 104 = .ok (.aload_n 0, 1) := by decide +kernel
theorem dX12_years_105 : decode cX12_years 105 = .ok (.invokevirtual 388, 3) := by decide +kernel
theorem dX12_years_108 : decode cX12_years 108 = .ok (.goto 7, 3) := by decide +kernel
theorem dX12_years_111 : decode cX12_years 111 = .ok (.aload_n 0, 1) := by decide +kernel
theorem dX12_years_112 : decode cX12_years 112 = .ok (.invokevirtual 347, 3) := by decide +kernel
theorem dX12_years_115 : decode cX12_years 115 = .ok (.istore 5, 2) := by decide +kernel
theorem dX12_years_117 : decode cX12_years 117 = .ok (.aload_n 0, 1) := by decide +kernel
theorem dX12_years_118 : decode cX12_years 118 = .ok (.aload_n 0, 1) := by decide +kernel
theorem dX12_years_119 : decode cX12_years 119 = .ok (.getfield 103, 3) := by decide +kernel
theorem dX12_years_122 : decode cX12_years 122 = .ok (.iconst 0, 1) := by decide +kernel
theorem dX12_years_123 : decode cX12_years 123 = .ok (.invokevirtual 423, 3) := by decide +kernel
theorem dX12_years_126 : decode cX12_years 126 = .ok (.iload 5, 2) := by decide +kernel
theorem dX12_years_128 : decode cX12_years 128 = .ok (.ireturn, 1) := by decide +kernel
theorem dX12_copyTo_0 : decode cX12_copyTo 0 = .ok (.iconst 0, 1) := by decide +kernel
theorem dX12_copyTo_1 : decode cX12_copyTo 1 = .ok (.istore_n 2, 1) := by decide +kernel
theorem dX12_copyTo_2 : decode cX12_copyTo 2 = .ok (.iload_n 2, 1) := by decide +kernel
theorem dX12_copyTo_3 : decode cX12_copyTo 3 = .ok (.aload_n 0, 1) := by decide +kernel
theorem dX12_copyTo_4 : decode cX12_copyTo 4 = .ok (.arraylength, 1) := by decide +kernel
theorem dX12_copyTo_5 : decode cX12_copyTo 5 = .ok (.if_icmp .ge 15, 3) := by decide +kernel
theorem dX12_copyTo_8 : decode cX12_copyTo 8 = .ok (.aload_n 0, 1) := by decide +kernel
theorem dX12_copyTo_9 : decode cX12_copyTo 9 = .ok (.iload_n 2, 1) := by decide +kernel
theorem dX12_copyTo_10 : decode cX12_copyTo 10 = .ok (.aload_n 1, 1) := by decide +kernel
theorem dX12_copyTo_11 : decode cX12_copyTo 11 = .ok (.iload_n 2, 1) := by decide +kernel
theorem dX12_copyTo_12 : decode cX12_copyTo 12 = .ok (.iaload, 1) := by decide +kernel
theorem dX12_copyTo_13 : decode cX12_copyTo 13 = .ok (.iastore, 1) := by decide +kernel
theorem dX12_copyTo_14 : decode cX12_copyTo 14 = .ok (.iinc 2 1, 3) := by decide +kernel
theorem dX12_copyTo_17 : decode cX12_copyTo 17 = .ok (.goto (-15), 3) := by decide +kernel
theorem dX12_copyTo_20 : decode cX12_copyTo 20 = .ok (.return_, 1) := by decide +kernel
theorem dX12_image_0 : decode cX12_image 0 = .ok (.aload_n 0, 1) := by decide +kernel
theorem dX12_image_1 : decode cX12_image 1 = .ok (.iconst 0, 1) := by decide +kernel
theorem dX12_image_2 : decode cX12_image 2 = .ok (.putfield 154, 3) := by decide +kernel
theorem dX12_image_5 : decode cX12_image 5 = .ok (.aload_n 0, 1) := by decide +kernel
theorem dX12_image_6 : decode cX12_image 6 = .ok (.iconst 1, 1) := by decide +kernel
theorem dX12_image_7 : decode cX12_image 7 = .ok (.putfield 325, 3) := by decide +kernel
theorem dX12_image_10 : decode cX12_image 10 = .ok (.aload_n 0, 1) := by decide +kernel
theorem dX12_image_11 : decode cX12_image 11 = .ok (.aload_n 0, 1) := by decide +kernel
theorem dX12_image_12 : decode cX12_image 12 = .ok (.getfield 319, 3) := by decide +kernel
theorem dX12_image_15 : decode cX12_image 15 = .ok (.putfield 482, 3) := by decide +kernel
theorem dX12_image_18 : decode cX12_image 18 = .ok (.aload_n 0, 1) := by decide +kernel
theorem dX12_image_19 : decode cX12_image 19 = .ok (.aload_n 0, 1) := by decide +kernel
theorem dX12_image_20 : decode cX12_image 20 = .ok (.getfield 322, 3) := by decide +kernel
theorem dX12_image_23 : decode cX12_image 23 = .ok (.putfield 485, 3) := by decide +kernel
theorem dX12_image_26 : decode cX12_image 26 = .ok (.aload_n 0, 1) := by decide +kernel
theorem dX12_image_27 : decode cX12_image 27 = .ok (.aload_n 0, 1) := by decide +kernel
theorem dX12_image_28 : decode cX12_image 28 = .ok (.getfield 136, 3) := by decide +kernel
theorem dX12_image_31 : decode cX12_image 31 = .ok (.iconst 0, 1) := by decide +kernel
theorem dX12_image_32 : decode cX12_image 32 = .ok (.invokevirtual 397, 3) := by decide +kernel
theorem dX12_image_35 : decode cX12_image 35 = .ok (.aload_n 0, 1) := by decide +kernel
theorem dX12_image_36 : decode cX12_image 36 = .ok (.getfield 139, 3) := by decide +kernel
theorem dX12_image_39 : decode cX12_image 39 = .ok (.aload_n 0, 1) := by decide +kernel
theorem dX12_image_40 : decode cX12_image 40 = .ok (.getfield 88, 3) := by decide +kernel
theorem dX12_image_43 : decode cX12_image 43 = .ok (.invokestatic 488, 3) := by decide +kernel
theorem dX12_image_46 : decode cX12_image 46 = .ok (.aload_n 0, 1) := by decide +kernel
theorem dX12_image_47 : decode cX12_image 47 = .ok (.getfield 142, 3) := by decide +kernel
theorem dX12_image_50 : decode cX12_image 50 = .ok (.aload_n 0, 1) := by decide +kernel
theorem dX12_image_51 : decode cX12_image 51 = .ok (.getfield 115, 3) := by decide +kernel
theorem dX12_image_54 : decode cX12_image 54 = .ok (.invokestatic 488, 3) := by decide +kernel
theorem dX12_image_57 : decode cX12_image 57 = .ok (.aload_n 0, 1) := by decide +kernel
theorem dX12_image_58 : decode cX12_image 58 = .ok (.getfield 145, 3) := by decide +kernel
theorem dX12_image_61 : decode cX12_image 61 = .ok (.aload_n 0, 1) := by decide +kernel
theorem dX12_image_62 : decode cX12_image 62 = .ok (.getfield 118, 3) := by decide +kernel
theorem dX12_image_65 : decode cX12_image 65 = .ok (.invokestatic 488, 3) := by decide +kernel
theorem dX12_image_68 : decode cX12_image 68 = .ok (.aload_n 0, 1) := by decide +kernel
theorem dX12_image_69 : decode cX12_image 69 = .ok (.getfield 148, 3) := by decide +kernel
theorem dX12_image_72 : decode cX12_image 72 = .ok (.aload_n 0, 1) := by decide +kernel
theorem dX12_image_73 : decode cX12_image 73 = .ok (.getfield 121, 3) := by decide +kernel
theorem dX12_image_76 : decode cX12_image 76 = .ok (.invokestatic 488, 3) := by decide +kernel
theorem dX12_image_79 : decode cX12_image 79 = .ok (.aload_n 0, 1) := by decide +kernel
theorem dX12_image_80 : decode cX12_image 80 = .ok (.getfield 151, 3) := by decide +kernel
theorem dX12_image_83 : decode cX12_image 83 = .ok (.aload_n 0, 1) := by decide +kernel
theorem dX12_image_84 : decode cX12_image 84 = .ok (.getfield 69, 3) := by decide +kernel
theorem dX12_image_87 : decode cX12_image 87 = .ok (.invokestatic 488, 3) := by decide +kernel
theorem dX12_image_90 : decode cX12_image 90 = .ok (.return_, 1) := by decide +kernel
theorem dX12_restore_0 : decode cX12_restore 0 = .ok (.aload_n 0, 1) := by decide +kernel
theorem dX12_restore_1 : decode cX12_restore 1 = .ok (.iconst 0, 1) := by decide +kernel
theorem dX12_restore_2 : decode cX12_restore 2 = .ok (.putfield 154, 3) := by decide +kernel
theorem dX12_restore_5 : decode cX12_restore 5 = .ok (.aload_n 0, 1) := by decide +kernel
theorem dX12_restore_6 : decode cX12_restore 6 = .ok (.getfield 325, 3) := by decide +kernel
theorem dX12_restore_9 : decode cX12_restore 9 = .ok (.ifCond .ne 5, 3) := by decide +kernel
theorem dX12_restore_12 : decode cX12_restore 12 = .ok (.iconst 0, 1) := by decide +kernel
theorem dX12_restore_13 : decode cX12_restore 13 = .ok (.ireturn, 1) := by decide +kernel
theorem dX12_restore_14 : decode cX12_restore 14 = .ok (.aload_n 0, 1) := by decide +kernel
theorem dX12_restore_15 : decode cX12_restore 15 = .ok (.aload_n 0, 1) := by decide +kernel
theorem dX12_restore_16 : decode cX12_restore 16 = .ok (.getfield 482, 3) := by decide +kernel
theorem dX12_restore_19 : decode cX12_restore 19 = .ok (.putfield 319, 3) := by decide +kernel
theorem dX12_restore_22 : decode cX12_restore 22 = .ok (.aload_n 0, 1) := by decide +kernel
theorem dX12_restore_23 : decode cX12_restore 23 = .ok (.aload_n 0, 1) := by decide +kernel
theorem dX12_restore_24 : decode cX12_restore 24 = .ok (.getfield 485, 3) := by decide +kernel
theorem dX12_restore_27 : decode cX12_restore 27 = .ok (.putfield 322, 3) := by decide +kernel
theorem dX12_restore_30 : decode cX12_restore 30 = .ok (.aload_n 0, 1) := by decide +kernel
theorem dX12_restore_31 : decode cX12_restore 31 = .ok (.aload_n 0, 1) := by decide +kernel
theorem dX12_restore_32 : decode cX12_restore 32 = .ok (.getfield 136, 3) := by decide +kernel
theorem dX12_restore_35 : decode cX12_restore 35 = .ok (.iconst 0, 1) := by decide +kernel
theorem dX12_restore_36 : decode cX12_restore 36 = .ok (.invokevirtual 423, 3) := by decide +kernel
theorem dX12_restore_39 : decode cX12_restore 39 = .ok (.aload_n 0, 1) := by decide +kernel
theorem dX12_restore_40 : decode cX12_restore 40 = .ok (.getfield 88, 3) := by decide +kernel
theorem dX12_restore_43 : decode cX12_restore 43 = .ok (.aload_n 0, 1) := by decide +kernel
theorem dX12_restore_44 : decode cX12_restore 44 = .ok (.getfield 139, 3) := by decide +kernel
theorem dX12_restore_47 : decode cX12_restore 47 = .ok (.invokestatic 488, 3) := by decide +kernel
theorem dX12_restore_50 : decode cX12_restore 50 = .ok (.aload_n 0, 1) := by decide +kernel
theorem dX12_restore_51 : decode cX12_restore 51 = .ok (.getfield 115, 3) := by decide +kernel
theorem dX12_restore_54 : decode cX12_restore 54 = .ok (.aload_n 0, 1) := by decide +kernel
theorem dX12_restore_55 : decode cX12_restore 55 = .ok (.getfield 142, 3) := by decide +kernel
theorem dX12_restore_58 : decode cX12_restore 58 = .ok (.invokestatic 488, 3) := by decide +kernel
theorem dX12_restore_61 : decode cX12_restore 61 = .ok (.aload_n 0, 1) := by decide +kernel
theorem dX12_restore_62 : decode cX12_restore 62 = .ok (.getfield 118, 3) := by decide +kernel
theorem dX12_restore_65 : decode cX12_restore 65 = .ok (.aload_n 0, 1) := by decide +kernel
theorem dX12_restore_66 : decode cX12_restore 66 = .ok (.getfield 145, 3) := by decide +kernel
theorem dX12_restore_69 : decode cX12_restore 69 = .ok (.invokestatic 488, 3) := by decide +kernel
theorem dX12_restore_72 : decode cX12_restore 72 = .ok (.aload_n 0, 1) := by decide +kernel
theorem dX12_restore_73 : decode cX12_restore 73 = .ok (.getfield 121, 3) := by decide +kernel
theorem dX12_restore_76 : decode cX12_restore 76 = .ok (.aload_n 0, 1) := by decide +kernel
theorem dX12_restore_77 : decode cX12_restore 77 = .ok (.getfield 148, 3) := by decide +kernel
theorem dX12_restore_80 : decode cX12_restore 80 = .ok (.invokestatic 488, 3) := by decide +kernel
theorem dX12_restore_83 : decode cX12_restore 83 = .ok (.aload_n 0, 1) := by decide +kernel
theorem dX12_restore_84 : decode cX12_restore 84 = .ok (.getfield 69, 3) := by decide +kernel
theorem dX12_restore_87 : decode cX12_restore 87 = .ok (.aload_n 0, 1) := by decide +kernel
theorem dX12_restore_88 : decode cX12_restore 88 = .ok (.getfield 151, 3) := by decide +kernel
theorem dX12_restore_91 : decode cX12_restore 91 = .ok (.invokestatic 488, 3) := by decide +kernel
theorem dX12_restore_94 : decode cX12_restore 94 = .ok (.iconst 1, 1) := by decide +kernel
theorem dX12_restore_95 : decode cX12_restore 95 = .ok (.ireturn, 1) := by decide +kernel
