theorem dX12_init_0 : decode cX12_init 0 = .ok (.aload_n 0, 1) := by decide +kernel
theorem dX12_init_1 : decode cX12_init 1 = .ok (.invokespecial 1, 3) := by decide +kernel
theorem dX12_init_4 : decode cX12_init 4 = .ok (.aload_n 0, 1) := by decide +kernel
theorem dX12_init_5 : decode cX12_init 5 = .ok (.sipush 260, 3) := by decide +kernel
theorem dX12_init_8 : decode cX12_init 8 = .ok (.newarray .byte, 2) := by decide +kernel
theorem dX12_init_10 : decode cX12_init 10 = .ok (.putfield 7, 3) := by decide +kernel
theorem dX12_init_13 : decode cX12_init 13 = .ok (.aload_n 0, 1) := by decide +kernel
theorem dX12_init_14 : decode cX12_init 14 = .ok (.iconst 1, 1) := by decide +kernel
theorem dX12_init_15 : decode cX12_init 15 = .ok (.putfield 13, 3) := by decide +kernel
theorem dX12_init_18 : decode cX12_init 18 = .ok (.aload_n 0, 1) := by decide +kernel
theorem dX12_init_19 : decode cX12_init 19 = .ok (.bipush 6, 2) := by decide +kernel
theorem dX12_init_21 : decode cX12_init 21 = .ok (.newarray .boolean, 2) := by decide +kernel
theorem dX12_init_23 : decode cX12_init 23 = .ok (.putfield 17, 3) := by decide +kernel
theorem dX12_init_26 : decode cX12_init 26 = .ok (.aload_n 0, 1) := by decide +kernel
theorem dX12_init_27 : decode cX12_init 27 = .ok (.bipush 6, 2) := by decide +kernel
theorem dX12_init_29 : decode cX12_init 29 = .ok (.newarray .int, 2) := by decide +kernel
theorem dX12_init_31 : decode cX12_init 31 = .ok (.putfield 21, 3) := by decide +kernel
theorem dX12_init_34 : decode cX12_init 34 = .ok (.aload_n 0, 1) := by decide +kernel
theorem dX12_init_35 : decode cX12_init 35 = .ok (.sipush 432, 3) := by decide +kernel
theorem dX12_init_38 : decode cX12_init 38 = .ok (.newarray .int, 2) := by decide +kernel
theorem dX12_init_40 : decode cX12_init 40 = .ok (.putfield 25, 3) := by decide +kernel
theorem dX12_init_43 : decode cX12_init 43 = .ok (.aload_n 0, 1) := by decide +kernel
theorem dX12_init_44 : decode cX12_init 44 = .ok (.bipush 72, 2) := by decide +kernel
theorem dX12_init_46 : decode cX12_init 46 = .ok (.newarray .int, 2) := by decide +kernel
theorem dX12_init_48 : decode cX12_init 48 = .ok (.putfield 28, 3) := by decide +kernel
theorem dX12_init_51 : decode cX12_init 51 = .ok (.aload_n 0, 1) := by decide +kernel
theorem dX12_init_52 : decode cX12_init 52 = .ok (.iconst 2, 1) := by decide +kernel
theorem dX12_init_53 : decode cX12_init 53 = .ok (.newarray .int, 2) := by decide +kernel
theorem dX12_init_55 : decode cX12_init 55 = .ok (.putfield 31, 3) := by decide +kernel
theorem dX12_init_58 : decode cX12_init 58 = .ok (.aload_n 0, 1) := by decide +kernel
theorem dX12_init_59 : decode cX12_init 59 = .ok (.iconst 2, 1) := by decide +kernel
theorem dX12_init_60 : decode cX12_init 60 = .ok (.newarray .int, 2) := by decide +kernel
theorem dX12_init_62 : decode cX12_init 62 = .ok (.putfield 34, 3) := by decide +kernel
theorem dX12_init_65 : decode cX12_init 65 = .ok (.aload_n 0, 1) := by decide +kernel
theorem dX12_init_66 : decode cX12_init 66 = .ok (.iconst 2, 1) := by decide +kernel
theorem dX12_init_67 : decode cX12_init 67 = .ok (.newarray .int, 2) := by decide +kernel
theorem dX12_init_69 : decode cX12_init 69 = .ok (.putfield 37, 3) := by decide +kernel
theorem dX12_init_72 : decode cX12_init 72 = .ok (.aload_n 0, 1) := by decide +kernel
theorem dX12_init_73 : decode cX12_init 73 = .ok (.bipush 32, 2) := by decide +kernel
theorem dX12_init_75 : decode cX12_init 75 = .ok (.newarray .int, 2) := by decide +kernel
theorem dX12_init_77 : decode cX12_init 77 = .ok (.putfield 40, 3) := by decide +kernel
theorem dX12_init_80 : decode cX12_init 80 = .ok (.aload_n 0, 1) := by decide +kernel
theorem dX12_init_81 : decode cX12_init 81 = .ok (.bipush 32, 2) := by decide +kernel
theorem dX12_init_83 : decode cX12_init 83 = .ok (.newarray .int, 2) := by decide +kernel
theorem dX12_init_85 : decode cX12_init 85 = .ok (.putfield 43, 3) := by decide +kernel
theorem dX12_init_88 : decode cX12_init 88 = .ok (.aload_n 0, 1) := by decide +kernel
theorem dX12_init_89 : decode cX12_init 89 = .ok (.bipush 32, 2) := by decide +kernel
theorem dX12_init_91 : decode cX12_init 91 = .ok (.newarray .int, 2) := by decide +kernel
theorem dX12_init_93 : decode cX12_init 93 = .ok (.putfield 46, 3) := by decide +kernel
theorem dX12_init_96 : decode cX12_init 96 = .ok (.aload_n 0, 1) := by decide +kernel
theorem dX12_init_97 : decode cX12_init 97 = .ok (.bipush 32, 2) := by decide +kernel
theorem dX12_init_99 : decode cX12_init 99 = .ok (.newarray .int, 2) := by decide +kernel
theorem dX12_init_101 : decode cX12_init 101 = .ok (.putfield 49, 3) := by decide +kernel
theorem dX12_init_104 : decode cX12_init 104 = .ok (.aload_n 0, 1) := by decide +kernel
theorem dX12_init_105 : decode cX12_init 105 = .ok (.sipush 480, 3) := by decide +kernel
theorem dX12_init_108 : decode cX12_init 108 = .ok (.newarray .int, 2) := by decide +kernel
theorem dX12_init_110 : decode cX12_init 110 = .ok (.putfield 52, 3) := by decide +kernel
theorem dX12_init_113 : decode cX12_init 113 = .ok (.aload_n 0, 1) := by decide +kernel
theorem dX12_init_114 : decode cX12_init 114 = .ok (.sipush 480, 3) := by decide +kernel
theorem dX12_init_117 : decode cX12_init 117 = .ok (.newarray .int, 2) := by decide +kernel
theorem dX12_init_119 : decode cX12_init 119 = .ok (.putfield 55, 3) := by decide +kernel
theorem dX12_init_122 : decode cX12_init 122 = .ok (.aload_n 0, 1) := by decide +kernel
theorem dX12_init_123 : decode cX12_init 123 = .ok (.iconst 2, 1) := by decide +kernel
theorem dX12_init_124 : decode cX12_init 124 = .ok (.newarray .int, 2) := by decide +kernel
theorem dX12_init_126 : decode cX12_init 126 = .ok (.putfield 58, 3) := by decide +kernel
theorem dX12_init_129 : decode cX12_init 129 = .ok (.aload_n 0, 1) := by decide +kernel
theorem dX12_init_130 : decode cX12_init 130 = .ok (.bipush 16, 2) := by decide +kernel
theorem dX12_init_132 : decode cX12_init 132 = .ok (.newarray .int, 2) := by decide +kernel
theorem dX12_init_134 : decode cX12_init 134 = .ok (.putfield 61, 3) := by decide +kernel
theorem dX12_init_137 : decode cX12_init 137 = .ok (.aload_n 0, 1) := by decide +kernel
theorem dX12_init_138 : decode cX12_init 138 = .ok (.bipush 16, 2) := by decide +kernel
theorem dX12_init_140 : decode cX12_init 140 = .ok (.newarray .int, 2) := by decide +kernel
theorem dX12_init_142 : decode cX12_init 142 = .ok (.putfield 64, 3) := by decide +kernel
theorem dX12_init_145 : decode cX12_init 145 = .ok (.aload_n 0, 1) := by decide +kernel
theorem dX12_init_146 : decode cX12_init 146 = .ok (.bipush 16, 2) := by decide +kernel
theorem dX12_init_148 : decode cX12_init 148 = .ok (.newarray .int, 2) := by decide +kernel
theorem dX12_init_150 : decode cX12_init 150 = .ok (.putfield 67, 3) := by decide +kernel
theorem dX12_init_153 : decode cX12_init 153 = .ok (.aload_n 0, 1) := by decide +kernel
theorem dX12_init_154 : decode cX12_init 154 = .ok (.bipush 16, 2) := by decide +kernel
theorem dX12_init_156 : decode cX12_init 156 = .ok (.newarray .int, 2) := by decide +kernel
theorem dX12_init_158 : decode cX12_init 158 = .ok (.putfield 70, 3) := by decide +kernel
theorem dX12_init_161 : decode cX12_init 161 = .ok (.aload_n 0, 1) := by decide +kernel
theorem dX12_init_162 : decode cX12_init 162 = .ok (.sipush 240, 3) := by decide +kernel
theorem dX12_init_165 : decode cX12_init 165 = .ok (.newarray .int, 2) := by decide +kernel
theorem dX12_init_167 : decode cX12_init 167 = .ok (.putfield 73, 3) := by decide +kernel
theorem dX12_init_170 : decode cX12_init 170 = .ok (.aload_n 0, 1) := by decide +kernel
theorem dX12_init_171 : decode cX12_init 171 = .ok (.sipush 240, 3) := by decide +kernel
theorem dX12_init_174 : decode cX12_init 174 = .ok (.newarray .int, 2) := by decide +kernel
theorem dX12_init_176 : decode cX12_init 176 = .ok (.putfield 76, 3) := by decide +kernel
theorem dX12_init_179 : decode cX12_init 179 = .ok (.aload_n 0, 1) := by decide +kernel
theorem dX12_init_180 : decode cX12_init 180 = .ok (.sipush 240, 3) := by decide +kernel
theorem dX12_init_183 : decode cX12_init 183 = .ok (.newarray .int, 2) := by decide +kernel
theorem dX12_init_185 : decode cX12_init 185 = .ok (.putfield 79, 3) := by decide +kernel
theorem dX12_init_188 : decode cX12_init 188 = .ok (.aload_n 0, 1) := by decide +kernel
theorem dX12_init_189 : decode cX12_init 189 = .ok (.sipush 240, 3) := by decide +kernel
theorem dX12_init_192 : decode cX12_init 192 = .ok (.newarray .int, 2) := by decide +kernel
theorem dX12_init_194 : decode cX12_init 194 = .ok (.putfield 82, 3) := by decide +kernel
theorem dX12_init_197 : decode cX12_init 197 = .ok (.aload_n 0, 1) := by decide +kernel
theorem dX12_init_198 : decode cX12_init 198 = .ok (.sipush 240, 3) := by decide +kernel
theorem dX12_init_201 : decode cX12_init 201 = .ok (.newarray .boolean, 2) := by decide +kernel
theorem dX12_init_203 : decode cX12_init 203 = .ok (.putfield 85, 3) := by decide +kernel
theorem dX12_init_206 : decode cX12_init 206 = .ok (.aload_n 0, 1) := by decide +kernel
theorem dX12_init_207 : decode cX12_init 207 = .ok (.bipush 10, 2) := by decide +kernel
theorem dX12_init_209 : decode cX12_init 209 = .ok (.newarray .boolean, 2) := by decide +kernel
theorem dX12_init_211 : decode cX12_init 211 = .ok (.putfield 88, 3) := by decide +kernel
theorem dX12_init_214 : decode cX12_init 214 = .ok (.aload_n 0, 1) := by decide +kernel
theorem dX12_init_215 : decode cX12_init 215 = .ok (.bipush 10, 2) := by decide +kernel
theorem dX12_init_217 : decode cX12_init 217 = .ok (.newarray .int, 2) := by decide +kernel
theorem dX12_init_219 : decode cX12_init 219 = .ok (.putfield 91, 3) := by decide +kernel
theorem dX12_init_222 : decode cX12_init 222 = .ok (.aload_n 0, 1) := by decide +kernel
theorem dX12_init_223 : decode cX12_init 223 = .ok (.bipush 10, 2) := by decide +kernel
theorem dX12_init_225 : decode cX12_init 225 = .ok (.newarray .int, 2) := by decide +kernel
theorem dX12_init_227 : decode cX12_init 227 = .ok (.putfield 94, 3) := by decide +kernel
theorem dX12_init_230 : decode cX12_init 230 = .ok (.aload_n 0, 1) := by decide +kernel
theorem dX12_init_231 : decode cX12_init 231 = .ok (.bipush 10, 2) := by decide +kernel
theorem dX12_init_233 : decode cX12_init 233 = .ok (.newarray .int, 2) := by decide +kernel
theorem dX12_init_235 : decode cX12_init 235 = .ok (.putfield 97, 3) := by decide +kernel
theorem dX12_init_238 : decode cX12_init 238 = .ok (.aload_n 0, 1) := by decide +kernel
theorem dX12_init_239 : decode cX12_init 239 = .ok (.bipush 10, 2) := by decide +kernel
theorem dX12_init_241 : decode cX12_init 241 = .ok (.newarray .int, 2) := by decide +kernel
theorem dX12_init_243 : decode cX12_init 243 = .ok (.putfield 100, 3) := by decide +kernel
theorem dX12_init_246 : decode cX12_init 246 = .ok (.aload_n 0, 1) := by decide +kernel
theorem dX12_init_247 : decode cX12_init 247 = .ok (.iconst 4, 1) := by decide +kernel
theorem dX12_init_248 : decode cX12_init 248 = .ok (.newarray .boolean, 2) := by decide +kernel
theorem dX12_init_250 : decode cX12_init 250 = .ok (.putfield 103, 3) := by decide +kernel
theorem dX12_init_253 : decode cX12_init 253 = .ok (.aload_n 0, 1) := by decide +kernel
theorem dX12_init_254 : decode cX12_init 254 = .ok (.iconst 4, 1) := by decide +kernel
theorem dX12_init_255 : decode cX12_init 255 = .ok (.newarray .int, 2) := by decide +kernel
theorem dX12_init_257 : decode cX12_init 257 = .ok (.putfield 106, 3) := by decide +kernel
theorem dX12_init_260 : decode cX12_init 260 = .ok (.aload_n 0, 1) := by decide +kernel
theorem dX12_init_261 : decode cX12_init 261 = .ok (.iconst 4, 1) := by decide +kernel
theorem dX12_init_262 : decode cX12_init 262 = .ok (.newarray .int, 2) := by decide +kernel
theorem dX12_init_264 : decode cX12_init 264 = .ok (.putfield 109, 3) := by decide +kernel
theorem dX12_init_267 : decode cX12_init 267 = .ok (.aload_n 0, 1) := by decide +kernel
theorem dX12_init_268 : decode cX12_init 268 = .ok (.iconst 4, 1) := by decide +kernel
theorem dX12_init_269 : decode cX12_init 269 = .ok (.newarray .int, 2) := by decide +kernel
theorem dX12_init_271 : decode cX12_init 271 = .ok (.putfield 112, 3) := by decide +kernel
theorem dX12_init_274 : decode cX12_init 274 = .ok (.aload_n 0, 1) := by decide +kernel
theorem dX12_init_275 : decode cX12_init 275 = .ok (.iconst 4, 1) := by decide +kernel
theorem dX12_init_276 : decode cX12_init 276 = .ok (.newarray .int, 2) := by decide +kernel
theorem dX12_init_278 : decode cX12_init 278 = .ok (.putfield 115, 3) := by decide +kernel
theorem dX12_init_281 : decode cX12_init 281 = .ok (.aload_n 0, 1) := by decide +kernel
theorem dX12_init_282 : decode cX12_init 282 = .ok (.bipush 10, 2) := by decide +kernel
theorem dX12_init_284 : decode cX12_init 284 = .ok (.newarray .boolean, 2) := by decide +kernel
theorem dX12_init_286 : decode cX12_init 286 = .ok (.putfield 118, 3) := by decide +kernel
theorem dX12_init_289 : decode cX12_init 289 = .ok (.aload_n 0, 1) := by decide +kernel
theorem dX12_init_290 : decode cX12_init 290 = .ok (.bipush 10, 2) := by decide +kernel
theorem dX12_init_292 : decode cX12_init 292 = .ok (.newarray .int, 2) := by decide +kernel
theorem dX12_init_294 : decode cX12_init 294 = .ok (.putfield 121, 3) := by decide +kernel
theorem dX12_init_297 : decode cX12_init 297 = .ok (.aload_n 0, 1) := by decide +kernel
theorem dX12_init_298 : decode cX12_init 298 = .ok (.bipush 10, 2) := by decide +kernel
theorem dX12_init_300 : decode cX12_init 300 = .ok (.newarray .int, 2) := by decide +kernel
theorem dX12_init_302 : decode cX12_init 302 = .ok (.putfield 124, 3) := by decide +kernel
theorem dX12_init_305 : decode cX12_init 305 = .ok (.aload_n 0, 1) := by decide +kernel
theorem dX12_init_306 : decode cX12_init 306 = .ok (.bipush 10, 2) := by decide +kernel
theorem dX12_init_308 : decode cX12_init 308 = .ok (.newarray .int, 2) := by decide +kernel
theorem dX12_init_310 : decode cX12_init 310 = .ok (.putfield 127, 3) := by decide +kernel
theorem dX12_init_313 : decode cX12_init 313 = .ok (.aload_n 0, 1) := by decide +kernel
theorem dX12_init_314 : decode cX12_init 314 = .ok (.bipush 10, 2) := by decide +kernel
theorem dX12_init_316 : decode cX12_init 316 = .ok (.newarray .int, 2) := by decide +kernel
theorem dX12_init_318 : decode cX12_init 318 = .ok (.putfield 130, 3) := by decide +kernel
theorem dX12_init_321 : decode cX12_init 321 = .ok (.aload_n 0, 1) := by decide +kernel
theorem dX12_init_322 : decode cX12_init 322 = .ok (.bipush 10, 2) := by decide +kernel
theorem dX12_init_324 : decode cX12_init 324 = .ok (.newarray .int, 2) := by decide +kernel
theorem dX12_init_326 : decode cX12_init 326 = .ok (.putfield 133, 3) := by decide +kernel
theorem dX12_init_329 : decode cX12_init 329 = .ok (.aload_n 0, 1) := by decide +kernel
theorem dX12_init_330 : decode cX12_init 330 = .ok (.bipush 8, 2) := by decide +kernel
theorem dX12_init_332 : decode cX12_init 332 = .ok (.newarray .boolean, 2) := by decide +kernel
theorem dX12_init_334 : decode cX12_init 334 = .ok (.putfield 136, 3) := by decide +kernel
theorem dX12_init_337 : decode cX12_init 337 = .ok (.aload_n 0, 1) := by decide +kernel
theorem dX12_init_338 : decode cX12_init 338 = .ok (.bipush 8, 2) := by decide +kernel
theorem dX12_init_340 : decode cX12_init 340 = .ok (.newarray .int, 2) := by decide +kernel
theorem dX12_init_342 : decode cX12_init 342 = .ok (.putfield 139, 3) := by decide +kernel
theorem dX12_init_345 : decode cX12_init 345 = .ok (.aload_n 0, 1) := by decide +kernel
theorem dX12_init_346 : decode cX12_init 346 = .ok (.bipush 8, 2) := by decide +kernel
theorem dX12_init_348 : decode cX12_init 348 = .ok (.newarray .int, 2) := by decide +kernel
theorem dX12_init_350 : decode cX12_init 350 = .ok (.putfield 142, 3) := by decide +kernel
theorem dX12_init_353 : decode cX12_init 353 = .ok (.aload_n 0, 1) := by decide +kernel
theorem dX12_init_354 : decode cX12_init 354 = .ok (.bipush 8, 2) := by decide +kernel
theorem dX12_init_356 : decode cX12_init 356 = .ok (.newarray .int, 2) := by decide +kernel
theorem dX12_init_358 : decode cX12_init 358 = .ok (.putfield 145, 3) := by decide +kernel
theorem dX12_init_361 : decode cX12_init 361 = .ok (.aload_n 0, 1) := by decide +kernel
theorem dX12_init_362 : decode cX12_init 362 = .ok (.bipush 8, 2) := by decide +kernel
theorem dX12_init_364 : decode cX12_init 364 = .ok (.newarray .int, 2) := by decide +kernel
theorem dX12_init_366 : decode cX12_init 366 = .ok (.putfield 148, 3) := by decide +kernel
theorem dX12_init_369 : decode cX12_init 369 = .ok (.aload_n 0, 1) := by decide +kernel
theorem dX12_init_370 : decode cX12_init 370 = .ok (.bipush 20, 2) := by decide +kernel
theorem dX12_init_372 : decode cX12_init 372 = .ok (.newarray .boolean, 2) := by decide +kernel
theorem dX12_init_374 : decode cX12_init 374 = .ok (.putfield 151, 3) := by decide +kernel
theorem dX12_init_377 : decode cX12_init 377 = .ok (.aload_n 0, 1) := by decide +kernel
theorem dX12_init_378 : decode cX12_init 378 = .ok (.bipush 20, 2) := by decide +kernel
theorem dX12_init_380 : decode cX12_init 380 = .ok (.newarray .int, 2) := by decide +kernel
theorem dX12_init_382 : decode cX12_init 382 = .ok (.putfield 154, 3) := by decide +kernel
theorem dX12_init_385 : decode cX12_init 385 = .ok (.aload_n 0, 1) := by decide +kernel
theorem dX12_init_386 : decode cX12_init 386 = .ok (.bipush 20, 2) := by decide +kernel
theorem dX12_init_388 : decode cX12_init 388 = .ok (.newarray .int, 2) := by decide +kernel
theorem dX12_init_390 : decode cX12_init 390 = .ok (.putfield 157, 3) := by decide +kernel
theorem dX12_init_393 : decode cX12_init 393 = .ok (.aload_n 0, 1) := by decide +kernel
theorem dX12_init_394 : decode cX12_init 394 = .ok (.bipush 20, 2) := by decide +kernel
theorem dX12_init_396 : decode cX12_init 396 = .ok (.newarray .int, 2) := by decide +kernel
theorem dX12_init_398 : decode cX12_init 398 = .ok (.putfield 160, 3) := by decide +kernel
theorem dX12_init_401 : decode cX12_init 401 = .ok (.aload_n 0, 1) := by decide +kernel
theorem dX12_init_402 : decode cX12_init 402 = .ok (.bipush 20, 2) := by decide +kernel
theorem dX12_init_404 : decode cX12_init 404 = .ok (.newarray .int, 2) := by decide +kernel
theorem dX12_init_406 : decode cX12_init 406 = .ok (.putfield 163, 3) := by decide +kernel
theorem dX12_init_409 : decode cX12_init 409 = .ok (.aload_n 0, 1) := by decide +kernel
theorem dX12_init_410 : decode cX12_init 410 = .ok (.iconst 2, 1) := by decide +kernel
theorem dX12_init_411 : decode cX12_init 411 = .ok (.newarray .int, 2) := by decide +kernel
theorem dX12_init_413 : decode cX12_init 413 = .ok (.putfield 166, 3) := by decide +kernel
theorem dX12_init_416 : decode cX12_init 416 = .ok (.aload_n 0, 1) := by decide +kernel
theorem dX12_init_417 : decode cX12_init 417 = .ok (.iconst 2, 1) := by decide +kernel
theorem dX12_init_418 : decode cX12_init 418 = .ok (.newarray .int, 2) := by decide +kernel
theorem dX12_init_420 : decode cX12_init 420 = .ok (.putfield 169, 3) := by decide +kernel
theorem dX12_init_423 : decode cX12_init 423 = .ok (.aload_n 0, 1) := by decide +kernel
theorem dX12_init_424 : decode cX12_init 424 = .ok (.iconst 2, 1) := by decide +kernel
theorem dX12_init_425 : decode cX12_init 425 = .ok (.newarray .int, 2) := by decide +kernel
theorem dX12_init_427 : decode cX12_init 427 = .ok (.putfield 172, 3) := by decide +kernel
theorem dX12_init_430 : decode cX12_init 430 = .ok (.aload_n 0, 1) := by decide +kernel
theorem dX12_init_431 : decode cX12_init 431 = .ok (.iconst 2, 1) := by decide +kernel
theorem dX12_init_432 : decode cX12_init 432 = .ok (.newarray .int, 2) := by decide +kernel
theorem dX12_init_434 : decode cX12_init 434 = .ok (.putfield 175, 3) := by decide +kernel
theorem dX12_init_437 : decode cX12_init 437 = .ok (.aload_n 0, 1) := by decide +kernel
theorem dX12_init_438 : decode cX12_init 438 = .ok (.ldc 178, 2) := by decide +kernel
theorem dX12_init_440 : decode cX12_init 440 = .ok (.newarray .int, 2) := by decide +kernel
theorem dX12_init_442 : decode cX12_init 442 = .ok (.putfield 179, 3) := by decide +kernel
theorem dX12_init_445 : decode cX12_init 445 = .ok (.aload_n 0, 1) := by decide +kernel
theorem dX12_init_446 : decode cX12_init 446 = .ok (.bipush 10, 2) := by decide +kernel
theorem dX12_init_448 : decode cX12_init 448 = .ok (.newarray .int, 2) := by decide +kernel
theorem dX12_init_450 : decode cX12_init 450 = .ok (.putfield 182, 3) := by decide +kernel
theorem dX12_init_453 : decode cX12_init 453 = .ok (.aload_n 0, 1) := by decide +kernel
theorem dX12_init_454 : decode cX12_init 454 = .ok (.bipush 8, 2) := by decide +kernel
theorem dX12_init_456 : decode cX12_init 456 = .ok (.newarray .int, 2) := by decide +kernel
theorem dX12_init_458 : decode cX12_init 458 = .ok (.putfield 185, 3) := by decide +kernel
theorem dX12_init_461 : decode cX12_init 461 = .ok (.aload_n 0, 1) := by decide +kernel
theorem dX12_init_462 : decode cX12_init 462 = .ok (.bipush 8, 2) := by decide +kernel
theorem dX12_init_464 : decode cX12_init 464 = .ok (.newarray .int, 2) := by decide +kernel
theorem dX12_init_466 : decode cX12_init 466 = .ok (.putfield 188, 3) := by decide +kernel
theorem dX12_init_469 : decode cX12_init 469 = .ok (.aload_n 0, 1) := by decide +kernel
theorem dX12_init_470 : decode cX12_init 470 = .ok (.bipush 100, 2) := by decide +kernel
theorem dX12_init_472 : decode cX12_init 472 = .ok (.newarray .boolean, 2) := by decide +kernel
theorem dX12_init_474 : decode cX12_init 474 = .ok (.putfield 191, 3) := by decide +kernel
theorem dX12_init_477 : decode cX12_init 477 = .ok (.return_, 1) := by decide +kernel
theorem dX12_lies_0 : decode cX12_lies 0 = .ok (.lload_n 0, 1) := by decide +kernel
theorem dX12_lies_1 : decode cX12_lies 1 = .ok (.lload_n 2, 1) := by decide +kernel
theorem dX12_lies_2 : decode cX12_lies 2 = .ok (.lcmp, 1) := by decide +kernel
theorem dX12_lies_3 : decode cX12_lies 3 = .ok (.ifCond .lt 14, 3) := by decide +kernel
theorem dX12_lies_6 : decode cX12_lies 6 = .ok (.lload_n 0, 1) := by decide +kernel
theorem dX12_lies_7 : decode cX12_lies 7 = .ok (.lload 4, 2) := by decide +kernel
theorem dX12_lies_9 : decode cX12_lies 9 = .ok (.lcmp, 1) := by decide +kernel
theorem dX12_lies_10 : decode cX12_lies 10 = .ok (.ifCond .gt 7, 3) := by decide +kernel
theorem dX12_lies_13 : decode cX12_lies 13 = .ok (.iconst 1, 1) := by decide +kernel
theorem dX12_lies_14 : decode cX12_lies 14 = .ok (.goto 4, 3) := by decide +kernel
theorem dX12_lies_17 : decode cX12_lies 17 = .ok (.iconst 0, 1) := by decide +kernel
theorem dX12_lies_18 : decode cX12_lies 18 = .ok (.ireturn, 1) := by decide +kernel
theorem dX12_has_0 : decode cX12_has 0 = .ok (.iload_n 0, 1) := by decide +kernel
theorem dX12_has_1 : decode cX12_has 1 = .ok (.iload_n 1, 1) := by decide +kernel
theorem dX12_has_2 : decode cX12_has 2 = .ok (.ishr, 1) := by decide +kernel
theorem dX12_has_3 : decode cX12_has 3 = .ok (.iconst 1, 1) := by decide +kernel
theorem dX12_has_4 : decode cX12_has 4 = .ok (.iand, 1) := by decide +kernel
theorem dX12_has_5 : decode cX12_has 5 = .ok (.iconst 1, 1) := by decide +kernel
theorem dX12_has_6 : decode cX12_has 6 = .ok (.if_icmp .ne 7, 3) := by decide +kernel
theorem dX12_has_9 : decode cX12_has 9 = .ok (.iconst 1, 1) := by decide +kernel
theorem dX12_has_10 : decode cX12_has 10 = .ok (.goto 4, 3) := by decide +kernel
theorem dX12_has_13 : decode cX12_has 13 = .ok (.iconst 0, 1) := by decide +kernel
theorem dX12_has_14 : decode cX12_has 14 = .ok (.ireturn, 1) := by decide +kernel
theorem dX12_sizeOf_0 : decode cX12_sizeOf 0 = .ok (.iconst 0, 1) := by decide +kernel
theorem dX12_sizeOf_1 : decode cX12_sizeOf 1 = .ok (.istore_n 1, 1) := by decide +kernel
theorem dX12_sizeOf_2 : decode cX12_sizeOf 2 = .ok (.iload_n 0, 1) := by decide +kernel
theorem dX12_sizeOf_3 : decode cX12_sizeOf 3 = .ok (.istore_n 2, 1) := by decide +kernel
theorem dX12_sizeOf_4 : decode cX12_sizeOf 4 = .ok (.iload_n 2, 1) := by decide +kernel
theorem dX12_sizeOf_5 : decode cX12_sizeOf 5 = .ok (.ifCond .eq 15, 3) := by decide +kernel
theorem dX12_sizeOf_8 : decode cX12_sizeOf 8 = .ok (.iinc 1 1, 3) := by decide +kernel
theorem dX12_sizeOf_11 : decode cX12_sizeOf 11 = .ok (.iload_n 2, 1) := by decide +kernel
theorem dX12_sizeOf_12 : decode cX12_sizeOf 12 = .ok (.iload_n 2, 1) := by decide +kernel
theorem dX12_sizeOf_13 : decode cX12_sizeOf 13 = .ok (.iconst 1, 1) := by decide +kernel
theorem dX12_sizeOf_14 : decode cX12_sizeOf 14 = .ok (.isub, 1) := by decide +kernel
theorem dX12_sizeOf_15 : decode cX12_sizeOf 15 = .ok (.iand, 1) := by decide +kernel
theorem dX12_sizeOf_16 : decode cX12_sizeOf 16 = .ok (.istore_n 2, 1) := by decide +kernel
theorem dX12_sizeOf_17 : decode cX12_sizeOf 17 = .ok (.goto (-13), 3) := by decide +kernel
theorem dX12_sizeOf_20 : decode cX12_sizeOf 20 = .ok (.iload_n 1, 1) := by decide +kernel
theorem dX12_sizeOf_21 : decode cX12_sizeOf 21 = .ok (.ireturn, 1) := by decide +kernel
theorem dX12_lowestOf_0 : decode cX12_lowestOf 0 = .ok (.iconst 0, 1) := by decide +kernel
theorem dX12_lowestOf_1 : decode cX12_lowestOf 1 = .ok (.istore_n 1, 1) := by decide +kernel
theorem dX12_lowestOf_2 : decode cX12_lowestOf 2 = .ok (.iload_n 0, 1) := by decide +kernel
theorem dX12_lowestOf_3 : decode cX12_lowestOf 3 = .ok (.iload_n 1, 1) := by decide +kernel
theorem dX12_lowestOf_4 : decode cX12_lowestOf 4 = .ok (.invokestatic 194, 3) := by decide +kernel
theorem dX12_lowestOf_7 : decode cX12_lowestOf 7 = .ok (.ifCond .ne 9, 3) := by decide +kernel
theorem dX12_lowestOf_10 : decode cX12_lowestOf 10 = .ok (.iinc 1 1, 3) := by decide +kernel
theorem dX12_lowestOf_13 : decode cX12_lowestOf 13 = .ok (.goto (-11), 3) := by decide +kernel
theorem dX12_lowestOf_16 : decode cX12_lowestOf 16 = .ok (.iload_n 1, 1) := by decide +kernel
theorem dX12_lowestOf_17 : decode cX12_lowestOf 17 = .ok (.ireturn, 1) := by decide +kernel
theorem dX12_held_0 : decode cX12_held 0 = .ok (.iload_n 0, 1) := by decide +kernel
theorem dX12_held_1 : decode cX12_held 1 = .ok (.ifCond .ge 7, 3) := by decide +kernel
theorem dX12_held_4 : decode cX12_held 4 = .ok (.iconst 0, 1) := by decide +kernel
theorem dX12_held_5 : decode cX12_held 5 = .ok (.goto 13, 3) := by decide +kernel
theorem dX12_held_8 : decode cX12_held 8 = .ok (.iload_n 0, 1) := by decide +kernel
theorem dX12_held_9 : decode cX12_held 9 = .ok (.iload_n 1, 1) := by decide +kernel
theorem dX12_held_10 : decode cX12_held 10 = .ok (.if_icmp .le 7, 3) := by decide +kernel
theorem dX12_held_13 : decode cX12_held 13 = .ok (.iload_n 1, 1) := by decide +kernel
theorem dX12_held_14 : decode cX12_held 14 = .ok (.goto 4, 3) := by decide +kernel
theorem dX12_held_17 : decode cX12_held 17 = .ok (.iload_n 0, 1) := by decide +kernel
theorem dX12_held_18 : decode cX12_held 18 = .ok (.ireturn, 1) := by decide +kernel
theorem dX12_push_0 : decode cX12_push 0 = .ok (.bipush 24, 2) := by decide +kernel
theorem dX12_push_2 : decode cX12_push 2 = .ok (.istore_n 2, 1) := by decide +kernel
theorem dX12_push_3 : decode cX12_push 3 = .ok (.iload_n 2, 1) := by decide +kernel
theorem dX12_push_4 : decode cX12_push 4 = .ok (.ifCond .lt 32, 3) := by decide +kernel
theorem dX12_push_7 : decode cX12_push 7 = .ok (.aload_n 0, 1) := by decide +kernel
theorem dX12_push_8 : decode cX12_push 8 = .ok (.getfield 7, 3) := by decide +kernel
theorem dX12_push_11 : decode cX12_push 11 = .ok (.aload_n 0, 1) := by decide +kernel
theorem dX12_push_12 : decode cX12_push 12 = .ok (.getfield 198, 3) := by decide +kernel
theorem dX12_push_15 : decode cX12_push 15 = .ok (.iload_n 1, 1) := by decide +kernel
theorem dX12_push_16 : decode cX12_push 16 = .ok (.iload_n 2, 1) := by decide +kernel
theorem dX12_push_17 : decode cX12_push 17 = .ok (.ishr, 1) := by decide +kernel
theorem dX12_push_18 : decode cX12_push 18 = .ok (.i2b, 1) := by decide +kernel
theorem dX12_push_19 : decode cX12_push 19 = .ok (.bastore, 1) := by decide +kernel
theorem dX12_push_20 : decode cX12_push 20 = .ok (.aload_n 0, 1) := by decide +kernel
theorem dX12_push_21 : decode cX12_push 21 = .ok (.dup, 1) := by decide +kernel
theorem dX12_push_22 : decode cX12_push 22 = .ok (.getfield 198, 3) := by decide +kernel
theorem dX12_push_25 : decode cX12_push 25 = .ok (.iconst 1, 1) := by decide +kernel
theorem dX12_push_26 : decode cX12_push 26 = .ok (.iadd, 1) := by decide +kernel
theorem dX12_push_27 : decode cX12_push 27 = .ok (.putfield 198, 3) := by decide +kernel
theorem dX12_push_30 : decode cX12_push 30 = .ok (.iinc 2 (-8), 3) := by decide +kernel
theorem dX12_push_33 : decode cX12_push 33 = .ok (.goto (-30), 3) := by decide +kernel
theorem dX12_push_36 : decode cX12_push 36 = .ok (.return_, 1) := by decide +kernel
theorem dX12_feed_0 : decode cX12_feed 0 = .ok (.aload_n 0, 1) := by decide +kernel
theorem dX12_feed_1 : decode cX12_feed 1 = .ok (.getfield 198, 3) := by decide +kernel
theorem dX12_feed_4 : decode cX12_feed 4 = .ok (.bipush 20, 2) := by decide +kernel
theorem dX12_feed_6 : decode cX12_feed 6 = .ok (.iadd, 1) := by decide +kernel
theorem dX12_feed_7 : decode cX12_feed 7 = .ok (.sipush 260, 3) := by decide +kernel
theorem dX12_feed_10 : decode cX12_feed 10 = .ok (.if_icmp .le 5, 3) := by decide +kernel
theorem dX12_feed_13 : decode cX12_feed 13 = .ok (.iconst (-1), 1) := by decide +kernel
theorem dX12_feed_14 : decode cX12_feed 14 = .ok (.ireturn, 1) := by decide +kernel
theorem dX12_feed_15 : decode cX12_feed 15 = .ok (.aload_n 0, 1) := by decide +kernel
theorem dX12_feed_16 : decode cX12_feed 16 = .ok (.iload_n 1, 1) := by decide +kernel
theorem dX12_feed_17 : decode cX12_feed 17 = .ok (.invokevirtual 201, 3) := by decide +kernel
theorem dX12_feed_20 : decode cX12_feed 20 = .ok (.aload_n 0, 1) := by decide +kernel
theorem dX12_feed_21 : decode cX12_feed 21 = .ok (.iload_n 2, 1) := by decide +kernel
theorem dX12_feed_22 : decode cX12_feed 22 = .ok (.invokevirtual 201, 3) := by decide +kernel
theorem dX12_feed_25 : decode cX12_feed 25 = .ok (.aload_n 0, 1) := by decide +kernel
theorem dX12_feed_26 : decode cX12_feed 26 = .ok (.iload_n 3, 1) := by decide +kernel
theorem dX12_feed_27 : decode cX12_feed 27 = .ok (.invokevirtual 201, 3) := by decide +kernel
theorem dX12_feed_30 : decode cX12_feed 30 = .ok (.aload_n 0, 1) := by decide +kernel
theorem dX12_feed_31 : decode cX12_feed 31 = .ok (.iload 4, 2) := by decide +kernel
theorem dX12_feed_33 : decode cX12_feed 33 = .ok (.invokevirtual 201, 3) := by decide +kernel
theorem dX12_feed_36 : decode cX12_feed 36 = .ok (.aload_n 0, 1) := by decide +kernel
theorem dX12_feed_37 : decode cX12_feed 37 = .ok (.iload 5, 2) := by decide +kernel
theorem dX12_feed_39 : decode cX12_feed 39 = .ok (.invokevirtual 201, 3) := by decide +kernel
theorem dX12_feed_42 : decode cX12_feed 42 = .ok (.aload_n 0, 1) := by decide +kernel
theorem dX12_feed_43 : decode cX12_feed 43 = .ok (.getfield 198, 3) := by decide +kernel
theorem dX12_feed_46 : decode cX12_feed 46 = .ok (.ireturn, 1) := by decide +kernel
theorem dX12_byteAt_0 : decode cX12_byteAt 0 = .ok (.aload_n 0, 1) := by decide +kernel
theorem dX12_byteAt_1 : decode cX12_byteAt 1 = .ok (.getfield 7, 3) := by decide +kernel
theorem dX12_byteAt_4 : decode cX12_byteAt 4 = .ok (.iload_n 1, 1) := by decide +kernel
theorem dX12_byteAt_5 : decode cX12_byteAt 5 = .ok (.baload, 1) := by decide +kernel
theorem dX12_byteAt_6 : decode cX12_byteAt 6 = .ok (.sipush 255, 3) := by decide +kernel
theorem dX12_byteAt_9 : decode cX12_byteAt 9 = .ok (.iand, 1) := by decide +kernel
theorem dX12_byteAt_10 : decode cX12_byteAt 10 = .ok (.ireturn, 1) := by decide +kernel
theorem dX12_here_0 : decode cX12_here 0 = .ok (.aload_n 0, 1) := by decide +kernel
theorem dX12_here_1 : decode cX12_here 1 = .ok (.getfield 205, 3) := by decide +kernel
theorem dX12_here_4 : decode cX12_here 4 = .ok (.aload_n 0, 1) := by decide +kernel
theorem dX12_here_5 : decode cX12_here 5 = .ok (.getfield 208, 3) := by decide +kernel
theorem dX12_here_8 : decode cX12_here 8 = .ok (.if_icmp .ge 19, 3) := by decide +kernel
theorem dX12_here_11 : decode cX12_here 11 = .ok (.aload_n 0, 1) := by decide +kernel
theorem dX12_here_12 : decode cX12_here 12 = .ok (.getfield 7, 3) := by decide +kernel
theorem dX12_here_15 : decode cX12_here 15 = .ok (.aload_n 0, 1) := by decide +kernel
theorem dX12_here_16 : decode cX12_here 16 = .ok (.getfield 205, 3) := by decide +kernel
theorem dX12_here_19 : decode cX12_here 19 = .ok (.baload, 1) := by decide +kernel
theorem dX12_here_20 : decode cX12_here 20 = .ok (.sipush 255, 3) := by decide +kernel
theorem dX12_here_23 : decode cX12_here 23 = .ok (.iand, 1) := by decide +kernel
theorem dX12_here_24 : decode cX12_here 24 = .ok (.goto 4, 3) := by decide +kernel
theorem dX12_here_27 : decode cX12_here 27 = .ok (.iconst 0, 1) := by decide +kernel
theorem dX12_here_28 : decode cX12_here 28 = .ok (.ireturn, 1) := by decide +kernel
theorem dX12_wrongs_0 : decode cX12_wrongs 0 = .ok (.aload_n 0, 1) := by decide +kernel
theorem dX12_wrongs_1 : decode cX12_wrongs 1 = .ok (.aload_n 0, 1) := by decide +kernel
theorem dX12_wrongs_2 : decode cX12_wrongs 2 = .ok (.getfield 211, 3) := by decide +kernel
theorem dX12_wrongs_5 : decode cX12_wrongs 5 = .ok (.ifCond .ge 10, 3) := by decide +kernel
theorem dX12_wrongs_8 : decode cX12_wrongs 8 = .ok (.aload_n 0, 1) := by decide +kernel
theorem dX12_wrongs_9 : decode cX12_wrongs 9 = .ok (.getfield 211, 3) := by decide +kernel
theorem dX12_wrongs_12 : decode cX12_wrongs 12 = .ok (.goto 10, 3) := by decide +kernel
theorem dX12_wrongs_15 : decode cX12_wrongs 15 = .ok (.sipush (-1000), 3) := by decide +kernel
theorem dX12_wrongs_18 : decode cX12_wrongs 18 = .ok (.iload_n 1, 1) := by decide +kernel
theorem dX12_wrongs_19 : decode cX12_wrongs 19 = .ok (.imul, 1) := by decide +kernel
theorem dX12_wrongs_20 : decode cX12_wrongs 20 = .ok (.iload_n 2, 1) := by decide +kernel
theorem dX12_wrongs_21 : decode cX12_wrongs 21 = .ok (.isub, 1) := by decide +kernel
theorem dX12_wrongs_22 : decode cX12_wrongs 22 = .ok (.putfield 211, 3) := by decide +kernel
theorem dX12_wrongs_25 : decode cX12_wrongs 25 = .ok (.return_, 1) := by decide +kernel
theorem dX12_isGood_0 : decode cX12_isGood 0 = .ok (.aload_n 0, 1) := by decide +kernel
theorem dX12_isGood_1 : decode cX12_isGood 1 = .ok (.getfield 211, 3) := by decide +kernel
theorem dX12_isGood_4 : decode cX12_isGood 4 = .ok (.ifCond .ne 7, 3) := by decide +kernel
theorem dX12_isGood_7 : decode cX12_isGood 7 = .ok (.iconst 1, 1) := by decide +kernel
theorem dX12_isGood_8 : decode cX12_isGood 8 = .ok (.goto 4, 3) := by decide +kernel
theorem dX12_isGood_11 : decode cX12_isGood 11 = .ok (.iconst 0, 1) := by decide +kernel
theorem dX12_isGood_12 : decode cX12_isGood 12 = .ok (.ireturn, 1) := by decide +kernel
theorem dX12_seesDigit_0 : decode cX12_seesDigit 0 = .ok (.aload_n 0, 1) := by decide +kernel
theorem dX12_seesDigit_1 : decode cX12_seesDigit 1 = .ok (.invokevirtual 214, 3) := by decide +kernel
theorem dX12_seesDigit_4 : decode cX12_seesDigit 4 = .ok (.i2l, 1) := by decide +kernel
theorem dX12_seesDigit_5 : decode cX12_seesDigit 5 = .ok (.ldc2_w 218, 3) := by decide +kernel
theorem dX12_seesDigit_8 : decode cX12_seesDigit 8 = .ok (.ldc2_w 220, 3) := by decide +kernel
theorem dX12_seesDigit_11 : decode cX12_seesDigit 11 = .ok (.invokestatic 222, 3) := by decide +kernel
theorem dX12_seesDigit_14 : decode cX12_seesDigit 14 = .ok (.ireturn, 1) := by decide +kernel
theorem dX12_begins_0 : decode cX12_begins 0 = .ok (.aload_n 0, 1) := by decide +kernel
theorem dX12_begins_1 : decode cX12_begins 1 = .ok (.iconst 0, 1) := by decide +kernel
theorem dX12_begins_2 : decode cX12_begins 2 = .ok (.putfield 198, 3) := by decide +kernel
theorem dX12_begins_5 : decode cX12_begins 5 = .ok (.aload_n 0, 1) := by decide +kernel
theorem dX12_begins_6 : decode cX12_begins 6 = .ok (.iconst 0, 1) := by decide +kernel
theorem dX12_begins_7 : decode cX12_begins 7 = .ok (.putfield 205, 3) := by decide +kernel
theorem dX12_begins_10 : decode cX12_begins 10 = .ok (.aload_n 0, 1) := by decide +kernel
theorem dX12_begins_11 : decode cX12_begins 11 = .ok (.iload_n 1, 1) := by decide +kernel
theorem dX12_begins_12 : decode cX12_begins 12 = .ok (.putfield 208, 3) := by decide +kernel
theorem dX12_begins_15 : decode cX12_begins 15 = .ok (.aload_n 0, 1) := by decide +kernel
theorem dX12_begins_16 : decode cX12_begins 16 = .ok (.iconst 0, 1) := by decide +kernel
theorem dX12_begins_17 : decode cX12_begins 17 = .ok (.putfield 211, 3) := by decide +kernel
theorem dX12_begins_20 : decode cX12_begins 20 = .ok (.return_, 1) := by decide +kernel
theorem dX12_repeats_0 : decode cX12_repeats 0 = .ok (.aload_n 0, 1) := by decide +kernel
theorem dX12_repeats_1 : decode cX12_repeats 1 = .ok (.getfield 226, 3) := by decide +kernel
theorem dX12_repeats_4 : decode cX12_repeats 4 = .ok (.iload_n 1, 1) := by decide +kernel
theorem dX12_repeats_5 : decode cX12_repeats 5 = .ok (.isub, 1) := by decide +kernel
theorem dX12_repeats_6 : decode cX12_repeats 6 = .ok (.istore 4, 2) := by decide +kernel
theorem dX12_repeats_8 : decode cX12_repeats 8 = .ok (.iload_n 1, 1) := by decide +kernel
theorem dX12_repeats_9 : decode cX12_repeats 9 = .ok (.iload 4, 2) := by decide +kernel
theorem dX12_repeats_11 : decode cX12_repeats 11 = .ok (.iload_n 2, 1) := by decide +kernel
theorem dX12_repeats_12 : decode cX12_repeats 12 = .ok (.imul, 1) := by decide +kernel
theorem dX12_repeats_13 : decode cX12_repeats 13 = .ok (.iadd, 1) := by decide +kernel
theorem dX12_repeats_14 : decode cX12_repeats 14 = .ok (.bipush 72, 2) := by decide +kernel
theorem dX12_repeats_16 : decode cX12_repeats 16 = .ok (.if_icmp .le 10, 3) := by decide +kernel
theorem dX12_repeats_19 : decode cX12_repeats 19 = .ok (.aload_n 0, 1) := by decide +kernel
theorem dX12_repeats_20 : decode cX12_repeats 20 = .ok (.bipush 6, 2) := by decide +kernel
theorem dX12_repeats_22 : decode cX12_repeats 22 = .ok (.iload_n 3, 1) := by decide +kernel
theorem dX12_repeats_23 : decode cX12_repeats 23 = .ok (.invokevirtual 229, 3) := by decide +kernel
theorem dX12_repeats_26 : decode cX12_repeats 26 = .ok (.aload_n 0, 1) := by decide +kernel
theorem dX12_repeats_27 : decode cX12_repeats 27 = .ok (.invokevirtual 233, 3) := by decide +kernel
theorem dX12_repeats_30 : decode cX12_repeats 30 = .ok (.ifCond .ne 4, 3) := by decide +kernel
theorem dX12_repeats_33 : decode cX12_repeats 33 = .ok (.return_, 1) := by decide +kernel
theorem dX12_repeats_34 : decode cX12_repeats 34 = .ok (.iload 4, 2) := by decide +kernel
theorem dX12_repeats_36 : decode cX12_repeats 36 = .ok (.istore 5, 2) := by decide +kernel
theorem dX12_repeats_38 : decode cX12_repeats 38 = .ok (.iload 5, 2) := by decide +kernel
theorem dX12_repeats_40 : decode cX12_repeats 40 = .ok (.iload 4, 2) := by decide +kernel
theorem dX12_repeats_42 : decode cX12_repeats 42 = .ok (.iload_n 2, 1) := by decide +kernel
theorem dX12_repeats_43 : decode cX12_repeats 43 = .ok (.imul, 1) := by decide +kernel
theorem dX12_repeats_44 : decode cX12_repeats 44 = .ok (.if_icmp .ge 30, 3) := by decide +kernel
theorem dX12_repeats_47 : decode cX12_repeats 47 = .ok (.aload_n 0, 1) := by decide +kernel
theorem dX12_repeats_48 : decode cX12_repeats 48 = .ok (.getfield 28, 3) := by decide +kernel
theorem dX12_repeats_51 : decode cX12_repeats 51 = .ok (.iload_n 1, 1) := by decide +kernel
theorem dX12_repeats_52 : decode cX12_repeats 52 = .ok (.iload 5, 2) := by decide +kernel
theorem dX12_repeats_54 : decode cX12_repeats 54 = .ok (.iadd, 1) := by decide +kernel
theorem dX12_repeats_55 : decode cX12_repeats 55 = .ok (.aload_n 0, 1) := by decide +kernel
theorem dX12_repeats_56 : decode cX12_repeats 56 = .ok (.getfield 28, 3) := by decide +kernel
theorem dX12_repeats_59 : decode cX12_repeats 59 = .ok (.iload_n 1, 1) := by decide +kernel
theorem dX12_repeats_60 : decode cX12_repeats 60 = .ok (.iload 5, 2) := by decide +kernel
theorem dX12_repeats_62 : decode cX12_repeats 62 = .ok (.iload 4, 2) := by decide +kernel
theorem dX12_repeats_64 : decode cX12_repeats 64 = .ok (.irem, 1) := by decide +kernel
theorem dX12_repeats_65 : decode cX12_repeats 65 = .ok (.iadd, 1) := by decide +kernel
theorem dX12_repeats_66 : decode cX12_repeats 66 = .ok (.iaload, 1) := by decide +kernel
theorem dX12_repeats_67 : decode cX12_repeats 67 = .ok (.iastore, 1) := by decide +kernel
theorem dX12_repeats_68 : decode cX12_repeats 68 = .ok (.iinc 5 1, 3) := by decide +kernel
theorem dX12_repeats_71 : decode cX12_repeats 71 = .ok (.goto (-33), 3) := by decide +kernel
theorem dX12_repeats_74 : decode cX12_repeats 74 = .ok (.aload_n 0, 1) := by decide +kernel
theorem dX12_repeats_75 : decode cX12_repeats 75 = .ok (.iload_n 1, 1) := by decide +kernel
theorem dX12_repeats_76 : decode cX12_repeats 76 = .ok (.iload 4, 2) := by decide +kernel
theorem dX12_repeats_78 : decode cX12_repeats 78 = .ok (.iload_n 2, 1) := by decide +kernel
theorem dX12_repeats_79 : decode cX12_repeats 79 = .ok (.imul, 1) := by decide +kernel
theorem dX12_repeats_80 : decode cX12_repeats 80 = .ok (.iadd, 1) := by decide +kernel
theorem dX12_repeats_81 : decode cX12_repeats 81 = .ok (.putfield 226, 3) := by decide +kernel
theorem dX12_repeats_84 : decode cX12_repeats 84 = .ok (.return_, 1) := by decide +kernel
theorem dX12_timesTold_0 : decode cX12_timesTold 0 = .ok (.aload_n 0, 1) := by decide +kernel
theorem dX12_timesTold_1 : decode cX12_timesTold 1 = .ok (.invokevirtual 214, 3) := by decide +kernel
theorem dX12_timesTold_4 : decode cX12_timesTold 4 = .ok (.i2l, 1) := by decide +kernel
theorem dX12_timesTold_5 : decode cX12_timesTold 5 = .ok (.ldc2_w 237, 3) := by decide +kernel
theorem dX12_timesTold_8 : decode cX12_timesTold 8 = .ok (.ldc2_w 220, 3) := by decide +kernel
theorem dX12_timesTold_11 : decode cX12_timesTold 11 = .ok (.invokestatic 222, 3) := by decide +kernel
theorem dX12_timesTold_14 : decode cX12_timesTold 14 = .ok (.ifCond .ne 5, 3) := by decide +kernel
theorem dX12_timesTold_17 : decode cX12_timesTold 17 = .ok (.iconst 1, 1) := by decide +kernel
theorem dX12_timesTold_18 : decode cX12_timesTold 18 = .ok (.ireturn, 1) := by decide +kernel
theorem dX12_timesTold_19 : decode cX12_timesTold 19 = .ok (.aload_n 0, 1) := by decide +kernel
theorem dX12_timesTold_20 : decode cX12_timesTold 20 = .ok (.dup, 1) := by decide +kernel
theorem dX12_timesTold_21 : decode cX12_timesTold 21 = .ok (.getfield 205, 3) := by decide +kernel
theorem dX12_timesTold_24 : decode cX12_timesTold 24 = .ok (.iconst 1, 1) := by decide +kernel
theorem dX12_timesTold_25 : decode cX12_timesTold 25 = .ok (.iadd, 1) := by decide +kernel
theorem dX12_timesTold_26 : decode cX12_timesTold 26 = .ok (.putfield 205, 3) := by decide +kernel
theorem dX12_timesTold_29 : decode cX12_timesTold 29 = .ok (.aload_n 0, 1) := by decide +kernel
theorem dX12_timesTold_30 : decode cX12_timesTold 30 = .ok (.getfield 7, 3) := by decide +kernel
theorem dX12_timesTold_33 : decode cX12_timesTold 33 = .ok (.aload_n 0, 1) := by decide +kernel
theorem dX12_timesTold_34 : decode cX12_timesTold 34 = .ok (.getfield 205, 3) := by decide +kernel
theorem dX12_timesTold_37 : decode cX12_timesTold 37 = .ok (.iconst 1, 1) := by decide +kernel
theorem dX12_timesTold_38 : decode cX12_timesTold 38 = .ok (.isub, 1) := by decide +kernel
theorem dX12_timesTold_39 : decode cX12_timesTold 39 = .ok (.baload, 1) := by decide +kernel
theorem dX12_timesTold_40 : decode cX12_timesTold 40 = .ok (.bipush 48, 2) := by decide +kernel
theorem dX12_timesTold_42 : decode cX12_timesTold 42 = .ok (.isub, 1) := by decide +kernel
theorem dX12_timesTold_43 : decode cX12_timesTold 43 = .ok (.ireturn, 1) := by decide +kernel
theorem dX12_turnBy_0 : decode cX12_turnBy 0 = .ok (.iload_n 0, 1) := by decide +kernel
theorem dX12_turnBy_1 : decode cX12_turnBy 1 = .ok (.i2l, 1) := by decide +kernel
theorem dX12_turnBy_2 : decode cX12_turnBy 2 = .ok (.ldc2_w 239, 3) := by decide +kernel
theorem dX12_turnBy_5 : decode cX12_turnBy 5 = .ok (.ldc2_w 241, 3) := by decide +kernel
theorem dX12_turnBy_8 : decode cX12_turnBy 8 = .ok (.invokestatic 222, 3) := by decide +kernel
theorem dX12_turnBy_11 : decode cX12_turnBy 11 = .ok (.ifCond .eq 8, 3) := by decide +kernel
theorem dX12_turnBy_14 : decode cX12_turnBy 14 = .ok (.iload_n 0, 1) := by decide +kernel
theorem dX12_turnBy_15 : decode cX12_turnBy 15 = .ok (.bipush 97, 2) := by decide +kernel
theorem dX12_turnBy_17 : decode cX12_turnBy 17 = .ok (.isub, 1) := by decide +kernel
theorem dX12_turnBy_18 : decode cX12_turnBy 18 = .ok (.ireturn, 1) := by decide +kernel
theorem dX12_turnBy_19 : decode cX12_turnBy 19 = .ok (.iload_n 0, 1) := by decide +kernel
theorem dX12_turnBy_20 : decode cX12_turnBy 20 = .ok (.i2l, 1) := by decide +kernel
theorem dX12_turnBy_21 : decode cX12_turnBy 21 = .ok (.ldc2_w 243, 3) := by decide +kernel
theorem dX12_turnBy_24 : decode cX12_turnBy 24 = .ok (.ldc2_w 245, 3) := by decide +kernel
theorem dX12_turnBy_27 : decode cX12_turnBy 27 = .ok (.invokestatic 222, 3) := by decide +kernel
theorem dX12_turnBy_30 : decode cX12_turnBy 30 = .ok (.ifCond .eq 11, 3) := by decide +kernel
theorem dX12_turnBy_33 : decode cX12_turnBy 33 = .ok (.iload_n 0, 1) := by decide +kernel
theorem dX12_turnBy_34 : decode cX12_turnBy 34 = .ok (.bipush 65, 2) := by decide +kernel
theorem dX12_turnBy_36 : decode cX12_turnBy 36 = .ok (.isub, 1) := by decide +kernel
theorem dX12_turnBy_37 : decode cX12_turnBy 37 = .ok (.bipush 10, 2) := by decide +kernel
theorem dX12_turnBy_39 : decode cX12_turnBy 39 = .ok (.iadd, 1) := by decide +kernel
theorem dX12_turnBy_40 : decode cX12_turnBy 40 = .ok (.ireturn, 1) := by decide +kernel
theorem dX12_turnBy_41 : decode cX12_turnBy 41 = .ok (.iload_n 0, 1) := by decide +kernel
theorem dX12_turnBy_42 : decode cX12_turnBy 42 = .ok (.bipush 42, 2) := by decide +kernel
theorem dX12_turnBy_44 : decode cX12_turnBy 44 = .ok (.if_icmp .ne 8, 3) := by decide +kernel
theorem dX12_turnBy_47 : decode cX12_turnBy 47 = .ok (.bipush 20, 2) := by decide +kernel
theorem dX12_turnBy_49 : decode cX12_turnBy 49 = .ok (.goto 15, 3) := by decide +kernel
theorem dX12_turnBy_52 : decode cX12_turnBy 52 = .ok (.iload_n 0, 1) := by decide +kernel
theorem dX12_turnBy_53 : decode cX12_turnBy 53 = .ok (.bipush 46, 2) := by decide +kernel
theorem dX12_turnBy_55 : decode cX12_turnBy 55 = .ok (.if_icmp .ne 8, 3) := by decide +kernel
theorem dX12_turnBy_58 : decode cX12_turnBy 58 = .ok (.bipush 21, 2) := by decide +kernel
theorem dX12_turnBy_60 : decode cX12_turnBy 60 = .ok (.goto 4, 3) := by decide +kernel
theorem dX12_turnBy_63 : decode cX12_turnBy 63 = .ok (.iconst (-1), 1) := by decide +kernel
theorem dX12_turnBy_64 : decode cX12_turnBy 64 = .ok (.ireturn, 1) := by decide +kernel
theorem dX12_turnTold_0 : decode cX12_turnTold 0 = .ok (.aload_n 0, 1) := by decide +kernel
theorem dX12_turnTold_1 : decode cX12_turnTold 1 = .ok (.getfield 205, 3) := by decide +kernel
theorem dX12_turnTold_4 : decode cX12_turnTold 4 = .ok (.istore_n 1, 1) := by decide +kernel
theorem dX12_turnTold_5 : decode cX12_turnTold 5 = .ok (.aload_n 0, 1) := by decide +kernel
theorem dX12_turnTold_6 : decode cX12_turnTold 6 = .ok (.invokevirtual 214, 3) := by decide +kernel
theorem dX12_turnTold_9 : decode cX12_turnTold 9 = .ok (.bipush 41, 2) := by decide +kernel
theorem dX12_turnTold_11 : decode cX12_turnTold 11 = .ok (.if_icmp .ne 69, 3) := by decide +kernel
theorem dX12_turnTold_14 : decode cX12_turnTold 14 = .ok (.aload_n 0, 1) := by decide +kernel
theorem dX12_turnTold_15 : decode cX12_turnTold 15 = .ok (.getfield 247, 3) := by decide +kernel
theorem dX12_turnTold_18 : decode cX12_turnTold 18 = .ok (.ifCond .le 62, 3) := by decide +kernel
theorem dX12_turnTold_21 : decode cX12_turnTold 21 = .ok (.aload_n 0, 1) := by decide +kernel
theorem dX12_turnTold_22 : decode cX12_turnTold 22 = .ok (.getfield 250, 3) := by decide +kernel
theorem dX12_turnTold_25 : decode cX12_turnTold 25 = .ok (.ifCond .eq 55, 3) := by decide +kernel
theorem dX12_turnTold_28 : decode cX12_turnTold 28 = .ok (.aload_n 0, 1) := by decide +kernel
theorem dX12_turnTold_29 : decode cX12_turnTold 29 = .ok (.dup, 1) := by decide +kernel
theorem dX12_turnTold_30 : decode cX12_turnTold 30 = .ok (.getfield 247, 3) := by decide +kernel
theorem dX12_turnTold_33 : decode cX12_turnTold 33 = .ok (.iconst 1, 1) := by decide +kernel
theorem dX12_turnTold_34 : decode cX12_turnTold 34 = .ok (.isub, 1) := by decide +kernel
theorem dX12_turnTold_35 : decode cX12_turnTold 35 = .ok (.putfield 247, 3) := by decide +kernel
theorem dX12_turnTold_38 : decode cX12_turnTold 38 = .ok (.aload_n 0, 1) := by decide +kernel
theorem dX12_turnTold_39 : decode cX12_turnTold 39 = .ok (.dup, 1) := by decide +kernel
theorem dX12_turnTold_40 : decode cX12_turnTold 40 = .ok (.getfield 205, 3) := by decide +kernel
theorem dX12_turnTold_43 : decode cX12_turnTold 43 = .ok (.iconst 1, 1) := by decide +kernel
theorem dX12_turnTold_44 : decode cX12_turnTold 44 = .ok (.iadd, 1) := by decide +kernel
theorem dX12_turnTold_45 : decode cX12_turnTold 45 = .ok (.putfield 205, 3) := by decide +kernel
theorem dX12_turnTold_48 : decode cX12_turnTold 48 = .ok (.aload_n 0, 1) := by decide +kernel
theorem dX12_turnTold_49 : decode cX12_turnTold 49 = .ok (.aload_n 0, 1) := by decide +kernel
theorem dX12_turnTold_50 : decode cX12_turnTold 50 = .ok (.getfield 31, 3) := by decide +kernel
theorem dX12_turnTold_53 : decode cX12_turnTold 53 = .ok (.aload_n 0, 1) := by decide +kernel
theorem dX12_turnTold_54 : decode cX12_turnTold 54 = .ok (.getfield 247, 3) := by decide +kernel
theorem dX12_turnTold_57 : decode cX12_turnTold 57 = .ok (.iaload, 1) := by decide +kernel
theorem dX12_turnTold_58 : decode cX12_turnTold 58 = .ok (.aload_n 0, 1) := by decide +kernel
theorem dX12_turnTold_59 : decode cX12_turnTold 59 = .ok (.getfield 34, 3) := by decide +kernel
theorem dX12_turnTold_62 : decode cX12_turnTold 62 = .ok (.aload_n 0, 1) := by decide +kernel
theorem dX12_turnTold_63 : decode cX12_turnTold 63 = .ok (.getfield 247, 3) := by decide +kernel
theorem dX12_turnTold_66 : decode cX12_turnTold 66 = .ok (.iaload, 1) := by decide +kernel
theorem dX12_turnTold_67 : decode cX12_turnTold 67 = .ok (.aload_n 0, 1) := by decide +kernel
theorem dX12_turnTold_68 : decode cX12_turnTold 68 = .ok (.getfield 37, 3) := by decide +kernel
theorem dX12_turnTold_71 : decode cX12_turnTold 71 = .ok (.aload_n 0, 1) := by decide +kernel
theorem dX12_turnTold_72 : decode cX12_turnTold 72 = .ok (.getfield 247, 3) := by decide +kernel
theorem dX12_turnTold_75 : decode cX12_turnTold 75 = .ok (.iaload, 1) := by decide +kernel
theorem dX12_turnTold_76 : decode cX12_turnTold 76 = .ok (.invokevirtual 254, 3) := by decide +kernel
theorem dX12_turnTold_79 : decode cX12_turnTold 79 = .ok (.return_, 1) := by decide +kernel
theorem dX12_turnTold_80 : decode cX12_turnTold 80 = .ok (.aload_n 0, 1) := by decide +kernel
theorem dX12_turnTold_81 : decode cX12_turnTold 81 = .ok (.invokevirtual 258, 3) := by decide +kernel
theorem dX12_turnTold_84 : decode cX12_turnTold 84 = .ok (.istore_n 2, 1) := by decide +kernel
theorem dX12_turnTold_85 : decode cX12_turnTold 85 = .ok (.aload_n 0, 1) := by decide +kernel
theorem dX12_turnTold_86 : decode cX12_turnTold 86 = .ok (.invokevirtual 214, 3) := by decide +kernel
theorem dX12_turnTold_89 : decode cX12_turnTold 89 = .ok (.bipush 40, 2) := by decide +kernel
theorem dX12_turnTold_91 : decode cX12_turnTold 91 = .ok (.if_icmp .ne 87, 3) := by decide +kernel
theorem dX12_turnTold_94 : decode cX12_turnTold 94 = .ok (.aload_n 0, 1) := by decide +kernel
theorem dX12_turnTold_95 : decode cX12_turnTold 95 = .ok (.getfield 247, 3) := by decide +kernel
theorem dX12_turnTold_98 : decode cX12_turnTold 98 = .ok (.iconst 2, 1) := by decide +kernel
theorem dX12_turnTold_99 : decode cX12_turnTold 99 = .ok (.if_icmp .ne 12, 3) := by decide +kernel
theorem dX12_turnTold_102 : decode cX12_turnTold 102 = .ok (.aload_n 0, 1) := by decide +kernel
theorem dX12_turnTold_103 : decode cX12_turnTold 103 = .ok (.iconst 5, 1) := by decide +kernel
theorem dX12_turnTold_104 : decode cX12_turnTold 104 = .ok (.aload_n 0, 1) := by decide +kernel
theorem dX12_turnTold_105 : decode cX12_turnTold 105 = .ok (.getfield 205, 3) := by decide +kernel
theorem dX12_turnTold_108 : decode cX12_turnTold 108 = .ok (.invokevirtual 229, 3) := by decide +kernel
theorem dX12_turnTold_111 : decode cX12_turnTold 111 = .ok (.aload_n 0, 1) := by decide +kernel
theorem dX12_turnTold_112 : decode cX12_turnTold 112 = .ok (.invokevirtual 233, 3) := by decide +kernel
theorem dX12_turnTold_115 : decode cX12_turnTold 115 = .ok (.ifCond .ne 4, 3) := by decide +kernel
theorem dX12_turnTold_118 : decode cX12_turnTold 118 = .ok (.return_, 1) := by decide +kernel
theorem dX12_turnTold_119 : decode cX12_turnTold 119 = .ok (.aload_n 0, 1) := by decide +kernel
theorem dX12_turnTold_120 : decode cX12_turnTold 120 = .ok (.getfield 31, 3) := by decide +kernel
theorem dX12_turnTold_123 : decode cX12_turnTold 123 = .ok (.aload_n 0, 1) := by decide +kernel
theorem dX12_turnTold_124 : decode cX12_turnTold 124 = .ok (.getfield 247, 3) := by decide +kernel
theorem dX12_turnTold_127 : decode cX12_turnTold 127 = .ok (.aload_n 0, 1) := by decide +kernel
theorem dX12_turnTold_128 : decode cX12_turnTold 128 = .ok (.getfield 226, 3) := by decide +kernel
theorem dX12_turnTold_131 : decode cX12_turnTold 131 = .ok (.iastore, 1) := by decide +kernel
theorem dX12_turnTold_132 : decode cX12_turnTold 132 = .ok (.aload_n 0, 1) := by decide +kernel
theorem dX12_turnTold_133 : decode cX12_turnTold 133 = .ok (.getfield 34, 3) := by decide +kernel
theorem dX12_turnTold_136 : decode cX12_turnTold 136 = .ok (.aload_n 0, 1) := by decide +kernel
theorem dX12_turnTold_137 : decode cX12_turnTold 137 = .ok (.getfield 247, 3) := by decide +kernel
theorem dX12_turnTold_140 : decode cX12_turnTold 140 = .ok (.iload_n 2, 1) := by decide +kernel
theorem dX12_turnTold_141 : decode cX12_turnTold 141 = .ok (.iastore, 1) := by decide +kernel
theorem dX12_turnTold_142 : decode cX12_turnTold 142 = .ok (.aload_n 0, 1) := by decide +kernel
theorem dX12_turnTold_143 : decode cX12_turnTold 143 = .ok (.getfield 37, 3) := by decide +kernel
theorem dX12_turnTold_146 : decode cX12_turnTold 146 = .ok (.aload_n 0, 1) := by decide +kernel
theorem dX12_turnTold_147 : decode cX12_turnTold 147 = .ok (.getfield 247, 3) := by decide +kernel
theorem dX12_turnTold_150 : decode cX12_turnTold 150 = .ok (.iload_n 1, 1) := by decide +kernel
theorem dX12_turnTold_151 : decode cX12_turnTold 151 = .ok (.iastore, 1) := by decide +kernel
theorem dX12_turnTold_152 : decode cX12_turnTold 152 = .ok (.aload_n 0, 1) := by decide +kernel
theorem dX12_turnTold_153 : decode cX12_turnTold 153 = .ok (.dup, 1) := by decide +kernel
theorem dX12_turnTold_154 : decode cX12_turnTold 154 = .ok (.getfield 247, 3) := by decide +kernel
theorem dX12_turnTold_157 : decode cX12_turnTold 157 = .ok (.iconst 1, 1) := by decide +kernel
theorem dX12_turnTold_158 : decode cX12_turnTold 158 = .ok (.iadd, 1) := by decide +kernel
theorem dX12_turnTold_159 : decode cX12_turnTold 159 = .ok (.putfield 247, 3) := by decide +kernel
theorem dX12_turnTold_162 : decode cX12_turnTold 162 = .ok (.aload_n 0, 1) := by decide +kernel
theorem dX12_turnTold_163 : decode cX12_turnTold 163 = .ok (.iconst 0, 1) := by decide +kernel
theorem dX12_turnTold_164 : decode cX12_turnTold 164 = .ok (.putfield 250, 3) := by decide +kernel
theorem dX12_turnTold_167 : decode cX12_turnTold 167 = .ok (.aload_n 0, 1) := by decide +kernel
theorem dX12_turnTold_168 : decode cX12_turnTold 168 = .ok (.dup, 1) := by decide +kernel
theorem dX12_turnTold_169 : decode cX12_turnTold 169 = .ok (.getfield 205, 3) := by decide +kernel
theorem dX12_turnTold_172 : decode cX12_turnTold 172 = .ok (.iconst 1, 1) := by decide +kernel
theorem dX12_turnTold_173 : decode cX12_turnTold 173 = .ok (.iadd, 1) := by decide +kernel
theorem dX12_turnTold_174 : decode cX12_turnTold 174 = .ok (.putfield 205, 3) := by decide +kernel
theorem dX12_turnTold_177 : decode cX12_turnTold 177 = .ok (.return_, 1) := by decide +kernel
theorem dX12_turnTold_178 : decode cX12_turnTold 178 = .ok (.aload_n 0, 1) := by decide +kernel
theorem dX12_turnTold_179 : decode cX12_turnTold 179 = .ok (.invokevirtual 214, 3) := by decide +kernel
theorem dX12_turnTold_182 : decode cX12_turnTold 182 = .ok (.invokestatic 261, 3) := by decide +kernel
theorem dX12_turnTold_185 : decode cX12_turnTold 185 = .ok (.iconst (-1), 1) := by decide +kernel
theorem dX12_turnTold_186 : decode cX12_turnTold 186 = .ok (.if_icmp .ne 15, 3) := by decide +kernel
theorem dX12_turnTold_189 : decode cX12_turnTold 189 = .ok (.aload_n 0, 1) := by decide +kernel
theorem dX12_turnTold_190 : decode cX12_turnTold 190 = .ok (.iconst 1, 1) := by decide +kernel
theorem dX12_turnTold_191 : decode cX12_turnTold 191 = .ok (.aload_n 0, 1) := by decide +kernel
theorem dX12_turnTold_192 : decode cX12_turnTold 192 = .ok (.getfield 205, 3) := by decide +kernel
theorem dX12_turnTold_195 : decode cX12_turnTold 195 = .ok (.invokevirtual 229, 3) := by decide +kernel
theorem dX12_turnTold_198 : decode cX12_turnTold 198 = .ok (.goto 21, 3) := by decide +kernel
theorem dX12_turnTold_201 : decode cX12_turnTold 201 = .ok (.aload_n 0, 1) := by decide +kernel
theorem dX12_turnTold_202 : decode cX12_turnTold 202 = .ok (.getfield 226, 3) := by decide +kernel
theorem dX12_turnTold_205 : decode cX12_turnTold 205 = .ok (.iload_n 2, 1) := by decide +kernel
theorem dX12_turnTold_206 : decode cX12_turnTold 206 = .ok (.iadd, 1) := by decide +kernel
theorem dX12_turnTold_207 : decode cX12_turnTold 207 = .ok (.bipush 72, 2) := by decide +kernel
theorem dX12_turnTold_209 : decode cX12_turnTold 209 = .ok (.if_icmp .le 10, 3) := by decide +kernel
theorem dX12_turnTold_212 : decode cX12_turnTold 212 = .ok (.aload_n 0, 1) := by decide +kernel
theorem dX12_turnTold_213 : decode cX12_turnTold 213 = .ok (.bipush 6, 2) := by decide +kernel
theorem dX12_turnTold_215 : decode cX12_turnTold 215 = .ok (.iload_n 1, 1) := by decide +kernel
theorem dX12_turnTold_216 : decode cX12_turnTold 216 = .ok (.invokevirtual 229, 3) := by decide +kernel
theorem dX12_turnTold_219 : decode cX12_turnTold 219 = .ok (.aload_n 0, 1) := by decide +kernel
theorem dX12_turnTold_220 : decode cX12_turnTold 220 = .ok (.invokevirtual 233, 3) := by decide +kernel
theorem dX12_turnTold_223 : decode cX12_turnTold 223 = .ok (.ifCond .ne 4, 3) := by decide +kernel
theorem dX12_turnTold_226 : decode cX12_turnTold 226 = .ok (.return_, 1) := by decide +kernel
theorem dX12_turnTold_227 : decode cX12_turnTold 227 = .ok (.iconst 0, 1) := by decide +kernel
theorem dX12_turnTold_228 : decode cX12_turnTold 228 = .ok (.istore_n 3, 1) := by decide +kernel
theorem dX12_turnTold_229 : decode cX12_turnTold 229 = .ok (.iload_n 3, 1) := by decide +kernel
theorem dX12_turnTold_230 : decode cX12_turnTold 230 = .ok (.iload_n 2, 1) := by decide +kernel
theorem dX12_turnTold_231 : decode cX12_turnTold 231 = .ok (.if_icmp .ge 27, 3) := by decide +kernel
theorem dX12_turnTold_234 : decode cX12_turnTold 234 = .ok (.aload_n 0, 1) := by decide +kernel
theorem dX12_turnTold_235 : decode cX12_turnTold 235 = .ok (.getfield 28, 3) := by decide +kernel
theorem dX12_turnTold_238 : decode cX12_turnTold 238 = .ok (.aload_n 0, 1) := by decide +kernel
theorem dX12_turnTold_239 : decode cX12_turnTold 239 = .ok (.getfield 226, 3) := by decide +kernel
theorem dX12_turnTold_242 : decode cX12_turnTold 242 = .ok (.iload_n 3, 1) := by decide +kernel
theorem dX12_turnTold_243 : decode cX12_turnTold 243 = .ok (.iadd, 1) := by decide +kernel
theorem dX12_turnTold_244 : decode cX12_turnTold 244 = .ok (.aload_n 0, 1) := by decide +kernel
theorem dX12_turnTold_245 : decode cX12_turnTold 245 = .ok (.invokevirtual 214, 3) := by decide +kernel
theorem dX12_turnTold_248 : decode cX12_turnTold 248 = .ok (.invokestatic 261, 3) := by decide +kernel
theorem dX12_turnTold_251 : decode cX12_turnTold 251 = .ok (.iastore, 1) := by decide +kernel
theorem dX12_turnTold_252 : decode cX12_turnTold 252 = .ok (.iinc 3 1, 3) := by decide +kernel
theorem dX12_turnTold_255 : decode cX12_turnTold 255 = .ok (.goto (-26), 3) := by decide +kernel
theorem dX12_turnTold_258 : decode cX12_turnTold 258 = .ok (.aload_n 0, 1) := by decide +kernel
theorem dX12_turnTold_259 : decode cX12_turnTold 259 = .ok (.dup, 1) := by decide +kernel
theorem dX12_turnTold_260 : decode cX12_turnTold 260 = .ok (.getfield 226, 3) := by decide +kernel
theorem dX12_turnTold_263 : decode cX12_turnTold 263 = .ok (.iload_n 2, 1) := by decide +kernel
theorem dX12_turnTold_264 : decode cX12_turnTold 264 = .ok (.iadd, 1) := by decide +kernel
theorem dX12_turnTold_265 : decode cX12_turnTold 265 = .ok (.putfield 226, 3) := by decide +kernel
theorem dX12_turnTold_268 : decode cX12_turnTold 268 = .ok (.aload_n 0, 1) := by decide +kernel
theorem dX12_turnTold_269 : decode cX12_turnTold 269 = .ok (.iconst 1, 1) := by decide +kernel
theorem dX12_turnTold_270 : decode cX12_turnTold 270 = .ok (.putfield 250, 3) := by decide +kernel
theorem dX12_turnTold_273 : decode cX12_turnTold 273 = .ok (.aload_n 0, 1) := by decide +kernel
theorem dX12_turnTold_274 : decode cX12_turnTold 274 = .ok (.dup, 1) := by decide +kernel
theorem dX12_turnTold_275 : decode cX12_turnTold 275 = .ok (.getfield 205, 3) := by decide +kernel
theorem dX12_turnTold_278 : decode cX12_turnTold 278 = .ok (.iconst 1, 1) := by decide +kernel
theorem dX12_turnTold_279 : decode cX12_turnTold 279 = .ok (.iadd, 1) := by decide +kernel
theorem dX12_turnTold_280 : decode cX12_turnTold 280 = .ok (.putfield 205, 3) := by decide +kernel
theorem dX12_turnTold_283 : decode cX12_turnTold 283 = .ok (.return_, 1) := by decide +kernel
theorem dX12_isTold_0 : decode cX12_isTold 0 = .ok (.iload_n 1, 1) := by decide +kernel
theorem dX12_isTold_1 : decode cX12_isTold 1 = .ok (.i2l, 1) := by decide +kernel
theorem dX12_isTold_2 : decode cX12_isTold 2 = .ok (.lconst 0, 1) := by decide +kernel
theorem dX12_isTold_3 : decode cX12_isTold 3 = .ok (.ldc2_w 265, 3) := by decide +kernel
theorem dX12_isTold_6 : decode cX12_isTold 6 = .ok (.invokestatic 222, 3) := by decide +kernel
theorem dX12_isTold_9 : decode cX12_isTold 9 = .ok (.ifCond .eq 16, 3) := by decide +kernel
theorem dX12_isTold_12 : decode cX12_isTold 12 = .ok (.aload_n 0, 1) := by decide +kernel
theorem dX12_isTold_13 : decode cX12_isTold 13 = .ok (.getfield 17, 3) := by decide +kernel
theorem dX12_isTold_16 : decode cX12_isTold 16 = .ok (.iload_n 1, 1) := by decide +kernel
theorem dX12_isTold_17 : decode cX12_isTold 17 = .ok (.baload, 1) := by decide +kernel
theorem dX12_isTold_18 : decode cX12_isTold 18 = .ok (.ifCond .eq 7, 3) := by decide +kernel
theorem dX12_isTold_21 : decode cX12_isTold 21 = .ok (.iconst 1, 1) := by decide +kernel
theorem dX12_isTold_22 : decode cX12_isTold 22 = .ok (.goto 4, 3) := by decide +kernel
theorem dX12_isTold_25 : decode cX12_isTold 25 = .ok (.iconst 0, 1) := by decide +kernel
theorem dX12_isTold_26 : decode cX12_isTold 26 = .ok (.ireturn, 1) := by decide +kernel
theorem dX12_story_0 : decode cX12_story 0 = .ok (.iload_n 1, 1) := by decide +kernel
theorem dX12_story_1 : decode cX12_story 1 = .ok (.i2l, 1) := by decide +kernel
theorem dX12_story_2 : decode cX12_story 2 = .ok (.lconst 0, 1) := by decide +kernel
theorem dX12_story_3 : decode cX12_story 3 = .ok (.ldc2_w 265, 3) := by decide +kernel
theorem dX12_story_6 : decode cX12_story 6 = .ok (.invokestatic 222, 3) := by decide +kernel
theorem dX12_story_9 : decode cX12_story 9 = .ok (.ifCond .eq 23, 3) := by decide +kernel
theorem dX12_story_12 : decode cX12_story 12 = .ok (.iload_n 2, 1) := by decide +kernel
theorem dX12_story_13 : decode cX12_story 13 = .ok (.i2l, 1) := by decide +kernel
theorem dX12_story_14 : decode cX12_story 14 = .ok (.lconst 1, 1) := by decide +kernel
theorem dX12_story_15 : decode cX12_story 15 = .ok (.ldc2_w 267, 3) := by decide +kernel
theorem dX12_story_18 : decode cX12_story 18 = .ok (.invokestatic 222, 3) := by decide +kernel
theorem dX12_story_21 : decode cX12_story 21 = .ok (.ifCond .eq 11, 3) := by decide +kernel
theorem dX12_story_24 : decode cX12_story 24 = .ok (.iload_n 2, 1) := by decide +kernel
theorem dX12_story_25 : decode cX12_story 25 = .ok (.aload_n 0, 1) := by decide +kernel
theorem dX12_story_26 : decode cX12_story 26 = .ok (.getfield 198, 3) := by decide +kernel
theorem dX12_story_29 : decode cX12_story 29 = .ok (.if_icmp .le 5, 3) := by decide +kernel
theorem dX12_story_32 : decode cX12_story 32 = .ok (.iconst (-1), 1) := by decide +kernel
theorem dX12_story_33 : decode cX12_story 33 = .ok (.ireturn, 1) := by decide +kernel
theorem dX12_story_34 : decode cX12_story 34 = .ok (.aload_n 0, 1) := by decide +kernel
theorem dX12_story_35 : decode cX12_story 35 = .ok (.iload_n 2, 1) := by decide +kernel
theorem dX12_story_36 : decode cX12_story 36 = .ok (.invokevirtual 269, 3) := by decide +kernel
theorem dX12_story_39 : decode cX12_story 39 = .ok (.aload_n 0, 1) := by decide +kernel
theorem dX12_story_40 : decode cX12_story 40 = .ok (.iconst 0, 1) := by decide +kernel
theorem dX12_story_41 : decode cX12_story 41 = .ok (.putfield 226, 3) := by decide +kernel
theorem dX12_story_44 : decode cX12_story 44 = .ok (.aload_n 0, 1) := by decide +kernel
theorem dX12_story_45 : decode cX12_story 45 = .ok (.iconst 0, 1) := by decide +kernel
theorem dX12_story_46 : decode cX12_story 46 = .ok (.putfield 247, 3) := by decide +kernel
theorem dX12_story_49 : decode cX12_story 49 = .ok (.aload_n 0, 1) := by decide +kernel
theorem dX12_story_50 : decode cX12_story 50 = .ok (.iconst 0, 1) := by decide +kernel
theorem dX12_story_51 : decode cX12_story 51 = .ok (.putfield 250, 3) := by decide +kernel
theorem dX12_story_54 : decode cX12_story 54 = .ok (.aload_n 0, 1) := by decide +kernel
theorem dX12_story_55 : decode cX12_story 55 = .ok (.invokevirtual 233, 3) := by decide +kernel
theorem dX12_story_58 : decode cX12_story 58 = .ok (.ifCond .eq 21, 3) := by decide +kernel
theorem dX12_story_61 : decode cX12_story 61 = .ok (.aload_n 0, 1) := by decide +kernel
theorem dX12_story_62 : decode cX12_story 62 = .ok (.getfield 205, 3) := by decide +kernel
theorem dX12_story_65 : decode cX12_story 65 = .ok (.aload_n 0, 1) := by decide +kernel
theorem dX12_story_66 : decode cX12_story 66 = .ok (.getfield 208, 3) := by decide +kernel
theorem dX12_story_69 : decode cX12_story 69 = .ok (.if_icmp .ge 10, 3) := by decide +kernel
theorem dX12_story_72 : decode cX12_story 72 = .ok (.aload_n 0, 1) := by decide +kernel
theorem dX12_story_73 : decode cX12_story 73 = .ok (.invokevirtual 272, 3) := by decide +kernel
theorem dX12_story_76 : decode cX12_story 76 = .ok (.goto (-22), 3) := by decide +kernel
theorem dX12_story_79 : decode cX12_story 79 = .ok (.aload_n 0, 1) := by decide +kernel
theorem dX12_story_80 : decode cX12_story 80 = .ok (.invokevirtual 233, 3) := by decide +kernel
theorem dX12_story_83 : decode cX12_story 83 = .ok (.ifCond .eq 19, 3) := by decide +kernel
theorem dX12_story_86 : decode cX12_story 86 = .ok (.aload_n 0, 1) := by decide +kernel
theorem dX12_story_87 : decode cX12_story 87 = .ok (.getfield 247, 3) := by decide +kernel
theorem dX12_story_90 : decode cX12_story 90 = .ok (.ifCond .le 12, 3) := by decide +kernel
theorem dX12_story_93 : decode cX12_story 93 = .ok (.aload_n 0, 1) := by decide +kernel
theorem dX12_story_94 : decode cX12_story 94 = .ok (.iconst 1, 1) := by decide +kernel
theorem dX12_story_95 : decode cX12_story 95 = .ok (.aload_n 0, 1) := by decide +kernel
theorem dX12_story_96 : decode cX12_story 96 = .ok (.getfield 205, 3) := by decide +kernel
theorem dX12_story_99 : decode cX12_story 99 = .ok (.invokevirtual 229, 3) := by decide +kernel
theorem dX12_story_102 : decode cX12_story 102 = .ok (.aload_n 0, 1) := by decide +kernel
theorem dX12_story_103 : decode cX12_story 103 = .ok (.getfield 211, 3) := by decide +kernel
theorem dX12_story_106 : decode cX12_story 106 = .ok (.ifCond .ge 8, 3) := by decide +kernel
theorem dX12_story_109 : decode cX12_story 109 = .ok (.aload_n 0, 1) := by decide +kernel
theorem dX12_story_110 : decode cX12_story 110 = .ok (.getfield 211, 3) := by decide +kernel
theorem dX12_story_113 : decode cX12_story 113 = .ok (.ireturn, 1) := by decide +kernel
theorem dX12_story_114 : decode cX12_story 114 = .ok (.aload_n 0, 1) := by decide +kernel
theorem dX12_story_115 : decode cX12_story 115 = .ok (.getfield 17, 3) := by decide +kernel
theorem dX12_story_118 : decode cX12_story 118 = .ok (.iload_n 1, 1) := by decide +kernel
theorem dX12_story_119 : decode cX12_story 119 = .ok (.iconst 1, 1) := by decide +kernel
theorem dX12_story_120 : decode cX12_story 120 = .ok (.bastore, 1) := by decide +kernel
theorem dX12_story_121 : decode cX12_story 121 = .ok (.aload_n 0, 1) := by decide +kernel
theorem dX12_story_122 : decode cX12_story 122 = .ok (.getfield 21, 3) := by decide +kernel
theorem dX12_story_125 : decode cX12_story 125 = .ok (.iload_n 1, 1) := by decide +kernel
theorem dX12_story_126 : decode cX12_story 126 = .ok (.aload_n 0, 1) := by decide +kernel
theorem dX12_story_127 : decode cX12_story 127 = .ok (.getfield 226, 3) := by decide +kernel
theorem dX12_story_130 : decode cX12_story 130 = .ok (.iastore, 1) := by decide +kernel
theorem dX12_story_131 : decode cX12_story 131 = .ok (.iconst 0, 1) := by decide +kernel
theorem dX12_story_132 : decode cX12_story 132 = .ok (.istore_n 3, 1) := by decide +kernel
theorem dX12_story_133 : decode cX12_story 133 = .ok (.iload_n 3, 1) := by decide +kernel
theorem dX12_story_134 : decode cX12_story 134 = .ok (.aload_n 0, 1) := by decide +kernel
theorem dX12_story_135 : decode cX12_story 135 = .ok (.getfield 226, 3) := by decide +kernel
theorem dX12_story_138 : decode cX12_story 138 = .ok (.if_icmp .ge 26, 3) := by decide +kernel
theorem dX12_story_141 : decode cX12_story 141 = .ok (.aload_n 0, 1) := by decide +kernel
theorem dX12_story_142 : decode cX12_story 142 = .ok (.getfield 25, 3) := by decide +kernel
theorem dX12_story_145 : decode cX12_story 145 = .ok (.bipush 72, 2) := by decide +kernel
theorem dX12_story_147 : decode cX12_story 147 = .ok (.iload_n 1, 1) := by decide +kernel
theorem dX12_story_148 : decode cX12_story 148 = .ok (.imul, 1) := by decide +kernel
theorem dX12_story_149 : decode cX12_story 149 = .ok (.iload_n 3, 1) := by decide +kernel
theorem dX12_story_150 : decode cX12_story 150 = .ok (.iadd, 1) := by decide +kernel
theorem dX12_story_151 : decode cX12_story 151 = .ok (.aload_n 0, 1) := by decide +kernel
theorem dX12_story_152 : decode cX12_story 152 = .ok (.getfield 28, 3) := by decide +kernel
theorem dX12_story_155 : decode cX12_story 155 = .ok (.iload_n 3, 1) := by decide +kernel
theorem dX12_story_156 : decode cX12_story 156 = .ok (.iaload, 1) := by decide +kernel
theorem dX12_story_157 : decode cX12_story 157 = .ok (.iastore, 1) := by decide +kernel
theorem dX12_story_158 : decode cX12_story 158 = .ok (.iinc 3 1, 3) := by decide +kernel
theorem dX12_story_161 : decode cX12_story 161 = .ok (.goto (-28), 3) := by decide +kernel
theorem dX12_story_164 : decode cX12_story 164 = .ok (.iconst 0, 1) := by decide +kernel
theorem dX12_story_165 : decode cX12_story 165 = .ok (.istore_n 3, 1) := by decide +kernel
theorem dX12_story_166 : decode cX12_story 166 = .ok (.iload_n 3, 1) := by decide +kernel
theorem dX12_story_167 : decode cX12_story 167 = .ok (.iconst 4, 1) := by decide +kernel
theorem dX12_story_168 : decode cX12_story 168 = .ok (.if_icmp .ge 45, 3) := by decide +kernel
theorem dX12_story_171 : decode cX12_story 171 = .ok (.aload_n 0, 1) := by decide +kernel
theorem dX12_story_172 : decode cX12_story 172 = .ok (.getfield 103, 3) := by decide +kernel
theorem dX12_story_175 : decode cX12_story 175 = .ok (.iload_n 3, 1) := by decide +kernel
theorem dX12_story_176 : decode cX12_story 176 = .ok (.baload, 1) := by decide +kernel
theorem dX12_story_177 : decode cX12_story 177 = .ok (.ifCond .eq 30, 3) := by decide +kernel
theorem dX12_story_180 : decode cX12_story 180 = .ok (.aload_n 0, 1) := by decide +kernel
theorem dX12_story_181 : decode cX12_story 181 = .ok (.getfield 106, 3) := by decide +kernel
theorem dX12_story_184 : decode cX12_story 184 = .ok (.iload_n 3, 1) := by decide +kernel
theorem dX12_story_185 : decode cX12_story 185 = .ok (.iaload, 1) := by decide +kernel
theorem dX12_story_186 : decode cX12_story 186 = .ok (.iload_n 1, 1) := by decide +kernel
theorem dX12_story_187 : decode cX12_story 187 = .ok (.if_icmp .eq 6, 3) := by decide +kernel
theorem dX12_story_190 : decode cX12_story 190 = .ok (.goto 17, 3) := by decide +kernel
theorem dX12_story_193 : decode cX12_story 193 = .ok (.aload_n 0, 1) := by decide +kernel
theorem dX12_story_194 : decode cX12_story 194 = .ok (.getfield 112, 3) := by decide +kernel
theorem dX12_story_197 : decode cX12_story 197 = .ok (.iload_n 3, 1) := by decide +kernel
theorem dX12_story_198 : decode cX12_story 198 = .ok (.iconst 0, 1) := by decide +kernel
theorem dX12_story_199 : decode cX12_story 199 = .ok (.iastore, 1) := by decide +kernel
theorem dX12_story_200 : decode cX12_story 200 = .ok (.aload_n 0, 1) := by decide +kernel
theorem dX12_story_201 : decode cX12_story 201 = .ok (.getfield 115, 3) := by decide +kernel
theorem dX12_story_204 : decode cX12_story 204 = .ok (.iload_n 3, 1) := by decide +kernel
theorem dX12_story_205 : decode cX12_story 205 = .ok (.iconst 0, 1) := by decide +kernel
theorem dX12_story_206 : decode cX12_story 206 = .ok (.iastore, 1) := by decide +kernel
theorem dX12_story_207 : decode cX12_story 207 = .ok (.iinc 3 1, 3) := by decide +kernel
theorem dX12_story_210 : decode cX12_story 210 = .ok (.goto (-44), 3) := by decide +kernel
theorem dX12_story_213 : decode cX12_story 213 = .ok (.aload_n 0, 1) := by decide +kernel
theorem dX12_story_214 : decode cX12_story 214 = .ok (.getfield 226, 3) := by decide +kernel
theorem dX12_story_217 : decode cX12_story 217 = .ok (.ireturn, 1) := by decide +kernel
theorem dX12_turned_0 : decode cX12_turned 0 = .ok (.iload_n 1, 1) := by decide +kernel
theorem dX12_turned_1 : decode cX12_turned 1 = .ok (.bipush 10, 2) := by decide +kernel
theorem dX12_turned_3 : decode cX12_turned 3 = .ok (.if_icmp .ge 9, 3) := by decide +kernel
theorem dX12_turned_6 : decode cX12_turned 6 = .ok (.iload_n 0, 1) := by decide +kernel
theorem dX12_turned_7 : decode cX12_turned 7 = .ok (.iconst 1, 1) := by decide +kernel
theorem dX12_turned_8 : decode cX12_turned 8 = .ok (.iload_n 1, 1) := by decide +kernel
theorem dX12_turned_9 : decode cX12_turned 9 = .ok (.ishl, 1) := by decide +kernel
theorem dX12_turned_10 : decode cX12_turned 10 = .ok (.ior, 1) := by decide +kernel
theorem dX12_turned_11 : decode cX12_turned 11 = .ok (.ireturn, 1) := by decide +kernel
theorem dX12_turned_12 : decode cX12_turned 12 = .ok (.iload_n 1, 1) := by decide +kernel
theorem dX12_turned_13 : decode cX12_turned 13 = .ok (.bipush 20, 2) := by decide +kernel
theorem dX12_turned_15 : decode cX12_turned 15 = .ok (.if_icmp .ge 14, 3) := by decide +kernel
theorem dX12_turned_18 : decode cX12_turned 18 = .ok (.iload_n 0, 1) := by decide +kernel
theorem dX12_turned_19 : decode cX12_turned 19 = .ok (.iconst 1, 1) := by decide +kernel
theorem dX12_turned_20 : decode cX12_turned 20 = .ok (.iload_n 1, 1) := by decide +kernel
theorem dX12_turned_21 : decode cX12_turned 21 = .ok (.bipush 10, 2) := by decide +kernel
theorem dX12_turned_23 : decode cX12_turned 23 = .ok (.isub, 1) := by decide +kernel
theorem dX12_turned_24 : decode cX12_turned 24 = .ok (.ishl, 1) := by decide +kernel
theorem dX12_turned_25 : decode cX12_turned 25 = .ok (.iconst (-1), 1) := by decide +kernel
theorem dX12_turned_26 : decode cX12_turned 26 = .ok (.ixor, 1) := by decide +kernel
theorem dX12_turned_27 : decode cX12_turned 27 = .ok (.iand, 1) := by decide +kernel
theorem dX12_turned_28 : decode cX12_turned 28 = .ok (.ireturn, 1) := by decide +kernel
theorem dX12_turned_29 : decode cX12_turned 29 = .ok (.iload_n 1, 1) := by decide +kernel
theorem dX12_turned_30 : decode cX12_turned 30 = .ok (.bipush 20, 2) := by decide +kernel
theorem dX12_turned_32 : decode cX12_turned 32 = .ok (.if_icmp .ne 15, 3) := by decide +kernel
theorem dX12_turned_35 : decode cX12_turned 35 = .ok (.iload_n 0, 1) := by decide +kernel
theorem dX12_turned_36 : decode cX12_turned 36 = .ok (.iload_n 0, 1) := by decide +kernel
theorem dX12_turned_37 : decode cX12_turned 37 = .ok (.iconst 1, 1) := by decide +kernel
theorem dX12_turned_38 : decode cX12_turned 38 = .ok (.iadd, 1) := by decide +kernel
theorem dX12_turned_39 : decode cX12_turned 39 = .ok (.ior, 1) := by decide +kernel
theorem dX12_turned_40 : decode cX12_turned 40 = .ok (.sipush 1023, 3) := by decide +kernel
theorem dX12_turned_43 : decode cX12_turned 43 = .ok (.iand, 1) := by decide +kernel
theorem dX12_turned_44 : decode cX12_turned 44 = .ok (.goto 4, 3) := by decide +kernel
theorem dX12_turned_47 : decode cX12_turned 47 = .ok (.iload_n 0, 1) := by decide +kernel
theorem dX12_turned_48 : decode cX12_turned 48 = .ok (.ireturn, 1) := by decide +kernel
theorem dX12_openBehind_0 : decode cX12_openBehind 0 = .ok (.iload_n 3, 1) := by decide +kernel
theorem dX12_openBehind_1 : decode cX12_openBehind 1 = .ok (.istore 4, 2) := by decide +kernel
theorem dX12_openBehind_3 : decode cX12_openBehind 3 = .ok (.iconst 0, 1) := by decide +kernel
theorem dX12_openBehind_4 : decode cX12_openBehind 4 = .ok (.istore 5, 2) := by decide +kernel
theorem dX12_openBehind_6 : decode cX12_openBehind 6 = .ok (.iload 5, 2) := by decide +kernel
theorem dX12_openBehind_8 : decode cX12_openBehind 8 = .ok (.iload_n 2, 1) := by decide +kernel
theorem dX12_openBehind_9 : decode cX12_openBehind 9 = .ok (.if_icmp .ge 28, 3) := by decide +kernel
theorem dX12_openBehind_12 : decode cX12_openBehind 12 = .ok (.iload 4, 2) := by decide +kernel
theorem dX12_openBehind_14 : decode cX12_openBehind 14 = .ok (.aload_n 0, 1) := by decide +kernel
theorem dX12_openBehind_15 : decode cX12_openBehind 15 = .ok (.getfield 25, 3) := by decide +kernel
theorem dX12_openBehind_18 : decode cX12_openBehind 18 = .ok (.bipush 72, 2) := by decide +kernel
theorem dX12_openBehind_20 : decode cX12_openBehind 20 = .ok (.iload_n 1, 1) := by decide +kernel
theorem dX12_openBehind_21 : decode cX12_openBehind 21 = .ok (.imul, 1) := by decide +kernel
theorem dX12_openBehind_22 : decode cX12_openBehind 22 = .ok (.iload 5, 2) := by decide +kernel
theorem dX12_openBehind_24 : decode cX12_openBehind 24 = .ok (.iadd, 1) := by decide +kernel
theorem dX12_openBehind_25 : decode cX12_openBehind 25 = .ok (.iaload, 1) := by decide +kernel
theorem dX12_openBehind_26 : decode cX12_openBehind 26 = .ok (.invokestatic 275, 3) := by decide +kernel
theorem dX12_openBehind_29 : decode cX12_openBehind 29 = .ok (.istore 4, 2) := by decide +kernel
theorem dX12_openBehind_31 : decode cX12_openBehind 31 = .ok (.iinc 5 1, 3) := by decide +kernel
theorem dX12_openBehind_34 : decode cX12_openBehind 34 = .ok (.goto (-28), 3) := by decide +kernel
theorem dX12_openBehind_37 : decode cX12_openBehind 37 = .ok (.iload 4, 2) := by decide +kernel
theorem dX12_openBehind_39 : decode cX12_openBehind 39 = .ok (.ireturn, 1) := by decide +kernel
theorem dX12_open_0 : decode cX12_open 0 = .ok (.aload_n 0, 1) := by decide +kernel
theorem dX12_open_1 : decode cX12_open 1 = .ok (.iload_n 1, 1) := by decide +kernel
theorem dX12_open_2 : decode cX12_open 2 = .ok (.invokevirtual 279, 3) := by decide +kernel
theorem dX12_open_5 : decode cX12_open 5 = .ok (.ifCond .eq 41, 3) := by decide +kernel
theorem dX12_open_8 : decode cX12_open 8 = .ok (.iload_n 2, 1) := by decide +kernel
theorem dX12_open_9 : decode cX12_open 9 = .ok (.i2l, 1) := by decide +kernel
theorem dX12_open_10 : decode cX12_open 10 = .ok (.lconst 0, 1) := by decide +kernel
theorem dX12_open_11 : decode cX12_open 11 = .ok (.aload_n 0, 1) := by decide +kernel
theorem dX12_open_12 : decode cX12_open 12 = .ok (.getfield 21, 3) := by decide +kernel
theorem dX12_open_15 : decode cX12_open 15 = .ok (.iload_n 1, 1) := by decide +kernel
theorem dX12_open_16 : decode cX12_open 16 = .ok (.iaload, 1) := by decide +kernel
theorem dX12_open_17 : decode cX12_open 17 = .ok (.i2l, 1) := by decide +kernel
theorem dX12_open_18 : decode cX12_open 18 = .ok (.invokestatic 222, 3) := by decide +kernel
theorem dX12_open_21 : decode cX12_open 21 = .ok (.ifCond .eq 25, 3) := by decide +kernel
theorem dX12_open_24 : decode cX12_open 24 = .ok (.iload_n 3, 1) := by decide +kernel
theorem dX12_open_25 : decode cX12_open 25 = .ok (.i2l, 1) := by decide +kernel
theorem dX12_open_26 : decode cX12_open 26 = .ok (.lconst 0, 1) := by decide +kernel
theorem dX12_open_27 : decode cX12_open 27 = .ok (.ldc2_w 283, 3) := by decide +kernel
theorem dX12_open_30 : decode cX12_open 30 = .ok (.invokestatic 222, 3) := by decide +kernel
theorem dX12_open_33 : decode cX12_open 33 = .ok (.ifCond .eq 13, 3) := by decide +kernel
theorem dX12_open_36 : decode cX12_open 36 = .ok (.aload_n 0, 1) := by decide +kernel
theorem dX12_open_37 : decode cX12_open 37 = .ok (.iload_n 1, 1) := by decide +kernel
theorem dX12_open_38 : decode cX12_open 38 = .ok (.iload_n 2, 1) := by decide +kernel
theorem dX12_open_39 : decode cX12_open 39 = .ok (.iload_n 3, 1) := by decide +kernel
theorem dX12_open_40 : decode cX12_open 40 = .ok (.invokevirtual 285, 3) := by decide +kernel
theorem dX12_open_43 : decode cX12_open 43 = .ok (.goto 4, 3) := by decide +kernel
theorem dX12_open_46 : decode cX12_open 46 = .ok (.iconst (-1), 1) := by decide +kernel
theorem dX12_open_47 : decode cX12_open 47 = .ok (.ireturn, 1) := by decide +kernel
theorem dX12_mostOpen_0 : decode cX12_mostOpen 0 = .ok (.iconst 0, 1) := by decide +kernel
theorem dX12_mostOpen_1 : decode cX12_mostOpen 1 = .ok (.istore_n 2, 1) := by decide +kernel
theorem dX12_mostOpen_2 : decode cX12_mostOpen 2 = .ok (.iconst 0, 1) := by decide +kernel
theorem dX12_mostOpen_3 : decode cX12_mostOpen 3 = .ok (.istore_n 3, 1) := by decide +kernel
theorem dX12_mostOpen_4 : decode cX12_mostOpen 4 = .ok (.iload_n 3, 1) := by decide +kernel
theorem dX12_mostOpen_5 : decode cX12_mostOpen 5 = .ok (.aload_n 0, 1) := by decide +kernel
theorem dX12_mostOpen_6 : decode cX12_mostOpen 6 = .ok (.getfield 21, 3) := by decide +kernel
theorem dX12_mostOpen_9 : decode cX12_mostOpen 9 = .ok (.iload_n 1, 1) := by decide +kernel
theorem dX12_mostOpen_10 : decode cX12_mostOpen 10 = .ok (.iaload, 1) := by decide +kernel
theorem dX12_mostOpen_11 : decode cX12_mostOpen 11 = .ok (.if_icmp .gt 34, 3) := by decide +kernel
theorem dX12_mostOpen_14 : decode cX12_mostOpen 14 = .ok (.aload_n 0, 1) := by decide +kernel
theorem dX12_mostOpen_15 : decode cX12_mostOpen 15 = .ok (.iload_n 1, 1) := by decide +kernel
theorem dX12_mostOpen_16 : decode cX12_mostOpen 16 = .ok (.iload_n 3, 1) := by decide +kernel
theorem dX12_mostOpen_17 : decode cX12_mostOpen 17 = .ok (.iconst 0, 1) := by decide +kernel
theorem dX12_mostOpen_18 : decode cX12_mostOpen 18 = .ok (.invokevirtual 285, 3) := by decide +kernel
theorem dX12_mostOpen_21 : decode cX12_mostOpen 21 = .ok (.invokestatic 289, 3) := by decide +kernel
theorem dX12_mostOpen_24 : decode cX12_mostOpen 24 = .ok (.istore 4, 2) := by decide +kernel
theorem dX12_mostOpen_26 : decode cX12_mostOpen 26 = .ok (.iload 4, 2) := by decide +kernel
theorem dX12_mostOpen_28 : decode cX12_mostOpen 28 = .ok (.iload_n 2, 1) := by decide +kernel
theorem dX12_mostOpen_29 : decode cX12_mostOpen 29 = .ok (.if_icmp .le 8, 3) := by decide +kernel
theorem dX12_mostOpen_32 : decode cX12_mostOpen 32 = .ok (.iload 4, 2) := by decide +kernel
theorem dX12_mostOpen_34 : decode cX12_mostOpen 34 = .ok (.goto 4, 3) := by decide +kernel
theorem dX12_mostOpen_37 : decode cX12_mostOpen 37 = .ok (.iload_n 2, 1) := by decide +kernel
theorem dX12_mostOpen_38 : decode cX12_mostOpen 38 = .ok (.istore_n 2, 1) := by decide +kernel
theorem dX12_mostOpen_39 : decode cX12_mostOpen 39 = .ok (.iinc 3 1, 3) := by decide +kernel
theorem dX12_mostOpen_42 : decode cX12_mostOpen 42 = .ok (.goto (-38), 3) := by decide +kernel
theorem dX12_mostOpen_45 : decode cX12_mostOpen 45 = .ok (.iload_n 2, 1) := by decide +kernel
theorem dX12_mostOpen_46 : decode cX12_mostOpen 46 = .ok (.ireturn, 1) := by decide +kernel
theorem dX12_threadsOf_0 : decode cX12_threadsOf 0 = .ok (.iconst 0, 1) := by decide +kernel
theorem dX12_threadsOf_1 : decode cX12_threadsOf 1 = .ok (.istore_n 2, 1) := by decide +kernel
theorem dX12_threadsOf_2 : decode cX12_threadsOf 2 = .ok (.iconst 0, 1) := by decide +kernel
theorem dX12_threadsOf_3 : decode cX12_threadsOf 3 = .ok (.istore_n 3, 1) := by decide +kernel
theorem dX12_threadsOf_4 : decode cX12_threadsOf 4 = .ok (.iconst 0, 1) := by decide +kernel
theorem dX12_threadsOf_5 : decode cX12_threadsOf 5 = .ok (.istore 4, 2) := by decide +kernel
theorem dX12_threadsOf_7 : decode cX12_threadsOf 7 = .ok (.iload 4, 2) := by decide +kernel
theorem dX12_threadsOf_9 : decode cX12_threadsOf 9 = .ok (.aload_n 0, 1) := by decide +kernel
theorem dX12_threadsOf_10 : decode cX12_threadsOf 10 = .ok (.getfield 21, 3) := by decide +kernel
theorem dX12_threadsOf_13 : decode cX12_threadsOf 13 = .ok (.iload_n 1, 1) := by decide +kernel
theorem dX12_threadsOf_14 : decode cX12_threadsOf 14 = .ok (.iaload, 1) := by decide +kernel
theorem dX12_threadsOf_15 : decode cX12_threadsOf 15 = .ok (.if_icmp .ge 60, 3) := by decide +kernel
theorem dX12_threadsOf_18 : decode cX12_threadsOf 18 = .ok (.aload_n 0, 1) := by decide +kernel
theorem dX12_threadsOf_19 : decode cX12_threadsOf 19 = .ok (.getfield 25, 3) := by decide +kernel
theorem dX12_threadsOf_22 : decode cX12_threadsOf 22 = .ok (.bipush 72, 2) := by decide +kernel
theorem dX12_threadsOf_24 : decode cX12_threadsOf 24 = .ok (.iload_n 1, 1) := by decide +kernel
theorem dX12_threadsOf_25 : decode cX12_threadsOf 25 = .ok (.imul, 1) := by decide +kernel
theorem dX12_threadsOf_26 : decode cX12_threadsOf 26 = .ok (.iload 4, 2) := by decide +kernel
theorem dX12_threadsOf_28 : decode cX12_threadsOf 28 = .ok (.iadd, 1) := by decide +kernel
theorem dX12_threadsOf_29 : decode cX12_threadsOf 29 = .ok (.iaload, 1) := by decide +kernel
theorem dX12_threadsOf_30 : decode cX12_threadsOf 30 = .ok (.istore 5, 2) := by decide +kernel
theorem dX12_threadsOf_32 : decode cX12_threadsOf 32 = .ok (.iload_n 3, 1) := by decide +kernel
theorem dX12_threadsOf_33 : decode cX12_threadsOf 33 = .ok (.iload 5, 2) := by decide +kernel
theorem dX12_threadsOf_35 : decode cX12_threadsOf 35 = .ok (.invokestatic 275, 3) := by decide +kernel
theorem dX12_threadsOf_38 : decode cX12_threadsOf 38 = .ok (.istore 6, 2) := by decide +kernel
theorem dX12_threadsOf_40 : decode cX12_threadsOf 40 = .ok (.iload_n 2, 1) := by decide +kernel
theorem dX12_threadsOf_41 : decode cX12_threadsOf 41 = .ok (.iload 5, 2) := by decide +kernel
theorem dX12_threadsOf_43 : decode cX12_threadsOf 43 = .ok (.bipush 20, 2) := by decide +kernel
theorem dX12_threadsOf_45 : decode cX12_threadsOf 45 = .ok (.if_icmp .ge 13, 3) := by decide +kernel
theorem dX12_threadsOf_48 : decode cX12_threadsOf 48 = .ok (.iconst 1, 1) := by decide +kernel
theorem dX12_threadsOf_49 : decode cX12_threadsOf 49 = .ok (.iload 5, 2) := by decide +kernel
theorem dX12_threadsOf_51 : decode cX12_threadsOf 51 = .ok (.bipush 10, 2) := by decide +kernel
theorem dX12_threadsOf_53 : decode cX12_threadsOf 53 = .ok (.irem, 1) := by decide +kernel
theorem dX12_threadsOf_54 : decode cX12_threadsOf 54 = .ok (.ishl, 1) := by decide +kernel
theorem dX12_threadsOf_55 : decode cX12_threadsOf 55 = .ok (.goto 9, 3) := by decide +kernel
theorem dX12_threadsOf_58 : decode cX12_threadsOf 58 = .ok (.iload 6, 2) := by decide +kernel
theorem dX12_threadsOf_60 : decode cX12_threadsOf 60 = .ok (.iload_n 3, 1) := by decide +kernel
theorem dX12_threadsOf_61 : decode cX12_threadsOf 61 = .ok (.iconst (-1), 1) := by decide +kernel
theorem dX12_threadsOf_62 : decode cX12_threadsOf 62 = .ok (.ixor, 1) := by decide +kernel
theorem dX12_threadsOf_63 : decode cX12_threadsOf 63 = .ok (.iand, 1) := by decide +kernel
theorem dX12_threadsOf_64 : decode cX12_threadsOf 64 = .ok (.ior, 1) := by decide +kernel
theorem dX12_threadsOf_65 : decode cX12_threadsOf 65 = .ok (.istore_n 2, 1) := by decide +kernel
theorem dX12_threadsOf_66 : decode cX12_threadsOf 66 = .ok (.iload 6, 2) := by decide +kernel
theorem dX12_threadsOf_68 : decode cX12_threadsOf 68 = .ok (.istore_n 3, 1) := by decide +kernel
theorem dX12_threadsOf_69 : decode cX12_threadsOf 69 = .ok (.iinc 4 1, 3) := by decide +kernel
theorem dX12_threadsOf_72 : decode cX12_threadsOf 72 = .ok (.goto (-65), 3) := by decide +kernel
theorem dX12_threadsOf_75 : decode cX12_threadsOf 75 = .ok (.iload_n 2, 1) := by decide +kernel
theorem dX12_threadsOf_76 : decode cX12_threadsOf 76 = .ok (.ireturn, 1) := by decide +kernel
theorem dX12_knotOf_0 : decode cX12_knotOf 0 = .ok (.iconst 1, 1) := by decide +kernel
theorem dX12_knotOf_1 : decode cX12_knotOf 1 = .ok (.iload_n 1, 1) := by decide +kernel
theorem dX12_knotOf_2 : decode cX12_knotOf 2 = .ok (.ishl, 1) := by decide +kernel
theorem dX12_knotOf_3 : decode cX12_knotOf 3 = .ok (.istore_n 2, 1) := by decide +kernel
theorem dX12_knotOf_4 : decode cX12_knotOf 4 = .ok (.iconst 1, 1) := by decide +kernel
theorem dX12_knotOf_5 : decode cX12_knotOf 5 = .ok (.istore_n 3, 1) := by decide +kernel
theorem dX12_knotOf_6 : decode cX12_knotOf 6 = .ok (.iload_n 3, 1) := by decide +kernel
theorem dX12_knotOf_7 : decode cX12_knotOf 7 = .ok (.ifCond .eq 96, 3) := by decide +kernel
theorem dX12_knotOf_10 : decode cX12_knotOf 10 = .ok (.iconst 0, 1) := by decide +kernel
theorem dX12_knotOf_11 : decode cX12_knotOf 11 = .ok (.istore_n 3, 1) := by decide +kernel
theorem dX12_knotOf_12 : decode cX12_knotOf 12 = .ok (.iconst 0, 1) := by decide +kernel
theorem dX12_knotOf_13 : decode cX12_knotOf 13 = .ok (.istore 4, 2) := by decide +kernel
theorem dX12_knotOf_15 : decode cX12_knotOf 15 = .ok (.iload 4, 2) := by decide +kernel
theorem dX12_knotOf_17 : decode cX12_knotOf 17 = .ok (.bipush 6, 2) := by decide +kernel
theorem dX12_knotOf_19 : decode cX12_knotOf 19 = .ok (.if_icmp .ge 81, 3) := by decide +kernel
theorem dX12_knotOf_22 : decode cX12_knotOf 22 = .ok (.iconst 0, 1) := by decide +kernel
theorem dX12_knotOf_23 : decode cX12_knotOf 23 = .ok (.istore 5, 2) := by decide +kernel
theorem dX12_knotOf_25 : decode cX12_knotOf 25 = .ok (.iload 5, 2) := by decide +kernel
theorem dX12_knotOf_27 : decode cX12_knotOf 27 = .ok (.bipush 6, 2) := by decide +kernel
theorem dX12_knotOf_29 : decode cX12_knotOf 29 = .ok (.if_icmp .ge 65, 3) := by decide +kernel
theorem dX12_knotOf_32 : decode cX12_knotOf 32 = .ok (.iload_n 2, 1) := by decide +kernel
theorem dX12_knotOf_33 : decode cX12_knotOf 33 = .ok (.iload 4, 2) := by decide +kernel
theorem dX12_knotOf_35 : decode cX12_knotOf 35 = .ok (.invokestatic 194, 3) := by decide +kernel
theorem dX12_knotOf_38 : decode cX12_knotOf 38 = .ok (.ifCond .eq 50, 3) := by decide +kernel
theorem dX12_knotOf_41 : decode cX12_knotOf 41 = .ok (.iload_n 2, 1) := by decide +kernel
theorem dX12_knotOf_42 : decode cX12_knotOf 42 = .ok (.iload 5, 2) := by decide +kernel
theorem dX12_knotOf_44 : decode cX12_knotOf 44 = .ok (.invokestatic 194, 3) := by decide +kernel
theorem dX12_knotOf_47 : decode cX12_knotOf 47 = .ok (.ifCond .ne 41, 3) := by decide +kernel
theorem dX12_knotOf_50 : decode cX12_knotOf 50 = .ok (.aload_n 0, 1) := by decide +kernel
theorem dX12_knotOf_51 : decode cX12_knotOf 51 = .ok (.getfield 17, 3) := by decide +kernel
theorem dX12_knotOf_54 : decode cX12_knotOf 54 = .ok (.iload 5, 2) := by decide +kernel
theorem dX12_knotOf_56 : decode cX12_knotOf 56 = .ok (.baload, 1) := by decide +kernel
theorem dX12_knotOf_57 : decode cX12_knotOf 57 = .ok (.ifCond .eq 31, 3) := by decide +kernel
theorem dX12_knotOf_60 : decode cX12_knotOf 60 = .ok (.aload_n 0, 1) := by decide +kernel
theorem dX12_knotOf_61 : decode cX12_knotOf 61 = .ok (.iload 4, 2) := by decide +kernel
theorem dX12_knotOf_63 : decode cX12_knotOf 63 = .ok (.invokevirtual 292, 3) := by decide +kernel
theorem dX12_knotOf_66 : decode cX12_knotOf 66 = .ok (.aload_n 0, 1) := by decide +kernel
theorem dX12_knotOf_67 : decode cX12_knotOf 67 = .ok (.iload 5, 2) := by decide +kernel
theorem dX12_knotOf_69 : decode cX12_knotOf 69 = .ok (.invokevirtual 292, 3) := by decide +kernel
theorem dX12_knotOf_72 : decode cX12_knotOf 72 = .ok (.iand, 1) := by decide +kernel
theorem dX12_knotOf_73 : decode cX12_knotOf 73 = .ok (.ifCond .ne 6, 3) := by decide +kernel
theorem dX12_knotOf_76 : decode cX12_knotOf 76 = .ok (.goto 12, 3) := by decide +kernel
theorem dX12_knotOf_79 : decode cX12_knotOf 79 = .ok (.iload_n 2, 1) := by decide +kernel
theorem dX12_knotOf_80 : decode cX12_knotOf 80 = .ok (.iconst 1, 1) := by decide +kernel
theorem dX12_knotOf_81 : decode cX12_knotOf 81 = .ok (.iload 5, 2) := by decide +kernel
theorem dX12_knotOf_83 : decode cX12_knotOf 83 = .ok (.ishl, 1) := by decide +kernel
theorem dX12_knotOf_84 : decode cX12_knotOf 84 = .ok (.ior, 1) := by decide +kernel
theorem dX12_knotOf_85 : decode cX12_knotOf 85 = .ok (.istore_n 2, 1) := by decide +kernel
theorem dX12_knotOf_86 : decode cX12_knotOf 86 = .ok (.iconst 1, 1) := by decide +kernel
theorem dX12_knotOf_87 : decode cX12_knotOf 87 = .ok (.istore_n 3, 1) := by decide +kernel
theorem dX12_knotOf_88 : decode cX12_knotOf 88 = .ok (.iinc 5 1, 3) := by decide +kernel
theorem dX12_knotOf_91 : decode cX12_knotOf 91 = .ok (.goto (-66), 3) := by decide +kernel
theorem dX12_knotOf_94 : decode cX12_knotOf 94 = .ok (.iinc 4 1, 3) := by decide +kernel
theorem dX12_knotOf_97 : decode cX12_knotOf 97 = .ok (.goto (-82), 3) := by decide +kernel
theorem dX12_knotOf_100 : decode cX12_knotOf 100 = .ok (.goto (-94), 3) := by decide +kernel
theorem dX12_knotOf_103 : decode cX12_knotOf 103 = .ok (.iload_n 2, 1) := by decide +kernel
theorem dX12_knotOf_104 : decode cX12_knotOf 104 = .ok (.ireturn, 1) := by decide +kernel
theorem dX12_storyIs_0 : decode cX12_storyIs 0 = .ok (.aload_n 0, 1) := by decide +kernel
theorem dX12_storyIs_1 : decode cX12_storyIs 1 = .ok (.iload_n 1, 1) := by decide +kernel
theorem dX12_storyIs_2 : decode cX12_storyIs 2 = .ok (.invokevirtual 279, 3) := by decide +kernel
theorem dX12_storyIs_5 : decode cX12_storyIs 5 = .ok (.ifCond .ne 5, 3) := by decide +kernel
theorem dX12_storyIs_8 : decode cX12_storyIs 8 = .ok (.iconst (-1), 1) := by decide +kernel
theorem dX12_storyIs_9 : decode cX12_storyIs 9 = .ok (.ireturn, 1) := by decide +kernel
theorem dX12_storyIs_10 : decode cX12_storyIs 10 = .ok (.iload_n 2, 1) := by decide +kernel
theorem dX12_storyIs_11 : decode cX12_storyIs 11 = .ok (.tableswitch 71 0 4 #[33, 40, 53, 59, 65], 33) := by decide +kernel
theorem dX12_storyIs_44 : decode cX12_storyIs 44 = .ok (.aload_n 0, 1) := by decide +kernel
theorem dX12_storyIs_45 : decode cX12_storyIs 45 = .ok (.getfield 21, 3) := by decide +kernel
theorem dX12_storyIs_48 : decode cX12_storyIs 48 = .ok (.iload_n 1, 1) := by decide +kernel
theorem dX12_storyIs_49 : decode cX12_storyIs 49 = .ok (.iaload, 1) := by decide +kernel
theorem dX12_storyIs_50 : decode cX12_storyIs 50 = .ok (.ireturn, 1) := by decide +kernel
theorem dX12_storyIs_51 : decode cX12_storyIs 51 = .ok (.aload_n 0, 1) := by decide +kernel
theorem dX12_storyIs_52 : decode cX12_storyIs 52 = .ok (.iload_n 1, 1) := by decide +kernel
theorem dX12_storyIs_53 : decode cX12_storyIs 53 = .ok (.aload_n 0, 1) := by decide +kernel
theorem dX12_storyIs_54 : decode cX12_storyIs 54 = .ok (.getfield 21, 3) := by decide +kernel
theorem dX12_storyIs_57 : decode cX12_storyIs 57 = .ok (.iload_n 1, 1) := by decide +kernel
theorem dX12_storyIs_58 : decode cX12_storyIs 58 = .ok (.iaload, 1) := by decide +kernel
theorem dX12_storyIs_59 : decode cX12_storyIs 59 = .ok (.iconst 0, 1) := by decide +kernel
theorem dX12_storyIs_60 : decode cX12_storyIs 60 = .ok (.invokevirtual 285, 3) := by decide +kernel
theorem dX12_storyIs_63 : decode cX12_storyIs 63 = .ok (.ireturn, 1) := by decide +kernel
theorem dX12_storyIs_64 : decode cX12_storyIs 64 = .ok (.aload_n 0, 1) := by decide +kernel
theorem dX12_storyIs_65 : decode cX12_storyIs 65 = .ok (.iload_n 1, 1) := by decide +kernel
theorem dX12_storyIs_66 : decode cX12_storyIs 66 = .ok (.invokevirtual 295, 3) := by decide +kernel
theorem dX12_storyIs_69 : decode cX12_storyIs 69 = .ok (.ireturn, 1) := by decide +kernel
theorem dX12_storyIs_70 : decode cX12_storyIs 70 = .ok (.aload_n 0, 1) := by decide +kernel
theorem dX12_storyIs_71 : decode cX12_storyIs 71 = .ok (.iload_n 1, 1) := by decide +kernel
theorem dX12_storyIs_72 : decode cX12_storyIs 72 = .ok (.invokevirtual 292, 3) := by decide +kernel
theorem dX12_storyIs_75 : decode cX12_storyIs 75 = .ok (.ireturn, 1) := by decide +kernel
theorem dX12_storyIs_76 : decode cX12_storyIs 76 = .ok (.aload_n 0, 1) := by decide +kernel
theorem dX12_storyIs_77 : decode cX12_storyIs 77 = .ok (.iload_n 1, 1) := by decide +kernel
theorem dX12_storyIs_78 : decode cX12_storyIs 78 = .ok (.invokevirtual 298, 3) := by decide +kernel
theorem dX12_storyIs_81 : decode cX12_storyIs 81 = .ok (.ireturn, 1) := by decide +kernel
theorem dX12_storyIs_82 : decode cX12_storyIs 82 = .ok (.iconst (-1), 1) := by decide +kernel
theorem dX12_storyIs_83 : decode cX12_storyIs 83 = .ok (.ireturn, 1) := by decide +kernel
theorem dX12_knots_0 : decode cX12_knots 0 = .ok (.iconst 0, 1) := by decide +kernel
theorem dX12_knots_1 : decode cX12_knots 1 = .ok (.istore_n 1, 1) := by decide +kernel
theorem dX12_knots_2 : decode cX12_knots 2 = .ok (.iconst 0, 1) := by decide +kernel
theorem dX12_knots_3 : decode cX12_knots 3 = .ok (.istore_n 2, 1) := by decide +kernel
theorem dX12_knots_4 : decode cX12_knots 4 = .ok (.iload_n 2, 1) := by decide +kernel
theorem dX12_knots_5 : decode cX12_knots 5 = .ok (.bipush 6, 2) := by decide +kernel
theorem dX12_knots_7 : decode cX12_knots 7 = .ok (.if_icmp .ge 38, 3) := by decide +kernel
theorem dX12_knots_10 : decode cX12_knots 10 = .ok (.iload_n 1, 1) := by decide +kernel
theorem dX12_knots_11 : decode cX12_knots 11 = .ok (.aload_n 0, 1) := by decide +kernel
theorem dX12_knots_12 : decode cX12_knots 12 = .ok (.getfield 17, 3) := by decide +kernel
theorem dX12_knots_15 : decode cX12_knots 15 = .ok (.iload_n 2, 1) := by decide +kernel
theorem dX12_knots_16 : decode cX12_knots 16 = .ok (.baload, 1) := by decide +kernel
theorem dX12_knots_17 : decode cX12_knots 17 = .ok (.ifCond .eq 19, 3) := by decide +kernel
theorem dX12_knots_20 : decode cX12_knots 20 = .ok (.aload_n 0, 1) := by decide +kernel
theorem dX12_knots_21 : decode cX12_knots 21 = .ok (.iload_n 2, 1) := by decide +kernel
theorem dX12_knots_22 : decode cX12_knots 22 = .ok (.invokevirtual 298, 3) := by decide +kernel
theorem dX12_knots_25 : decode cX12_knots 25 = .ok (.invokestatic 301, 3) := by decide +kernel
theorem dX12_knots_28 : decode cX12_knots 28 = .ok (.iload_n 2, 1) := by decide +kernel
theorem dX12_knots_29 : decode cX12_knots 29 = .ok (.if_icmp .ne 7, 3) := by decide +kernel
theorem dX12_knots_32 : decode cX12_knots 32 = .ok (.iconst 1, 1) := by decide +kernel
theorem dX12_knots_33 : decode cX12_knots 33 = .ok (.goto 4, 3) := by decide +kernel
theorem dX12_knots_36 : decode cX12_knots 36 = .ok (.iconst 0, 1) := by decide +kernel
theorem dX12_knots_37 : decode cX12_knots 37 = .ok (.iadd, 1) := by decide +kernel
theorem dX12_knots_38 : decode cX12_knots 38 = .ok (.istore_n 1, 1) := by decide +kernel
theorem dX12_knots_39 : decode cX12_knots 39 = .ok (.iinc 2 1, 3) := by decide +kernel
theorem dX12_knots_42 : decode cX12_knots 42 = .ok (.goto (-38), 3) := by decide +kernel
theorem dX12_knots_45 : decode cX12_knots 45 = .ok (.iload_n 1, 1) := by decide +kernel
theorem dX12_knots_46 : decode cX12_knots 46 = .ok (.ireturn, 1) := by decide +kernel
theorem dX12_emit_0 : decode cX12_emit 0 = .ok (.aload_n 0, 1) := by decide +kernel
theorem dX12_emit_1 : decode cX12_emit 1 = .ok (.invokevirtual 233, 3) := by decide +kernel
theorem dX12_emit_4 : decode cX12_emit 4 = .ok (.ifCond .ne 4, 3) := by decide +kernel
theorem dX12_emit_7 : decode cX12_emit 7 = .ok (.return_, 1) := by decide +kernel
theorem dX12_emit_8 : decode cX12_emit 8 = .ok (.aload_n 0, 1) := by decide +kernel
theorem dX12_emit_9 : decode cX12_emit 9 = .ok (.getfield 73, 3) := by decide +kernel
theorem dX12_emit_12 : decode cX12_emit 12 = .ok (.aload_n 0, 1) := by decide +kernel
theorem dX12_emit_13 : decode cX12_emit 13 = .ok (.getfield 304, 3) := by decide +kernel
theorem dX12_emit_16 : decode cX12_emit 16 = .ok (.iload_n 1, 1) := by decide +kernel
theorem dX12_emit_17 : decode cX12_emit 17 = .ok (.iastore, 1) := by decide +kernel
theorem dX12_emit_18 : decode cX12_emit 18 = .ok (.aload_n 0, 1) := by decide +kernel
theorem dX12_emit_19 : decode cX12_emit 19 = .ok (.getfield 76, 3) := by decide +kernel
theorem dX12_emit_22 : decode cX12_emit 22 = .ok (.aload_n 0, 1) := by decide +kernel
theorem dX12_emit_23 : decode cX12_emit 23 = .ok (.getfield 304, 3) := by decide +kernel
theorem dX12_emit_26 : decode cX12_emit 26 = .ok (.iload_n 2, 1) := by decide +kernel
theorem dX12_emit_27 : decode cX12_emit 27 = .ok (.iastore, 1) := by decide +kernel
theorem dX12_emit_28 : decode cX12_emit 28 = .ok (.aload_n 0, 1) := by decide +kernel
theorem dX12_emit_29 : decode cX12_emit 29 = .ok (.dup, 1) := by decide +kernel
theorem dX12_emit_30 : decode cX12_emit 30 = .ok (.getfield 304, 3) := by decide +kernel
theorem dX12_emit_33 : decode cX12_emit 33 = .ok (.iconst 1, 1) := by decide +kernel
theorem dX12_emit_34 : decode cX12_emit 34 = .ok (.iadd, 1) := by decide +kernel
theorem dX12_emit_35 : decode cX12_emit 35 = .ok (.putfield 304, 3) := by decide +kernel
theorem dX12_emit_38 : decode cX12_emit 38 = .ok (.return_, 1) := by decide +kernel
theorem dX12_top_0 : decode cX12_top 0 = .ok (.aload_n 0, 1) := by decide +kernel
theorem dX12_top_1 : decode cX12_top 1 = .ok (.getfield 307, 3) := by decide +kernel
theorem dX12_top_4 : decode cX12_top 4 = .ok (.ifCond .le 17, 3) := by decide +kernel
theorem dX12_top_7 : decode cX12_top 7 = .ok (.aload_n 0, 1) := by decide +kernel
theorem dX12_top_8 : decode cX12_top 8 = .ok (.getfield 79, 3) := by decide +kernel
theorem dX12_top_11 : decode cX12_top 11 = .ok (.aload_n 0, 1) := by decide +kernel
theorem dX12_top_12 : decode cX12_top 12 = .ok (.getfield 307, 3) := by decide +kernel
theorem dX12_top_15 : decode cX12_top 15 = .ok (.iconst 1, 1) := by decide +kernel
theorem dX12_top_16 : decode cX12_top 16 = .ok (.isub, 1) := by decide +kernel
theorem dX12_top_17 : decode cX12_top 17 = .ok (.iaload, 1) := by decide +kernel
theorem dX12_top_18 : decode cX12_top 18 = .ok (.goto 4, 3) := by decide +kernel
theorem dX12_top_21 : decode cX12_top 21 = .ok (.iconst 0, 1) := by decide +kernel
theorem dX12_top_22 : decode cX12_top 22 = .ok (.ireturn, 1) := by decide +kernel
theorem dX12_puts_0 : decode cX12_puts 0 = .ok (.aload_n 0, 1) := by decide +kernel
theorem dX12_puts_1 : decode cX12_puts 1 = .ok (.getfield 79, 3) := by decide +kernel
theorem dX12_puts_4 : decode cX12_puts 4 = .ok (.aload_n 0, 1) := by decide +kernel
theorem dX12_puts_5 : decode cX12_puts 5 = .ok (.getfield 307, 3) := by decide +kernel
theorem dX12_puts_8 : decode cX12_puts 8 = .ok (.iload_n 1, 1) := by decide +kernel
theorem dX12_puts_9 : decode cX12_puts 9 = .ok (.iastore, 1) := by decide +kernel
theorem dX12_puts_10 : decode cX12_puts 10 = .ok (.aload_n 0, 1) := by decide +kernel
theorem dX12_puts_11 : decode cX12_puts 11 = .ok (.dup, 1) := by decide +kernel
theorem dX12_puts_12 : decode cX12_puts 12 = .ok (.getfield 307, 3) := by decide +kernel
theorem dX12_puts_15 : decode cX12_puts 15 = .ok (.iconst 1, 1) := by decide +kernel
theorem dX12_puts_16 : decode cX12_puts 16 = .ok (.iadd, 1) := by decide +kernel
theorem dX12_puts_17 : decode cX12_puts 17 = .ok (.putfield 307, 3) := by decide +kernel
theorem dX12_puts_20 : decode cX12_puts 20 = .ok (.aload_n 0, 1) := by decide +kernel
theorem dX12_puts_21 : decode cX12_puts 21 = .ok (.dup, 1) := by decide +kernel
theorem dX12_puts_22 : decode cX12_puts 22 = .ok (.getfield 205, 3) := by decide +kernel
theorem dX12_puts_25 : decode cX12_puts 25 = .ok (.iconst 1, 1) := by decide +kernel
theorem dX12_puts_26 : decode cX12_puts 26 = .ok (.iadd, 1) := by decide +kernel
theorem dX12_puts_27 : decode cX12_puts 27 = .ok (.putfield 205, 3) := by decide +kernel
theorem dX12_puts_30 : decode cX12_puts 30 = .ok (.return_, 1) := by decide +kernel
theorem dX12_opens_0 : decode cX12_opens 0 = .ok (.aload_n 0, 1) := by decide +kernel
theorem dX12_opens_1 : decode cX12_opens 1 = .ok (.getfield 310, 3) := by decide +kernel
theorem dX12_opens_4 : decode cX12_opens 4 = .ok (.bipush 6, 2) := by decide +kernel
theorem dX12_opens_6 : decode cX12_opens 6 = .ok (.if_icmp .ne 12, 3) := by decide +kernel
theorem dX12_opens_9 : decode cX12_opens 9 = .ok (.aload_n 0, 1) := by decide +kernel
theorem dX12_opens_10 : decode cX12_opens 10 = .ok (.iconst 5, 1) := by decide +kernel
theorem dX12_opens_11 : decode cX12_opens 11 = .ok (.aload_n 0, 1) := by decide +kernel
theorem dX12_opens_12 : decode cX12_opens 12 = .ok (.getfield 205, 3) := by decide +kernel
theorem dX12_opens_15 : decode cX12_opens 15 = .ok (.invokevirtual 229, 3) := by decide +kernel
theorem dX12_opens_18 : decode cX12_opens 18 = .ok (.aload_n 0, 1) := by decide +kernel
theorem dX12_opens_19 : decode cX12_opens 19 = .ok (.dup, 1) := by decide +kernel
theorem dX12_opens_20 : decode cX12_opens 20 = .ok (.getfield 310, 3) := by decide +kernel
theorem dX12_opens_23 : decode cX12_opens 23 = .ok (.iconst 1, 1) := by decide +kernel
theorem dX12_opens_24 : decode cX12_opens 24 = .ok (.iadd, 1) := by decide +kernel
theorem dX12_opens_25 : decode cX12_opens 25 = .ok (.putfield 310, 3) := by decide +kernel
theorem dX12_opens_28 : decode cX12_opens 28 = .ok (.aload_n 0, 1) := by decide +kernel
theorem dX12_opens_29 : decode cX12_opens 29 = .ok (.aload_n 0, 1) := by decide +kernel
theorem dX12_opens_30 : decode cX12_opens 30 = .ok (.invokevirtual 214, 3) := by decide +kernel
theorem dX12_opens_33 : decode cX12_opens 33 = .ok (.invokevirtual 313, 3) := by decide +kernel
theorem dX12_opens_36 : decode cX12_opens 36 = .ok (.return_, 1) := by decide +kernel
theorem dX12_reads_0 : decode cX12_reads 0 = .ok (.aload_n 0, 1) := by decide +kernel
theorem dX12_reads_1 : decode cX12_reads 1 = .ok (.getfield 205, 3) := by decide +kernel
theorem dX12_reads_4 : decode cX12_reads 4 = .ok (.istore_n 1, 1) := by decide +kernel
theorem dX12_reads_5 : decode cX12_reads 5 = .ok (.iconst 0, 1) := by decide +kernel
theorem dX12_reads_6 : decode cX12_reads 6 = .ok (.istore_n 2, 1) := by decide +kernel
theorem dX12_reads_7 : decode cX12_reads 7 = .ok (.aload_n 0, 1) := by decide +kernel
theorem dX12_reads_8 : decode cX12_reads 8 = .ok (.invokevirtual 233, 3) := by decide +kernel
theorem dX12_reads_11 : decode cX12_reads 11 = .ok (.ifCond .eq 55, 3) := by decide +kernel
theorem dX12_reads_14 : decode cX12_reads 14 = .ok (.aload_n 0, 1) := by decide +kernel
theorem dX12_reads_15 : decode cX12_reads 15 = .ok (.invokevirtual 316, 3) := by decide +kernel
theorem dX12_reads_18 : decode cX12_reads 18 = .ok (.ifCond .eq 48, 3) := by decide +kernel
theorem dX12_reads_21 : decode cX12_reads 21 = .ok (.aload_n 0, 1) := by decide +kernel
theorem dX12_reads_22 : decode cX12_reads 22 = .ok (.getfield 205, 3) := by decide +kernel
theorem dX12_reads_25 : decode cX12_reads 25 = .ok (.iload_n 1, 1) := by decide +kernel
theorem dX12_reads_26 : decode cX12_reads 26 = .ok (.iconst 5, 1) := by decide +kernel
theorem dX12_reads_27 : decode cX12_reads 27 = .ok (.iadd, 1) := by decide +kernel
theorem dX12_reads_28 : decode cX12_reads 28 = .ok (.if_icmp .ne 12, 3) := by decide +kernel
theorem dX12_reads_31 : decode cX12_reads 31 = .ok (.aload_n 0, 1) := by decide +kernel
theorem dX12_reads_32 : decode cX12_reads 32 = .ok (.iconst 2, 1) := by decide +kernel
theorem dX12_reads_33 : decode cX12_reads 33 = .ok (.aload_n 0, 1) := by decide +kernel
theorem dX12_reads_34 : decode cX12_reads 34 = .ok (.getfield 205, 3) := by decide +kernel
theorem dX12_reads_37 : decode cX12_reads 37 = .ok (.invokevirtual 229, 3) := by decide +kernel
theorem dX12_reads_40 : decode cX12_reads 40 = .ok (.bipush 10, 2) := by decide +kernel
theorem dX12_reads_42 : decode cX12_reads 42 = .ok (.iload_n 2, 1) := by decide +kernel
theorem dX12_reads_43 : decode cX12_reads 43 = .ok (.imul, 1) := by decide +kernel
theorem dX12_reads_44 : decode cX12_reads 44 = .ok (.aload_n 0, 1) := by decide +kernel
theorem dX12_reads_45 : decode cX12_reads 45 = .ok (.invokevirtual 214, 3) := by decide +kernel
theorem dX12_reads_48 : decode cX12_reads 48 = .ok (.iadd, 1) := by decide +kernel
theorem dX12_reads_49 : decode cX12_reads 49 = .ok (.bipush 48, 2) := by decide +kernel
theorem dX12_reads_51 : decode cX12_reads 51 = .ok (.isub, 1) := by decide +kernel
theorem dX12_reads_52 : decode cX12_reads 52 = .ok (.istore_n 2, 1) := by decide +kernel
theorem dX12_reads_53 : decode cX12_reads 53 = .ok (.aload_n 0, 1) := by decide +kernel
theorem dX12_reads_54 : decode cX12_reads 54 = .ok (.dup, 1) := by decide +kernel
theorem dX12_reads_55 : decode cX12_reads 55 = .ok (.getfield 205, 3) := by decide +kernel
theorem dX12_reads_58 : decode cX12_reads 58 = .ok (.iconst 1, 1) := by decide +kernel
theorem dX12_reads_59 : decode cX12_reads 59 = .ok (.iadd, 1) := by decide +kernel
theorem dX12_reads_60 : decode cX12_reads 60 = .ok (.putfield 205, 3) := by decide +kernel
theorem dX12_reads_63 : decode cX12_reads 63 = .ok (.goto (-56), 3) := by decide +kernel
theorem dX12_reads_66 : decode cX12_reads 66 = .ok (.iload_n 2, 1) := by decide +kernel
theorem dX12_reads_67 : decode cX12_reads 67 = .ok (.ireturn, 1) := by decide +kernel
theorem dX12_isTimes_0 : decode cX12_isTimes 0 = .ok (.iload_n 0, 1) := by decide +kernel
theorem dX12_isTimes_1 : decode cX12_isTimes 1 = .ok (.bipush 42, 2) := by decide +kernel
theorem dX12_isTimes_3 : decode cX12_isTimes 3 = .ok (.if_icmp .eq 15, 3) := by decide +kernel
theorem dX12_isTimes_6 : decode cX12_isTimes 6 = .ok (.iload_n 0, 1) := by decide +kernel
theorem dX12_isTimes_7 : decode cX12_isTimes 7 = .ok (.bipush 47, 2) := by decide +kernel
theorem dX12_isTimes_9 : decode cX12_isTimes 9 = .ok (.if_icmp .eq 9, 3) := by decide +kernel
theorem dX12_isTimes_12 : decode cX12_isTimes 12 = .ok (.iload_n 0, 1) := by decide +kernel
theorem dX12_isTimes_13 : decode cX12_isTimes 13 = .ok (.bipush 37, 2) := by decide +kernel
theorem dX12_isTimes_15 : decode cX12_isTimes 15 = .ok (.if_icmp .ne 7, 3) := by decide +kernel
theorem dX12_isTimes_18 : decode cX12_isTimes 18 = .ok (.iconst 1, 1) := by decide +kernel
theorem dX12_isTimes_19 : decode cX12_isTimes 19 = .ok (.goto 4, 3) := by decide +kernel
theorem dX12_isTimes_22 : decode cX12_isTimes 22 = .ok (.iconst 0, 1) := by decide +kernel
theorem dX12_isTimes_23 : decode cX12_isTimes 23 = .ok (.ireturn, 1) := by decide +kernel
theorem dX12_isPlus_0 : decode cX12_isPlus 0 = .ok (.iload_n 0, 1) := by decide +kernel
theorem dX12_isPlus_1 : decode cX12_isPlus 1 = .ok (.bipush 43, 2) := by decide +kernel
theorem dX12_isPlus_3 : decode cX12_isPlus 3 = .ok (.if_icmp .eq 9, 3) := by decide +kernel
theorem dX12_isPlus_6 : decode cX12_isPlus 6 = .ok (.iload_n 0, 1) := by decide +kernel
theorem dX12_isPlus_7 : decode cX12_isPlus 7 = .ok (.bipush 45, 2) := by decide +kernel
theorem dX12_isPlus_9 : decode cX12_isPlus 9 = .ok (.if_icmp .ne 7, 3) := by decide +kernel
theorem dX12_isPlus_12 : decode cX12_isPlus 12 = .ok (.iconst 1, 1) := by decide +kernel
theorem dX12_isPlus_13 : decode cX12_isPlus 13 = .ok (.goto 4, 3) := by decide +kernel
theorem dX12_isPlus_16 : decode cX12_isPlus 16 = .ok (.iconst 0, 1) := by decide +kernel
theorem dX12_isPlus_17 : decode cX12_isPlus 17 = .ok (.ireturn, 1) := by decide +kernel
theorem dX12_isCompared_0 : decode cX12_isCompared 0 = .ok (.iload_n 0, 1) := by decide +kernel
theorem dX12_isCompared_1 : decode cX12_isCompared 1 = .ok (.bipush 60, 2) := by decide +kernel
theorem dX12_isCompared_3 : decode cX12_isCompared 3 = .ok (.if_icmp .eq 15, 3) := by decide +kernel
theorem dX12_isCompared_6 : decode cX12_isCompared 6 = .ok (.iload_n 0, 1) := by decide +kernel
theorem dX12_isCompared_7 : decode cX12_isCompared 7 = .ok (.bipush 62, 2) := by decide +kernel
theorem dX12_isCompared_9 : decode cX12_isCompared 9 = .ok (.if_icmp .eq 9, 3) := by decide +kernel
theorem dX12_isCompared_12 : decode cX12_isCompared 12 = .ok (.iload_n 0, 1) := by decide +kernel
theorem dX12_isCompared_13 : decode cX12_isCompared 13 = .ok (.bipush 61, 2) := by decide +kernel
theorem dX12_isCompared_15 : decode cX12_isCompared 15 = .ok (.if_icmp .ne 7, 3) := by decide +kernel
theorem dX12_isCompared_18 : decode cX12_isCompared 18 = .ok (.iconst 1, 1) := by decide +kernel
theorem dX12_isCompared_19 : decode cX12_isCompared 19 = .ok (.goto 4, 3) := by decide +kernel
theorem dX12_isCompared_22 : decode cX12_isCompared 22 = .ok (.iconst 0, 1) := by decide +kernel
theorem dX12_isCompared_23 : decode cX12_isCompared 23 = .ok (.ireturn, 1) := by decide +kernel
theorem dX12_isValue_0 : decode cX12_isValue 0 = .ok (.iload_n 0, 1) := by decide +kernel
theorem dX12_isValue_1 : decode cX12_isValue 1 = .ok (.bipush 107, 2) := by decide +kernel
theorem dX12_isValue_3 : decode cX12_isValue 3 = .ok (.if_icmp .eq 69, 3) := by decide +kernel
theorem dX12_isValue_6 : decode cX12_isValue 6 = .ok (.iload_n 0, 1) := by decide +kernel
theorem dX12_isValue_7 : decode cX12_isValue 7 = .ok (.bipush 117, 2) := by decide +kernel
theorem dX12_isValue_9 : decode cX12_isValue 9 = .ok (.if_icmp .eq 63, 3) := by decide +kernel
theorem dX12_isValue_12 : decode cX12_isValue 12 = .ok (.iload_n 0, 1) := by decide +kernel
theorem dX12_isValue_13 : decode cX12_isValue 13 = .ok (.bipush 109, 2) := by decide +kernel
theorem dX12_isValue_15 : decode cX12_isValue 15 = .ok (.if_icmp .eq 57, 3) := by decide +kernel
theorem dX12_isValue_18 : decode cX12_isValue 18 = .ok (.iload_n 0, 1) := by decide +kernel
theorem dX12_isValue_19 : decode cX12_isValue 19 = .ok (.bipush 111, 2) := by decide +kernel
theorem dX12_isValue_21 : decode cX12_isValue 21 = .ok (.if_icmp .eq 51, 3) := by decide +kernel
theorem dX12_isValue_24 : decode cX12_isValue 24 = .ok (.iload_n 0, 1) := by decide +kernel
theorem dX12_isValue_25 : decode cX12_isValue 25 = .ok (.bipush 108, 2) := by decide +kernel
theorem dX12_isValue_27 : decode cX12_isValue 27 = .ok (.if_icmp .eq 45, 3) := by decide +kernel
theorem dX12_isValue_30 : decode cX12_isValue 30 = .ok (.iload_n 0, 1) := by decide +kernel
theorem dX12_isValue_31 : decode cX12_isValue 31 = .ok (.bipush 97, 2) := by decide +kernel
theorem dX12_isValue_33 : decode cX12_isValue 33 = .ok (.if_icmp .eq 39, 3) := by decide +kernel
theorem dX12_isValue_36 : decode cX12_isValue 36 = .ok (.iload_n 0, 1) := by decide +kernel
theorem dX12_isValue_37 : decode cX12_isValue 37 = .ok (.bipush 114, 2) := by decide +kernel
theorem dX12_isValue_39 : decode cX12_isValue 39 = .ok (.if_icmp .eq 33, 3) := by decide +kernel
theorem dX12_isValue_42 : decode cX12_isValue 42 = .ok (.iload_n 0, 1) := by decide +kernel
theorem dX12_isValue_43 : decode cX12_isValue 43 = .ok (.bipush 101, 2) := by decide +kernel
theorem dX12_isValue_45 : decode cX12_isValue 45 = .ok (.if_icmp .eq 27, 3) := by decide +kernel
theorem dX12_isValue_48 : decode cX12_isValue 48 = .ok (.iload_n 0, 1) := by decide +kernel
theorem dX12_isValue_49 : decode cX12_isValue 49 = .ok (.bipush 99, 2) := by decide +kernel
theorem dX12_isValue_51 : decode cX12_isValue 51 = .ok (.if_icmp .eq 21, 3) := by decide +kernel
theorem dX12_isValue_54 : decode cX12_isValue 54 = .ok (.iload_n 0, 1) := by decide +kernel
theorem dX12_isValue_55 : decode cX12_isValue 55 = .ok (.bipush 122, 2) := by decide +kernel
theorem dX12_isValue_57 : decode cX12_isValue 57 = .ok (.if_icmp .eq 15, 3) := by decide +kernel
theorem dX12_isValue_60 : decode cX12_isValue 60 = .ok (.iload_n 0, 1) := by decide +kernel
theorem dX12_isValue_61 : decode cX12_isValue 61 = .ok (.bipush 104, 2) := by decide +kernel
theorem dX12_isValue_63 : decode cX12_isValue 63 = .ok (.if_icmp .eq 9, 3) := by decide +kernel
theorem dX12_isValue_66 : decode cX12_isValue 66 = .ok (.iload_n 0, 1) := by decide +kernel
theorem dX12_isValue_67 : decode cX12_isValue 67 = .ok (.bipush 118, 2) := by decide +kernel
theorem dX12_isValue_69 : decode cX12_isValue 69 = .ok (.if_icmp .ne 7, 3) := by decide +kernel
theorem dX12_isValue_72 : decode cX12_isValue 72 = .ok (.iconst 1, 1) := by decide +kernel
theorem dX12_isValue_73 : decode cX12_isValue 73 = .ok (.goto 4, 3) := by decide +kernel
theorem dX12_isValue_76 : decode cX12_isValue 76 = .ok (.iconst 0, 1) := by decide +kernel
theorem dX12_isValue_77 : decode cX12_isValue 77 = .ok (.ireturn, 1) := by decide +kernel
theorem dX12_sums_0 : decode cX12_sums 0 = .ok (.aload_n 0, 1) := by decide +kernel
theorem dX12_sums_1 : decode cX12_sums 1 = .ok (.invokevirtual 319, 3) := by decide +kernel
theorem dX12_sums_4 : decode cX12_sums 4 = .ok (.invokestatic 322, 3) := by decide +kernel
theorem dX12_sums_7 : decode cX12_sums 7 = .ok (.ifCond .ne 17, 3) := by decide +kernel
theorem dX12_sums_10 : decode cX12_sums 10 = .ok (.iload_n 1, 1) := by decide +kernel
theorem dX12_sums_11 : decode cX12_sums 11 = .ok (.ifCond .eq 35, 3) := by decide +kernel
theorem dX12_sums_14 : decode cX12_sums 14 = .ok (.aload_n 0, 1) := by decide +kernel
theorem dX12_sums_15 : decode cX12_sums 15 = .ok (.invokevirtual 319, 3) := by decide +kernel
theorem dX12_sums_18 : decode cX12_sums 18 = .ok (.invokestatic 325, 3) := by decide +kernel
theorem dX12_sums_21 : decode cX12_sums 21 = .ok (.ifCond .eq 25, 3) := by decide +kernel
theorem dX12_sums_24 : decode cX12_sums 24 = .ok (.aload_n 0, 1) := by decide +kernel
theorem dX12_sums_25 : decode cX12_sums 25 = .ok (.aload_n 0, 1) := by decide +kernel
theorem dX12_sums_26 : decode cX12_sums 26 = .ok (.invokevirtual 319, 3) := by decide +kernel
theorem dX12_sums_29 : decode cX12_sums 29 = .ok (.iconst 0, 1) := by decide +kernel
theorem dX12_sums_30 : decode cX12_sums 30 = .ok (.invokevirtual 328, 3) := by decide +kernel
theorem dX12_sums_33 : decode cX12_sums 33 = .ok (.aload_n 0, 1) := by decide +kernel
theorem dX12_sums_34 : decode cX12_sums 34 = .ok (.dup, 1) := by decide +kernel
theorem dX12_sums_35 : decode cX12_sums 35 = .ok (.getfield 307, 3) := by decide +kernel
theorem dX12_sums_38 : decode cX12_sums 38 = .ok (.iconst 1, 1) := by decide +kernel
theorem dX12_sums_39 : decode cX12_sums 39 = .ok (.isub, 1) := by decide +kernel
theorem dX12_sums_40 : decode cX12_sums 40 = .ok (.putfield 307, 3) := by decide +kernel
theorem dX12_sums_43 : decode cX12_sums 43 = .ok (.goto (-43), 3) := by decide +kernel
theorem dX12_sums_46 : decode cX12_sums 46 = .ok (.return_, 1) := by decide +kernel
theorem dX12_joins_0 : decode cX12_joins 0 = .ok (.aload_n 0, 1) := by decide +kernel
theorem dX12_joins_1 : decode cX12_joins 1 = .ok (.invokevirtual 319, 3) := by decide +kernel
theorem dX12_joins_4 : decode cX12_joins 4 = .ok (.bipush 38, 2) := by decide +kernel
theorem dX12_joins_6 : decode cX12_joins 6 = .ok (.if_icmp .eq 16, 3) := by decide +kernel
theorem dX12_joins_9 : decode cX12_joins 9 = .ok (.iload_n 1, 1) := by decide +kernel
theorem dX12_joins_10 : decode cX12_joins 10 = .ok (.ifCond .eq 34, 3) := by decide +kernel
theorem dX12_joins_13 : decode cX12_joins 13 = .ok (.aload_n 0, 1) := by decide +kernel
theorem dX12_joins_14 : decode cX12_joins 14 = .ok (.invokevirtual 319, 3) := by decide +kernel
theorem dX12_joins_17 : decode cX12_joins 17 = .ok (.bipush 124, 2) := by decide +kernel
theorem dX12_joins_19 : decode cX12_joins 19 = .ok (.if_icmp .ne 25, 3) := by decide +kernel
theorem dX12_joins_22 : decode cX12_joins 22 = .ok (.aload_n 0, 1) := by decide +kernel
theorem dX12_joins_23 : decode cX12_joins 23 = .ok (.aload_n 0, 1) := by decide +kernel
theorem dX12_joins_24 : decode cX12_joins 24 = .ok (.invokevirtual 319, 3) := by decide +kernel
theorem dX12_joins_27 : decode cX12_joins 27 = .ok (.iconst 0, 1) := by decide +kernel
theorem dX12_joins_28 : decode cX12_joins 28 = .ok (.invokevirtual 328, 3) := by decide +kernel
theorem dX12_joins_31 : decode cX12_joins 31 = .ok (.aload_n 0, 1) := by decide +kernel
theorem dX12_joins_32 : decode cX12_joins 32 = .ok (.dup, 1) := by decide +kernel
theorem dX12_joins_33 : decode cX12_joins 33 = .ok (.getfield 307, 3) := by decide +kernel
theorem dX12_joins_36 : decode cX12_joins 36 = .ok (.iconst 1, 1) := by decide +kernel
theorem dX12_joins_37 : decode cX12_joins 37 = .ok (.isub, 1) := by decide +kernel
theorem dX12_joins_38 : decode cX12_joins 38 = .ok (.putfield 307, 3) := by decide +kernel
theorem dX12_joins_41 : decode cX12_joins 41 = .ok (.goto (-41), 3) := by decide +kernel
theorem dX12_joins_44 : decode cX12_joins 44 = .ok (.return_, 1) := by decide +kernel
theorem dX12_ends_0 : decode cX12_ends 0 = .ok (.aload_n 0, 1) := by decide +kernel
theorem dX12_ends_1 : decode cX12_ends 1 = .ok (.invokevirtual 319, 3) := by decide +kernel
theorem dX12_ends_4 : decode cX12_ends 4 = .ok (.bipush 33, 2) := by decide +kernel
theorem dX12_ends_6 : decode cX12_ends 6 = .ok (.if_icmp .ne 32, 3) := by decide +kernel
theorem dX12_ends_9 : decode cX12_ends 9 = .ok (.aload_n 0, 1) := by decide +kernel
theorem dX12_ends_10 : decode cX12_ends 10 = .ok (.iconst 2, 1) := by decide +kernel
theorem dX12_ends_11 : decode cX12_ends 11 = .ok (.iconst 0, 1) := by decide +kernel
theorem dX12_ends_12 : decode cX12_ends 12 = .ok (.invokevirtual 328, 3) := by decide +kernel
theorem dX12_ends_15 : decode cX12_ends 15 = .ok (.aload_n 0, 1) := by decide +kernel
theorem dX12_ends_16 : decode cX12_ends 16 = .ok (.dup, 1) := by decide +kernel
theorem dX12_ends_17 : decode cX12_ends 17 = .ok (.getfield 307, 3) := by decide +kernel
theorem dX12_ends_20 : decode cX12_ends 20 = .ok (.iconst 1, 1) := by decide +kernel
theorem dX12_ends_21 : decode cX12_ends 21 = .ok (.isub, 1) := by decide +kernel
theorem dX12_ends_22 : decode cX12_ends 22 = .ok (.putfield 307, 3) := by decide +kernel
theorem dX12_ends_25 : decode cX12_ends 25 = .ok (.aload_n 0, 1) := by decide +kernel
theorem dX12_ends_26 : decode cX12_ends 26 = .ok (.dup, 1) := by decide +kernel
theorem dX12_ends_27 : decode cX12_ends 27 = .ok (.getfield 310, 3) := by decide +kernel
theorem dX12_ends_30 : decode cX12_ends 30 = .ok (.iconst 1, 1) := by decide +kernel
theorem dX12_ends_31 : decode cX12_ends 31 = .ok (.isub, 1) := by decide +kernel
theorem dX12_ends_32 : decode cX12_ends 32 = .ok (.putfield 310, 3) := by decide +kernel
theorem dX12_ends_35 : decode cX12_ends 35 = .ok (.goto (-35), 3) := by decide +kernel
theorem dX12_ends_38 : decode cX12_ends 38 = .ok (.return_, 1) := by decide +kernel
theorem dX12_factor_0 : decode cX12_factor 0 = .ok (.aload_n 0, 1) := by decide +kernel
theorem dX12_factor_1 : decode cX12_factor 1 = .ok (.invokevirtual 233, 3) := by decide +kernel
theorem dX12_factor_4 : decode cX12_factor 4 = .ok (.ifCond .eq 19, 3) := by decide +kernel
theorem dX12_factor_7 : decode cX12_factor 7 = .ok (.aload_n 0, 1) := by decide +kernel
theorem dX12_factor_8 : decode cX12_factor 8 = .ok (.invokevirtual 214, 3) := by decide +kernel
theorem dX12_factor_11 : decode cX12_factor 11 = .ok (.bipush 91, 2) := by decide +kernel
theorem dX12_factor_13 : decode cX12_factor 13 = .ok (.if_icmp .ne 10, 3) := by decide +kernel
theorem dX12_factor_16 : decode cX12_factor 16 = .ok (.aload_n 0, 1) := by decide +kernel
theorem dX12_factor_17 : decode cX12_factor 17 = .ok (.invokevirtual 331, 3) := by decide +kernel
theorem dX12_factor_20 : decode cX12_factor 20 = .ok (.goto (-20), 3) := by decide +kernel
theorem dX12_factor_23 : decode cX12_factor 23 = .ok (.aload_n 0, 1) := by decide +kernel
theorem dX12_factor_24 : decode cX12_factor 24 = .ok (.invokevirtual 233, 3) := by decide +kernel
theorem dX12_factor_27 : decode cX12_factor 27 = .ok (.ifCond .ne 4, 3) := by decide +kernel
theorem dX12_factor_30 : decode cX12_factor 30 = .ok (.return_, 1) := by decide +kernel
theorem dX12_factor_31 : decode cX12_factor 31 = .ok (.aload_n 0, 1) := by decide +kernel
theorem dX12_factor_32 : decode cX12_factor 32 = .ok (.invokevirtual 316, 3) := by decide +kernel
theorem dX12_factor_35 : decode cX12_factor 35 = .ok (.ifCond .eq 15, 3) := by decide +kernel
theorem dX12_factor_38 : decode cX12_factor 38 = .ok (.aload_n 0, 1) := by decide +kernel
theorem dX12_factor_39 : decode cX12_factor 39 = .ok (.iconst 0, 1) := by decide +kernel
theorem dX12_factor_40 : decode cX12_factor 40 = .ok (.aload_n 0, 1) := by decide +kernel
theorem dX12_factor_41 : decode cX12_factor 41 = .ok (.invokevirtual 334, 3) := by decide +kernel
theorem dX12_factor_44 : decode cX12_factor 44 = .ok (.invokevirtual 328, 3) := by decide +kernel
theorem dX12_factor_47 : decode cX12_factor 47 = .ok (.goto 44, 3) := by decide +kernel
theorem dX12_factor_50 : decode cX12_factor 50 = .ok (.aload_n 0, 1) := by decide +kernel
theorem dX12_factor_51 : decode cX12_factor 51 = .ok (.invokevirtual 214, 3) := by decide +kernel
theorem dX12_factor_54 : decode cX12_factor 54 = .ok (.invokestatic 337, 3) := by decide +kernel
theorem dX12_factor_57 : decode cX12_factor 57 = .ok (.ifCond .eq 25, 3) := by decide +kernel
theorem dX12_factor_60 : decode cX12_factor 60 = .ok (.aload_n 0, 1) := by decide +kernel
theorem dX12_factor_61 : decode cX12_factor 61 = .ok (.iconst 1, 1) := by decide +kernel
theorem dX12_factor_62 : decode cX12_factor 62 = .ok (.aload_n 0, 1) := by decide +kernel
theorem dX12_factor_63 : decode cX12_factor 63 = .ok (.invokevirtual 214, 3) := by decide +kernel
theorem dX12_factor_66 : decode cX12_factor 66 = .ok (.invokevirtual 328, 3) := by decide +kernel
theorem dX12_factor_69 : decode cX12_factor 69 = .ok (.aload_n 0, 1) := by decide +kernel
theorem dX12_factor_70 : decode cX12_factor 70 = .ok (.dup, 1) := by decide +kernel
theorem dX12_factor_71 : decode cX12_factor 71 = .ok (.getfield 205, 3) := by decide +kernel
theorem dX12_factor_74 : decode cX12_factor 74 = .ok (.iconst 1, 1) := by decide +kernel
theorem dX12_factor_75 : decode cX12_factor 75 = .ok (.iadd, 1) := by decide +kernel
theorem dX12_factor_76 : decode cX12_factor 76 = .ok (.putfield 205, 3) := by decide +kernel
theorem dX12_factor_79 : decode cX12_factor 79 = .ok (.goto 12, 3) := by decide +kernel
theorem dX12_factor_82 : decode cX12_factor 82 = .ok (.aload_n 0, 1) := by decide +kernel
theorem dX12_factor_83 : decode cX12_factor 83 = .ok (.iconst 1, 1) := by decide +kernel
theorem dX12_factor_84 : decode cX12_factor 84 = .ok (.aload_n 0, 1) := by decide +kernel
theorem dX12_factor_85 : decode cX12_factor 85 = .ok (.getfield 205, 3) := by decide +kernel
theorem dX12_factor_88 : decode cX12_factor 88 = .ok (.invokevirtual 229, 3) := by decide +kernel
theorem dX12_factor_91 : decode cX12_factor 91 = .ok (.return_, 1) := by decide +kernel
theorem dX12_stays_0 : decode cX12_stays 0 = .ok (.aload_n 0, 1) := by decide +kernel
theorem dX12_stays_1 : decode cX12_stays 1 = .ok (.invokevirtual 214, 3) := by decide +kernel
theorem dX12_stays_4 : decode cX12_stays 4 = .ok (.istore_n 1, 1) := by decide +kernel
theorem dX12_stays_5 : decode cX12_stays 5 = .ok (.iload_n 1, 1) := by decide +kernel
theorem dX12_stays_6 : decode cX12_stays 6 = .ok (.invokestatic 322, 3) := by decide +kernel
theorem dX12_stays_9 : decode cX12_stays 9 = .ok (.ifCond .ne 10, 3) := by decide +kernel
theorem dX12_stays_12 : decode cX12_stays 12 = .ok (.iload_n 1, 1) := by decide +kernel
theorem dX12_stays_13 : decode cX12_stays 13 = .ok (.invokestatic 325, 3) := by decide +kernel
theorem dX12_stays_16 : decode cX12_stays 16 = .ok (.ifCond .eq 18, 3) := by decide +kernel
theorem dX12_stays_19 : decode cX12_stays 19 = .ok (.aload_n 0, 1) := by decide +kernel
theorem dX12_stays_20 : decode cX12_stays 20 = .ok (.iload_n 1, 1) := by decide +kernel
theorem dX12_stays_21 : decode cX12_stays 21 = .ok (.invokestatic 325, 3) := by decide +kernel
theorem dX12_stays_24 : decode cX12_stays 24 = .ok (.invokevirtual 340, 3) := by decide +kernel
theorem dX12_stays_27 : decode cX12_stays 27 = .ok (.aload_n 0, 1) := by decide +kernel
theorem dX12_stays_28 : decode cX12_stays 28 = .ok (.iload_n 1, 1) := by decide +kernel
theorem dX12_stays_29 : decode cX12_stays 29 = .ok (.invokevirtual 313, 3) := by decide +kernel
theorem dX12_stays_32 : decode cX12_stays 32 = .ok (.iconst 1, 1) := by decide +kernel
theorem dX12_stays_33 : decode cX12_stays 33 = .ok (.ireturn, 1) := by decide +kernel
theorem dX12_stays_34 : decode cX12_stays 34 = .ok (.aload_n 0, 1) := by decide +kernel
theorem dX12_stays_35 : decode cX12_stays 35 = .ok (.iconst 1, 1) := by decide +kernel
theorem dX12_stays_36 : decode cX12_stays 36 = .ok (.invokevirtual 340, 3) := by decide +kernel
theorem dX12_stays_39 : decode cX12_stays 39 = .ok (.iload_n 1, 1) := by decide +kernel
theorem dX12_stays_40 : decode cX12_stays 40 = .ok (.bipush 93, 2) := by decide +kernel
theorem dX12_stays_42 : decode cX12_stays 42 = .ok (.if_icmp .eq 5, 3) := by decide +kernel
theorem dX12_stays_45 : decode cX12_stays 45 = .ok (.iconst 0, 1) := by decide +kernel
theorem dX12_stays_46 : decode cX12_stays 46 = .ok (.ireturn, 1) := by decide +kernel
theorem dX12_stays_47 : decode cX12_stays 47 = .ok (.aload_n 0, 1) := by decide +kernel
theorem dX12_stays_48 : decode cX12_stays 48 = .ok (.invokevirtual 319, 3) := by decide +kernel
theorem dX12_stays_51 : decode cX12_stays 51 = .ok (.bipush 91, 2) := by decide +kernel
theorem dX12_stays_53 : decode cX12_stays 53 = .ok (.if_icmp .eq 14, 3) := by decide +kernel
theorem dX12_stays_56 : decode cX12_stays 56 = .ok (.aload_n 0, 1) := by decide +kernel
theorem dX12_stays_57 : decode cX12_stays 57 = .ok (.iconst 1, 1) := by decide +kernel
theorem dX12_stays_58 : decode cX12_stays 58 = .ok (.aload_n 0, 1) := by decide +kernel
theorem dX12_stays_59 : decode cX12_stays 59 = .ok (.getfield 205, 3) := by decide +kernel
theorem dX12_stays_62 : decode cX12_stays 62 = .ok (.invokevirtual 229, 3) := by decide +kernel
theorem dX12_stays_65 : decode cX12_stays 65 = .ok (.iconst 0, 1) := by decide +kernel
theorem dX12_stays_66 : decode cX12_stays 66 = .ok (.ireturn, 1) := by decide +kernel
theorem dX12_stays_67 : decode cX12_stays 67 = .ok (.aload_n 0, 1) := by decide +kernel
theorem dX12_stays_68 : decode cX12_stays 68 = .ok (.dup, 1) := by decide +kernel
theorem dX12_stays_69 : decode cX12_stays 69 = .ok (.getfield 307, 3) := by decide +kernel
theorem dX12_stays_72 : decode cX12_stays 72 = .ok (.iconst 1, 1) := by decide +kernel
theorem dX12_stays_73 : decode cX12_stays 73 = .ok (.isub, 1) := by decide +kernel
theorem dX12_stays_74 : decode cX12_stays 74 = .ok (.putfield 307, 3) := by decide +kernel
theorem dX12_stays_77 : decode cX12_stays 77 = .ok (.aload_n 0, 1) := by decide +kernel
theorem dX12_stays_78 : decode cX12_stays 78 = .ok (.dup, 1) := by decide +kernel
theorem dX12_stays_79 : decode cX12_stays 79 = .ok (.getfield 310, 3) := by decide +kernel
theorem dX12_stays_82 : decode cX12_stays 82 = .ok (.iconst 1, 1) := by decide +kernel
theorem dX12_stays_83 : decode cX12_stays 83 = .ok (.isub, 1) := by decide +kernel
theorem dX12_stays_84 : decode cX12_stays 84 = .ok (.putfield 310, 3) := by decide +kernel
theorem dX12_stays_87 : decode cX12_stays 87 = .ok (.aload_n 0, 1) := by decide +kernel
theorem dX12_stays_88 : decode cX12_stays 88 = .ok (.dup, 1) := by decide +kernel
theorem dX12_stays_89 : decode cX12_stays 89 = .ok (.getfield 205, 3) := by decide +kernel
theorem dX12_stays_92 : decode cX12_stays 92 = .ok (.iconst 1, 1) := by decide +kernel
theorem dX12_stays_93 : decode cX12_stays 93 = .ok (.iadd, 1) := by decide +kernel
theorem dX12_stays_94 : decode cX12_stays 94 = .ok (.putfield 205, 3) := by decide +kernel
theorem dX12_stays_97 : decode cX12_stays 97 = .ok (.aload_n 0, 1) := by decide +kernel
theorem dX12_stays_98 : decode cX12_stays 98 = .ok (.iconst 1, 1) := by decide +kernel
theorem dX12_stays_99 : decode cX12_stays 99 = .ok (.putfield 344, 3) := by decide +kernel
theorem dX12_stays_102 : decode cX12_stays 102 = .ok (.iconst 1, 1) := by decide +kernel
theorem dX12_stays_103 : decode cX12_stays 103 = .ok (.ireturn, 1) := by decide +kernel
theorem dX12_value_0 : decode cX12_value 0 = .ok (.iconst 1, 1) := by decide +kernel
theorem dX12_value_1 : decode cX12_value 1 = .ok (.istore_n 1, 1) := by decide +kernel
theorem dX12_value_2 : decode cX12_value 2 = .ok (.aload_n 0, 1) := by decide +kernel
theorem dX12_value_3 : decode cX12_value 3 = .ok (.iconst 0, 1) := by decide +kernel
theorem dX12_value_4 : decode cX12_value 4 = .ok (.putfield 344, 3) := by decide +kernel
theorem dX12_value_7 : decode cX12_value 7 = .ok (.iload_n 1, 1) := by decide +kernel
theorem dX12_value_8 : decode cX12_value 8 = .ok (.ifCond .eq 49, 3) := by decide +kernel
theorem dX12_value_11 : decode cX12_value 11 = .ok (.aload_n 0, 1) := by decide +kernel
theorem dX12_value_12 : decode cX12_value 12 = .ok (.invokevirtual 233, 3) := by decide +kernel
theorem dX12_value_15 : decode cX12_value 15 = .ok (.ifCond .eq 42, 3) := by decide +kernel
theorem dX12_value_18 : decode cX12_value 18 = .ok (.aload_n 0, 1) := by decide +kernel
theorem dX12_value_19 : decode cX12_value 19 = .ok (.getfield 344, 3) := by decide +kernel
theorem dX12_value_22 : decode cX12_value 22 = .ok (.ifCond .ne 7, 3) := by decide +kernel
theorem dX12_value_25 : decode cX12_value 25 = .ok (.aload_n 0, 1) := by decide +kernel
theorem dX12_value_26 : decode cX12_value 26 = .ok (.invokevirtual 347, 3) := by decide +kernel
theorem dX12_value_29 : decode cX12_value 29 = .ok (.aload_n 0, 1) := by decide +kernel
theorem dX12_value_30 : decode cX12_value 30 = .ok (.iconst 0, 1) := by decide +kernel
theorem dX12_value_31 : decode cX12_value 31 = .ok (.putfield 344, 3) := by decide +kernel
theorem dX12_value_34 : decode cX12_value 34 = .ok (.aload_n 0, 1) := by decide +kernel
theorem dX12_value_35 : decode cX12_value 35 = .ok (.invokevirtual 233, 3) := by decide +kernel
theorem dX12_value_38 : decode cX12_value 38 = .ok (.ifCond .eq 14, 3) := by decide +kernel
theorem dX12_value_41 : decode cX12_value 41 = .ok (.aload_n 0, 1) := by decide +kernel
theorem dX12_value_42 : decode cX12_value 42 = .ok (.invokevirtual 350, 3) := by decide +kernel
theorem dX12_value_45 : decode cX12_value 45 = .ok (.ifCond .eq 7, 3) := by decide +kernel
theorem dX12_value_48 : decode cX12_value 48 = .ok (.iconst 1, 1) := by decide +kernel
theorem dX12_value_49 : decode cX12_value 49 = .ok (.goto 4, 3) := by decide +kernel
theorem dX12_value_52 : decode cX12_value 52 = .ok (.iconst 0, 1) := by decide +kernel
theorem dX12_value_53 : decode cX12_value 53 = .ok (.istore_n 1, 1) := by decide +kernel
theorem dX12_value_54 : decode cX12_value 54 = .ok (.goto (-47), 3) := by decide +kernel
theorem dX12_value_57 : decode cX12_value 57 = .ok (.aload_n 0, 1) := by decide +kernel
theorem dX12_value_58 : decode cX12_value 58 = .ok (.invokevirtual 233, 3) := by decide +kernel
theorem dX12_value_61 : decode cX12_value 61 = .ok (.ifCond .eq 21, 3) := by decide +kernel
theorem dX12_value_64 : decode cX12_value 64 = .ok (.aload_n 0, 1) := by decide +kernel
theorem dX12_value_65 : decode cX12_value 65 = .ok (.invokevirtual 319, 3) := by decide +kernel
theorem dX12_value_68 : decode cX12_value 68 = .ok (.bipush 91, 2) := by decide +kernel
theorem dX12_value_70 : decode cX12_value 70 = .ok (.if_icmp .ne 12, 3) := by decide +kernel
theorem dX12_value_73 : decode cX12_value 73 = .ok (.aload_n 0, 1) := by decide +kernel
theorem dX12_value_74 : decode cX12_value 74 = .ok (.iconst 1, 1) := by decide +kernel
theorem dX12_value_75 : decode cX12_value 75 = .ok (.aload_n 0, 1) := by decide +kernel
theorem dX12_value_76 : decode cX12_value 76 = .ok (.getfield 205, 3) := by decide +kernel
theorem dX12_value_79 : decode cX12_value 79 = .ok (.invokevirtual 229, 3) := by decide +kernel
theorem dX12_value_82 : decode cX12_value 82 = .ok (.return_, 1) := by decide +kernel
theorem dX12_pieceOfC_0 : decode cX12_pieceOfC 0 = .ok (.aload_n 0, 1) := by decide +kernel
theorem dX12_pieceOfC_1 : decode cX12_pieceOfC 1 = .ok (.invokevirtual 233, 3) := by decide +kernel
theorem dX12_pieceOfC_4 : decode cX12_pieceOfC 4 = .ok (.ifCond .eq 28, 3) := by decide +kernel
theorem dX12_pieceOfC_7 : decode cX12_pieceOfC 7 = .ok (.aload_n 0, 1) := by decide +kernel
theorem dX12_pieceOfC_8 : decode cX12_pieceOfC 8 = .ok (.invokevirtual 214, 3) := by decide +kernel
theorem dX12_pieceOfC_11 : decode cX12_pieceOfC 11 = .ok (.bipush 33, 2) := by decide +kernel
theorem dX12_pieceOfC_13 : decode cX12_pieceOfC 13 = .ok (.if_icmp .eq 12, 3) := by decide +kernel
theorem dX12_pieceOfC_16 : decode cX12_pieceOfC 16 = .ok (.aload_n 0, 1) := by decide +kernel
theorem dX12_pieceOfC_17 : decode cX12_pieceOfC 17 = .ok (.invokevirtual 214, 3) := by decide +kernel
theorem dX12_pieceOfC_20 : decode cX12_pieceOfC 20 = .ok (.bipush 40, 2) := by decide +kernel
theorem dX12_pieceOfC_22 : decode cX12_pieceOfC 22 = .ok (.if_icmp .ne 10, 3) := by decide +kernel
theorem dX12_pieceOfC_25 : decode cX12_pieceOfC 25 = .ok (.aload_n 0, 1) := by decide +kernel
theorem dX12_pieceOfC_26 : decode cX12_pieceOfC 26 = .ok (.invokevirtual 331, 3) := by decide +kernel
theorem dX12_pieceOfC_29 : decode cX12_pieceOfC 29 = .ok (.goto (-29), 3) := by decide +kernel
theorem dX12_pieceOfC_32 : decode cX12_pieceOfC 32 = .ok (.aload_n 0, 1) := by decide +kernel
theorem dX12_pieceOfC_33 : decode cX12_pieceOfC 33 = .ok (.invokevirtual 233, 3) := by decide +kernel
theorem dX12_pieceOfC_36 : decode cX12_pieceOfC 36 = .ok (.ifCond .eq 7, 3) := by decide +kernel
theorem dX12_pieceOfC_39 : decode cX12_pieceOfC 39 = .ok (.aload_n 0, 1) := by decide +kernel
theorem dX12_pieceOfC_40 : decode cX12_pieceOfC 40 = .ok (.invokevirtual 353, 3) := by decide +kernel
theorem dX12_pieceOfC_43 : decode cX12_pieceOfC 43 = .ok (.aload_n 0, 1) := by decide +kernel
theorem dX12_pieceOfC_44 : decode cX12_pieceOfC 44 = .ok (.invokevirtual 233, 3) := by decide +kernel
theorem dX12_pieceOfC_47 : decode cX12_pieceOfC 47 = .ok (.ifCond .ne 4, 3) := by decide +kernel
theorem dX12_pieceOfC_50 : decode cX12_pieceOfC 50 = .ok (.return_, 1) := by decide +kernel
theorem dX12_pieceOfC_51 : decode cX12_pieceOfC 51 = .ok (.aload_n 0, 1) := by decide +kernel
theorem dX12_pieceOfC_52 : decode cX12_pieceOfC 52 = .ok (.invokevirtual 214, 3) := by decide +kernel
theorem dX12_pieceOfC_55 : decode cX12_pieceOfC 55 = .ok (.istore_n 1, 1) := by decide +kernel
theorem dX12_pieceOfC_56 : decode cX12_pieceOfC 56 = .ok (.iload_n 1, 1) := by decide +kernel
theorem dX12_pieceOfC_57 : decode cX12_pieceOfC 57 = .ok (.invokestatic 356, 3) := by decide +kernel
theorem dX12_pieceOfC_60 : decode cX12_pieceOfC 60 = .ok (.ifCond .ne 13, 3) := by decide +kernel
theorem dX12_pieceOfC_63 : decode cX12_pieceOfC 63 = .ok (.aload_n 0, 1) := by decide +kernel
theorem dX12_pieceOfC_64 : decode cX12_pieceOfC 64 = .ok (.iconst 1, 1) := by decide +kernel
theorem dX12_pieceOfC_65 : decode cX12_pieceOfC 65 = .ok (.aload_n 0, 1) := by decide +kernel
theorem dX12_pieceOfC_66 : decode cX12_pieceOfC 66 = .ok (.getfield 205, 3) := by decide +kernel
theorem dX12_pieceOfC_69 : decode cX12_pieceOfC 69 = .ok (.invokevirtual 229, 3) := by decide +kernel
theorem dX12_pieceOfC_72 : decode cX12_pieceOfC 72 = .ok (.return_, 1) := by decide +kernel
theorem dX12_pieceOfC_73 : decode cX12_pieceOfC 73 = .ok (.aload_n 0, 1) := by decide +kernel
theorem dX12_pieceOfC_74 : decode cX12_pieceOfC 74 = .ok (.iload_n 1, 1) := by decide +kernel
theorem dX12_pieceOfC_75 : decode cX12_pieceOfC 75 = .ok (.invokevirtual 313, 3) := by decide +kernel
theorem dX12_pieceOfC_78 : decode cX12_pieceOfC 78 = .ok (.aload_n 0, 1) := by decide +kernel
theorem dX12_pieceOfC_79 : decode cX12_pieceOfC 79 = .ok (.invokevirtual 353, 3) := by decide +kernel
theorem dX12_pieceOfC_82 : decode cX12_pieceOfC 82 = .ok (.aload_n 0, 1) := by decide +kernel
theorem dX12_pieceOfC_83 : decode cX12_pieceOfC 83 = .ok (.invokevirtual 233, 3) := by decide +kernel
theorem dX12_pieceOfC_86 : decode cX12_pieceOfC 86 = .ok (.ifCond .ne 4, 3) := by decide +kernel
theorem dX12_pieceOfC_89 : decode cX12_pieceOfC 89 = .ok (.return_, 1) := by decide +kernel
theorem dX12_pieceOfC_90 : decode cX12_pieceOfC 90 = .ok (.aload_n 0, 1) := by decide +kernel
theorem dX12_pieceOfC_91 : decode cX12_pieceOfC 91 = .ok (.aload_n 0, 1) := by decide +kernel
theorem dX12_pieceOfC_92 : decode cX12_pieceOfC 92 = .ok (.invokevirtual 319, 3) := by decide +kernel
theorem dX12_pieceOfC_95 : decode cX12_pieceOfC 95 = .ok (.iconst 0, 1) := by decide +kernel
theorem dX12_pieceOfC_96 : decode cX12_pieceOfC 96 = .ok (.invokevirtual 328, 3) := by decide +kernel
theorem dX12_pieceOfC_99 : decode cX12_pieceOfC 99 = .ok (.aload_n 0, 1) := by decide +kernel
theorem dX12_pieceOfC_100 : decode cX12_pieceOfC 100 = .ok (.dup, 1) := by decide +kernel
theorem dX12_pieceOfC_101 : decode cX12_pieceOfC 101 = .ok (.getfield 307, 3) := by decide +kernel
theorem dX12_pieceOfC_104 : decode cX12_pieceOfC 104 = .ok (.iconst 1, 1) := by decide +kernel
theorem dX12_pieceOfC_105 : decode cX12_pieceOfC 105 = .ok (.isub, 1) := by decide +kernel
theorem dX12_pieceOfC_106 : decode cX12_pieceOfC 106 = .ok (.putfield 307, 3) := by decide +kernel
theorem dX12_pieceOfC_109 : decode cX12_pieceOfC 109 = .ok (.aload_n 0, 1) := by decide +kernel
theorem dX12_pieceOfC_110 : decode cX12_pieceOfC 110 = .ok (.invokevirtual 359, 3) := by decide +kernel
theorem dX12_pieceOfC_113 : decode cX12_pieceOfC 113 = .ok (.return_, 1) := by decide +kernel
theorem dX12_goesBehind_0 : decode cX12_goesBehind 0 = .ok (.aload_n 0, 1) := by decide +kernel
theorem dX12_goesBehind_1 : decode cX12_goesBehind 1 = .ok (.invokevirtual 214, 3) := by decide +kernel
theorem dX12_goesBehind_4 : decode cX12_goesBehind 4 = .ok (.istore_n 1, 1) := by decide +kernel
theorem dX12_goesBehind_5 : decode cX12_goesBehind 5 = .ok (.iload_n 1, 1) := by decide +kernel
theorem dX12_goesBehind_6 : decode cX12_goesBehind 6 = .ok (.bipush 38, 2) := by decide +kernel
theorem dX12_goesBehind_8 : decode cX12_goesBehind 8 = .ok (.if_icmp .eq 9, 3) := by decide +kernel
theorem dX12_goesBehind_11 : decode cX12_goesBehind 11 = .ok (.iload_n 1, 1) := by decide +kernel
theorem dX12_goesBehind_12 : decode cX12_goesBehind 12 = .ok (.bipush 124, 2) := by decide +kernel
theorem dX12_goesBehind_14 : decode cX12_goesBehind 14 = .ok (.if_icmp .ne 25, 3) := by decide +kernel
theorem dX12_goesBehind_17 : decode cX12_goesBehind 17 = .ok (.aload_n 0, 1) := by decide +kernel
theorem dX12_goesBehind_18 : decode cX12_goesBehind 18 = .ok (.iload_n 1, 1) := by decide +kernel
theorem dX12_goesBehind_19 : decode cX12_goesBehind 19 = .ok (.bipush 124, 2) := by decide +kernel
theorem dX12_goesBehind_21 : decode cX12_goesBehind 21 = .ok (.if_icmp .ne 7, 3) := by decide +kernel
theorem dX12_goesBehind_24 : decode cX12_goesBehind 24 = .ok (.iconst 1, 1) := by decide +kernel
theorem dX12_goesBehind_25 : decode cX12_goesBehind 25 = .ok (.goto 4, 3) := by decide +kernel
theorem dX12_goesBehind_28 : decode cX12_goesBehind 28 = .ok (.iconst 0, 1) := by decide +kernel
theorem dX12_goesBehind_29 : decode cX12_goesBehind 29 = .ok (.invokevirtual 362, 3) := by decide +kernel
theorem dX12_goesBehind_32 : decode cX12_goesBehind 32 = .ok (.aload_n 0, 1) := by decide +kernel
theorem dX12_goesBehind_33 : decode cX12_goesBehind 33 = .ok (.iload_n 1, 1) := by decide +kernel
theorem dX12_goesBehind_34 : decode cX12_goesBehind 34 = .ok (.invokevirtual 313, 3) := by decide +kernel
theorem dX12_goesBehind_37 : decode cX12_goesBehind 37 = .ok (.iconst 1, 1) := by decide +kernel
theorem dX12_goesBehind_38 : decode cX12_goesBehind 38 = .ok (.ireturn, 1) := by decide +kernel
theorem dX12_goesBehind_39 : decode cX12_goesBehind 39 = .ok (.iload_n 1, 1) := by decide +kernel
theorem dX12_goesBehind_40 : decode cX12_goesBehind 40 = .ok (.bipush 41, 2) := by decide +kernel
theorem dX12_goesBehind_42 : decode cX12_goesBehind 42 = .ok (.if_icmp .eq 14, 3) := by decide +kernel
theorem dX12_goesBehind_45 : decode cX12_goesBehind 45 = .ok (.aload_n 0, 1) := by decide +kernel
theorem dX12_goesBehind_46 : decode cX12_goesBehind 46 = .ok (.iconst 1, 1) := by decide +kernel
theorem dX12_goesBehind_47 : decode cX12_goesBehind 47 = .ok (.aload_n 0, 1) := by decide +kernel
theorem dX12_goesBehind_48 : decode cX12_goesBehind 48 = .ok (.getfield 205, 3) := by decide +kernel
theorem dX12_goesBehind_51 : decode cX12_goesBehind 51 = .ok (.invokevirtual 229, 3) := by decide +kernel
theorem dX12_goesBehind_54 : decode cX12_goesBehind 54 = .ok (.iconst 0, 1) := by decide +kernel
theorem dX12_goesBehind_55 : decode cX12_goesBehind 55 = .ok (.ireturn, 1) := by decide +kernel
theorem dX12_goesBehind_56 : decode cX12_goesBehind 56 = .ok (.aload_n 0, 1) := by decide +kernel
theorem dX12_goesBehind_57 : decode cX12_goesBehind 57 = .ok (.iconst 1, 1) := by decide +kernel
theorem dX12_goesBehind_58 : decode cX12_goesBehind 58 = .ok (.invokevirtual 362, 3) := by decide +kernel
theorem dX12_goesBehind_61 : decode cX12_goesBehind 61 = .ok (.aload_n 0, 1) := by decide +kernel
theorem dX12_goesBehind_62 : decode cX12_goesBehind 62 = .ok (.dup, 1) := by decide +kernel
theorem dX12_goesBehind_63 : decode cX12_goesBehind 63 = .ok (.getfield 307, 3) := by decide +kernel
theorem dX12_goesBehind_66 : decode cX12_goesBehind 66 = .ok (.iconst 1, 1) := by decide +kernel
theorem dX12_goesBehind_67 : decode cX12_goesBehind 67 = .ok (.isub, 1) := by decide +kernel
theorem dX12_goesBehind_68 : decode cX12_goesBehind 68 = .ok (.putfield 307, 3) := by decide +kernel
theorem dX12_goesBehind_71 : decode cX12_goesBehind 71 = .ok (.aload_n 0, 1) := by decide +kernel
theorem dX12_goesBehind_72 : decode cX12_goesBehind 72 = .ok (.dup, 1) := by decide +kernel
theorem dX12_goesBehind_73 : decode cX12_goesBehind 73 = .ok (.getfield 310, 3) := by decide +kernel
theorem dX12_goesBehind_76 : decode cX12_goesBehind 76 = .ok (.iconst 1, 1) := by decide +kernel
theorem dX12_goesBehind_77 : decode cX12_goesBehind 77 = .ok (.isub, 1) := by decide +kernel
theorem dX12_goesBehind_78 : decode cX12_goesBehind 78 = .ok (.putfield 310, 3) := by decide +kernel
theorem dX12_goesBehind_81 : decode cX12_goesBehind 81 = .ok (.aload_n 0, 1) := by decide +kernel
theorem dX12_goesBehind_82 : decode cX12_goesBehind 82 = .ok (.dup, 1) := by decide +kernel
theorem dX12_goesBehind_83 : decode cX12_goesBehind 83 = .ok (.getfield 205, 3) := by decide +kernel
theorem dX12_goesBehind_86 : decode cX12_goesBehind 86 = .ok (.iconst 1, 1) := by decide +kernel
theorem dX12_goesBehind_87 : decode cX12_goesBehind 87 = .ok (.iadd, 1) := by decide +kernel
theorem dX12_goesBehind_88 : decode cX12_goesBehind 88 = .ok (.putfield 205, 3) := by decide +kernel
theorem dX12_goesBehind_91 : decode cX12_goesBehind 91 = .ok (.aload_n 0, 1) := by decide +kernel
theorem dX12_goesBehind_92 : decode cX12_goesBehind 92 = .ok (.aload_n 0, 1) := by decide +kernel
theorem dX12_goesBehind_93 : decode cX12_goesBehind 93 = .ok (.getfield 307, 3) := by decide +kernel
theorem dX12_goesBehind_96 : decode cX12_goesBehind 96 = .ok (.ifCond .ne 7, 3) := by decide +kernel
theorem dX12_goesBehind_99 : decode cX12_goesBehind 99 = .ok (.iconst 1, 1) := by decide +kernel
theorem dX12_goesBehind_100 : decode cX12_goesBehind 100 = .ok (.goto 4, 3) := by decide +kernel
theorem dX12_goesBehind_103 : decode cX12_goesBehind 103 = .ok (.iconst 0, 1) := by decide +kernel
theorem dX12_goesBehind_104 : decode cX12_goesBehind 104 = .ok (.putfield 365, 3) := by decide +kernel
theorem dX12_goesBehind_107 : decode cX12_goesBehind 107 = .ok (.aload_n 0, 1) := by decide +kernel
theorem dX12_goesBehind_108 : decode cX12_goesBehind 108 = .ok (.getfield 365, 3) := by decide +kernel
theorem dX12_goesBehind_111 : decode cX12_goesBehind 111 = .ok (.ifCond .ne 7, 3) := by decide +kernel
theorem dX12_goesBehind_114 : decode cX12_goesBehind 114 = .ok (.aload_n 0, 1) := by decide +kernel
theorem dX12_goesBehind_115 : decode cX12_goesBehind 115 = .ok (.invokevirtual 359, 3) := by decide +kernel
theorem dX12_goesBehind_118 : decode cX12_goesBehind 118 = .ok (.iconst 0, 1) := by decide +kernel
theorem dX12_goesBehind_119 : decode cX12_goesBehind 119 = .ok (.ireturn, 1) := by decide +kernel
theorem dX12_condition_0 : decode cX12_condition 0 = .ok (.aload_n 0, 1) := by decide +kernel
theorem dX12_condition_1 : decode cX12_condition 1 = .ok (.iconst 0, 1) := by decide +kernel
theorem dX12_condition_2 : decode cX12_condition 2 = .ok (.putfield 365, 3) := by decide +kernel
theorem dX12_condition_5 : decode cX12_condition 5 = .ok (.aload_n 0, 1) := by decide +kernel
theorem dX12_condition_6 : decode cX12_condition 6 = .ok (.invokevirtual 214, 3) := by decide +kernel
theorem dX12_condition_9 : decode cX12_condition 9 = .ok (.bipush 40, 2) := by decide +kernel
theorem dX12_condition_11 : decode cX12_condition 11 = .ok (.if_icmp .eq 12, 3) := by decide +kernel
theorem dX12_condition_14 : decode cX12_condition 14 = .ok (.aload_n 0, 1) := by decide +kernel
theorem dX12_condition_15 : decode cX12_condition 15 = .ok (.iconst 1, 1) := by decide +kernel
theorem dX12_condition_16 : decode cX12_condition 16 = .ok (.aload_n 0, 1) := by decide +kernel
theorem dX12_condition_17 : decode cX12_condition 17 = .ok (.getfield 205, 3) := by decide +kernel
theorem dX12_condition_20 : decode cX12_condition 20 = .ok (.invokevirtual 229, 3) := by decide +kernel
theorem dX12_condition_23 : decode cX12_condition 23 = .ok (.aload_n 0, 1) := by decide +kernel
theorem dX12_condition_24 : decode cX12_condition 24 = .ok (.invokevirtual 233, 3) := by decide +kernel
theorem dX12_condition_27 : decode cX12_condition 27 = .ok (.ifCond .ne 4, 3) := by decide +kernel
theorem dX12_condition_30 : decode cX12_condition 30 = .ok (.return_, 1) := by decide +kernel
theorem dX12_condition_31 : decode cX12_condition 31 = .ok (.aload_n 0, 1) := by decide +kernel
theorem dX12_condition_32 : decode cX12_condition 32 = .ok (.invokevirtual 331, 3) := by decide +kernel
theorem dX12_condition_35 : decode cX12_condition 35 = .ok (.iconst 1, 1) := by decide +kernel
theorem dX12_condition_36 : decode cX12_condition 36 = .ok (.istore_n 1, 1) := by decide +kernel
theorem dX12_condition_37 : decode cX12_condition 37 = .ok (.aload_n 0, 1) := by decide +kernel
theorem dX12_condition_38 : decode cX12_condition 38 = .ok (.invokevirtual 233, 3) := by decide +kernel
theorem dX12_condition_41 : decode cX12_condition 41 = .ok (.ifCond .eq 33, 3) := by decide +kernel
theorem dX12_condition_44 : decode cX12_condition 44 = .ok (.aload_n 0, 1) := by decide +kernel
theorem dX12_condition_45 : decode cX12_condition 45 = .ok (.getfield 365, 3) := by decide +kernel
theorem dX12_condition_48 : decode cX12_condition 48 = .ok (.ifCond .ne 26, 3) := by decide +kernel
theorem dX12_condition_51 : decode cX12_condition 51 = .ok (.iload_n 1, 1) := by decide +kernel
theorem dX12_condition_52 : decode cX12_condition 52 = .ok (.ifCond .eq 7, 3) := by decide +kernel
theorem dX12_condition_55 : decode cX12_condition 55 = .ok (.aload_n 0, 1) := by decide +kernel
theorem dX12_condition_56 : decode cX12_condition 56 = .ok (.invokevirtual 368, 3) := by decide +kernel
theorem dX12_condition_59 : decode cX12_condition 59 = .ok (.aload_n 0, 1) := by decide +kernel
theorem dX12_condition_60 : decode cX12_condition 60 = .ok (.invokevirtual 233, 3) := by decide +kernel
theorem dX12_condition_63 : decode cX12_condition 63 = .ok (.ifCond .eq (-26), 3) := by decide +kernel
theorem dX12_condition_66 : decode cX12_condition 66 = .ok (.aload_n 0, 1) := by decide +kernel
theorem dX12_condition_67 : decode cX12_condition 67 = .ok (.invokevirtual 371, 3) := by decide +kernel
theorem dX12_condition_70 : decode cX12_condition 70 = .ok (.istore_n 1, 1) := by decide +kernel
theorem dX12_condition_71 : decode cX12_condition 71 = .ok (.goto (-34), 3) := by decide +kernel
theorem dX12_condition_74 : decode cX12_condition 74 = .ok (.return_, 1) := by decide +kernel
theorem dX12_isClause_0 : decode cX12_isClause 0 = .ok (.iload_n 0, 1) := by decide +kernel
theorem dX12_isClause_1 : decode cX12_isClause 1 = .ok (.bipush 110, 2) := by decide +kernel
theorem dX12_isClause_3 : decode cX12_isClause 3 = .ok (.if_icmp .eq 39, 3) := by decide +kernel
theorem dX12_isClause_6 : decode cX12_isClause 6 = .ok (.iload_n 0, 1) := by decide +kernel
theorem dX12_isClause_7 : decode cX12_isClause 7 = .ok (.bipush 112, 2) := by decide +kernel
theorem dX12_isClause_9 : decode cX12_isClause 9 = .ok (.if_icmp .eq 33, 3) := by decide +kernel
theorem dX12_isClause_12 : decode cX12_isClause 12 = .ok (.iload_n 0, 1) := by decide +kernel
theorem dX12_isClause_13 : decode cX12_isClause 13 = .ok (.bipush 116, 2) := by decide +kernel
theorem dX12_isClause_15 : decode cX12_isClause 15 = .ok (.if_icmp .eq 27, 3) := by decide +kernel
theorem dX12_isClause_18 : decode cX12_isClause 18 = .ok (.iload_n 0, 1) := by decide +kernel
theorem dX12_isClause_19 : decode cX12_isClause 19 = .ok (.bipush 115, 2) := by decide +kernel
theorem dX12_isClause_21 : decode cX12_isClause 21 = .ok (.if_icmp .eq 21, 3) := by decide +kernel
theorem dX12_isClause_24 : decode cX12_isClause 24 = .ok (.iload_n 0, 1) := by decide +kernel
theorem dX12_isClause_25 : decode cX12_isClause 25 = .ok (.bipush 102, 2) := by decide +kernel
theorem dX12_isClause_27 : decode cX12_isClause 27 = .ok (.if_icmp .eq 15, 3) := by decide +kernel
theorem dX12_isClause_30 : decode cX12_isClause 30 = .ok (.iload_n 0, 1) := by decide +kernel
theorem dX12_isClause_31 : decode cX12_isClause 31 = .ok (.bipush 103, 2) := by decide +kernel
theorem dX12_isClause_33 : decode cX12_isClause 33 = .ok (.if_icmp .eq 9, 3) := by decide +kernel
theorem dX12_isClause_36 : decode cX12_isClause 36 = .ok (.iload_n 0, 1) := by decide +kernel
theorem dX12_isClause_37 : decode cX12_isClause 37 = .ok (.bipush 120, 2) := by decide +kernel
theorem dX12_isClause_39 : decode cX12_isClause 39 = .ok (.if_icmp .ne 7, 3) := by decide +kernel
theorem dX12_isClause_42 : decode cX12_isClause 42 = .ok (.iconst 1, 1) := by decide +kernel
theorem dX12_isClause_43 : decode cX12_isClause 43 = .ok (.goto 4, 3) := by decide +kernel
theorem dX12_isClause_46 : decode cX12_isClause 46 = .ok (.iconst 0, 1) := by decide +kernel
theorem dX12_isClause_47 : decode cX12_isClause 47 = .ok (.ireturn, 1) := by decide +kernel
theorem dX12_clause_0 : decode cX12_clause 0 = .ok (.aload_n 0, 1) := by decide +kernel
theorem dX12_clause_1 : decode cX12_clause 1 = .ok (.invokevirtual 214, 3) := by decide +kernel
theorem dX12_clause_4 : decode cX12_clause 4 = .ok (.istore_n 1, 1) := by decide +kernel
theorem dX12_clause_5 : decode cX12_clause 5 = .ok (.iload_n 1, 1) := by decide +kernel
theorem dX12_clause_6 : decode cX12_clause 6 = .ok (.invokestatic 374, 3) := by decide +kernel
theorem dX12_clause_9 : decode cX12_clause 9 = .ok (.ifCond .ne 15, 3) := by decide +kernel
theorem dX12_clause_12 : decode cX12_clause 12 = .ok (.aload_n 0, 1) := by decide +kernel
theorem dX12_clause_13 : decode cX12_clause 13 = .ok (.iconst 1, 1) := by decide +kernel
theorem dX12_clause_14 : decode cX12_clause 14 = .ok (.aload_n 0, 1) := by decide +kernel
theorem dX12_clause_15 : decode cX12_clause 15 = .ok (.getfield 205, 3) := by decide +kernel
theorem dX12_clause_18 : decode cX12_clause 18 = .ok (.invokevirtual 229, 3) := by decide +kernel
theorem dX12_clause_21 : decode cX12_clause 21 = .ok (.goto 21, 3) := by decide +kernel
theorem dX12_clause_24 : decode cX12_clause 24 = .ok (.aload_n 0, 1) := by decide +kernel
theorem dX12_clause_25 : decode cX12_clause 25 = .ok (.getfield 377, 3) := by decide +kernel
theorem dX12_clause_28 : decode cX12_clause 28 = .ok (.bipush 16, 2) := by decide +kernel
theorem dX12_clause_30 : decode cX12_clause 30 = .ok (.if_icmp .ne 12, 3) := by decide +kernel
theorem dX12_clause_33 : decode cX12_clause 33 = .ok (.aload_n 0, 1) := by decide +kernel
theorem dX12_clause_34 : decode cX12_clause 34 = .ok (.iconst 4, 1) := by decide +kernel
theorem dX12_clause_35 : decode cX12_clause 35 = .ok (.aload_n 0, 1) := by decide +kernel
theorem dX12_clause_36 : decode cX12_clause 36 = .ok (.getfield 205, 3) := by decide +kernel
theorem dX12_clause_39 : decode cX12_clause 39 = .ok (.invokevirtual 229, 3) := by decide +kernel
theorem dX12_clause_42 : decode cX12_clause 42 = .ok (.aload_n 0, 1) := by decide +kernel
theorem dX12_clause_43 : decode cX12_clause 43 = .ok (.invokevirtual 233, 3) := by decide +kernel
theorem dX12_clause_46 : decode cX12_clause 46 = .ok (.ifCond .ne 4, 3) := by decide +kernel
theorem dX12_clause_49 : decode cX12_clause 49 = .ok (.return_, 1) := by decide +kernel
theorem dX12_clause_50 : decode cX12_clause 50 = .ok (.aload_n 0, 1) := by decide +kernel
theorem dX12_clause_51 : decode cX12_clause 51 = .ok (.getfield 61, 3) := by decide +kernel
theorem dX12_clause_54 : decode cX12_clause 54 = .ok (.aload_n 0, 1) := by decide +kernel
theorem dX12_clause_55 : decode cX12_clause 55 = .ok (.getfield 377, 3) := by decide +kernel
theorem dX12_clause_58 : decode cX12_clause 58 = .ok (.iload_n 1, 1) := by decide +kernel
theorem dX12_clause_59 : decode cX12_clause 59 = .ok (.iastore, 1) := by decide +kernel
theorem dX12_clause_60 : decode cX12_clause 60 = .ok (.aload_n 0, 1) := by decide +kernel
theorem dX12_clause_61 : decode cX12_clause 61 = .ok (.getfield 64, 3) := by decide +kernel
theorem dX12_clause_64 : decode cX12_clause 64 = .ok (.aload_n 0, 1) := by decide +kernel
theorem dX12_clause_65 : decode cX12_clause 65 = .ok (.getfield 377, 3) := by decide +kernel
theorem dX12_clause_68 : decode cX12_clause 68 = .ok (.aload_n 0, 1) := by decide +kernel
theorem dX12_clause_69 : decode cX12_clause 69 = .ok (.getfield 304, 3) := by decide +kernel
theorem dX12_clause_72 : decode cX12_clause 72 = .ok (.iastore, 1) := by decide +kernel
theorem dX12_clause_73 : decode cX12_clause 73 = .ok (.aload_n 0, 1) := by decide +kernel
theorem dX12_clause_74 : decode cX12_clause 74 = .ok (.dup, 1) := by decide +kernel
theorem dX12_clause_75 : decode cX12_clause 75 = .ok (.getfield 205, 3) := by decide +kernel
theorem dX12_clause_78 : decode cX12_clause 78 = .ok (.iconst 1, 1) := by decide +kernel
theorem dX12_clause_79 : decode cX12_clause 79 = .ok (.iadd, 1) := by decide +kernel
theorem dX12_clause_80 : decode cX12_clause 80 = .ok (.putfield 205, 3) := by decide +kernel
theorem dX12_clause_83 : decode cX12_clause 83 = .ok (.aload_n 0, 1) := by decide +kernel
theorem dX12_clause_84 : decode cX12_clause 84 = .ok (.iconst 0, 1) := by decide +kernel
theorem dX12_clause_85 : decode cX12_clause 85 = .ok (.putfield 307, 3) := by decide +kernel
theorem dX12_clause_88 : decode cX12_clause 88 = .ok (.aload_n 0, 1) := by decide +kernel
theorem dX12_clause_89 : decode cX12_clause 89 = .ok (.iconst 0, 1) := by decide +kernel
theorem dX12_clause_90 : decode cX12_clause 90 = .ok (.putfield 310, 3) := by decide +kernel
theorem dX12_clause_93 : decode cX12_clause 93 = .ok (.iload_n 1, 1) := by decide +kernel
theorem dX12_clause_94 : decode cX12_clause 94 = .ok (.bipush 120, 2) := by decide +kernel
theorem dX12_clause_96 : decode cX12_clause 96 = .ok (.if_icmp .eq 7, 3) := by decide +kernel
theorem dX12_clause_99 : decode cX12_clause 99 = .ok (.aload_n 0, 1) := by decide +kernel
theorem dX12_clause_100 : decode cX12_clause 100 = .ok (.invokevirtual 353, 3) := by decide +kernel
theorem dX12_clause_103 : decode cX12_clause 103 = .ok (.aload_n 0, 1) := by decide +kernel
theorem dX12_clause_104 : decode cX12_clause 104 = .ok (.getfield 67, 3) := by decide +kernel
theorem dX12_clause_107 : decode cX12_clause 107 = .ok (.aload_n 0, 1) := by decide +kernel
theorem dX12_clause_108 : decode cX12_clause 108 = .ok (.getfield 377, 3) := by decide +kernel
theorem dX12_clause_111 : decode cX12_clause 111 = .ok (.aload_n 0, 1) := by decide +kernel
theorem dX12_clause_112 : decode cX12_clause 112 = .ok (.getfield 304, 3) := by decide +kernel
theorem dX12_clause_115 : decode cX12_clause 115 = .ok (.iastore, 1) := by decide +kernel
theorem dX12_clause_116 : decode cX12_clause 116 = .ok (.aload_n 0, 1) := by decide +kernel
theorem dX12_clause_117 : decode cX12_clause 117 = .ok (.invokevirtual 233, 3) := by decide +kernel
theorem dX12_clause_120 : decode cX12_clause 120 = .ok (.ifCond .eq 7, 3) := by decide +kernel
theorem dX12_clause_123 : decode cX12_clause 123 = .ok (.aload_n 0, 1) := by decide +kernel
theorem dX12_clause_124 : decode cX12_clause 124 = .ok (.invokevirtual 380, 3) := by decide +kernel
theorem dX12_clause_127 : decode cX12_clause 127 = .ok (.aload_n 0, 1) := by decide +kernel
theorem dX12_clause_128 : decode cX12_clause 128 = .ok (.getfield 70, 3) := by decide +kernel
theorem dX12_clause_131 : decode cX12_clause 131 = .ok (.aload_n 0, 1) := by decide +kernel
theorem dX12_clause_132 : decode cX12_clause 132 = .ok (.getfield 377, 3) := by decide +kernel
theorem dX12_clause_135 : decode cX12_clause 135 = .ok (.aload_n 0, 1) := by decide +kernel
theorem dX12_clause_136 : decode cX12_clause 136 = .ok (.getfield 304, 3) := by decide +kernel
theorem dX12_clause_139 : decode cX12_clause 139 = .ok (.iastore, 1) := by decide +kernel
theorem dX12_clause_140 : decode cX12_clause 140 = .ok (.aload_n 0, 1) := by decide +kernel
theorem dX12_clause_141 : decode cX12_clause 141 = .ok (.dup, 1) := by decide +kernel
theorem dX12_clause_142 : decode cX12_clause 142 = .ok (.getfield 377, 3) := by decide +kernel
theorem dX12_clause_145 : decode cX12_clause 145 = .ok (.iconst 1, 1) := by decide +kernel
theorem dX12_clause_146 : decode cX12_clause 146 = .ok (.iadd, 1) := by decide +kernel
theorem dX12_clause_147 : decode cX12_clause 147 = .ok (.putfield 377, 3) := by decide +kernel
theorem dX12_clause_150 : decode cX12_clause 150 = .ok (.return_, 1) := by decide +kernel
theorem dX12_law_0 : decode cX12_law 0 = .ok (.iload_n 1, 1) := by decide +kernel
theorem dX12_law_1 : decode cX12_law 1 = .ok (.i2l, 1) := by decide +kernel
theorem dX12_law_2 : decode cX12_law 2 = .ok (.lconst 1, 1) := by decide +kernel
theorem dX12_law_3 : decode cX12_law 3 = .ok (.ldc2_w 383, 3) := by decide +kernel
theorem dX12_law_6 : decode cX12_law 6 = .ok (.invokestatic 222, 3) := by decide +kernel
theorem dX12_law_9 : decode cX12_law 9 = .ok (.ifCond .eq 11, 3) := by decide +kernel
theorem dX12_law_12 : decode cX12_law 12 = .ok (.iload_n 1, 1) := by decide +kernel
theorem dX12_law_13 : decode cX12_law 13 = .ok (.aload_n 0, 1) := by decide +kernel
theorem dX12_law_14 : decode cX12_law 14 = .ok (.getfield 198, 3) := by decide +kernel
theorem dX12_law_17 : decode cX12_law 17 = .ok (.if_icmp .le 5, 3) := by decide +kernel
theorem dX12_law_20 : decode cX12_law 20 = .ok (.iconst (-1), 1) := by decide +kernel
theorem dX12_law_21 : decode cX12_law 21 = .ok (.ireturn, 1) := by decide +kernel
theorem dX12_law_22 : decode cX12_law 22 = .ok (.aload_n 0, 1) := by decide +kernel
theorem dX12_law_23 : decode cX12_law 23 = .ok (.iload_n 1, 1) := by decide +kernel
theorem dX12_law_24 : decode cX12_law 24 = .ok (.invokevirtual 269, 3) := by decide +kernel
theorem dX12_law_27 : decode cX12_law 27 = .ok (.aload_n 0, 1) := by decide +kernel
theorem dX12_law_28 : decode cX12_law 28 = .ok (.iconst 0, 1) := by decide +kernel
theorem dX12_law_29 : decode cX12_law 29 = .ok (.putfield 377, 3) := by decide +kernel
theorem dX12_law_32 : decode cX12_law 32 = .ok (.aload_n 0, 1) := by decide +kernel
theorem dX12_law_33 : decode cX12_law 33 = .ok (.iconst 0, 1) := by decide +kernel
theorem dX12_law_34 : decode cX12_law 34 = .ok (.putfield 304, 3) := by decide +kernel
theorem dX12_law_37 : decode cX12_law 37 = .ok (.iconst 1, 1) := by decide +kernel
theorem dX12_law_38 : decode cX12_law 38 = .ok (.istore_n 2, 1) := by decide +kernel
theorem dX12_law_39 : decode cX12_law 39 = .ok (.iload_n 2, 1) := by decide +kernel
theorem dX12_law_40 : decode cX12_law 40 = .ok (.ifCond .eq 73, 3) := by decide +kernel
theorem dX12_law_43 : decode cX12_law 43 = .ok (.aload_n 0, 1) := by decide +kernel
theorem dX12_law_44 : decode cX12_law 44 = .ok (.invokevirtual 233, 3) := by decide +kernel
theorem dX12_law_47 : decode cX12_law 47 = .ok (.ifCond .eq 66, 3) := by decide +kernel
theorem dX12_law_50 : decode cX12_law 50 = .ok (.aload_n 0, 1) := by decide +kernel
theorem dX12_law_51 : decode cX12_law 51 = .ok (.invokevirtual 385, 3) := by decide +kernel
theorem dX12_law_54 : decode cX12_law 54 = .ok (.aload_n 0, 1) := by decide +kernel
theorem dX12_law_55 : decode cX12_law 55 = .ok (.invokevirtual 233, 3) := by decide +kernel
theorem dX12_law_58 : decode cX12_law 58 = .ok (.ifCond .eq 18, 3) := by decide +kernel
theorem dX12_law_61 : decode cX12_law 61 = .ok (.aload_n 0, 1) := by decide +kernel
theorem dX12_law_62 : decode cX12_law 62 = .ok (.getfield 205, 3) := by decide +kernel
theorem dX12_law_65 : decode cX12_law 65 = .ok (.aload_n 0, 1) := by decide +kernel
theorem dX12_law_66 : decode cX12_law 66 = .ok (.getfield 208, 3) := by decide +kernel
theorem dX12_law_69 : decode cX12_law 69 = .ok (.if_icmp .ge 7, 3) := by decide +kernel
theorem dX12_law_72 : decode cX12_law 72 = .ok (.iconst 1, 1) := by decide +kernel
theorem dX12_law_73 : decode cX12_law 73 = .ok (.goto 4, 3) := by decide +kernel
theorem dX12_law_76 : decode cX12_law 76 = .ok (.iconst 0, 1) := by decide +kernel
theorem dX12_law_77 : decode cX12_law 77 = .ok (.istore_n 2, 1) := by decide +kernel
theorem dX12_law_78 : decode cX12_law 78 = .ok (.iload_n 2, 1) := by decide +kernel
theorem dX12_law_79 : decode cX12_law 79 = .ok (.ifCond .eq (-40), 3) := by decide +kernel
theorem dX12_law_82 : decode cX12_law 82 = .ok (.aload_n 0, 1) := by decide +kernel
theorem dX12_law_83 : decode cX12_law 83 = .ok (.invokevirtual 214, 3) := by decide +kernel
theorem dX12_law_86 : decode cX12_law 86 = .ok (.bipush 59, 2) := by decide +kernel
theorem dX12_law_88 : decode cX12_law 88 = .ok (.if_icmp .eq 12, 3) := by decide +kernel
theorem dX12_law_91 : decode cX12_law 91 = .ok (.aload_n 0, 1) := by decide +kernel
theorem dX12_law_92 : decode cX12_law 92 = .ok (.iconst 1, 1) := by decide +kernel
theorem dX12_law_93 : decode cX12_law 93 = .ok (.aload_n 0, 1) := by decide +kernel
theorem dX12_law_94 : decode cX12_law 94 = .ok (.getfield 205, 3) := by decide +kernel
theorem dX12_law_97 : decode cX12_law 97 = .ok (.invokevirtual 229, 3) := by decide +kernel
theorem dX12_law_100 : decode cX12_law 100 = .ok (.aload_n 0, 1) := by decide +kernel
theorem dX12_law_101 : decode cX12_law 101 = .ok (.dup, 1) := by decide +kernel
theorem dX12_law_102 : decode cX12_law 102 = .ok (.getfield 205, 3) := by decide +kernel
theorem dX12_law_105 : decode cX12_law 105 = .ok (.iconst 1, 1) := by decide +kernel
theorem dX12_law_106 : decode cX12_law 106 = .ok (.iadd, 1) := by decide +kernel
theorem dX12_law_107 : decode cX12_law 107 = .ok (.putfield 205, 3) := by decide +kernel
theorem dX12_law_110 : decode cX12_law 110 = .ok (.goto (-71), 3) := by decide +kernel
theorem dX12_law_113 : decode cX12_law 113 = .ok (.aload_n 0, 1) := by decide +kernel
theorem dX12_law_114 : decode cX12_law 114 = .ok (.getfield 211, 3) := by decide +kernel
theorem dX12_law_117 : decode cX12_law 117 = .ok (.ifCond .ge 8, 3) := by decide +kernel
theorem dX12_law_120 : decode cX12_law 120 = .ok (.aload_n 0, 1) := by decide +kernel
theorem dX12_law_121 : decode cX12_law 121 = .ok (.getfield 211, 3) := by decide +kernel
theorem dX12_law_124 : decode cX12_law 124 = .ok (.ireturn, 1) := by decide +kernel
theorem dX12_law_125 : decode cX12_law 125 = .ok (.iconst 0, 1) := by decide +kernel
theorem dX12_law_126 : decode cX12_law 126 = .ok (.istore_n 3, 1) := by decide +kernel
theorem dX12_law_127 : decode cX12_law 127 = .ok (.iload_n 3, 1) := by decide +kernel
theorem dX12_law_128 : decode cX12_law 128 = .ok (.aload_n 0, 1) := by decide +kernel
theorem dX12_law_129 : decode cX12_law 129 = .ok (.getfield 377, 3) := by decide +kernel
theorem dX12_law_132 : decode cX12_law 132 = .ok (.if_icmp .ge 57, 3) := by decide +kernel
theorem dX12_law_135 : decode cX12_law 135 = .ok (.aload_n 0, 1) := by decide +kernel
theorem dX12_law_136 : decode cX12_law 136 = .ok (.getfield 40, 3) := by decide +kernel
theorem dX12_law_139 : decode cX12_law 139 = .ok (.iload_n 3, 1) := by decide +kernel
theorem dX12_law_140 : decode cX12_law 140 = .ok (.aload_n 0, 1) := by decide +kernel
theorem dX12_law_141 : decode cX12_law 141 = .ok (.getfield 61, 3) := by decide +kernel
theorem dX12_law_144 : decode cX12_law 144 = .ok (.iload_n 3, 1) := by decide +kernel
theorem dX12_law_145 : decode cX12_law 145 = .ok (.iaload, 1) := by decide +kernel
theorem dX12_law_146 : decode cX12_law 146 = .ok (.iastore, 1) := by decide +kernel
theorem dX12_law_147 : decode cX12_law 147 = .ok (.aload_n 0, 1) := by decide +kernel
theorem dX12_law_148 : decode cX12_law 148 = .ok (.getfield 43, 3) := by decide +kernel
theorem dX12_law_151 : decode cX12_law 151 = .ok (.iload_n 3, 1) := by decide +kernel
theorem dX12_law_152 : decode cX12_law 152 = .ok (.aload_n 0, 1) := by decide +kernel
theorem dX12_law_153 : decode cX12_law 153 = .ok (.getfield 64, 3) := by decide +kernel
theorem dX12_law_156 : decode cX12_law 156 = .ok (.iload_n 3, 1) := by decide +kernel
theorem dX12_law_157 : decode cX12_law 157 = .ok (.iaload, 1) := by decide +kernel
theorem dX12_law_158 : decode cX12_law 158 = .ok (.iastore, 1) := by decide +kernel
theorem dX12_law_159 : decode cX12_law 159 = .ok (.aload_n 0, 1) := by decide +kernel
theorem dX12_law_160 : decode cX12_law 160 = .ok (.getfield 46, 3) := by decide +kernel
theorem dX12_law_163 : decode cX12_law 163 = .ok (.iload_n 3, 1) := by decide +kernel
theorem dX12_law_164 : decode cX12_law 164 = .ok (.aload_n 0, 1) := by decide +kernel
theorem dX12_law_165 : decode cX12_law 165 = .ok (.getfield 67, 3) := by decide +kernel
theorem dX12_law_168 : decode cX12_law 168 = .ok (.iload_n 3, 1) := by decide +kernel
theorem dX12_law_169 : decode cX12_law 169 = .ok (.iaload, 1) := by decide +kernel
theorem dX12_law_170 : decode cX12_law 170 = .ok (.iastore, 1) := by decide +kernel
theorem dX12_law_171 : decode cX12_law 171 = .ok (.aload_n 0, 1) := by decide +kernel
theorem dX12_law_172 : decode cX12_law 172 = .ok (.getfield 49, 3) := by decide +kernel
theorem dX12_law_175 : decode cX12_law 175 = .ok (.iload_n 3, 1) := by decide +kernel
theorem dX12_law_176 : decode cX12_law 176 = .ok (.aload_n 0, 1) := by decide +kernel
theorem dX12_law_177 : decode cX12_law 177 = .ok (.getfield 70, 3) := by decide +kernel
theorem dX12_law_180 : decode cX12_law 180 = .ok (.iload_n 3, 1) := by decide +kernel
theorem dX12_law_181 : decode cX12_law 181 = .ok (.iaload, 1) := by decide +kernel
theorem dX12_law_182 : decode cX12_law 182 = .ok (.iastore, 1) := by decide +kernel
theorem dX12_law_183 : decode cX12_law 183 = .ok (.iinc 3 1, 3) := by decide +kernel
theorem dX12_law_186 : decode cX12_law 186 = .ok (.goto (-59), 3) := by decide +kernel
theorem dX12_law_189 : decode cX12_law 189 = .ok (.iconst 0, 1) := by decide +kernel
theorem dX12_law_190 : decode cX12_law 190 = .ok (.istore_n 3, 1) := by decide +kernel
theorem dX12_law_191 : decode cX12_law 191 = .ok (.iload_n 3, 1) := by decide +kernel
theorem dX12_law_192 : decode cX12_law 192 = .ok (.aload_n 0, 1) := by decide +kernel
theorem dX12_law_193 : decode cX12_law 193 = .ok (.getfield 304, 3) := by decide +kernel
theorem dX12_law_196 : decode cX12_law 196 = .ok (.if_icmp .ge 33, 3) := by decide +kernel
theorem dX12_law_199 : decode cX12_law 199 = .ok (.aload_n 0, 1) := by decide +kernel
theorem dX12_law_200 : decode cX12_law 200 = .ok (.getfield 52, 3) := by decide +kernel
theorem dX12_law_203 : decode cX12_law 203 = .ok (.iload_n 3, 1) := by decide +kernel
theorem dX12_law_204 : decode cX12_law 204 = .ok (.aload_n 0, 1) := by decide +kernel
theorem dX12_law_205 : decode cX12_law 205 = .ok (.getfield 73, 3) := by decide +kernel
theorem dX12_law_208 : decode cX12_law 208 = .ok (.iload_n 3, 1) := by decide +kernel
theorem dX12_law_209 : decode cX12_law 209 = .ok (.iaload, 1) := by decide +kernel
theorem dX12_law_210 : decode cX12_law 210 = .ok (.iastore, 1) := by decide +kernel
theorem dX12_law_211 : decode cX12_law 211 = .ok (.aload_n 0, 1) := by decide +kernel
theorem dX12_law_212 : decode cX12_law 212 = .ok (.getfield 55, 3) := by decide +kernel
theorem dX12_law_215 : decode cX12_law 215 = .ok (.iload_n 3, 1) := by decide +kernel
theorem dX12_law_216 : decode cX12_law 216 = .ok (.aload_n 0, 1) := by decide +kernel
theorem dX12_law_217 : decode cX12_law 217 = .ok (.getfield 76, 3) := by decide +kernel
theorem dX12_law_220 : decode cX12_law 220 = .ok (.iload_n 3, 1) := by decide +kernel
theorem dX12_law_221 : decode cX12_law 221 = .ok (.iaload, 1) := by decide +kernel
theorem dX12_law_222 : decode cX12_law 222 = .ok (.iastore, 1) := by decide +kernel
theorem dX12_law_223 : decode cX12_law 223 = .ok (.iinc 3 1, 3) := by decide +kernel
theorem dX12_law_226 : decode cX12_law 226 = .ok (.goto (-35), 3) := by decide +kernel
theorem dX12_law_229 : decode cX12_law 229 = .ok (.aload_n 0, 1) := by decide +kernel
theorem dX12_law_230 : decode cX12_law 230 = .ok (.getfield 58, 3) := by decide +kernel
theorem dX12_law_233 : decode cX12_law 233 = .ok (.iconst 0, 1) := by decide +kernel
theorem dX12_law_234 : decode cX12_law 234 = .ok (.aload_n 0, 1) := by decide +kernel
theorem dX12_law_235 : decode cX12_law 235 = .ok (.getfield 377, 3) := by decide +kernel
theorem dX12_law_238 : decode cX12_law 238 = .ok (.iastore, 1) := by decide +kernel
theorem dX12_law_239 : decode cX12_law 239 = .ok (.aload_n 0, 1) := by decide +kernel
theorem dX12_law_240 : decode cX12_law 240 = .ok (.aload_n 0, 1) := by decide +kernel
theorem dX12_law_241 : decode cX12_law 241 = .ok (.getfield 304, 3) := by decide +kernel
theorem dX12_law_244 : decode cX12_law 244 = .ok (.putfield 388, 3) := by decide +kernel
theorem dX12_law_247 : decode cX12_law 247 = .ok (.aload_n 0, 1) := by decide +kernel
theorem dX12_law_248 : decode cX12_law 248 = .ok (.getfield 377, 3) := by decide +kernel
theorem dX12_law_251 : decode cX12_law 251 = .ok (.ireturn, 1) := by decide +kernel
theorem dX12_copy_0 : decode cX12_copy 0 = .ok (.iconst 0, 1) := by decide +kernel
theorem dX12_copy_1 : decode cX12_copy 1 = .ok (.istore_n 1, 1) := by decide +kernel
theorem dX12_copy_2 : decode cX12_copy 2 = .ok (.iload_n 1, 1) := by decide +kernel
theorem dX12_copy_3 : decode cX12_copy 3 = .ok (.aload_n 0, 1) := by decide +kernel
theorem dX12_copy_4 : decode cX12_copy 4 = .ok (.getfield 58, 3) := by decide +kernel
theorem dX12_copy_7 : decode cX12_copy 7 = .ok (.iconst 0, 1) := by decide +kernel
theorem dX12_copy_8 : decode cX12_copy 8 = .ok (.iaload, 1) := by decide +kernel
theorem dX12_copy_9 : decode cX12_copy 9 = .ok (.if_icmp .ge 81, 3) := by decide +kernel
theorem dX12_copy_12 : decode cX12_copy 12 = .ok (.aload_n 0, 1) := by decide +kernel
theorem dX12_copy_13 : decode cX12_copy 13 = .ok (.getfield 40, 3) := by decide +kernel
theorem dX12_copy_16 : decode cX12_copy 16 = .ok (.bipush 16, 2) := by decide +kernel
theorem dX12_copy_18 : decode cX12_copy 18 = .ok (.iload_n 1, 1) := by decide +kernel
theorem dX12_copy_19 : decode cX12_copy 19 = .ok (.iadd, 1) := by decide +kernel
theorem dX12_copy_20 : decode cX12_copy 20 = .ok (.aload_n 0, 1) := by decide +kernel
theorem dX12_copy_21 : decode cX12_copy 21 = .ok (.getfield 40, 3) := by decide +kernel
theorem dX12_copy_24 : decode cX12_copy 24 = .ok (.iload_n 1, 1) := by decide +kernel
theorem dX12_copy_25 : decode cX12_copy 25 = .ok (.iaload, 1) := by decide +kernel
theorem dX12_copy_26 : decode cX12_copy 26 = .ok (.iastore, 1) := by decide +kernel
theorem dX12_copy_27 : decode cX12_copy 27 = .ok (.aload_n 0, 1) := by decide +kernel
theorem dX12_copy_28 : decode cX12_copy 28 = .ok (.getfield 43, 3) := by decide +kernel
theorem dX12_copy_31 : decode cX12_copy 31 = .ok (.bipush 16, 2) := by decide +kernel
theorem dX12_copy_33 : decode cX12_copy 33 = .ok (.iload_n 1, 1) := by decide +kernel
theorem dX12_copy_34 : decode cX12_copy 34 = .ok (.iadd, 1) := by decide +kernel
theorem dX12_copy_35 : decode cX12_copy 35 = .ok (.sipush 240, 3) := by decide +kernel
theorem dX12_copy_38 : decode cX12_copy 38 = .ok (.aload_n 0, 1) := by decide +kernel
theorem dX12_copy_39 : decode cX12_copy 39 = .ok (.getfield 43, 3) := by decide +kernel
theorem dX12_copy_42 : decode cX12_copy 42 = .ok (.iload_n 1, 1) := by decide +kernel
theorem dX12_copy_43 : decode cX12_copy 43 = .ok (.iaload, 1) := by decide +kernel
theorem dX12_copy_44 : decode cX12_copy 44 = .ok (.iadd, 1) := by decide +kernel
theorem dX12_copy_45 : decode cX12_copy 45 = .ok (.iastore, 1) := by decide +kernel
theorem dX12_copy_46 : decode cX12_copy 46 = .ok (.aload_n 0, 1) := by decide +kernel
theorem dX12_copy_47 : decode cX12_copy 47 = .ok (.getfield 46, 3) := by decide +kernel
theorem dX12_copy_50 : decode cX12_copy 50 = .ok (.bipush 16, 2) := by decide +kernel
theorem dX12_copy_52 : decode cX12_copy 52 = .ok (.iload_n 1, 1) := by decide +kernel
theorem dX12_copy_53 : decode cX12_copy 53 = .ok (.iadd, 1) := by decide +kernel
theorem dX12_copy_54 : decode cX12_copy 54 = .ok (.sipush 240, 3) := by decide +kernel
theorem dX12_copy_57 : decode cX12_copy 57 = .ok (.aload_n 0, 1) := by decide +kernel
theorem dX12_copy_58 : decode cX12_copy 58 = .ok (.getfield 46, 3) := by decide +kernel
theorem dX12_copy_61 : decode cX12_copy 61 = .ok (.iload_n 1, 1) := by decide +kernel
theorem dX12_copy_62 : decode cX12_copy 62 = .ok (.iaload, 1) := by decide +kernel
theorem dX12_copy_63 : decode cX12_copy 63 = .ok (.iadd, 1) := by decide +kernel
theorem dX12_copy_64 : decode cX12_copy 64 = .ok (.iastore, 1) := by decide +kernel
theorem dX12_copy_65 : decode cX12_copy 65 = .ok (.aload_n 0, 1) := by decide +kernel
theorem dX12_copy_66 : decode cX12_copy 66 = .ok (.getfield 49, 3) := by decide +kernel
theorem dX12_copy_69 : decode cX12_copy 69 = .ok (.bipush 16, 2) := by decide +kernel
theorem dX12_copy_71 : decode cX12_copy 71 = .ok (.iload_n 1, 1) := by decide +kernel
theorem dX12_copy_72 : decode cX12_copy 72 = .ok (.iadd, 1) := by decide +kernel
theorem dX12_copy_73 : decode cX12_copy 73 = .ok (.sipush 240, 3) := by decide +kernel
theorem dX12_copy_76 : decode cX12_copy 76 = .ok (.aload_n 0, 1) := by decide +kernel
theorem dX12_copy_77 : decode cX12_copy 77 = .ok (.getfield 49, 3) := by decide +kernel
theorem dX12_copy_80 : decode cX12_copy 80 = .ok (.iload_n 1, 1) := by decide +kernel
theorem dX12_copy_81 : decode cX12_copy 81 = .ok (.iaload, 1) := by decide +kernel
theorem dX12_copy_82 : decode cX12_copy 82 = .ok (.iadd, 1) := by decide +kernel
theorem dX12_copy_83 : decode cX12_copy 83 = .ok (.iastore, 1) := by decide +kernel
theorem dX12_copy_84 : decode cX12_copy 84 = .ok (.iinc 1 1, 3) := by decide +kernel
theorem dX12_copy_87 : decode cX12_copy 87 = .ok (.goto (-85), 3) := by decide +kernel
theorem dX12_copy_90 : decode cX12_copy 90 = .ok (.iconst 0, 1) := by decide +kernel
theorem dX12_copy_91 : decode cX12_copy 91 = .ok (.istore_n 1, 1) := by decide +kernel
theorem dX12_copy_92 : decode cX12_copy 92 = .ok (.iload_n 1, 1) := by decide +kernel
theorem dX12_copy_93 : decode cX12_copy 93 = .ok (.aload_n 0, 1) := by decide +kernel
theorem dX12_copy_94 : decode cX12_copy 94 = .ok (.getfield 388, 3) := by decide +kernel
theorem dX12_copy_97 : decode cX12_copy 97 = .ok (.if_icmp .ge 41, 3) := by decide +kernel
theorem dX12_copy_100 : decode cX12_copy 100 = .ok (.aload_n 0, 1) := by decide +kernel
theorem dX12_copy_101 : decode cX12_copy 101 = .ok (.getfield 52, 3) := by decide +kernel
theorem dX12_copy_104 : decode cX12_copy 104 = .ok (.sipush 240, 3) := by decide +kernel
theorem dX12_copy_107 : decode cX12_copy 107 = .ok (.iload_n 1, 1) := by decide +kernel
theorem dX12_copy_108 : decode cX12_copy 108 = .ok (.iadd, 1) := by decide +kernel
theorem dX12_copy_109 : decode cX12_copy 109 = .ok (.aload_n 0, 1) := by decide +kernel
theorem dX12_copy_110 : decode cX12_copy 110 = .ok (.getfield 52, 3) := by decide +kernel
theorem dX12_copy_113 : decode cX12_copy 113 = .ok (.iload_n 1, 1) := by decide +kernel
theorem dX12_copy_114 : decode cX12_copy 114 = .ok (.iaload, 1) := by decide +kernel
theorem dX12_copy_115 : decode cX12_copy 115 = .ok (.iastore, 1) := by decide +kernel
theorem dX12_copy_116 : decode cX12_copy 116 = .ok (.aload_n 0, 1) := by decide +kernel
theorem dX12_copy_117 : decode cX12_copy 117 = .ok (.getfield 55, 3) := by decide +kernel
theorem dX12_copy_120 : decode cX12_copy 120 = .ok (.sipush 240, 3) := by decide +kernel
theorem dX12_copy_123 : decode cX12_copy 123 = .ok (.iload_n 1, 1) := by decide +kernel
theorem dX12_copy_124 : decode cX12_copy 124 = .ok (.iadd, 1) := by decide +kernel
theorem dX12_copy_125 : decode cX12_copy 125 = .ok (.aload_n 0, 1) := by decide +kernel
theorem dX12_copy_126 : decode cX12_copy 126 = .ok (.getfield 55, 3) := by decide +kernel
theorem dX12_copy_129 : decode cX12_copy 129 = .ok (.iload_n 1, 1) := by decide +kernel
theorem dX12_copy_130 : decode cX12_copy 130 = .ok (.iaload, 1) := by decide +kernel
theorem dX12_copy_131 : decode cX12_copy 131 = .ok (.iastore, 1) := by decide +kernel
theorem dX12_copy_132 : decode cX12_copy 132 = .ok (.iinc 1 1, 3) := by decide +kernel
theorem dX12_copy_135 : decode cX12_copy 135 = .ok (.goto (-43), 3) := by decide +kernel
theorem dX12_copy_138 : decode cX12_copy 138 = .ok (.aload_n 0, 1) := by decide +kernel
theorem dX12_copy_139 : decode cX12_copy 139 = .ok (.getfield 58, 3) := by decide +kernel
theorem dX12_copy_142 : decode cX12_copy 142 = .ok (.iconst 1, 1) := by decide +kernel
theorem dX12_copy_143 : decode cX12_copy 143 = .ok (.aload_n 0, 1) := by decide +kernel
theorem dX12_copy_144 : decode cX12_copy 144 = .ok (.getfield 58, 3) := by decide +kernel
theorem dX12_copy_147 : decode cX12_copy 147 = .ok (.iconst 0, 1) := by decide +kernel
theorem dX12_copy_148 : decode cX12_copy 148 = .ok (.iaload, 1) := by decide +kernel
theorem dX12_copy_149 : decode cX12_copy 149 = .ok (.iastore, 1) := by decide +kernel
theorem dX12_copy_150 : decode cX12_copy 150 = .ok (.aload_n 0, 1) := by decide +kernel
theorem dX12_copy_151 : decode cX12_copy 151 = .ok (.getfield 58, 3) := by decide +kernel
theorem dX12_copy_154 : decode cX12_copy 154 = .ok (.iconst 1, 1) := by decide +kernel
theorem dX12_copy_155 : decode cX12_copy 155 = .ok (.iaload, 1) := by decide +kernel
theorem dX12_copy_156 : decode cX12_copy 156 = .ok (.ireturn, 1) := by decide +kernel
theorem dX12_valueOf_0 : decode cX12_valueOf 0 = .ok (.iload_n 1, 1) := by decide +kernel
theorem dX12_valueOf_1 : decode cX12_valueOf 1 = .ok (.tableswitch 174 97 122 #[144, 174, 159, 174, 154, 174, 174, 169, 174, 174, 119, 139, 129, 174, 134, 174, 174, 149, 174, 174, 124, 174, 174, 174, 174, 164], 119) := by decide +kernel
theorem dX12_valueOf_120 : decode cX12_valueOf 120 = .ok (.aload_n 0, 1) := by decide +kernel
theorem dX12_valueOf_121 : decode cX12_valueOf 121 = .ok (.getfield 391, 3) := by decide +kernel
theorem dX12_valueOf_124 : decode cX12_valueOf 124 = .ok (.ireturn, 1) := by decide +kernel
theorem dX12_valueOf_125 : decode cX12_valueOf 125 = .ok (.aload_n 0, 1) := by decide +kernel
theorem dX12_valueOf_126 : decode cX12_valueOf 126 = .ok (.getfield 394, 3) := by decide +kernel
theorem dX12_valueOf_129 : decode cX12_valueOf 129 = .ok (.ireturn, 1) := by decide +kernel
theorem dX12_valueOf_130 : decode cX12_valueOf 130 = .ok (.aload_n 0, 1) := by decide +kernel
theorem dX12_valueOf_131 : decode cX12_valueOf 131 = .ok (.getfield 397, 3) := by decide +kernel
theorem dX12_valueOf_134 : decode cX12_valueOf 134 = .ok (.ireturn, 1) := by decide +kernel
theorem dX12_valueOf_135 : decode cX12_valueOf 135 = .ok (.aload_n 0, 1) := by decide +kernel
theorem dX12_valueOf_136 : decode cX12_valueOf 136 = .ok (.getfield 400, 3) := by decide +kernel
theorem dX12_valueOf_139 : decode cX12_valueOf 139 = .ok (.ireturn, 1) := by decide +kernel
theorem dX12_valueOf_140 : decode cX12_valueOf 140 = .ok (.aload_n 0, 1) := by decide +kernel
theorem dX12_valueOf_141 : decode cX12_valueOf 141 = .ok (.getfield 403, 3) := by decide +kernel
theorem dX12_valueOf_144 : decode cX12_valueOf 144 = .ok (.ireturn, 1) := by decide +kernel
theorem dX12_valueOf_145 : decode cX12_valueOf 145 = .ok (.aload_n 0, 1) := by decide +kernel
theorem dX12_valueOf_146 : decode cX12_valueOf 146 = .ok (.getfield 406, 3) := by decide +kernel
theorem dX12_valueOf_149 : decode cX12_valueOf 149 = .ok (.ireturn, 1) := by decide +kernel
theorem dX12_valueOf_150 : decode cX12_valueOf 150 = .ok (.aload_n 0, 1) := by decide +kernel
theorem dX12_valueOf_151 : decode cX12_valueOf 151 = .ok (.getfield 409, 3) := by decide +kernel
theorem dX12_valueOf_154 : decode cX12_valueOf 154 = .ok (.ireturn, 1) := by decide +kernel
theorem dX12_valueOf_155 : decode cX12_valueOf 155 = .ok (.aload_n 0, 1) := by decide +kernel
theorem dX12_valueOf_156 : decode cX12_valueOf 156 = .ok (.getfield 412, 3) := by decide +kernel
theorem dX12_valueOf_159 : decode cX12_valueOf 159 = .ok (.ireturn, 1) := by decide +kernel
theorem dX12_valueOf_160 : decode cX12_valueOf 160 = .ok (.aload_n 0, 1) := by decide +kernel
theorem dX12_valueOf_161 : decode cX12_valueOf 161 = .ok (.getfield 415, 3) := by decide +kernel
theorem dX12_valueOf_164 : decode cX12_valueOf 164 = .ok (.ireturn, 1) := by decide +kernel
theorem dX12_valueOf_165 : decode cX12_valueOf 165 = .ok (.aload_n 0, 1) := by decide +kernel
theorem dX12_valueOf_166 : decode cX12_valueOf 166 = .ok (.getfield 418, 3) := by decide +kernel
theorem dX12_valueOf_169 : decode cX12_valueOf 169 = .ok (.ireturn, 1) := by decide +kernel
theorem dX12_valueOf_170 : decode cX12_valueOf 170 = .ok (.aload_n 0, 1) := by decide +kernel
theorem dX12_valueOf_171 : decode cX12_valueOf 171 = .ok (.getfield 421, 3) := by decide +kernel
theorem dX12_valueOf_174 : decode cX12_valueOf 174 = .ok (.ireturn, 1) := by decide +kernel
theorem dX12_valueOf_175 : decode cX12_valueOf 175 = .ok (.aload_n 0, 1) := by decide +kernel
theorem dX12_valueOf_176 : decode cX12_valueOf 176 = .ok (.getfield 424, 3) := by decide +kernel
theorem dX12_valueOf_179 : decode cX12_valueOf 179 = .ok (.ireturn, 1) := by decide +kernel
theorem dX12_worked_0 : decode cX12_worked 0 = .ok (.iload_n 0, 1) := by decide +kernel
theorem dX12_worked_1 : decode cX12_worked 1 = .ok (.lookupswitch 125 #[(37, 91), (42, 75), (43, 67), (45, 71), (47, 79), (60, 103), (62, 114)], 67) := by decide +kernel
theorem dX12_worked_68 : decode cX12_worked 68 = .ok (.iload_n 1, 1) := by decide +kernel
theorem dX12_worked_69 : decode cX12_worked 69 = .ok (.iload_n 2, 1) := by decide +kernel
theorem dX12_worked_70 : decode cX12_worked 70 = .ok (.iadd, 1) := by decide +kernel
theorem dX12_worked_71 : decode cX12_worked 71 = .ok (.ireturn, 1) := by decide +kernel
theorem dX12_worked_72 : decode cX12_worked 72 = .ok (.iload_n 1, 1) := by decide +kernel
theorem dX12_worked_73 : decode cX12_worked 73 = .ok (.iload_n 2, 1) := by decide +kernel
theorem dX12_worked_74 : decode cX12_worked 74 = .ok (.isub, 1) := by decide +kernel
theorem dX12_worked_75 : decode cX12_worked 75 = .ok (.ireturn, 1) := by decide +kernel
theorem dX12_worked_76 : decode cX12_worked 76 = .ok (.iload_n 1, 1) := by decide +kernel
theorem dX12_worked_77 : decode cX12_worked 77 = .ok (.iload_n 2, 1) := by decide +kernel
theorem dX12_worked_78 : decode cX12_worked 78 = .ok (.imul, 1) := by decide +kernel
theorem dX12_worked_79 : decode cX12_worked 79 = .ok (.ireturn, 1) := by decide +kernel
theorem dX12_worked_80 : decode cX12_worked 80 = .ok (.iload_n 2, 1) := by decide +kernel
theorem dX12_worked_81 : decode cX12_worked 81 = .ok (.ifCond .ne 7, 3) := by decide +kernel
theorem dX12_worked_84 : decode cX12_worked 84 = .ok (.iconst 0, 1) := by decide +kernel
theorem dX12_worked_85 : decode cX12_worked 85 = .ok (.goto 6, 3) := by decide +kernel
theorem dX12_worked_88 : decode cX12_worked 88 = .ok (.iload_n 1, 1) := by decide +kernel
theorem dX12_worked_89 : decode cX12_worked 89 = .ok (.iload_n 2, 1) := by decide +kernel
theorem dX12_worked_90 : decode cX12_worked 90 = .ok (.idiv, 1) := by decide +kernel
theorem dX12_worked_91 : decode cX12_worked 91 = .ok (.ireturn, 1) := by decide +kernel
theorem dX12_worked_92 : decode cX12_worked 92 = .ok (.iload_n 2, 1) := by decide +kernel
theorem dX12_worked_93 : decode cX12_worked 93 = .ok (.ifCond .ne 7, 3) := by decide +kernel
theorem dX12_worked_96 : decode cX12_worked 96 = .ok (.iconst 0, 1) := by decide +kernel
theorem dX12_worked_97 : decode cX12_worked 97 = .ok (.goto 6, 3) := by decide +kernel
theorem dX12_worked_100 : decode cX12_worked 100 = .ok (.iload_n 1, 1) := by decide +kernel
theorem dX12_worked_101 : decode cX12_worked 101 = .ok (.iload_n 2, 1) := by decide +kernel
theorem dX12_worked_102 : decode cX12_worked 102 = .ok (.irem, 1) := by decide +kernel
theorem dX12_worked_103 : decode cX12_worked 103 = .ok (.ireturn, 1) := by decide +kernel
theorem dX12_worked_104 : decode cX12_worked 104 = .ok (.iload_n 1, 1) := by decide +kernel
theorem dX12_worked_105 : decode cX12_worked 105 = .ok (.iload_n 2, 1) := by decide +kernel
theorem dX12_worked_106 : decode cX12_worked 106 = .ok (.if_icmp .ge 7, 3) := by decide +kernel
theorem dX12_worked_109 : decode cX12_worked 109 = .ok (.iconst 1, 1) := by decide +kernel
theorem dX12_worked_110 : decode cX12_worked 110 = .ok (.goto 4, 3) := by decide +kernel
theorem dX12_worked_113 : decode cX12_worked 113 = .ok (.iconst 0, 1) := by decide +kernel
theorem dX12_worked_114 : decode cX12_worked 114 = .ok (.ireturn, 1) := by decide +kernel
theorem dX12_worked_115 : decode cX12_worked 115 = .ok (.iload_n 1, 1) := by decide +kernel
theorem dX12_worked_116 : decode cX12_worked 116 = .ok (.iload_n 2, 1) := by decide +kernel
theorem dX12_worked_117 : decode cX12_worked 117 = .ok (.if_icmp .le 7, 3) := by decide +kernel
theorem dX12_worked_120 : decode cX12_worked 120 = .ok (.iconst 1, 1) := by decide +kernel
theorem dX12_worked_121 : decode cX12_worked 121 = .ok (.goto 4, 3) := by decide +kernel
theorem dX12_worked_124 : decode cX12_worked 124 = .ok (.iconst 0, 1) := by decide +kernel
theorem dX12_worked_125 : decode cX12_worked 125 = .ok (.ireturn, 1) := by decide +kernel
theorem dX12_worked_126 : decode cX12_worked 126 = .ok (.iload_n 1, 1) := by decide +kernel
theorem dX12_worked_127 : decode cX12_worked 127 = .ok (.iload_n 2, 1) := by decide +kernel
theorem dX12_worked_128 : decode cX12_worked 128 = .ok (.if_icmp .ne 7, 3) := by decide +kernel
theorem dX12_worked_131 : decode cX12_worked 131 = .ok (.iconst 1, 1) := by decide +kernel
theorem dX12_worked_132 : decode cX12_worked 132 = .ok (.goto 4, 3) := by decide +kernel
theorem dX12_worked_135 : decode cX12_worked 135 = .ok (.iconst 0, 1) := by decide +kernel
theorem dX12_worked_136 : decode cX12_worked 136 = .ok (.ireturn, 1) := by decide +kernel
theorem dX12_does_0 : decode cX12_does 0 = .ok (.iload_n 2, 1) := by decide +kernel
theorem dX12_does_1 : decode cX12_does 1 = .ok (.iconst 1, 1) := by decide +kernel
theorem dX12_does_2 : decode cX12_does 2 = .ok (.iadd, 1) := by decide +kernel
theorem dX12_does_3 : decode cX12_does 3 = .ok (.istore_n 3, 1) := by decide +kernel
theorem dX12_does_4 : decode cX12_does 4 = .ok (.iload_n 1, 1) := by decide +kernel
theorem dX12_does_5 : decode cX12_does 5 = .ok (.bipush 38, 2) := by decide +kernel
theorem dX12_does_7 : decode cX12_does 7 = .ok (.if_icmp .eq 9, 3) := by decide +kernel
theorem dX12_does_10 : decode cX12_does 10 = .ok (.iload_n 1, 1) := by decide +kernel
theorem dX12_does_11 : decode cX12_does 11 = .ok (.bipush 124, 2) := by decide +kernel
theorem dX12_does_13 : decode cX12_does 13 = .ok (.if_icmp .ne 58, 3) := by decide +kernel
theorem dX12_does_16 : decode cX12_does 16 = .ok (.aload_n 0, 1) := by decide +kernel
theorem dX12_does_17 : decode cX12_does 17 = .ok (.getfield 85, 3) := by decide +kernel
theorem dX12_does_20 : decode cX12_does 20 = .ok (.iload_n 2, 1) := by decide +kernel
theorem dX12_does_21 : decode cX12_does 21 = .ok (.baload, 1) := by decide +kernel
theorem dX12_does_22 : decode cX12_does 22 = .ok (.ifCond .ne 23, 3) := by decide +kernel
theorem dX12_does_25 : decode cX12_does 25 = .ok (.aload_n 0, 1) := by decide +kernel
theorem dX12_does_26 : decode cX12_does 26 = .ok (.getfield 82, 3) := by decide +kernel
theorem dX12_does_29 : decode cX12_does 29 = .ok (.iload_n 2, 1) := by decide +kernel
theorem dX12_does_30 : decode cX12_does 30 = .ok (.iaload, 1) := by decide +kernel
theorem dX12_does_31 : decode cX12_does 31 = .ok (.iload_n 1, 1) := by decide +kernel
theorem dX12_does_32 : decode cX12_does 32 = .ok (.bipush 38, 2) := by decide +kernel
theorem dX12_does_34 : decode cX12_does 34 = .ok (.if_icmp .ne 7, 3) := by decide +kernel
theorem dX12_does_37 : decode cX12_does 37 = .ok (.iconst 1, 1) := by decide +kernel
theorem dX12_does_38 : decode cX12_does 38 = .ok (.goto 4, 3) := by decide +kernel
theorem dX12_does_41 : decode cX12_does 41 = .ok (.iconst 0, 1) := by decide +kernel
theorem dX12_does_42 : decode cX12_does 42 = .ok (.if_icmp .eq 4, 3) := by decide +kernel
theorem dX12_does_45 : decode cX12_does 45 = .ok (.return_, 1) := by decide +kernel
theorem dX12_does_46 : decode cX12_does 46 = .ok (.aload_n 0, 1) := by decide +kernel
theorem dX12_does_47 : decode cX12_does 47 = .ok (.getfield 82, 3) := by decide +kernel
theorem dX12_does_50 : decode cX12_does 50 = .ok (.iload_n 2, 1) := by decide +kernel
theorem dX12_does_51 : decode cX12_does 51 = .ok (.aload_n 0, 1) := by decide +kernel
theorem dX12_does_52 : decode cX12_does 52 = .ok (.getfield 82, 3) := by decide +kernel
theorem dX12_does_55 : decode cX12_does 55 = .ok (.iload_n 3, 1) := by decide +kernel
theorem dX12_does_56 : decode cX12_does 56 = .ok (.iaload, 1) := by decide +kernel
theorem dX12_does_57 : decode cX12_does 57 = .ok (.iastore, 1) := by decide +kernel
theorem dX12_does_58 : decode cX12_does 58 = .ok (.aload_n 0, 1) := by decide +kernel
theorem dX12_does_59 : decode cX12_does 59 = .ok (.getfield 85, 3) := by decide +kernel
theorem dX12_does_62 : decode cX12_does 62 = .ok (.iload_n 2, 1) := by decide +kernel
theorem dX12_does_63 : decode cX12_does 63 = .ok (.aload_n 0, 1) := by decide +kernel
theorem dX12_does_64 : decode cX12_does 64 = .ok (.getfield 85, 3) := by decide +kernel
theorem dX12_does_67 : decode cX12_does 67 = .ok (.iload_n 3, 1) := by decide +kernel
theorem dX12_does_68 : decode cX12_does 68 = .ok (.baload, 1) := by decide +kernel
theorem dX12_does_69 : decode cX12_does 69 = .ok (.bastore, 1) := by decide +kernel
theorem dX12_does_70 : decode cX12_does 70 = .ok (.return_, 1) := by decide +kernel
theorem dX12_does_71 : decode cX12_does 71 = .ok (.aload_n 0, 1) := by decide +kernel
theorem dX12_does_72 : decode cX12_does 72 = .ok (.getfield 85, 3) := by decide +kernel
theorem dX12_does_75 : decode cX12_does 75 = .ok (.iload_n 2, 1) := by decide +kernel
theorem dX12_does_76 : decode cX12_does 76 = .ok (.aload_n 0, 1) := by decide +kernel
theorem dX12_does_77 : decode cX12_does 77 = .ok (.getfield 85, 3) := by decide +kernel
theorem dX12_does_80 : decode cX12_does 80 = .ok (.iload_n 2, 1) := by decide +kernel
theorem dX12_does_81 : decode cX12_does 81 = .ok (.baload, 1) := by decide +kernel
theorem dX12_does_82 : decode cX12_does 82 = .ok (.ifCond .ne 33, 3) := by decide +kernel
theorem dX12_does_85 : decode cX12_does 85 = .ok (.aload_n 0, 1) := by decide +kernel
theorem dX12_does_86 : decode cX12_does 86 = .ok (.getfield 85, 3) := by decide +kernel
theorem dX12_does_89 : decode cX12_does 89 = .ok (.iload_n 3, 1) := by decide +kernel
theorem dX12_does_90 : decode cX12_does 90 = .ok (.baload, 1) := by decide +kernel
theorem dX12_does_91 : decode cX12_does 91 = .ok (.ifCond .ne 24, 3) := by decide +kernel
theorem dX12_does_94 : decode cX12_does 94 = .ok (.iload_n 1, 1) := by decide +kernel
theorem dX12_does_95 : decode cX12_does 95 = .ok (.bipush 47, 2) := by decide +kernel
theorem dX12_does_97 : decode cX12_does 97 = .ok (.if_icmp .eq 9, 3) := by decide +kernel
theorem dX12_does_100 : decode cX12_does 100 = .ok (.iload_n 1, 1) := by decide +kernel
theorem dX12_does_101 : decode cX12_does 101 = .ok (.bipush 37, 2) := by decide +kernel
theorem dX12_does_103 : decode cX12_does 103 = .ok (.if_icmp .ne 16, 3) := by decide +kernel
theorem dX12_does_106 : decode cX12_does 106 = .ok (.aload_n 0, 1) := by decide +kernel
theorem dX12_does_107 : decode cX12_does 107 = .ok (.getfield 82, 3) := by decide +kernel
theorem dX12_does_110 : decode cX12_does 110 = .ok (.iload_n 3, 1) := by decide +kernel
theorem dX12_does_111 : decode cX12_does 111 = .ok (.iaload, 1) := by decide +kernel
theorem dX12_does_112 : decode cX12_does 112 = .ok (.ifCond .ne 7, 3) := by decide +kernel
theorem dX12_does_115 : decode cX12_does 115 = .ok (.iconst 1, 1) := by decide +kernel
theorem dX12_does_116 : decode cX12_does 116 = .ok (.goto 4, 3) := by decide +kernel
theorem dX12_does_119 : decode cX12_does 119 = .ok (.iconst 0, 1) := by decide +kernel
theorem dX12_does_120 : decode cX12_does 120 = .ok (.bastore, 1) := by decide +kernel
theorem dX12_does_121 : decode cX12_does 121 = .ok (.aload_n 0, 1) := by decide +kernel
theorem dX12_does_122 : decode cX12_does 122 = .ok (.getfield 82, 3) := by decide +kernel
theorem dX12_does_125 : decode cX12_does 125 = .ok (.iload_n 2, 1) := by decide +kernel
theorem dX12_does_126 : decode cX12_does 126 = .ok (.iload_n 1, 1) := by decide +kernel
theorem dX12_does_127 : decode cX12_does 127 = .ok (.aload_n 0, 1) := by decide +kernel
theorem dX12_does_128 : decode cX12_does 128 = .ok (.getfield 82, 3) := by decide +kernel
theorem dX12_does_131 : decode cX12_does 131 = .ok (.iload_n 2, 1) := by decide +kernel
theorem dX12_does_132 : decode cX12_does 132 = .ok (.iaload, 1) := by decide +kernel
theorem dX12_does_133 : decode cX12_does 133 = .ok (.aload_n 0, 1) := by decide +kernel
theorem dX12_does_134 : decode cX12_does 134 = .ok (.getfield 82, 3) := by decide +kernel
theorem dX12_does_137 : decode cX12_does 137 = .ok (.iload_n 3, 1) := by decide +kernel
theorem dX12_does_138 : decode cX12_does 138 = .ok (.iaload, 1) := by decide +kernel
theorem dX12_does_139 : decode cX12_does 139 = .ok (.invokestatic 427, 3) := by decide +kernel
theorem dX12_does_142 : decode cX12_does 142 = .ok (.iastore, 1) := by decide +kernel
theorem dX12_does_143 : decode cX12_does 143 = .ok (.return_, 1) := by decide +kernel
theorem dX12_works_0 : decode cX12_works 0 = .ok (.iconst 0, 1) := by decide +kernel
theorem dX12_works_1 : decode cX12_works 1 = .ok (.istore_n 3, 1) := by decide +kernel
theorem dX12_works_2 : decode cX12_works 2 = .ok (.iload_n 1, 1) := by decide +kernel
theorem dX12_works_3 : decode cX12_works 3 = .ok (.istore 4, 2) := by decide +kernel
theorem dX12_works_5 : decode cX12_works 5 = .ok (.iload 4, 2) := by decide +kernel
theorem dX12_works_7 : decode cX12_works 7 = .ok (.iload_n 2, 1) := by decide +kernel
theorem dX12_works_8 : decode cX12_works 8 = .ok (.if_icmp .ge 119, 3) := by decide +kernel
theorem dX12_works_11 : decode cX12_works 11 = .ok (.aload_n 0, 1) := by decide +kernel
theorem dX12_works_12 : decode cX12_works 12 = .ok (.getfield 52, 3) := by decide +kernel
theorem dX12_works_15 : decode cX12_works 15 = .ok (.iload 4, 2) := by decide +kernel
theorem dX12_works_17 : decode cX12_works 17 = .ok (.iaload, 1) := by decide +kernel
theorem dX12_works_18 : decode cX12_works 18 = .ok (.iconst 2, 1) := by decide +kernel
theorem dX12_works_19 : decode cX12_works 19 = .ok (.if_icmp .le 23, 3) := by decide +kernel
theorem dX12_works_22 : decode cX12_works 22 = .ok (.iinc 3 (-1), 3) := by decide +kernel
theorem dX12_works_25 : decode cX12_works 25 = .ok (.aload_n 0, 1) := by decide +kernel
theorem dX12_works_26 : decode cX12_works 26 = .ok (.aload_n 0, 1) := by decide +kernel
theorem dX12_works_27 : decode cX12_works 27 = .ok (.getfield 52, 3) := by decide +kernel
theorem dX12_works_30 : decode cX12_works 30 = .ok (.iload 4, 2) := by decide +kernel
theorem dX12_works_32 : decode cX12_works 32 = .ok (.iaload, 1) := by decide +kernel
theorem dX12_works_33 : decode cX12_works 33 = .ok (.iload_n 3, 1) := by decide +kernel
theorem dX12_works_34 : decode cX12_works 34 = .ok (.iconst 1, 1) := by decide +kernel
theorem dX12_works_35 : decode cX12_works 35 = .ok (.isub, 1) := by decide +kernel
theorem dX12_works_36 : decode cX12_works 36 = .ok (.invokevirtual 430, 3) := by decide +kernel
theorem dX12_works_39 : decode cX12_works 39 = .ok (.goto 82, 3) := by decide +kernel
theorem dX12_works_42 : decode cX12_works 42 = .ok (.aload_n 0, 1) := by decide +kernel
theorem dX12_works_43 : decode cX12_works 43 = .ok (.getfield 52, 3) := by decide +kernel
theorem dX12_works_46 : decode cX12_works 46 = .ok (.iload 4, 2) := by decide +kernel
theorem dX12_works_48 : decode cX12_works 48 = .ok (.iaload, 1) := by decide +kernel
theorem dX12_works_49 : decode cX12_works 49 = .ok (.iconst 2, 1) := by decide +kernel
theorem dX12_works_50 : decode cX12_works 50 = .ok (.if_icmp .ne 24, 3) := by decide +kernel
theorem dX12_works_53 : decode cX12_works 53 = .ok (.aload_n 0, 1) := by decide +kernel
theorem dX12_works_54 : decode cX12_works 54 = .ok (.getfield 82, 3) := by decide +kernel
theorem dX12_works_57 : decode cX12_works 57 = .ok (.iload_n 3, 1) := by decide +kernel
theorem dX12_works_58 : decode cX12_works 58 = .ok (.iconst 1, 1) := by decide +kernel
theorem dX12_works_59 : decode cX12_works 59 = .ok (.isub, 1) := by decide +kernel
theorem dX12_works_60 : decode cX12_works 60 = .ok (.iconst 1, 1) := by decide +kernel
theorem dX12_works_61 : decode cX12_works 61 = .ok (.aload_n 0, 1) := by decide +kernel
theorem dX12_works_62 : decode cX12_works 62 = .ok (.getfield 82, 3) := by decide +kernel
theorem dX12_works_65 : decode cX12_works 65 = .ok (.iload_n 3, 1) := by decide +kernel
theorem dX12_works_66 : decode cX12_works 66 = .ok (.iconst 1, 1) := by decide +kernel
theorem dX12_works_67 : decode cX12_works 67 = .ok (.isub, 1) := by decide +kernel
theorem dX12_works_68 : decode cX12_works 68 = .ok (.iaload, 1) := by decide +kernel
theorem dX12_works_69 : decode cX12_works 69 = .ok (.isub, 1) := by decide +kernel
theorem dX12_works_70 : decode cX12_works 70 = .ok (.iastore, 1) := by decide +kernel
theorem dX12_works_71 : decode cX12_works 71 = .ok (.goto 50, 3) := by decide +kernel
theorem dX12_works_74 : decode cX12_works 74 = .ok (.aload_n 0, 1) := by decide +kernel
theorem dX12_works_75 : decode cX12_works 75 = .ok (.getfield 85, 3) := by decide +kernel
theorem dX12_works_78 : decode cX12_works 78 = .ok (.iload_n 3, 1) := by decide +kernel
theorem dX12_works_79 : decode cX12_works 79 = .ok (.iconst 0, 1) := by decide +kernel
theorem dX12_works_80 : decode cX12_works 80 = .ok (.bastore, 1) := by decide +kernel
theorem dX12_works_81 : decode cX12_works 81 = .ok (.aload_n 0, 1) := by decide +kernel
theorem dX12_works_82 : decode cX12_works 82 = .ok (.getfield 82, 3) := by decide +kernel
theorem dX12_works_85 : decode cX12_works 85 = .ok (.iload_n 3, 1) := by decide +kernel
theorem dX12_works_86 : decode cX12_works 86 = .ok (.aload_n 0, 1) := by decide +kernel
theorem dX12_works_87 : decode cX12_works 87 = .ok (.getfield 52, 3) := by decide +kernel
theorem dX12_works_90 : decode cX12_works 90 = .ok (.iload 4, 2) := by decide +kernel
theorem dX12_works_92 : decode cX12_works 92 = .ok (.iaload, 1) := by decide +kernel
theorem dX12_works_93 : decode cX12_works 93 = .ok (.ifCond .ne 13, 3) := by decide +kernel
theorem dX12_works_96 : decode cX12_works 96 = .ok (.aload_n 0, 1) := by decide +kernel
theorem dX12_works_97 : decode cX12_works 97 = .ok (.getfield 55, 3) := by decide +kernel
theorem dX12_works_100 : decode cX12_works 100 = .ok (.iload 4, 2) := by decide +kernel
theorem dX12_works_102 : decode cX12_works 102 = .ok (.iaload, 1) := by decide +kernel
theorem dX12_works_103 : decode cX12_works 103 = .ok (.goto 14, 3) := by decide +kernel
theorem dX12_works_106 : decode cX12_works 106 = .ok (.aload_n 0, 1) := by decide +kernel
theorem dX12_works_107 : decode cX12_works 107 = .ok (.aload_n 0, 1) := by decide +kernel
theorem dX12_works_108 : decode cX12_works 108 = .ok (.getfield 55, 3) := by decide +kernel
theorem dX12_works_111 : decode cX12_works 111 = .ok (.iload 4, 2) := by decide +kernel
theorem dX12_works_113 : decode cX12_works 113 = .ok (.iaload, 1) := by decide +kernel
theorem dX12_works_114 : decode cX12_works 114 = .ok (.invokevirtual 433, 3) := by decide +kernel
theorem dX12_works_117 : decode cX12_works 117 = .ok (.iastore, 1) := by decide +kernel
theorem dX12_works_118 : decode cX12_works 118 = .ok (.iinc 3 1, 3) := by decide +kernel
theorem dX12_works_121 : decode cX12_works 121 = .ok (.iinc 4 1, 3) := by decide +kernel
theorem dX12_works_124 : decode cX12_works 124 = .ok (.goto (-119), 3) := by decide +kernel
theorem dX12_works_127 : decode cX12_works 127 = .ok (.return_, 1) := by decide +kernel
theorem dX12_isSo_0 : decode cX12_isSo 0 = .ok (.aload_n 0, 1) := by decide +kernel
theorem dX12_isSo_1 : decode cX12_isSo 1 = .ok (.aload_n 0, 1) := by decide +kernel
theorem dX12_isSo_2 : decode cX12_isSo 2 = .ok (.getfield 46, 3) := by decide +kernel
theorem dX12_isSo_5 : decode cX12_isSo 5 = .ok (.iload_n 1, 1) := by decide +kernel
theorem dX12_isSo_6 : decode cX12_isSo 6 = .ok (.iaload, 1) := by decide +kernel
theorem dX12_isSo_7 : decode cX12_isSo 7 = .ok (.aload_n 0, 1) := by decide +kernel
theorem dX12_isSo_8 : decode cX12_isSo 8 = .ok (.getfield 49, 3) := by decide +kernel
theorem dX12_isSo_11 : decode cX12_isSo 11 = .ok (.iload_n 1, 1) := by decide +kernel
theorem dX12_isSo_12 : decode cX12_isSo 12 = .ok (.iaload, 1) := by decide +kernel
theorem dX12_isSo_13 : decode cX12_isSo 13 = .ok (.invokevirtual 436, 3) := by decide +kernel
theorem dX12_isSo_16 : decode cX12_isSo 16 = .ok (.aload_n 0, 1) := by decide +kernel
theorem dX12_isSo_17 : decode cX12_isSo 17 = .ok (.getfield 85, 3) := by decide +kernel
theorem dX12_isSo_20 : decode cX12_isSo 20 = .ok (.iconst 0, 1) := by decide +kernel
theorem dX12_isSo_21 : decode cX12_isSo 21 = .ok (.baload, 1) := by decide +kernel
theorem dX12_isSo_22 : decode cX12_isSo 22 = .ok (.ifCond .ne 17, 3) := by decide +kernel
theorem dX12_isSo_25 : decode cX12_isSo 25 = .ok (.aload_n 0, 1) := by decide +kernel
theorem dX12_isSo_26 : decode cX12_isSo 26 = .ok (.getfield 82, 3) := by decide +kernel
theorem dX12_isSo_29 : decode cX12_isSo 29 = .ok (.iconst 0, 1) := by decide +kernel
theorem dX12_isSo_30 : decode cX12_isSo 30 = .ok (.iaload, 1) := by decide +kernel
theorem dX12_isSo_31 : decode cX12_isSo 31 = .ok (.iconst 1, 1) := by decide +kernel
theorem dX12_isSo_32 : decode cX12_isSo 32 = .ok (.if_icmp .ne 7, 3) := by decide +kernel
theorem dX12_isSo_35 : decode cX12_isSo 35 = .ok (.iconst 1, 1) := by decide +kernel
theorem dX12_isSo_36 : decode cX12_isSo 36 = .ok (.goto 4, 3) := by decide +kernel
theorem dX12_isSo_39 : decode cX12_isSo 39 = .ok (.iconst 0, 1) := by decide +kernel
theorem dX12_isSo_40 : decode cX12_isSo 40 = .ok (.ireturn, 1) := by decide +kernel
theorem dX12_tells_0 : decode cX12_tells 0 = .ok (.bipush 16, 2) := by decide +kernel
theorem dX12_tells_2 : decode cX12_tells 2 = .ok (.aload_n 0, 1) := by decide +kernel
theorem dX12_tells_3 : decode cX12_tells 3 = .ok (.getfield 439, 3) := by decide +kernel
theorem dX12_tells_6 : decode cX12_tells 6 = .ok (.imul, 1) := by decide +kernel
theorem dX12_tells_7 : decode cX12_tells 7 = .ok (.istore_n 3, 1) := by decide +kernel
theorem dX12_tells_8 : decode cX12_tells 8 = .ok (.iload_n 3, 1) := by decide +kernel
theorem dX12_tells_9 : decode cX12_tells 9 = .ok (.istore 4, 2) := by decide +kernel
theorem dX12_tells_11 : decode cX12_tells 11 = .ok (.iload 4, 2) := by decide +kernel
theorem dX12_tells_13 : decode cX12_tells 13 = .ok (.iload_n 3, 1) := by decide +kernel
theorem dX12_tells_14 : decode cX12_tells 14 = .ok (.aload_n 0, 1) := by decide +kernel
theorem dX12_tells_15 : decode cX12_tells 15 = .ok (.getfield 58, 3) := by decide +kernel
theorem dX12_tells_18 : decode cX12_tells 18 = .ok (.aload_n 0, 1) := by decide +kernel
theorem dX12_tells_19 : decode cX12_tells 19 = .ok (.getfield 439, 3) := by decide +kernel
theorem dX12_tells_22 : decode cX12_tells 22 = .ok (.iaload, 1) := by decide +kernel
theorem dX12_tells_23 : decode cX12_tells 23 = .ok (.iadd, 1) := by decide +kernel
theorem dX12_tells_24 : decode cX12_tells 24 = .ok (.if_icmp .ge 74, 3) := by decide +kernel
theorem dX12_tells_27 : decode cX12_tells 27 = .ok (.aload_n 0, 1) := by decide +kernel
theorem dX12_tells_28 : decode cX12_tells 28 = .ok (.getfield 40, 3) := by decide +kernel
theorem dX12_tells_31 : decode cX12_tells 31 = .ok (.iload 4, 2) := by decide +kernel
theorem dX12_tells_33 : decode cX12_tells 33 = .ok (.iaload, 1) := by decide +kernel
theorem dX12_tells_34 : decode cX12_tells 34 = .ok (.iload_n 1, 1) := by decide +kernel
theorem dX12_tells_35 : decode cX12_tells 35 = .ok (.if_icmp .ne 57, 3) := by decide +kernel
theorem dX12_tells_38 : decode cX12_tells 38 = .ok (.aload_n 0, 1) := by decide +kernel
theorem dX12_tells_39 : decode cX12_tells 39 = .ok (.iload 4, 2) := by decide +kernel
theorem dX12_tells_41 : decode cX12_tells 41 = .ok (.invokevirtual 442, 3) := by decide +kernel
theorem dX12_tells_44 : decode cX12_tells 44 = .ok (.ifCond .ne 6, 3) := by decide +kernel
theorem dX12_tells_47 : decode cX12_tells 47 = .ok (.goto 45, 3) := by decide +kernel
theorem dX12_tells_50 : decode cX12_tells 50 = .ok (.aload_n 0, 1) := by decide +kernel
theorem dX12_tells_51 : decode cX12_tells 51 = .ok (.aload_n 0, 1) := by decide +kernel
theorem dX12_tells_52 : decode cX12_tells 52 = .ok (.getfield 43, 3) := by decide +kernel
theorem dX12_tells_55 : decode cX12_tells 55 = .ok (.iload 4, 2) := by decide +kernel
theorem dX12_tells_57 : decode cX12_tells 57 = .ok (.iaload, 1) := by decide +kernel
theorem dX12_tells_58 : decode cX12_tells 58 = .ok (.aload_n 0, 1) := by decide +kernel
theorem dX12_tells_59 : decode cX12_tells 59 = .ok (.getfield 46, 3) := by decide +kernel
theorem dX12_tells_62 : decode cX12_tells 62 = .ok (.iload 4, 2) := by decide +kernel
theorem dX12_tells_64 : decode cX12_tells 64 = .ok (.iaload, 1) := by decide +kernel
theorem dX12_tells_65 : decode cX12_tells 65 = .ok (.invokevirtual 436, 3) := by decide +kernel
theorem dX12_tells_68 : decode cX12_tells 68 = .ok (.aload_n 0, 1) := by decide +kernel
theorem dX12_tells_69 : decode cX12_tells 69 = .ok (.getfield 85, 3) := by decide +kernel
theorem dX12_tells_72 : decode cX12_tells 72 = .ok (.iconst 0, 1) := by decide +kernel
theorem dX12_tells_73 : decode cX12_tells 73 = .ok (.baload, 1) := by decide +kernel
theorem dX12_tells_74 : decode cX12_tells 74 = .ok (.ifCond .eq 7, 3) := by decide +kernel
theorem dX12_tells_77 : decode cX12_tells 77 = .ok (.iconst 0, 1) := by decide +kernel
theorem dX12_tells_78 : decode cX12_tells 78 = .ok (.goto 13, 3) := by decide +kernel
theorem dX12_tells_81 : decode cX12_tells 81 = .ok (.aload_n 0, 1) := by decide +kernel
theorem dX12_tells_82 : decode cX12_tells 82 = .ok (.getfield 82, 3) := by decide +kernel
theorem dX12_tells_85 : decode cX12_tells 85 = .ok (.iconst 0, 1) := by decide +kernel
theorem dX12_tells_86 : decode cX12_tells 86 = .ok (.iaload, 1) := by decide +kernel
theorem dX12_tells_87 : decode cX12_tells 87 = .ok (.iload_n 2, 1) := by decide +kernel
theorem dX12_tells_88 : decode cX12_tells 88 = .ok (.invokestatic 445, 3) := by decide +kernel
theorem dX12_tells_91 : decode cX12_tells 91 = .ok (.ireturn, 1) := by decide +kernel
theorem dX12_tells_92 : decode cX12_tells 92 = .ok (.iinc 4 1, 3) := by decide +kernel
theorem dX12_tells_95 : decode cX12_tells 95 = .ok (.goto (-84), 3) := by decide +kernel
theorem dX12_tells_98 : decode cX12_tells 98 = .ok (.iconst 0, 1) := by decide +kernel
theorem dX12_tells_99 : decode cX12_tells 99 = .ok (.ireturn, 1) := by decide +kernel
theorem dX12_goesAway_0 : decode cX12_goesAway 0 = .ok (.bipush 16, 2) := by decide +kernel
theorem dX12_goesAway_2 : decode cX12_goesAway 2 = .ok (.aload_n 0, 1) := by decide +kernel
theorem dX12_goesAway_3 : decode cX12_goesAway 3 = .ok (.getfield 439, 3) := by decide +kernel
theorem dX12_goesAway_6 : decode cX12_goesAway 6 = .ok (.imul, 1) := by decide +kernel
theorem dX12_goesAway_7 : decode cX12_goesAway 7 = .ok (.istore_n 1, 1) := by decide +kernel
theorem dX12_goesAway_8 : decode cX12_goesAway 8 = .ok (.iload_n 1, 1) := by decide +kernel
theorem dX12_goesAway_9 : decode cX12_goesAway 9 = .ok (.istore_n 2, 1) := by decide +kernel
theorem dX12_goesAway_10 : decode cX12_goesAway 10 = .ok (.iload_n 2, 1) := by decide +kernel
theorem dX12_goesAway_11 : decode cX12_goesAway 11 = .ok (.iload_n 1, 1) := by decide +kernel
theorem dX12_goesAway_12 : decode cX12_goesAway 12 = .ok (.aload_n 0, 1) := by decide +kernel
theorem dX12_goesAway_13 : decode cX12_goesAway 13 = .ok (.getfield 58, 3) := by decide +kernel
theorem dX12_goesAway_16 : decode cX12_goesAway 16 = .ok (.aload_n 0, 1) := by decide +kernel
theorem dX12_goesAway_17 : decode cX12_goesAway 17 = .ok (.getfield 439, 3) := by decide +kernel
theorem dX12_goesAway_20 : decode cX12_goesAway 20 = .ok (.iaload, 1) := by decide +kernel
theorem dX12_goesAway_21 : decode cX12_goesAway 21 = .ok (.iadd, 1) := by decide +kernel
theorem dX12_goesAway_22 : decode cX12_goesAway 22 = .ok (.if_icmp .ge 30, 3) := by decide +kernel
theorem dX12_goesAway_25 : decode cX12_goesAway 25 = .ok (.aload_n 0, 1) := by decide +kernel
theorem dX12_goesAway_26 : decode cX12_goesAway 26 = .ok (.getfield 40, 3) := by decide +kernel
theorem dX12_goesAway_29 : decode cX12_goesAway 29 = .ok (.iload_n 2, 1) := by decide +kernel
theorem dX12_goesAway_30 : decode cX12_goesAway 30 = .ok (.iaload, 1) := by decide +kernel
theorem dX12_goesAway_31 : decode cX12_goesAway 31 = .ok (.bipush 120, 2) := by decide +kernel
theorem dX12_goesAway_33 : decode cX12_goesAway 33 = .ok (.if_icmp .ne 13, 3) := by decide +kernel
theorem dX12_goesAway_36 : decode cX12_goesAway 36 = .ok (.aload_n 0, 1) := by decide +kernel
theorem dX12_goesAway_37 : decode cX12_goesAway 37 = .ok (.iload_n 2, 1) := by decide +kernel
theorem dX12_goesAway_38 : decode cX12_goesAway 38 = .ok (.invokevirtual 442, 3) := by decide +kernel
theorem dX12_goesAway_41 : decode cX12_goesAway 41 = .ok (.ifCond .eq 5, 3) := by decide +kernel
theorem dX12_goesAway_44 : decode cX12_goesAway 44 = .ok (.iconst 1, 1) := by decide +kernel
theorem dX12_goesAway_45 : decode cX12_goesAway 45 = .ok (.ireturn, 1) := by decide +kernel
theorem dX12_goesAway_46 : decode cX12_goesAway 46 = .ok (.iinc 2 1, 3) := by decide +kernel
theorem dX12_goesAway_49 : decode cX12_goesAway 49 = .ok (.goto (-39), 3) := by decide +kernel
theorem dX12_goesAway_52 : decode cX12_goesAway 52 = .ok (.iconst 0, 1) := by decide +kernel
theorem dX12_goesAway_53 : decode cX12_goesAway 53 = .ok (.ireturn, 1) := by decide +kernel
theorem dX12_tellerStands_0 : decode cX12_tellerStands 0 = .ok (.aload_n 0, 1) := by decide +kernel
theorem dX12_tellerStands_1 : decode cX12_tellerStands 1 = .ok (.iload_n 1, 1) := by decide +kernel
theorem dX12_tellerStands_2 : decode cX12_tellerStands 2 = .ok (.putfield 391, 3) := by decide +kernel
theorem dX12_tellerStands_5 : decode cX12_tellerStands 5 = .ok (.aload_n 0, 1) := by decide +kernel
theorem dX12_tellerStands_6 : decode cX12_tellerStands 6 = .ok (.aload_n 0, 1) := by decide +kernel
theorem dX12_tellerStands_7 : decode cX12_tellerStands 7 = .ok (.getfield 112, 3) := by decide +kernel
theorem dX12_tellerStands_10 : decode cX12_tellerStands 10 = .ok (.iload_n 1, 1) := by decide +kernel
theorem dX12_tellerStands_11 : decode cX12_tellerStands 11 = .ok (.iaload, 1) := by decide +kernel
theorem dX12_tellerStands_12 : decode cX12_tellerStands 12 = .ok (.putfield 394, 3) := by decide +kernel
theorem dX12_tellerStands_15 : decode cX12_tellerStands 15 = .ok (.aload_n 0, 1) := by decide +kernel
theorem dX12_tellerStands_16 : decode cX12_tellerStands 16 = .ok (.aload_n 0, 1) := by decide +kernel
theorem dX12_tellerStands_17 : decode cX12_tellerStands 17 = .ok (.getfield 109, 3) := by decide +kernel
theorem dX12_tellerStands_20 : decode cX12_tellerStands 20 = .ok (.iload_n 1, 1) := by decide +kernel
theorem dX12_tellerStands_21 : decode cX12_tellerStands 21 = .ok (.iaload, 1) := by decide +kernel
theorem dX12_tellerStands_22 : decode cX12_tellerStands 22 = .ok (.putfield 397, 3) := by decide +kernel
theorem dX12_tellerStands_25 : decode cX12_tellerStands 25 = .ok (.aload_n 0, 1) := by decide +kernel
theorem dX12_tellerStands_26 : decode cX12_tellerStands 26 = .ok (.aload_n 0, 1) := by decide +kernel
theorem dX12_tellerStands_27 : decode cX12_tellerStands 27 = .ok (.getfield 115, 3) := by decide +kernel
theorem dX12_tellerStands_30 : decode cX12_tellerStands 30 = .ok (.iload_n 1, 1) := by decide +kernel
theorem dX12_tellerStands_31 : decode cX12_tellerStands 31 = .ok (.iaload, 1) := by decide +kernel
theorem dX12_tellerStands_32 : decode cX12_tellerStands 32 = .ok (.invokestatic 289, 3) := by decide +kernel
theorem dX12_tellerStands_35 : decode cX12_tellerStands 35 = .ok (.putfield 400, 3) := by decide +kernel
theorem dX12_tellerStands_38 : decode cX12_tellerStands 38 = .ok (.aload_n 0, 1) := by decide +kernel
theorem dX12_tellerStands_39 : decode cX12_tellerStands 39 = .ok (.iconst 0, 1) := by decide +kernel
theorem dX12_tellerStands_40 : decode cX12_tellerStands 40 = .ok (.putfield 403, 3) := by decide +kernel
theorem dX12_tellerStands_43 : decode cX12_tellerStands 43 = .ok (.aload_n 0, 1) := by decide +kernel
theorem dX12_tellerStands_44 : decode cX12_tellerStands 44 = .ok (.iconst 0, 1) := by decide +kernel
theorem dX12_tellerStands_45 : decode cX12_tellerStands 45 = .ok (.putfield 406, 3) := by decide +kernel
theorem dX12_tellerStands_48 : decode cX12_tellerStands 48 = .ok (.aload_n 0, 1) := by decide +kernel
theorem dX12_tellerStands_49 : decode cX12_tellerStands 49 = .ok (.iconst 0, 1) := by decide +kernel
theorem dX12_tellerStands_50 : decode cX12_tellerStands 50 = .ok (.putfield 409, 3) := by decide +kernel
theorem dX12_tellerStands_53 : decode cX12_tellerStands 53 = .ok (.aload_n 0, 1) := by decide +kernel
theorem dX12_tellerStands_54 : decode cX12_tellerStands 54 = .ok (.iconst 0, 1) := by decide +kernel
theorem dX12_tellerStands_55 : decode cX12_tellerStands 55 = .ok (.putfield 412, 3) := by decide +kernel
theorem dX12_tellerStands_58 : decode cX12_tellerStands 58 = .ok (.aload_n 0, 1) := by decide +kernel
theorem dX12_tellerStands_59 : decode cX12_tellerStands 59 = .ok (.iconst 0, 1) := by decide +kernel
theorem dX12_tellerStands_60 : decode cX12_tellerStands 60 = .ok (.putfield 415, 3) := by decide +kernel
theorem dX12_tellerStands_63 : decode cX12_tellerStands 63 = .ok (.aload_n 0, 1) := by decide +kernel
theorem dX12_tellerStands_64 : decode cX12_tellerStands 64 = .ok (.iconst 0, 1) := by decide +kernel
theorem dX12_tellerStands_65 : decode cX12_tellerStands 65 = .ok (.putfield 418, 3) := by decide +kernel
theorem dX12_tellerStands_68 : decode cX12_tellerStands 68 = .ok (.aload_n 0, 1) := by decide +kernel
theorem dX12_tellerStands_69 : decode cX12_tellerStands 69 = .ok (.iconst 0, 1) := by decide +kernel
theorem dX12_tellerStands_70 : decode cX12_tellerStands 70 = .ok (.putfield 421, 3) := by decide +kernel
theorem dX12_tellerStands_73 : decode cX12_tellerStands 73 = .ok (.return_, 1) := by decide +kernel
theorem dX12_listenerStands_0 : decode cX12_listenerStands 0 = .ok (.aload_n 0, 1) := by decide +kernel
theorem dX12_listenerStands_1 : decode cX12_listenerStands 1 = .ok (.aload_n 0, 1) := by decide +kernel
theorem dX12_listenerStands_2 : decode cX12_listenerStands 2 = .ok (.getfield 121, 3) := by decide +kernel
theorem dX12_listenerStands_5 : decode cX12_listenerStands 5 = .ok (.iload_n 1, 1) := by decide +kernel
theorem dX12_listenerStands_6 : decode cX12_listenerStands 6 = .ok (.iaload, 1) := by decide +kernel
theorem dX12_listenerStands_7 : decode cX12_listenerStands 7 = .ok (.invokevirtual 448, 3) := by decide +kernel
theorem dX12_listenerStands_10 : decode cX12_listenerStands 10 = .ok (.aload_n 0, 1) := by decide +kernel
theorem dX12_listenerStands_11 : decode cX12_listenerStands 11 = .ok (.iload_n 1, 1) := by decide +kernel
theorem dX12_listenerStands_12 : decode cX12_listenerStands 12 = .ok (.putfield 403, 3) := by decide +kernel
theorem dX12_listenerStands_15 : decode cX12_listenerStands 15 = .ok (.aload_n 0, 1) := by decide +kernel
theorem dX12_listenerStands_16 : decode cX12_listenerStands 16 = .ok (.aload_n 0, 1) := by decide +kernel
theorem dX12_listenerStands_17 : decode cX12_listenerStands 17 = .ok (.getfield 124, 3) := by decide +kernel
theorem dX12_listenerStands_20 : decode cX12_listenerStands 20 = .ok (.iload_n 1, 1) := by decide +kernel
theorem dX12_listenerStands_21 : decode cX12_listenerStands 21 = .ok (.iaload, 1) := by decide +kernel
theorem dX12_listenerStands_22 : decode cX12_listenerStands 22 = .ok (.putfield 406, 3) := by decide +kernel
theorem dX12_listenerStands_25 : decode cX12_listenerStands 25 = .ok (.aload_n 0, 1) := by decide +kernel
theorem dX12_listenerStands_26 : decode cX12_listenerStands 26 = .ok (.aload_n 0, 1) := by decide +kernel
theorem dX12_listenerStands_27 : decode cX12_listenerStands 27 = .ok (.getfield 127, 3) := by decide +kernel
theorem dX12_listenerStands_30 : decode cX12_listenerStands 30 = .ok (.iload_n 1, 1) := by decide +kernel
theorem dX12_listenerStands_31 : decode cX12_listenerStands 31 = .ok (.iaload, 1) := by decide +kernel
theorem dX12_listenerStands_32 : decode cX12_listenerStands 32 = .ok (.putfield 409, 3) := by decide +kernel
theorem dX12_listenerStands_35 : decode cX12_listenerStands 35 = .ok (.return_, 1) := by decide +kernel
theorem dX12_endStands_0 : decode cX12_endStands 0 = .ok (.aload_n 0, 1) := by decide +kernel
theorem dX12_endStands_1 : decode cX12_endStands 1 = .ok (.iconst 0, 1) := by decide +kernel
theorem dX12_endStands_2 : decode cX12_endStands 2 = .ok (.putfield 391, 3) := by decide +kernel
theorem dX12_endStands_5 : decode cX12_endStands 5 = .ok (.aload_n 0, 1) := by decide +kernel
theorem dX12_endStands_6 : decode cX12_endStands 6 = .ok (.iconst 0, 1) := by decide +kernel
theorem dX12_endStands_7 : decode cX12_endStands 7 = .ok (.putfield 394, 3) := by decide +kernel
theorem dX12_endStands_10 : decode cX12_endStands 10 = .ok (.aload_n 0, 1) := by decide +kernel
theorem dX12_endStands_11 : decode cX12_endStands 11 = .ok (.iconst 0, 1) := by decide +kernel
theorem dX12_endStands_12 : decode cX12_endStands 12 = .ok (.putfield 397, 3) := by decide +kernel
theorem dX12_endStands_15 : decode cX12_endStands 15 = .ok (.aload_n 0, 1) := by decide +kernel
theorem dX12_endStands_16 : decode cX12_endStands 16 = .ok (.iconst 0, 1) := by decide +kernel
theorem dX12_endStands_17 : decode cX12_endStands 17 = .ok (.putfield 400, 3) := by decide +kernel
theorem dX12_endStands_20 : decode cX12_endStands 20 = .ok (.aload_n 0, 1) := by decide +kernel
theorem dX12_endStands_21 : decode cX12_endStands 21 = .ok (.iconst 0, 1) := by decide +kernel
theorem dX12_endStands_22 : decode cX12_endStands 22 = .ok (.putfield 403, 3) := by decide +kernel
theorem dX12_endStands_25 : decode cX12_endStands 25 = .ok (.aload_n 0, 1) := by decide +kernel
theorem dX12_endStands_26 : decode cX12_endStands 26 = .ok (.iconst 0, 1) := by decide +kernel
theorem dX12_endStands_27 : decode cX12_endStands 27 = .ok (.putfield 406, 3) := by decide +kernel
theorem dX12_endStands_30 : decode cX12_endStands 30 = .ok (.aload_n 0, 1) := by decide +kernel
theorem dX12_endStands_31 : decode cX12_endStands 31 = .ok (.iconst 0, 1) := by decide +kernel
theorem dX12_endStands_32 : decode cX12_endStands 32 = .ok (.putfield 409, 3) := by decide +kernel
theorem dX12_endStands_35 : decode cX12_endStands 35 = .ok (.aload_n 0, 1) := by decide +kernel
theorem dX12_endStands_36 : decode cX12_endStands 36 = .ok (.iload_n 1, 1) := by decide +kernel
theorem dX12_endStands_37 : decode cX12_endStands 37 = .ok (.putfield 412, 3) := by decide +kernel
theorem dX12_endStands_40 : decode cX12_endStands 40 = .ok (.aload_n 0, 1) := by decide +kernel
theorem dX12_endStands_41 : decode cX12_endStands 41 = .ok (.aload_n 0, 1) := by decide +kernel
theorem dX12_endStands_42 : decode cX12_endStands 42 = .ok (.getfield 94, 3) := by decide +kernel
theorem dX12_endStands_45 : decode cX12_endStands 45 = .ok (.iload_n 1, 1) := by decide +kernel
theorem dX12_endStands_46 : decode cX12_endStands 46 = .ok (.iaload, 1) := by decide +kernel
theorem dX12_endStands_47 : decode cX12_endStands 47 = .ok (.putfield 415, 3) := by decide +kernel
theorem dX12_endStands_50 : decode cX12_endStands 50 = .ok (.aload_n 0, 1) := by decide +kernel
theorem dX12_endStands_51 : decode cX12_endStands 51 = .ok (.aload_n 0, 1) := by decide +kernel
theorem dX12_endStands_52 : decode cX12_endStands 52 = .ok (.getfield 97, 3) := by decide +kernel
theorem dX12_endStands_55 : decode cX12_endStands 55 = .ok (.iload_n 1, 1) := by decide +kernel
theorem dX12_endStands_56 : decode cX12_endStands 56 = .ok (.iaload, 1) := by decide +kernel
theorem dX12_endStands_57 : decode cX12_endStands 57 = .ok (.putfield 418, 3) := by decide +kernel
theorem dX12_endStands_60 : decode cX12_endStands 60 = .ok (.aload_n 0, 1) := by decide +kernel
theorem dX12_endStands_61 : decode cX12_endStands 61 = .ok (.aload_n 0, 1) := by decide +kernel
theorem dX12_endStands_62 : decode cX12_endStands 62 = .ok (.getfield 91, 3) := by decide +kernel
theorem dX12_endStands_65 : decode cX12_endStands 65 = .ok (.iload_n 1, 1) := by decide +kernel
theorem dX12_endStands_66 : decode cX12_endStands 66 = .ok (.iaload, 1) := by decide +kernel
theorem dX12_endStands_67 : decode cX12_endStands 67 = .ok (.invokestatic 289, 3) := by decide +kernel
theorem dX12_endStands_70 : decode cX12_endStands 70 = .ok (.putfield 421, 3) := by decide +kernel
theorem dX12_endStands_73 : decode cX12_endStands 73 = .ok (.return_, 1) := by decide +kernel
theorem dX12_speedOf_0 : decode cX12_speedOf 0 = .ok (.aload_n 0, 1) := by decide +kernel
theorem dX12_speedOf_1 : decode cX12_speedOf 1 = .ok (.iload_n 1, 1) := by decide +kernel
theorem dX12_speedOf_2 : decode cX12_speedOf 2 = .ok (.invokevirtual 448, 3) := by decide +kernel
theorem dX12_speedOf_5 : decode cX12_speedOf 5 = .ok (.aload_n 0, 1) := by decide +kernel
theorem dX12_speedOf_6 : decode cX12_speedOf 6 = .ok (.bipush 110, 2) := by decide +kernel
theorem dX12_speedOf_8 : decode cX12_speedOf 8 = .ok (.bipush 20, 2) := by decide +kernel
theorem dX12_speedOf_10 : decode cX12_speedOf 10 = .ok (.invokevirtual 451, 3) := by decide +kernel
theorem dX12_speedOf_13 : decode cX12_speedOf 13 = .ok (.ireturn, 1) := by decide +kernel
theorem dX12_costOf_0 : decode cX12_costOf 0 = .ok (.aload_n 0, 1) := by decide +kernel
theorem dX12_costOf_1 : decode cX12_costOf 1 = .ok (.iload_n 1, 1) := by decide +kernel
theorem dX12_costOf_2 : decode cX12_costOf 2 = .ok (.invokevirtual 454, 3) := by decide +kernel
theorem dX12_costOf_5 : decode cX12_costOf 5 = .ok (.aload_n 0, 1) := by decide +kernel
theorem dX12_costOf_6 : decode cX12_costOf 6 = .ok (.bipush 112, 2) := by decide +kernel
theorem dX12_costOf_8 : decode cX12_costOf 8 = .ok (.sipush 999, 3) := by decide +kernel
theorem dX12_costOf_11 : decode cX12_costOf 11 = .ok (.invokevirtual 451, 3) := by decide +kernel
theorem dX12_costOf_14 : decode cX12_costOf 14 = .ok (.ireturn, 1) := by decide +kernel
theorem dX12_forgingOf_0 : decode cX12_forgingOf 0 = .ok (.aload_n 0, 1) := by decide +kernel
theorem dX12_forgingOf_1 : decode cX12_forgingOf 1 = .ok (.iload_n 1, 1) := by decide +kernel
theorem dX12_forgingOf_2 : decode cX12_forgingOf 2 = .ok (.invokevirtual 454, 3) := by decide +kernel
theorem dX12_forgingOf_5 : decode cX12_forgingOf 5 = .ok (.aload_n 0, 1) := by decide +kernel
theorem dX12_forgingOf_6 : decode cX12_forgingOf 6 = .ok (.bipush 103, 2) := by decide +kernel
theorem dX12_forgingOf_8 : decode cX12_forgingOf 8 = .ok (.bipush 10, 2) := by decide +kernel
theorem dX12_forgingOf_10 : decode cX12_forgingOf 10 = .ok (.invokevirtual 451, 3) := by decide +kernel
theorem dX12_forgingOf_13 : decode cX12_forgingOf 13 = .ok (.ireturn, 1) := by decide +kernel
theorem dX12_isThere_0 : decode cX12_isThere 0 = .ok (.iload_n 1, 1) := by decide +kernel
theorem dX12_isThere_1 : decode cX12_isThere 1 = .ok (.i2l, 1) := by decide +kernel
theorem dX12_isThere_2 : decode cX12_isThere 2 = .ok (.lconst 0, 1) := by decide +kernel
theorem dX12_isThere_3 : decode cX12_isThere 3 = .ok (.ldc2_w 457, 3) := by decide +kernel
theorem dX12_isThere_6 : decode cX12_isThere 6 = .ok (.invokestatic 222, 3) := by decide +kernel
theorem dX12_isThere_9 : decode cX12_isThere 9 = .ok (.ifCond .eq 16, 3) := by decide +kernel
theorem dX12_isThere_12 : decode cX12_isThere 12 = .ok (.aload_n 0, 1) := by decide +kernel
theorem dX12_isThere_13 : decode cX12_isThere 13 = .ok (.getfield 88, 3) := by decide +kernel
theorem dX12_isThere_16 : decode cX12_isThere 16 = .ok (.iload_n 1, 1) := by decide +kernel
theorem dX12_isThere_17 : decode cX12_isThere 17 = .ok (.baload, 1) := by decide +kernel
theorem dX12_isThere_18 : decode cX12_isThere 18 = .ok (.ifCond .eq 7, 3) := by decide +kernel
theorem dX12_isThere_21 : decode cX12_isThere 21 = .ok (.iconst 1, 1) := by decide +kernel
theorem dX12_isThere_22 : decode cX12_isThere 22 = .ok (.goto 4, 3) := by decide +kernel
theorem dX12_isThere_25 : decode cX12_isThere 25 = .ok (.iconst 0, 1) := by decide +kernel
theorem dX12_isThere_26 : decode cX12_isThere 26 = .ok (.ireturn, 1) := by decide +kernel
theorem dX12_isTelling_0 : decode cX12_isTelling 0 = .ok (.iload_n 1, 1) := by decide +kernel
theorem dX12_isTelling_1 : decode cX12_isTelling 1 = .ok (.i2l, 1) := by decide +kernel
theorem dX12_isTelling_2 : decode cX12_isTelling 2 = .ok (.lconst 0, 1) := by decide +kernel
theorem dX12_isTelling_3 : decode cX12_isTelling 3 = .ok (.ldc2_w 459, 3) := by decide +kernel
theorem dX12_isTelling_6 : decode cX12_isTelling 6 = .ok (.invokestatic 222, 3) := by decide +kernel
theorem dX12_isTelling_9 : decode cX12_isTelling 9 = .ok (.ifCond .eq 16, 3) := by decide +kernel
theorem dX12_isTelling_12 : decode cX12_isTelling 12 = .ok (.aload_n 0, 1) := by decide +kernel
theorem dX12_isTelling_13 : decode cX12_isTelling 13 = .ok (.getfield 103, 3) := by decide +kernel
theorem dX12_isTelling_16 : decode cX12_isTelling 16 = .ok (.iload_n 1, 1) := by decide +kernel
theorem dX12_isTelling_17 : decode cX12_isTelling 17 = .ok (.baload, 1) := by decide +kernel
theorem dX12_isTelling_18 : decode cX12_isTelling 18 = .ok (.ifCond .eq 7, 3) := by decide +kernel
theorem dX12_isTelling_21 : decode cX12_isTelling 21 = .ok (.iconst 1, 1) := by decide +kernel
theorem dX12_isTelling_22 : decode cX12_isTelling 22 = .ok (.goto 4, 3) := by decide +kernel
theorem dX12_isTelling_25 : decode cX12_isTelling 25 = .ok (.iconst 0, 1) := by decide +kernel
theorem dX12_isTelling_26 : decode cX12_isTelling 26 = .ok (.ireturn, 1) := by decide +kernel
theorem dX12_isListening_0 : decode cX12_isListening 0 = .ok (.iload_n 1, 1) := by decide +kernel
theorem dX12_isListening_1 : decode cX12_isListening 1 = .ok (.i2l, 1) := by decide +kernel
theorem dX12_isListening_2 : decode cX12_isListening 2 = .ok (.lconst 0, 1) := by decide +kernel
theorem dX12_isListening_3 : decode cX12_isListening 3 = .ok (.ldc2_w 457, 3) := by decide +kernel
theorem dX12_isListening_6 : decode cX12_isListening 6 = .ok (.invokestatic 222, 3) := by decide +kernel
theorem dX12_isListening_9 : decode cX12_isListening 9 = .ok (.ifCond .eq 16, 3) := by decide +kernel
theorem dX12_isListening_12 : decode cX12_isListening 12 = .ok (.aload_n 0, 1) := by decide +kernel
theorem dX12_isListening_13 : decode cX12_isListening 13 = .ok (.getfield 118, 3) := by decide +kernel
theorem dX12_isListening_16 : decode cX12_isListening 16 = .ok (.iload_n 1, 1) := by decide +kernel
theorem dX12_isListening_17 : decode cX12_isListening 17 = .ok (.baload, 1) := by decide +kernel
theorem dX12_isListening_18 : decode cX12_isListening 18 = .ok (.ifCond .eq 7, 3) := by decide +kernel
theorem dX12_isListening_21 : decode cX12_isListening 21 = .ok (.iconst 1, 1) := by decide +kernel
theorem dX12_isListening_22 : decode cX12_isListening 22 = .ok (.goto 4, 3) := by decide +kernel
theorem dX12_isListening_25 : decode cX12_isListening 25 = .ok (.iconst 0, 1) := by decide +kernel
theorem dX12_isListening_26 : decode cX12_isListening 26 = .ok (.ireturn, 1) := by decide +kernel
theorem dX12_end_0 : decode cX12_end 0 = .ok (.iload_n 1, 1) := by decide +kernel
theorem dX12_end_1 : decode cX12_end 1 = .ok (.i2l, 1) := by decide +kernel
theorem dX12_end_2 : decode cX12_end 2 = .ok (.lconst 0, 1) := by decide +kernel
theorem dX12_end_3 : decode cX12_end 3 = .ok (.ldc2_w 457, 3) := by decide +kernel
theorem dX12_end_6 : decode cX12_end 6 = .ok (.invokestatic 222, 3) := by decide +kernel
theorem dX12_end_9 : decode cX12_end 9 = .ok (.ifCond .eq 53, 3) := by decide +kernel
theorem dX12_end_12 : decode cX12_end 12 = .ok (.iload_n 2, 1) := by decide +kernel
theorem dX12_end_13 : decode cX12_end 13 = .ok (.i2l, 1) := by decide +kernel
theorem dX12_end_14 : decode cX12_end 14 = .ok (.lconst 1, 1) := by decide +kernel
theorem dX12_end_15 : decode cX12_end 15 = .ok (.ldc2_w 283, 3) := by decide +kernel
theorem dX12_end_18 : decode cX12_end 18 = .ok (.invokestatic 222, 3) := by decide +kernel
theorem dX12_end_21 : decode cX12_end 21 = .ok (.ifCond .eq 41, 3) := by decide +kernel
theorem dX12_end_24 : decode cX12_end 24 = .ok (.iload_n 3, 1) := by decide +kernel
theorem dX12_end_25 : decode cX12_end 25 = .ok (.i2l, 1) := by decide +kernel
theorem dX12_end_26 : decode cX12_end 26 = .ok (.lconst 0, 1) := by decide +kernel
theorem dX12_end_27 : decode cX12_end 27 = .ok (.ldc2_w 461, 3) := by decide +kernel
theorem dX12_end_30 : decode cX12_end 30 = .ok (.invokestatic 222, 3) := by decide +kernel
theorem dX12_end_33 : decode cX12_end 33 = .ok (.ifCond .eq 29, 3) := by decide +kernel
theorem dX12_end_36 : decode cX12_end 36 = .ok (.iload 4, 2) := by decide +kernel
theorem dX12_end_38 : decode cX12_end 38 = .ok (.i2l, 1) := by decide +kernel
theorem dX12_end_39 : decode cX12_end 39 = .ok (.lconst 0, 1) := by decide +kernel
theorem dX12_end_40 : decode cX12_end 40 = .ok (.ldc2_w 457, 3) := by decide +kernel
theorem dX12_end_43 : decode cX12_end 43 = .ok (.invokestatic 222, 3) := by decide +kernel
theorem dX12_end_46 : decode cX12_end 46 = .ok (.ifCond .eq 16, 3) := by decide +kernel
theorem dX12_end_49 : decode cX12_end 49 = .ok (.iload 5, 2) := by decide +kernel
theorem dX12_end_51 : decode cX12_end 51 = .ok (.i2l, 1) := by decide +kernel
theorem dX12_end_52 : decode cX12_end 52 = .ok (.lconst 1, 1) := by decide +kernel
theorem dX12_end_53 : decode cX12_end 53 = .ok (.ldc2_w 463, 3) := by decide +kernel
theorem dX12_end_56 : decode cX12_end 56 = .ok (.invokestatic 222, 3) := by decide +kernel
theorem dX12_end_59 : decode cX12_end 59 = .ok (.ifCond .ne 5, 3) := by decide +kernel
theorem dX12_end_62 : decode cX12_end 62 = .ok (.iconst 0, 1) := by decide +kernel
theorem dX12_end_63 : decode cX12_end 63 = .ok (.ireturn, 1) := by decide +kernel
theorem dX12_end_64 : decode cX12_end 64 = .ok (.aload_n 0, 1) := by decide +kernel
theorem dX12_end_65 : decode cX12_end 65 = .ok (.getfield 88, 3) := by decide +kernel
theorem dX12_end_68 : decode cX12_end 68 = .ok (.iload_n 1, 1) := by decide +kernel
theorem dX12_end_69 : decode cX12_end 69 = .ok (.iconst 1, 1) := by decide +kernel
theorem dX12_end_70 : decode cX12_end 70 = .ok (.bastore, 1) := by decide +kernel
theorem dX12_end_71 : decode cX12_end 71 = .ok (.aload_n 0, 1) := by decide +kernel
theorem dX12_end_72 : decode cX12_end 72 = .ok (.getfield 91, 3) := by decide +kernel
theorem dX12_end_75 : decode cX12_end 75 = .ok (.iload_n 1, 1) := by decide +kernel
theorem dX12_end_76 : decode cX12_end 76 = .ok (.iload_n 2, 1) := by decide +kernel
theorem dX12_end_77 : decode cX12_end 77 = .ok (.iastore, 1) := by decide +kernel
theorem dX12_end_78 : decode cX12_end 78 = .ok (.aload_n 0, 1) := by decide +kernel
theorem dX12_end_79 : decode cX12_end 79 = .ok (.getfield 94, 3) := by decide +kernel
theorem dX12_end_82 : decode cX12_end 82 = .ok (.iload_n 1, 1) := by decide +kernel
theorem dX12_end_83 : decode cX12_end 83 = .ok (.iload_n 3, 1) := by decide +kernel
theorem dX12_end_84 : decode cX12_end 84 = .ok (.iastore, 1) := by decide +kernel
theorem dX12_end_85 : decode cX12_end 85 = .ok (.aload_n 0, 1) := by decide +kernel
theorem dX12_end_86 : decode cX12_end 86 = .ok (.getfield 97, 3) := by decide +kernel
theorem dX12_end_89 : decode cX12_end 89 = .ok (.iload_n 1, 1) := by decide +kernel
theorem dX12_end_90 : decode cX12_end 90 = .ok (.iload 4, 2) := by decide +kernel
theorem dX12_end_92 : decode cX12_end 92 = .ok (.iastore, 1) := by decide +kernel
theorem dX12_end_93 : decode cX12_end 93 = .ok (.aload_n 0, 1) := by decide +kernel
theorem dX12_end_94 : decode cX12_end 94 = .ok (.getfield 100, 3) := by decide +kernel
theorem dX12_end_97 : decode cX12_end 97 = .ok (.iload_n 1, 1) := by decide +kernel
theorem dX12_end_98 : decode cX12_end 98 = .ok (.iload 5, 2) := by decide +kernel
theorem dX12_end_100 : decode cX12_end 100 = .ok (.iastore, 1) := by decide +kernel
theorem dX12_end_101 : decode cX12_end 101 = .ok (.iconst 1, 1) := by decide +kernel
theorem dX12_end_102 : decode cX12_end 102 = .ok (.ireturn, 1) := by decide +kernel
theorem dX12_teller_0 : decode cX12_teller 0 = .ok (.iload_n 1, 1) := by decide +kernel
theorem dX12_teller_1 : decode cX12_teller 1 = .ok (.i2l, 1) := by decide +kernel
theorem dX12_teller_2 : decode cX12_teller 2 = .ok (.lconst 0, 1) := by decide +kernel
theorem dX12_teller_3 : decode cX12_teller 3 = .ok (.ldc2_w 459, 3) := by decide +kernel
theorem dX12_teller_6 : decode cX12_teller 6 = .ok (.invokestatic 222, 3) := by decide +kernel
theorem dX12_teller_9 : decode cX12_teller 9 = .ok (.ifCond .eq 23, 3) := by decide +kernel
theorem dX12_teller_12 : decode cX12_teller 12 = .ok (.aload_n 0, 1) := by decide +kernel
theorem dX12_teller_13 : decode cX12_teller 13 = .ok (.iload_n 2, 1) := by decide +kernel
theorem dX12_teller_14 : decode cX12_teller 14 = .ok (.invokevirtual 279, 3) := by decide +kernel
theorem dX12_teller_17 : decode cX12_teller 17 = .ok (.ifCond .eq 15, 3) := by decide +kernel
theorem dX12_teller_20 : decode cX12_teller 20 = .ok (.iload_n 3, 1) := by decide +kernel
theorem dX12_teller_21 : decode cX12_teller 21 = .ok (.i2l, 1) := by decide +kernel
theorem dX12_teller_22 : decode cX12_teller 22 = .ok (.lconst 0, 1) := by decide +kernel
theorem dX12_teller_23 : decode cX12_teller 23 = .ok (.ldc2_w 465, 3) := by decide +kernel
theorem dX12_teller_26 : decode cX12_teller 26 = .ok (.invokestatic 222, 3) := by decide +kernel
theorem dX12_teller_29 : decode cX12_teller 29 = .ok (.ifCond .ne 5, 3) := by decide +kernel
theorem dX12_teller_32 : decode cX12_teller 32 = .ok (.iconst 0, 1) := by decide +kernel
theorem dX12_teller_33 : decode cX12_teller 33 = .ok (.ireturn, 1) := by decide +kernel
theorem dX12_teller_34 : decode cX12_teller 34 = .ok (.aload_n 0, 1) := by decide +kernel
theorem dX12_teller_35 : decode cX12_teller 35 = .ok (.getfield 103, 3) := by decide +kernel
theorem dX12_teller_38 : decode cX12_teller 38 = .ok (.iload_n 1, 1) := by decide +kernel
theorem dX12_teller_39 : decode cX12_teller 39 = .ok (.iconst 1, 1) := by decide +kernel
theorem dX12_teller_40 : decode cX12_teller 40 = .ok (.bastore, 1) := by decide +kernel
theorem dX12_teller_41 : decode cX12_teller 41 = .ok (.aload_n 0, 1) := by decide +kernel
theorem dX12_teller_42 : decode cX12_teller 42 = .ok (.getfield 106, 3) := by decide +kernel
theorem dX12_teller_45 : decode cX12_teller 45 = .ok (.iload_n 1, 1) := by decide +kernel
theorem dX12_teller_46 : decode cX12_teller 46 = .ok (.iload_n 2, 1) := by decide +kernel
theorem dX12_teller_47 : decode cX12_teller 47 = .ok (.iastore, 1) := by decide +kernel
theorem dX12_teller_48 : decode cX12_teller 48 = .ok (.aload_n 0, 1) := by decide +kernel
theorem dX12_teller_49 : decode cX12_teller 49 = .ok (.getfield 109, 3) := by decide +kernel
theorem dX12_teller_52 : decode cX12_teller 52 = .ok (.iload_n 1, 1) := by decide +kernel
theorem dX12_teller_53 : decode cX12_teller 53 = .ok (.iload_n 3, 1) := by decide +kernel
theorem dX12_teller_54 : decode cX12_teller 54 = .ok (.iastore, 1) := by decide +kernel
theorem dX12_teller_55 : decode cX12_teller 55 = .ok (.aload_n 0, 1) := by decide +kernel
theorem dX12_teller_56 : decode cX12_teller 56 = .ok (.getfield 112, 3) := by decide +kernel
theorem dX12_teller_59 : decode cX12_teller 59 = .ok (.iload_n 1, 1) := by decide +kernel
theorem dX12_teller_60 : decode cX12_teller 60 = .ok (.iconst 0, 1) := by decide +kernel
theorem dX12_teller_61 : decode cX12_teller 61 = .ok (.iastore, 1) := by decide +kernel
theorem dX12_teller_62 : decode cX12_teller 62 = .ok (.aload_n 0, 1) := by decide +kernel
theorem dX12_teller_63 : decode cX12_teller 63 = .ok (.getfield 115, 3) := by decide +kernel
theorem dX12_teller_66 : decode cX12_teller 66 = .ok (.iload_n 1, 1) := by decide +kernel
theorem dX12_teller_67 : decode cX12_teller 67 = .ok (.iconst 0, 1) := by decide +kernel
theorem dX12_teller_68 : decode cX12_teller 68 = .ok (.iastore, 1) := by decide +kernel
theorem dX12_teller_69 : decode cX12_teller 69 = .ok (.iconst 1, 1) := by decide +kernel
theorem dX12_teller_70 : decode cX12_teller 70 = .ok (.ireturn, 1) := by decide +kernel
theorem dX12_listener_0 : decode cX12_listener 0 = .ok (.iload_n 1, 1) := by decide +kernel
theorem dX12_listener_1 : decode cX12_listener 1 = .ok (.i2l, 1) := by decide +kernel
theorem dX12_listener_2 : decode cX12_listener 2 = .ok (.lconst 0, 1) := by decide +kernel
theorem dX12_listener_3 : decode cX12_listener 3 = .ok (.ldc2_w 457, 3) := by decide +kernel
theorem dX12_listener_6 : decode cX12_listener 6 = .ok (.invokestatic 222, 3) := by decide +kernel
theorem dX12_listener_9 : decode cX12_listener 9 = .ok (.ifCond .eq 23, 3) := by decide +kernel
theorem dX12_listener_12 : decode cX12_listener 12 = .ok (.aload_n 0, 1) := by decide +kernel
theorem dX12_listener_13 : decode cX12_listener 13 = .ok (.iload_n 2, 1) := by decide +kernel
theorem dX12_listener_14 : decode cX12_listener 14 = .ok (.invokevirtual 467, 3) := by decide +kernel
theorem dX12_listener_17 : decode cX12_listener 17 = .ok (.ifCond .eq 15, 3) := by decide +kernel
theorem dX12_listener_20 : decode cX12_listener 20 = .ok (.iload_n 3, 1) := by decide +kernel
theorem dX12_listener_21 : decode cX12_listener 21 = .ok (.i2l, 1) := by decide +kernel
theorem dX12_listener_22 : decode cX12_listener 22 = .ok (.lconst 0, 1) := by decide +kernel
theorem dX12_listener_23 : decode cX12_listener 23 = .ok (.ldc2_w 461, 3) := by decide +kernel
theorem dX12_listener_26 : decode cX12_listener 26 = .ok (.invokestatic 222, 3) := by decide +kernel
theorem dX12_listener_29 : decode cX12_listener 29 = .ok (.ifCond .ne 5, 3) := by decide +kernel
theorem dX12_listener_32 : decode cX12_listener 32 = .ok (.iconst 0, 1) := by decide +kernel
theorem dX12_listener_33 : decode cX12_listener 33 = .ok (.ireturn, 1) := by decide +kernel
theorem dX12_listener_34 : decode cX12_listener 34 = .ok (.aload_n 0, 1) := by decide +kernel
theorem dX12_listener_35 : decode cX12_listener 35 = .ok (.getfield 118, 3) := by decide +kernel
theorem dX12_listener_38 : decode cX12_listener 38 = .ok (.iload_n 1, 1) := by decide +kernel
theorem dX12_listener_39 : decode cX12_listener 39 = .ok (.iconst 1, 1) := by decide +kernel
theorem dX12_listener_40 : decode cX12_listener 40 = .ok (.bastore, 1) := by decide +kernel
theorem dX12_listener_41 : decode cX12_listener 41 = .ok (.aload_n 0, 1) := by decide +kernel
theorem dX12_listener_42 : decode cX12_listener 42 = .ok (.getfield 121, 3) := by decide +kernel
theorem dX12_listener_45 : decode cX12_listener 45 = .ok (.iload_n 1, 1) := by decide +kernel
theorem dX12_listener_46 : decode cX12_listener 46 = .ok (.iload_n 2, 1) := by decide +kernel
theorem dX12_listener_47 : decode cX12_listener 47 = .ok (.iastore, 1) := by decide +kernel
theorem dX12_listener_48 : decode cX12_listener 48 = .ok (.aload_n 0, 1) := by decide +kernel
theorem dX12_listener_49 : decode cX12_listener 49 = .ok (.getfield 124, 3) := by decide +kernel
theorem dX12_listener_52 : decode cX12_listener 52 = .ok (.iload_n 1, 1) := by decide +kernel
theorem dX12_listener_53 : decode cX12_listener 53 = .ok (.iload_n 3, 1) := by decide +kernel
theorem dX12_listener_54 : decode cX12_listener 54 = .ok (.iastore, 1) := by decide +kernel
theorem dX12_listener_55 : decode cX12_listener 55 = .ok (.aload_n 0, 1) := by decide +kernel
theorem dX12_listener_56 : decode cX12_listener 56 = .ok (.getfield 127, 3) := by decide +kernel
theorem dX12_listener_59 : decode cX12_listener 59 = .ok (.iload_n 1, 1) := by decide +kernel
theorem dX12_listener_60 : decode cX12_listener 60 = .ok (.iconst 0, 1) := by decide +kernel
theorem dX12_listener_61 : decode cX12_listener 61 = .ok (.iastore, 1) := by decide +kernel
theorem dX12_listener_62 : decode cX12_listener 62 = .ok (.iconst 1, 1) := by decide +kernel
theorem dX12_listener_63 : decode cX12_listener 63 = .ok (.ireturn, 1) := by decide +kernel
theorem dX12_laysCheapest_0 : decode cX12_laysCheapest 0 = .ok (.iconst 0, 1) := by decide +kernel
theorem dX12_laysCheapest_1 : decode cX12_laysCheapest 1 = .ok (.istore_n 2, 1) := by decide +kernel
theorem dX12_laysCheapest_2 : decode cX12_laysCheapest 2 = .ok (.iconst 0, 1) := by decide +kernel
theorem dX12_laysCheapest_3 : decode cX12_laysCheapest 3 = .ok (.istore_n 3, 1) := by decide +kernel
theorem dX12_laysCheapest_4 : decode cX12_laysCheapest 4 = .ok (.iload_n 3, 1) := by decide +kernel
theorem dX12_laysCheapest_5 : decode cX12_laysCheapest 5 = .ok (.bipush 10, 2) := by decide +kernel
theorem dX12_laysCheapest_7 : decode cX12_laysCheapest 7 = .ok (.if_icmp .ge 47, 3) := by decide +kernel
theorem dX12_laysCheapest_10 : decode cX12_laysCheapest 10 = .ok (.aload_n 0, 1) := by decide +kernel
theorem dX12_laysCheapest_11 : decode cX12_laysCheapest 11 = .ok (.getfield 88, 3) := by decide +kernel
theorem dX12_laysCheapest_14 : decode cX12_laysCheapest 14 = .ok (.iload_n 3, 1) := by decide +kernel
theorem dX12_laysCheapest_15 : decode cX12_laysCheapest 15 = .ok (.baload, 1) := by decide +kernel
theorem dX12_laysCheapest_16 : decode cX12_laysCheapest 16 = .ok (.ifCond .eq 32, 3) := by decide +kernel
theorem dX12_laysCheapest_19 : decode cX12_laysCheapest 19 = .ok (.aload_n 0, 1) := by decide +kernel
theorem dX12_laysCheapest_20 : decode cX12_laysCheapest 20 = .ok (.getfield 97, 3) := by decide +kernel
theorem dX12_laysCheapest_23 : decode cX12_laysCheapest 23 = .ok (.iload_n 3, 1) := by decide +kernel
theorem dX12_laysCheapest_24 : decode cX12_laysCheapest 24 = .ok (.iaload, 1) := by decide +kernel
theorem dX12_laysCheapest_25 : decode cX12_laysCheapest 25 = .ok (.ifCond .ne 6, 3) := by decide +kernel
theorem dX12_laysCheapest_28 : decode cX12_laysCheapest 28 = .ok (.goto 20, 3) := by decide +kernel
theorem dX12_laysCheapest_31 : decode cX12_laysCheapest 31 = .ok (.iload_n 2, 1) := by decide +kernel
theorem dX12_laysCheapest_32 : decode cX12_laysCheapest 32 = .ok (.iconst 1, 1) := by decide +kernel
theorem dX12_laysCheapest_33 : decode cX12_laysCheapest 33 = .ok (.iload_n 3, 1) := by decide +kernel
theorem dX12_laysCheapest_34 : decode cX12_laysCheapest 34 = .ok (.ishl, 1) := by decide +kernel
theorem dX12_laysCheapest_35 : decode cX12_laysCheapest 35 = .ok (.ior, 1) := by decide +kernel
theorem dX12_laysCheapest_36 : decode cX12_laysCheapest 36 = .ok (.istore_n 2, 1) := by decide +kernel
theorem dX12_laysCheapest_37 : decode cX12_laysCheapest 37 = .ok (.aload_n 0, 1) := by decide +kernel
theorem dX12_laysCheapest_38 : decode cX12_laysCheapest 38 = .ok (.getfield 130, 3) := by decide +kernel
theorem dX12_laysCheapest_41 : decode cX12_laysCheapest 41 = .ok (.iload_n 3, 1) := by decide +kernel
theorem dX12_laysCheapest_42 : decode cX12_laysCheapest 42 = .ok (.aload_n 0, 1) := by decide +kernel
theorem dX12_laysCheapest_43 : decode cX12_laysCheapest 43 = .ok (.iload_n 3, 1) := by decide +kernel
theorem dX12_laysCheapest_44 : decode cX12_laysCheapest 44 = .ok (.invokevirtual 470, 3) := by decide +kernel
theorem dX12_laysCheapest_47 : decode cX12_laysCheapest 47 = .ok (.iastore, 1) := by decide +kernel
theorem dX12_laysCheapest_48 : decode cX12_laysCheapest 48 = .ok (.iinc 3 1, 3) := by decide +kernel
theorem dX12_laysCheapest_51 : decode cX12_laysCheapest 51 = .ok (.goto (-47), 3) := by decide +kernel
theorem dX12_laysCheapest_54 : decode cX12_laysCheapest 54 = .ok (.aload_n 0, 1) := by decide +kernel
theorem dX12_laysCheapest_55 : decode cX12_laysCheapest 55 = .ok (.iconst (-1), 1) := by decide +kernel
theorem dX12_laysCheapest_56 : decode cX12_laysCheapest 56 = .ok (.putfield 473, 3) := by decide +kernel
theorem dX12_laysCheapest_59 : decode cX12_laysCheapest 59 = .ok (.aload_n 0, 1) := by decide +kernel
theorem dX12_laysCheapest_60 : decode cX12_laysCheapest 60 = .ok (.ldc_w 476, 3) := by decide +kernel
theorem dX12_laysCheapest_63 : decode cX12_laysCheapest 63 = .ok (.putfield 477, 3) := by decide +kernel
theorem dX12_laysCheapest_66 : decode cX12_laysCheapest 66 = .ok (.iconst 1, 1) := by decide +kernel
theorem dX12_laysCheapest_67 : decode cX12_laysCheapest 67 = .ok (.istore_n 3, 1) := by decide +kernel
theorem dX12_laysCheapest_68 : decode cX12_laysCheapest 68 = .ok (.iload_n 3, 1) := by decide +kernel
theorem dX12_laysCheapest_69 : decode cX12_laysCheapest 69 = .ok (.iload_n 2, 1) := by decide +kernel
theorem dX12_laysCheapest_70 : decode cX12_laysCheapest 70 = .ok (.if_icmp .gt 133, 3) := by decide +kernel
