theorem dX9_init_0 : decode cX9_init 0 = .ok (.aload_n 0, 1) := by decide +kernel
theorem dX9_init_1 : decode cX9_init 1 = .ok (.invokespecial 1, 3) := by decide +kernel
theorem dX9_init_4 : decode cX9_init 4 = .ok (.aload_n 0, 1) := by decide +kernel
theorem dX9_init_5 : decode cX9_init 5 = .ok (.sipush 200, 3) := by decide +kernel
theorem dX9_init_8 : decode cX9_init 8 = .ok (.newarray .byte, 2) := by decide +kernel
theorem dX9_init_10 : decode cX9_init 10 = .ok (.putfield 7, 3) := by decide +kernel
theorem dX9_init_13 : decode cX9_init 13 = .ok (.aload_n 0, 1) := by decide +kernel
theorem dX9_init_14 : decode cX9_init 14 = .ok (.iconst 2, 1) := by decide +kernel
theorem dX9_init_15 : decode cX9_init 15 = .ok (.newarray .int, 2) := by decide +kernel
theorem dX9_init_17 : decode cX9_init 17 = .ok (.putfield 13, 3) := by decide +kernel
theorem dX9_init_20 : decode cX9_init 20 = .ok (.aload_n 0, 1) := by decide +kernel
theorem dX9_init_21 : decode cX9_init 21 = .ok (.bipush 16, 2) := by decide +kernel
theorem dX9_init_23 : decode cX9_init 23 = .ok (.newarray .int, 2) := by decide +kernel
theorem dX9_init_25 : decode cX9_init 25 = .ok (.putfield 17, 3) := by decide +kernel
theorem dX9_init_28 : decode cX9_init 28 = .ok (.aload_n 0, 1) := by decide +kernel
theorem dX9_init_29 : decode cX9_init 29 = .ok (.bipush 16, 2) := by decide +kernel
theorem dX9_init_31 : decode cX9_init 31 = .ok (.newarray .int, 2) := by decide +kernel
theorem dX9_init_33 : decode cX9_init 33 = .ok (.putfield 20, 3) := by decide +kernel
theorem dX9_init_36 : decode cX9_init 36 = .ok (.aload_n 0, 1) := by decide +kernel
theorem dX9_init_37 : decode cX9_init 37 = .ok (.bipush 16, 2) := by decide +kernel
theorem dX9_init_39 : decode cX9_init 39 = .ok (.newarray .int, 2) := by decide +kernel
theorem dX9_init_41 : decode cX9_init 41 = .ok (.putfield 23, 3) := by decide +kernel
theorem dX9_init_44 : decode cX9_init 44 = .ok (.aload_n 0, 1) := by decide +kernel
theorem dX9_init_45 : decode cX9_init 45 = .ok (.bipush 16, 2) := by decide +kernel
theorem dX9_init_47 : decode cX9_init 47 = .ok (.newarray .int, 2) := by decide +kernel
theorem dX9_init_49 : decode cX9_init 49 = .ok (.putfield 26, 3) := by decide +kernel
theorem dX9_init_52 : decode cX9_init 52 = .ok (.aload_n 0, 1) := by decide +kernel
theorem dX9_init_53 : decode cX9_init 53 = .ok (.iconst 2, 1) := by decide +kernel
theorem dX9_init_54 : decode cX9_init 54 = .ok (.newarray .int, 2) := by decide +kernel
theorem dX9_init_56 : decode cX9_init 56 = .ok (.putfield 29, 3) := by decide +kernel
theorem dX9_init_59 : decode cX9_init 59 = .ok (.aload_n 0, 1) := by decide +kernel
theorem dX9_init_60 : decode cX9_init 60 = .ok (.iconst 2, 1) := by decide +kernel
theorem dX9_init_61 : decode cX9_init 61 = .ok (.newarray .int, 2) := by decide +kernel
theorem dX9_init_63 : decode cX9_init 63 = .ok (.putfield 32, 3) := by decide +kernel
theorem dX9_init_66 : decode cX9_init 66 = .ok (.aload_n 0, 1) := by decide +kernel
theorem dX9_init_67 : decode cX9_init 67 = .ok (.bipush 8, 2) := by decide +kernel
theorem dX9_init_69 : decode cX9_init 69 = .ok (.newarray .int, 2) := by decide +kernel
theorem dX9_init_71 : decode cX9_init 71 = .ok (.putfield 35, 3) := by decide +kernel
theorem dX9_init_74 : decode cX9_init 74 = .ok (.aload_n 0, 1) := by decide +kernel
theorem dX9_init_75 : decode cX9_init 75 = .ok (.bipush 8, 2) := by decide +kernel
theorem dX9_init_77 : decode cX9_init 77 = .ok (.newarray .int, 2) := by decide +kernel
theorem dX9_init_79 : decode cX9_init 79 = .ok (.putfield 38, 3) := by decide +kernel
theorem dX9_init_82 : decode cX9_init 82 = .ok (.aload_n 0, 1) := by decide +kernel
theorem dX9_init_83 : decode cX9_init 83 = .ok (.bipush 16, 2) := by decide +kernel
theorem dX9_init_85 : decode cX9_init 85 = .ok (.newarray .int, 2) := by decide +kernel
theorem dX9_init_87 : decode cX9_init 87 = .ok (.putfield 41, 3) := by decide +kernel
theorem dX9_init_90 : decode cX9_init 90 = .ok (.aload_n 0, 1) := by decide +kernel
theorem dX9_init_91 : decode cX9_init 91 = .ok (.iconst 2, 1) := by decide +kernel
theorem dX9_init_92 : decode cX9_init 92 = .ok (.newarray .int, 2) := by decide +kernel
theorem dX9_init_94 : decode cX9_init 94 = .ok (.putfield 44, 3) := by decide +kernel
theorem dX9_init_97 : decode cX9_init 97 = .ok (.aload_n 0, 1) := by decide +kernel
theorem dX9_init_98 : decode cX9_init 98 = .ok (.bipush 12, 2) := by decide +kernel
theorem dX9_init_100 : decode cX9_init 100 = .ok (.newarray .int, 2) := by decide +kernel
theorem dX9_init_102 : decode cX9_init 102 = .ok (.putfield 47, 3) := by decide +kernel
theorem dX9_init_105 : decode cX9_init 105 = .ok (.aload_n 0, 1) := by decide +kernel
theorem dX9_init_106 : decode cX9_init 106 = .ok (.bipush 16, 2) := by decide +kernel
theorem dX9_init_108 : decode cX9_init 108 = .ok (.newarray .int, 2) := by decide +kernel
theorem dX9_init_110 : decode cX9_init 110 = .ok (.putfield 50, 3) := by decide +kernel
theorem dX9_init_113 : decode cX9_init 113 = .ok (.aload_n 0, 1) := by decide +kernel
theorem dX9_init_114 : decode cX9_init 114 = .ok (.iconst 2, 1) := by decide +kernel
theorem dX9_init_115 : decode cX9_init 115 = .ok (.newarray .int, 2) := by decide +kernel
theorem dX9_init_117 : decode cX9_init 117 = .ok (.putfield 53, 3) := by decide +kernel
theorem dX9_init_120 : decode cX9_init 120 = .ok (.aload_n 0, 1) := by decide +kernel
theorem dX9_init_121 : decode cX9_init 121 = .ok (.bipush 16, 2) := by decide +kernel
theorem dX9_init_123 : decode cX9_init 123 = .ok (.newarray .int, 2) := by decide +kernel
theorem dX9_init_125 : decode cX9_init 125 = .ok (.putfield 56, 3) := by decide +kernel
theorem dX9_init_128 : decode cX9_init 128 = .ok (.aload_n 0, 1) := by decide +kernel
theorem dX9_init_129 : decode cX9_init 129 = .ok (.bipush 16, 2) := by decide +kernel
theorem dX9_init_131 : decode cX9_init 131 = .ok (.newarray .int, 2) := by decide +kernel
theorem dX9_init_133 : decode cX9_init 133 = .ok (.putfield 59, 3) := by decide +kernel
theorem dX9_init_136 : decode cX9_init 136 = .ok (.aload_n 0, 1) := by decide +kernel
theorem dX9_init_137 : decode cX9_init 137 = .ok (.sipush 192, 3) := by decide +kernel
theorem dX9_init_140 : decode cX9_init 140 = .ok (.newarray .int, 2) := by decide +kernel
theorem dX9_init_142 : decode cX9_init 142 = .ok (.putfield 62, 3) := by decide +kernel
theorem dX9_init_145 : decode cX9_init 145 = .ok (.aload_n 0, 1) := by decide +kernel
theorem dX9_init_146 : decode cX9_init 146 = .ok (.bipush 8, 2) := by decide +kernel
theorem dX9_init_148 : decode cX9_init 148 = .ok (.newarray .int, 2) := by decide +kernel
theorem dX9_init_150 : decode cX9_init 150 = .ok (.putfield 65, 3) := by decide +kernel
theorem dX9_init_153 : decode cX9_init 153 = .ok (.aload_n 0, 1) := by decide +kernel
theorem dX9_init_154 : decode cX9_init 154 = .ok (.bipush 8, 2) := by decide +kernel
theorem dX9_init_156 : decode cX9_init 156 = .ok (.newarray .int, 2) := by decide +kernel
theorem dX9_init_158 : decode cX9_init 158 = .ok (.putfield 68, 3) := by decide +kernel
theorem dX9_init_161 : decode cX9_init 161 = .ok (.aload_n 0, 1) := by decide +kernel
theorem dX9_init_162 : decode cX9_init 162 = .ok (.bipush 8, 2) := by decide +kernel
theorem dX9_init_164 : decode cX9_init 164 = .ok (.newarray .int, 2) := by decide +kernel
theorem dX9_init_166 : decode cX9_init 166 = .ok (.putfield 71, 3) := by decide +kernel
theorem dX9_init_169 : decode cX9_init 169 = .ok (.aload_n 0, 1) := by decide +kernel
theorem dX9_init_170 : decode cX9_init 170 = .ok (.sipush 256, 3) := by decide +kernel
theorem dX9_init_173 : decode cX9_init 173 = .ok (.newarray .int, 2) := by decide +kernel
theorem dX9_init_175 : decode cX9_init 175 = .ok (.putfield 74, 3) := by decide +kernel
theorem dX9_init_178 : decode cX9_init 178 = .ok (.aload_n 0, 1) := by decide +kernel
theorem dX9_init_179 : decode cX9_init 179 = .ok (.sipush 256, 3) := by decide +kernel
theorem dX9_init_182 : decode cX9_init 182 = .ok (.newarray .int, 2) := by decide +kernel
theorem dX9_init_184 : decode cX9_init 184 = .ok (.putfield 77, 3) := by decide +kernel
theorem dX9_init_187 : decode cX9_init 187 = .ok (.aload_n 0, 1) := by decide +kernel
theorem dX9_init_188 : decode cX9_init 188 = .ok (.bipush 6, 2) := by decide +kernel
theorem dX9_init_190 : decode cX9_init 190 = .ok (.newarray .int, 2) := by decide +kernel
theorem dX9_init_192 : decode cX9_init 192 = .ok (.putfield 80, 3) := by decide +kernel
theorem dX9_init_195 : decode cX9_init 195 = .ok (.aload_n 0, 1) := by decide +kernel
theorem dX9_init_196 : decode cX9_init 196 = .ok (.bipush 6, 2) := by decide +kernel
theorem dX9_init_198 : decode cX9_init 198 = .ok (.newarray .int, 2) := by decide +kernel
theorem dX9_init_200 : decode cX9_init 200 = .ok (.putfield 83, 3) := by decide +kernel
theorem dX9_init_203 : decode cX9_init 203 = .ok (.aload_n 0, 1) := by decide +kernel
theorem dX9_init_204 : decode cX9_init 204 = .ok (.getfield 13, 3) := by decide +kernel
theorem dX9_init_207 : decode cX9_init 207 = .ok (.iconst 0, 1) := by decide +kernel
theorem dX9_init_208 : decode cX9_init 208 = .ok (.bipush 6, 2) := by decide +kernel
theorem dX9_init_210 : decode cX9_init 210 = .ok (.iastore, 1) := by decide +kernel
theorem dX9_init_211 : decode cX9_init 211 = .ok (.aload_n 0, 1) := by decide +kernel
theorem dX9_init_212 : decode cX9_init 212 = .ok (.iconst 0, 1) := by decide +kernel
theorem dX9_init_213 : decode cX9_init 213 = .ok (.iconst 3, 1) := by decide +kernel
theorem dX9_init_214 : decode cX9_init 214 = .ok (.iconst 1, 1) := by decide +kernel
theorem dX9_init_215 : decode cX9_init 215 = .ok (.iconst 1, 1) := by decide +kernel
theorem dX9_init_216 : decode cX9_init 216 = .ok (.iconst 0, 1) := by decide +kernel
theorem dX9_init_217 : decode cX9_init 217 = .ok (.invokevirtual 86, 3) := by decide +kernel
theorem dX9_init_220 : decode cX9_init 220 = .ok (.aload_n 0, 1) := by decide +kernel
theorem dX9_init_221 : decode cX9_init 221 = .ok (.iconst 1, 1) := by decide +kernel
theorem dX9_init_222 : decode cX9_init 222 = .ok (.iconst 5, 1) := by decide +kernel
theorem dX9_init_223 : decode cX9_init 223 = .ok (.bipush 8, 2) := by decide +kernel
theorem dX9_init_225 : decode cX9_init 225 = .ok (.iconst 0, 1) := by decide +kernel
theorem dX9_init_226 : decode cX9_init 226 = .ok (.iconst 2, 1) := by decide +kernel
theorem dX9_init_227 : decode cX9_init 227 = .ok (.invokevirtual 86, 3) := by decide +kernel
theorem dX9_init_230 : decode cX9_init 230 = .ok (.aload_n 0, 1) := by decide +kernel
theorem dX9_init_231 : decode cX9_init 231 = .ok (.iconst 2, 1) := by decide +kernel
theorem dX9_init_232 : decode cX9_init 232 = .ok (.bipush 7, 2) := by decide +kernel
theorem dX9_init_234 : decode cX9_init 234 = .ok (.bipush 6, 2) := by decide +kernel
theorem dX9_init_236 : decode cX9_init 236 = .ok (.iconst 2, 1) := by decide +kernel
theorem dX9_init_237 : decode cX9_init 237 = .ok (.iconst 0, 1) := by decide +kernel
theorem dX9_init_238 : decode cX9_init 238 = .ok (.invokevirtual 86, 3) := by decide +kernel
theorem dX9_init_241 : decode cX9_init 241 = .ok (.aload_n 0, 1) := by decide +kernel
theorem dX9_init_242 : decode cX9_init 242 = .ok (.iconst 3, 1) := by decide +kernel
theorem dX9_init_243 : decode cX9_init 243 = .ok (.iconst 4, 1) := by decide +kernel
theorem dX9_init_244 : decode cX9_init 244 = .ok (.iconst 3, 1) := by decide +kernel
theorem dX9_init_245 : decode cX9_init 245 = .ok (.iconst 3, 1) := by decide +kernel
theorem dX9_init_246 : decode cX9_init 246 = .ok (.iconst 0, 1) := by decide +kernel
theorem dX9_init_247 : decode cX9_init 247 = .ok (.invokevirtual 86, 3) := by decide +kernel
theorem dX9_init_250 : decode cX9_init 250 = .ok (.aload_n 0, 1) := by decide +kernel
theorem dX9_init_251 : decode cX9_init 251 = .ok (.iconst 4, 1) := by decide +kernel
theorem dX9_init_252 : decode cX9_init 252 = .ok (.bipush 6, 2) := by decide +kernel
theorem dX9_init_254 : decode cX9_init 254 = .ok (.iconst 4, 1) := by decide +kernel
theorem dX9_init_255 : decode cX9_init 255 = .ok (.iconst 0, 1) := by decide +kernel
theorem dX9_init_256 : decode cX9_init 256 = .ok (.iconst 1, 1) := by decide +kernel
theorem dX9_init_257 : decode cX9_init 257 = .ok (.invokevirtual 86, 3) := by decide +kernel
theorem dX9_init_260 : decode cX9_init 260 = .ok (.aload_n 0, 1) := by decide +kernel
theorem dX9_init_261 : decode cX9_init 261 = .ok (.iconst 5, 1) := by decide +kernel
theorem dX9_init_262 : decode cX9_init 262 = .ok (.iconst 2, 1) := by decide +kernel
theorem dX9_init_263 : decode cX9_init 263 = .ok (.iconst 2, 1) := by decide +kernel
theorem dX9_init_264 : decode cX9_init 264 = .ok (.iconst 0, 1) := by decide +kernel
theorem dX9_init_265 : decode cX9_init 265 = .ok (.iconst 0, 1) := by decide +kernel
theorem dX9_init_266 : decode cX9_init 266 = .ok (.invokevirtual 86, 3) := by decide +kernel
theorem dX9_init_269 : decode cX9_init 269 = .ok (.aload_n 0, 1) := by decide +kernel
theorem dX9_init_270 : decode cX9_init 270 = .ok (.getfield 29, 3) := by decide +kernel
theorem dX9_init_273 : decode cX9_init 273 = .ok (.iconst 0, 1) := by decide +kernel
theorem dX9_init_274 : decode cX9_init 274 = .ok (.bipush 40, 2) := by decide +kernel
theorem dX9_init_276 : decode cX9_init 276 = .ok (.iastore, 1) := by decide +kernel
theorem dX9_init_277 : decode cX9_init 277 = .ok (.aload_n 0, 1) := by decide +kernel
theorem dX9_init_278 : decode cX9_init 278 = .ok (.getfield 32, 3) := by decide +kernel
theorem dX9_init_281 : decode cX9_init 281 = .ok (.iconst 0, 1) := by decide +kernel
theorem dX9_init_282 : decode cX9_init 282 = .ok (.iconst 2, 1) := by decide +kernel
theorem dX9_init_283 : decode cX9_init 283 = .ok (.iastore, 1) := by decide +kernel
theorem dX9_init_284 : decode cX9_init 284 = .ok (.aload_n 0, 1) := by decide +kernel
theorem dX9_init_285 : decode cX9_init 285 = .ok (.getfield 35, 3) := by decide +kernel
theorem dX9_init_288 : decode cX9_init 288 = .ok (.iconst 0, 1) := by decide +kernel
theorem dX9_init_289 : decode cX9_init 289 = .ok (.iconst 0, 1) := by decide +kernel
theorem dX9_init_290 : decode cX9_init 290 = .ok (.iastore, 1) := by decide +kernel
theorem dX9_init_291 : decode cX9_init 291 = .ok (.aload_n 0, 1) := by decide +kernel
theorem dX9_init_292 : decode cX9_init 292 = .ok (.getfield 38, 3) := by decide +kernel
theorem dX9_init_295 : decode cX9_init 295 = .ok (.iconst 0, 1) := by decide +kernel
theorem dX9_init_296 : decode cX9_init 296 = .ok (.iconst 1, 1) := by decide +kernel
theorem dX9_init_297 : decode cX9_init 297 = .ok (.iastore, 1) := by decide +kernel
theorem dX9_init_298 : decode cX9_init 298 = .ok (.aload_n 0, 1) := by decide +kernel
theorem dX9_init_299 : decode cX9_init 299 = .ok (.getfield 35, 3) := by decide +kernel
theorem dX9_init_302 : decode cX9_init 302 = .ok (.iconst 1, 1) := by decide +kernel
theorem dX9_init_303 : decode cX9_init 303 = .ok (.bipush 8, 2) := by decide +kernel
theorem dX9_init_305 : decode cX9_init 305 = .ok (.iastore, 1) := by decide +kernel
theorem dX9_init_306 : decode cX9_init 306 = .ok (.aload_n 0, 1) := by decide +kernel
theorem dX9_init_307 : decode cX9_init 307 = .ok (.getfield 38, 3) := by decide +kernel
theorem dX9_init_310 : decode cX9_init 310 = .ok (.iconst 1, 1) := by decide +kernel
theorem dX9_init_311 : decode cX9_init 311 = .ok (.iconst 2, 1) := by decide +kernel
theorem dX9_init_312 : decode cX9_init 312 = .ok (.iastore, 1) := by decide +kernel
theorem dX9_init_313 : decode cX9_init 313 = .ok (.aload_n 0, 1) := by decide +kernel
theorem dX9_init_314 : decode cX9_init 314 = .ok (.getfield 44, 3) := by decide +kernel
theorem dX9_init_317 : decode cX9_init 317 = .ok (.iconst 0, 1) := by decide +kernel
theorem dX9_init_318 : decode cX9_init 318 = .ok (.iconst 1, 1) := by decide +kernel
theorem dX9_init_319 : decode cX9_init 319 = .ok (.iastore, 1) := by decide +kernel
theorem dX9_init_320 : decode cX9_init 320 = .ok (.aload_n 0, 1) := by decide +kernel
theorem dX9_init_321 : decode cX9_init 321 = .ok (.getfield 47, 3) := by decide +kernel
theorem dX9_init_324 : decode cX9_init 324 = .ok (.iconst 0, 1) := by decide +kernel
theorem dX9_init_325 : decode cX9_init 325 = .ok (.iconst 3, 1) := by decide +kernel
theorem dX9_init_326 : decode cX9_init 326 = .ok (.iastore, 1) := by decide +kernel
theorem dX9_init_327 : decode cX9_init 327 = .ok (.aload_n 0, 1) := by decide +kernel
theorem dX9_init_328 : decode cX9_init 328 = .ok (.getfield 47, 3) := by decide +kernel
theorem dX9_init_331 : decode cX9_init 331 = .ok (.iconst 1, 1) := by decide +kernel
theorem dX9_init_332 : decode cX9_init 332 = .ok (.iconst 4, 1) := by decide +kernel
theorem dX9_init_333 : decode cX9_init 333 = .ok (.iastore, 1) := by decide +kernel
theorem dX9_init_334 : decode cX9_init 334 = .ok (.aload_n 0, 1) := by decide +kernel
theorem dX9_init_335 : decode cX9_init 335 = .ok (.getfield 47, 3) := by decide +kernel
theorem dX9_init_338 : decode cX9_init 338 = .ok (.iconst 2, 1) := by decide +kernel
theorem dX9_init_339 : decode cX9_init 339 = .ok (.iconst 5, 1) := by decide +kernel
theorem dX9_init_340 : decode cX9_init 340 = .ok (.iastore, 1) := by decide +kernel
theorem dX9_init_341 : decode cX9_init 341 = .ok (.iconst 0, 1) := by decide +kernel
theorem dX9_init_342 : decode cX9_init 342 = .ok (.istore_n 1, 1) := by decide +kernel
theorem dX9_init_343 : decode cX9_init 343 = .ok (.iload_n 1, 1) := by decide +kernel
theorem dX9_init_344 : decode cX9_init 344 = .ok (.bipush 8, 2) := by decide +kernel
theorem dX9_init_346 : decode cX9_init 346 = .ok (.if_icmp .ge 31, 3) := by decide +kernel
theorem dX9_init_349 : decode cX9_init 349 = .ok (.aload_n 0, 1) := by decide +kernel
theorem dX9_init_350 : decode cX9_init 350 = .ok (.getfield 41, 3) := by decide +kernel
theorem dX9_init_353 : decode cX9_init 353 = .ok (.iload_n 1, 1) := by decide +kernel
theorem dX9_init_354 : decode cX9_init 354 = .ok (.bipush (-4), 2) := by decide +kernel
theorem dX9_init_356 : decode cX9_init 356 = .ok (.iastore, 1) := by decide +kernel
theorem dX9_init_357 : decode cX9_init 357 = .ok (.aload_n 0, 1) := by decide +kernel
theorem dX9_init_358 : decode cX9_init 358 = .ok (.getfield 56, 3) := by decide +kernel
theorem dX9_init_361 : decode cX9_init 361 = .ok (.iload_n 1, 1) := by decide +kernel
theorem dX9_init_362 : decode cX9_init 362 = .ok (.iconst 0, 1) := by decide +kernel
theorem dX9_init_363 : decode cX9_init 363 = .ok (.iastore, 1) := by decide +kernel
theorem dX9_init_364 : decode cX9_init 364 = .ok (.aload_n 0, 1) := by decide +kernel
theorem dX9_init_365 : decode cX9_init 365 = .ok (.getfield 50, 3) := by decide +kernel
theorem dX9_init_368 : decode cX9_init 368 = .ok (.iload_n 1, 1) := by decide +kernel
theorem dX9_init_369 : decode cX9_init 369 = .ok (.iconst 0, 1) := by decide +kernel
theorem dX9_init_370 : decode cX9_init 370 = .ok (.iastore, 1) := by decide +kernel
theorem dX9_init_371 : decode cX9_init 371 = .ok (.iinc 1 1, 3) := by decide +kernel
theorem dX9_init_374 : decode cX9_init 374 = .ok (.goto (-31), 3) := by decide +kernel
theorem dX9_init_377 : decode cX9_init 377 = .ok (.aload_n 0, 1) := by decide +kernel
theorem dX9_init_378 : decode cX9_init 378 = .ok (.getfield 41, 3) := by decide +kernel
theorem dX9_init_381 : decode cX9_init 381 = .ok (.iconst 0, 1) := by decide +kernel
theorem dX9_init_382 : decode cX9_init 382 = .ok (.iconst 1, 1) := by decide +kernel
theorem dX9_init_383 : decode cX9_init 383 = .ok (.iastore, 1) := by decide +kernel
theorem dX9_init_384 : decode cX9_init 384 = .ok (.aload_n 0, 1) := by decide +kernel
theorem dX9_init_385 : decode cX9_init 385 = .ok (.getfield 50, 3) := by decide +kernel
theorem dX9_init_388 : decode cX9_init 388 = .ok (.iconst 5, 1) := by decide +kernel
theorem dX9_init_389 : decode cX9_init 389 = .ok (.iconst 1, 1) := by decide +kernel
theorem dX9_init_390 : decode cX9_init 390 = .ok (.iastore, 1) := by decide +kernel
theorem dX9_init_391 : decode cX9_init 391 = .ok (.aload_n 0, 1) := by decide +kernel
theorem dX9_init_392 : decode cX9_init 392 = .ok (.getfield 50, 3) := by decide +kernel
theorem dX9_init_395 : decode cX9_init 395 = .ok (.iconst 0, 1) := by decide +kernel
theorem dX9_init_396 : decode cX9_init 396 = .ok (.iconst 2, 1) := by decide +kernel
theorem dX9_init_397 : decode cX9_init 397 = .ok (.iastore, 1) := by decide +kernel
theorem dX9_init_398 : decode cX9_init 398 = .ok (.aload_n 0, 1) := by decide +kernel
theorem dX9_init_399 : decode cX9_init 399 = .ok (.getfield 53, 3) := by decide +kernel
theorem dX9_init_402 : decode cX9_init 402 = .ok (.iconst 0, 1) := by decide +kernel
theorem dX9_init_403 : decode cX9_init 403 = .ok (.iconst 2, 1) := by decide +kernel
theorem dX9_init_404 : decode cX9_init 404 = .ok (.iastore, 1) := by decide +kernel
theorem dX9_init_405 : decode cX9_init 405 = .ok (.aload_n 0, 1) := by decide +kernel
theorem dX9_init_406 : decode cX9_init 406 = .ok (.getfield 56, 3) := by decide +kernel
theorem dX9_init_409 : decode cX9_init 409 = .ok (.iconst 0, 1) := by decide +kernel
theorem dX9_init_410 : decode cX9_init 410 = .ok (.iconst 1, 1) := by decide +kernel
theorem dX9_init_411 : decode cX9_init 411 = .ok (.iastore, 1) := by decide +kernel
theorem dX9_init_412 : decode cX9_init 412 = .ok (.aload_n 0, 1) := by decide +kernel
theorem dX9_init_413 : decode cX9_init 413 = .ok (.getfield 56, 3) := by decide +kernel
theorem dX9_init_416 : decode cX9_init 416 = .ok (.iconst 2, 1) := by decide +kernel
theorem dX9_init_417 : decode cX9_init 417 = .ok (.iconst 1, 1) := by decide +kernel
theorem dX9_init_418 : decode cX9_init 418 = .ok (.iastore, 1) := by decide +kernel
theorem dX9_init_419 : decode cX9_init 419 = .ok (.aload_n 0, 1) := by decide +kernel
theorem dX9_init_420 : decode cX9_init 420 = .ok (.getfield 56, 3) := by decide +kernel
theorem dX9_init_423 : decode cX9_init 423 = .ok (.iconst 1, 1) := by decide +kernel
theorem dX9_init_424 : decode cX9_init 424 = .ok (.iconst 3, 1) := by decide +kernel
theorem dX9_init_425 : decode cX9_init 425 = .ok (.iastore, 1) := by decide +kernel
theorem dX9_init_426 : decode cX9_init 426 = .ok (.aload_n 0, 1) := by decide +kernel
theorem dX9_init_427 : decode cX9_init 427 = .ok (.getfield 59, 3) := by decide +kernel
theorem dX9_init_430 : decode cX9_init 430 = .ok (.iconst 0, 1) := by decide +kernel
theorem dX9_init_431 : decode cX9_init 431 = .ok (.bipush 12, 2) := by decide +kernel
theorem dX9_init_433 : decode cX9_init 433 = .ok (.iastore, 1) := by decide +kernel
theorem dX9_init_434 : decode cX9_init 434 = .ok (.aload_n 0, 1) := by decide +kernel
theorem dX9_init_435 : decode cX9_init 435 = .ok (.getfield 59, 3) := by decide +kernel
theorem dX9_init_438 : decode cX9_init 438 = .ok (.iconst 1, 1) := by decide +kernel
theorem dX9_init_439 : decode cX9_init 439 = .ok (.bipush 30, 2) := by decide +kernel
theorem dX9_init_441 : decode cX9_init 441 = .ok (.iastore, 1) := by decide +kernel
theorem dX9_init_442 : decode cX9_init 442 = .ok (.aload_n 0, 1) := by decide +kernel
theorem dX9_init_443 : decode cX9_init 443 = .ok (.getfield 59, 3) := by decide +kernel
theorem dX9_init_446 : decode cX9_init 446 = .ok (.iconst 2, 1) := by decide +kernel
theorem dX9_init_447 : decode cX9_init 447 = .ok (.bipush 7, 2) := by decide +kernel
theorem dX9_init_449 : decode cX9_init 449 = .ok (.iastore, 1) := by decide +kernel
theorem dX9_init_450 : decode cX9_init 450 = .ok (.aload_n 0, 1) := by decide +kernel
theorem dX9_init_451 : decode cX9_init 451 = .ok (.invokevirtual 90, 3) := by decide +kernel
theorem dX9_init_454 : decode cX9_init 454 = .ok (.return_, 1) := by decide +kernel
theorem dX9_firstBeast_0 : decode cX9_firstBeast 0 = .ok (.aload_n 0, 1) := by decide +kernel
theorem dX9_firstBeast_1 : decode cX9_firstBeast 1 = .ok (.getfield 17, 3) := by decide +kernel
theorem dX9_firstBeast_4 : decode cX9_firstBeast 4 = .ok (.iload_n 1, 1) := by decide +kernel
theorem dX9_firstBeast_5 : decode cX9_firstBeast 5 = .ok (.iload_n 2, 1) := by decide +kernel
theorem dX9_firstBeast_6 : decode cX9_firstBeast 6 = .ok (.iastore, 1) := by decide +kernel
theorem dX9_firstBeast_7 : decode cX9_firstBeast 7 = .ok (.aload_n 0, 1) := by decide +kernel
theorem dX9_firstBeast_8 : decode cX9_firstBeast 8 = .ok (.getfield 20, 3) := by decide +kernel
theorem dX9_firstBeast_11 : decode cX9_firstBeast 11 = .ok (.iload_n 1, 1) := by decide +kernel
theorem dX9_firstBeast_12 : decode cX9_firstBeast 12 = .ok (.iload_n 3, 1) := by decide +kernel
theorem dX9_firstBeast_13 : decode cX9_firstBeast 13 = .ok (.iastore, 1) := by decide +kernel
theorem dX9_firstBeast_14 : decode cX9_firstBeast 14 = .ok (.aload_n 0, 1) := by decide +kernel
theorem dX9_firstBeast_15 : decode cX9_firstBeast 15 = .ok (.getfield 23, 3) := by decide +kernel
theorem dX9_firstBeast_18 : decode cX9_firstBeast 18 = .ok (.iload_n 1, 1) := by decide +kernel
theorem dX9_firstBeast_19 : decode cX9_firstBeast 19 = .ok (.iload 4, 2) := by decide +kernel
theorem dX9_firstBeast_21 : decode cX9_firstBeast 21 = .ok (.iastore, 1) := by decide +kernel
theorem dX9_firstBeast_22 : decode cX9_firstBeast 22 = .ok (.aload_n 0, 1) := by decide +kernel
theorem dX9_firstBeast_23 : decode cX9_firstBeast 23 = .ok (.getfield 26, 3) := by decide +kernel
theorem dX9_firstBeast_26 : decode cX9_firstBeast 26 = .ok (.iload_n 1, 1) := by decide +kernel
theorem dX9_firstBeast_27 : decode cX9_firstBeast 27 = .ok (.iload 5, 2) := by decide +kernel
theorem dX9_firstBeast_29 : decode cX9_firstBeast 29 = .ok (.iastore, 1) := by decide +kernel
theorem dX9_firstBeast_30 : decode cX9_firstBeast 30 = .ok (.return_, 1) := by decide +kernel
theorem dX9_in_0 : decode cX9_in 0 = .ok (.iload_n 0, 1) := by decide +kernel
theorem dX9_in_1 : decode cX9_in 1 = .ok (.iload_n 1, 1) := by decide +kernel
theorem dX9_in_2 : decode cX9_in 2 = .ok (.if_icmp .lt 12, 3) := by decide +kernel
theorem dX9_in_5 : decode cX9_in 5 = .ok (.iload_n 0, 1) := by decide +kernel
theorem dX9_in_6 : decode cX9_in 6 = .ok (.iload_n 2, 1) := by decide +kernel
theorem dX9_in_7 : decode cX9_in 7 = .ok (.if_icmp .gt 7, 3) := by decide +kernel
theorem dX9_in_10 : decode cX9_in 10 = .ok (.iconst 1, 1) := by decide +kernel
theorem dX9_in_11 : decode cX9_in 11 = .ok (.goto 4, 3) := by decide +kernel
theorem dX9_in_14 : decode cX9_in 14 = .ok (.iconst 0, 1) := by decide +kernel
theorem dX9_in_15 : decode cX9_in 15 = .ok (.ireturn, 1) := by decide +kernel
theorem dX9_write_0 : decode cX9_write 0 = .ok (.iload_n 1, 1) := by decide +kernel
theorem dX9_write_1 : decode cX9_write 1 = .ok (.bipush 32, 2) := by decide +kernel
theorem dX9_write_3 : decode cX9_write 3 = .ok (.bipush 126, 2) := by decide +kernel
theorem dX9_write_5 : decode cX9_write 5 = .ok (.invokestatic 93, 3) := by decide +kernel
theorem dX9_write_8 : decode cX9_write 8 = .ok (.ifCond .ne 5, 3) := by decide +kernel
theorem dX9_write_11 : decode cX9_write 11 = .ok (.iconst (-1), 1) := by decide +kernel
theorem dX9_write_12 : decode cX9_write 12 = .ok (.ireturn, 1) := by decide +kernel
theorem dX9_write_13 : decode cX9_write 13 = .ok (.aload_n 0, 1) := by decide +kernel
theorem dX9_write_14 : decode cX9_write 14 = .ok (.getfield 97, 3) := by decide +kernel
theorem dX9_write_17 : decode cX9_write 17 = .ok (.sipush 200, 3) := by decide +kernel
theorem dX9_write_20 : decode cX9_write 20 = .ok (.if_icmp .ne 6, 3) := by decide +kernel
theorem dX9_write_23 : decode cX9_write 23 = .ok (.bipush (-3), 2) := by decide +kernel
theorem dX9_write_25 : decode cX9_write 25 = .ok (.ireturn, 1) := by decide +kernel
theorem dX9_write_26 : decode cX9_write 26 = .ok (.aload_n 0, 1) := by decide +kernel
theorem dX9_write_27 : decode cX9_write 27 = .ok (.getfield 7, 3) := by decide +kernel
theorem dX9_write_30 : decode cX9_write 30 = .ok (.aload_n 0, 1) := by decide +kernel
theorem dX9_write_31 : decode cX9_write 31 = .ok (.getfield 97, 3) := by decide +kernel
theorem dX9_write_34 : decode cX9_write 34 = .ok (.iload_n 1, 1) := by decide +kernel
theorem dX9_write_35 : decode cX9_write 35 = .ok (.i2b, 1) := by decide +kernel
theorem dX9_write_36 : decode cX9_write 36 = .ok (.bastore, 1) := by decide +kernel
theorem dX9_write_37 : decode cX9_write 37 = .ok (.aload_n 0, 1) := by decide +kernel
theorem dX9_write_38 : decode cX9_write 38 = .ok (.dup, 1) := by decide +kernel
theorem dX9_write_39 : decode cX9_write 39 = .ok (.getfield 97, 3) := by decide +kernel
theorem dX9_write_42 : decode cX9_write 42 = .ok (.iconst 1, 1) := by decide +kernel
theorem dX9_write_43 : decode cX9_write 43 = .ok (.iadd, 1) := by decide +kernel
theorem dX9_write_44 : decode cX9_write 44 = .ok (.putfield 97, 3) := by decide +kernel
theorem dX9_write_47 : decode cX9_write 47 = .ok (.aload_n 0, 1) := by decide +kernel
theorem dX9_write_48 : decode cX9_write 48 = .ok (.getfield 97, 3) := by decide +kernel
theorem dX9_write_51 : decode cX9_write 51 = .ok (.ireturn, 1) := by decide +kernel
theorem dX9_wipe_0 : decode cX9_wipe 0 = .ok (.aload_n 0, 1) := by decide +kernel
theorem dX9_wipe_1 : decode cX9_wipe 1 = .ok (.getfield 97, 3) := by decide +kernel
theorem dX9_wipe_4 : decode cX9_wipe 4 = .ok (.istore_n 1, 1) := by decide +kernel
theorem dX9_wipe_5 : decode cX9_wipe 5 = .ok (.aload_n 0, 1) := by decide +kernel
theorem dX9_wipe_6 : decode cX9_wipe 6 = .ok (.iconst 0, 1) := by decide +kernel
theorem dX9_wipe_7 : decode cX9_wipe 7 = .ok (.putfield 97, 3) := by decide +kernel
theorem dX9_wipe_10 : decode cX9_wipe 10 = .ok (.iload_n 1, 1) := by decide +kernel
theorem dX9_wipe_11 : decode cX9_wipe 11 = .ok (.ireturn, 1) := by decide +kernel
theorem dX9_here_0 : decode cX9_here 0 = .ok (.aload_n 0, 1) := by decide +kernel
theorem dX9_here_1 : decode cX9_here 1 = .ok (.getfield 101, 3) := by decide +kernel
theorem dX9_here_4 : decode cX9_here 4 = .ok (.aload_n 0, 1) := by decide +kernel
theorem dX9_here_5 : decode cX9_here 5 = .ok (.getfield 97, 3) := by decide +kernel
theorem dX9_here_8 : decode cX9_here 8 = .ok (.if_icmp .ge 15, 3) := by decide +kernel
theorem dX9_here_11 : decode cX9_here 11 = .ok (.aload_n 0, 1) := by decide +kernel
theorem dX9_here_12 : decode cX9_here 12 = .ok (.getfield 7, 3) := by decide +kernel
theorem dX9_here_15 : decode cX9_here 15 = .ok (.aload_n 0, 1) := by decide +kernel
theorem dX9_here_16 : decode cX9_here 16 = .ok (.getfield 101, 3) := by decide +kernel
theorem dX9_here_19 : decode cX9_here 19 = .ok (.baload, 1) := by decide +kernel
theorem dX9_here_20 : decode cX9_here 20 = .ok (.goto 4, 3) := by decide +kernel
theorem dX9_here_23 : decode cX9_here 23 = .ok (.iconst (-1), 1) := by decide +kernel
theorem dX9_here_24 : decode cX9_here 24 = .ok (.ireturn, 1) := by decide +kernel
theorem dX9_number_0 : decode cX9_number 0 = .ok (.iconst 0, 1) := by decide +kernel
theorem dX9_number_1 : decode cX9_number 1 = .ok (.istore 4, 2) := by decide +kernel
theorem dX9_number_3 : decode cX9_number 3 = .ok (.iconst 0, 1) := by decide +kernel
theorem dX9_number_4 : decode cX9_number 4 = .ok (.istore 5, 2) := by decide +kernel
theorem dX9_number_6 : decode cX9_number 6 = .ok (.iload 5, 2) := by decide +kernel
theorem dX9_number_8 : decode cX9_number 8 = .ok (.iconst 2, 1) := by decide +kernel
theorem dX9_number_9 : decode cX9_number 9 = .ok (.if_icmp .ge 48, 3) := by decide +kernel
theorem dX9_number_12 : decode cX9_number 12 = .ok (.aload_n 0, 1) := by decide +kernel
theorem dX9_number_13 : decode cX9_number 13 = .ok (.invokevirtual 104, 3) := by decide +kernel
theorem dX9_number_16 : decode cX9_number 16 = .ok (.bipush 48, 2) := by decide +kernel
theorem dX9_number_18 : decode cX9_number 18 = .ok (.bipush 57, 2) := by decide +kernel
theorem dX9_number_20 : decode cX9_number 20 = .ok (.invokestatic 93, 3) := by decide +kernel
theorem dX9_number_23 : decode cX9_number 23 = .ok (.ifCond .eq 34, 3) := by decide +kernel
theorem dX9_number_26 : decode cX9_number 26 = .ok (.bipush 10, 2) := by decide +kernel
theorem dX9_number_28 : decode cX9_number 28 = .ok (.iload 4, 2) := by decide +kernel
theorem dX9_number_30 : decode cX9_number 30 = .ok (.imul, 1) := by decide +kernel
theorem dX9_number_31 : decode cX9_number 31 = .ok (.aload_n 0, 1) := by decide +kernel
theorem dX9_number_32 : decode cX9_number 32 = .ok (.invokevirtual 104, 3) := by decide +kernel
theorem dX9_number_35 : decode cX9_number 35 = .ok (.iadd, 1) := by decide +kernel
theorem dX9_number_36 : decode cX9_number 36 = .ok (.bipush 48, 2) := by decide +kernel
theorem dX9_number_38 : decode cX9_number 38 = .ok (.isub, 1) := by decide +kernel
theorem dX9_number_39 : decode cX9_number 39 = .ok (.istore 4, 2) := by decide +kernel
theorem dX9_number_41 : decode cX9_number 41 = .ok (.aload_n 0, 1) := by decide +kernel
theorem dX9_number_42 : decode cX9_number 42 = .ok (.dup, 1) := by decide +kernel
theorem dX9_number_43 : decode cX9_number 43 = .ok (.getfield 101, 3) := by decide +kernel
theorem dX9_number_46 : decode cX9_number 46 = .ok (.iconst 1, 1) := by decide +kernel
theorem dX9_number_47 : decode cX9_number 47 = .ok (.iadd, 1) := by decide +kernel
theorem dX9_number_48 : decode cX9_number 48 = .ok (.putfield 101, 3) := by decide +kernel
theorem dX9_number_51 : decode cX9_number 51 = .ok (.iinc 5 1, 3) := by decide +kernel
theorem dX9_number_54 : decode cX9_number 54 = .ok (.goto (-48), 3) := by decide +kernel
theorem dX9_number_57 : decode cX9_number 57 = .ok (.aload_n 0, 1) := by decide +kernel
theorem dX9_number_58 : decode cX9_number 58 = .ok (.aload_n 0, 1) := by decide +kernel
theorem dX9_number_59 : decode cX9_number 59 = .ok (.getfield 108, 3) := by decide +kernel
theorem dX9_number_62 : decode cX9_number 62 = .ok (.ifCond .eq 30, 3) := by decide +kernel
theorem dX9_number_65 : decode cX9_number 65 = .ok (.iload 5, 2) := by decide +kernel
theorem dX9_number_67 : decode cX9_number 67 = .ok (.ifCond .le 25, 3) := by decide +kernel
theorem dX9_number_70 : decode cX9_number 70 = .ok (.iload 4, 2) := by decide +kernel
theorem dX9_number_72 : decode cX9_number 72 = .ok (.iload_n 1, 1) := by decide +kernel
theorem dX9_number_73 : decode cX9_number 73 = .ok (.iload_n 2, 1) := by decide +kernel
theorem dX9_number_74 : decode cX9_number 74 = .ok (.invokestatic 93, 3) := by decide +kernel
theorem dX9_number_77 : decode cX9_number 77 = .ok (.ifCond .eq 15, 3) := by decide +kernel
theorem dX9_number_80 : decode cX9_number 80 = .ok (.aload_n 0, 1) := by decide +kernel
theorem dX9_number_81 : decode cX9_number 81 = .ok (.invokevirtual 104, 3) := by decide +kernel
theorem dX9_number_84 : decode cX9_number 84 = .ok (.iload_n 3, 1) := by decide +kernel
theorem dX9_number_85 : decode cX9_number 85 = .ok (.if_icmp .ne 7, 3) := by decide +kernel
theorem dX9_number_88 : decode cX9_number 88 = .ok (.iconst 1, 1) := by decide +kernel
theorem dX9_number_89 : decode cX9_number 89 = .ok (.goto 4, 3) := by decide +kernel
theorem dX9_number_92 : decode cX9_number 92 = .ok (.iconst 0, 1) := by decide +kernel
theorem dX9_number_93 : decode cX9_number 93 = .ok (.putfield 108, 3) := by decide +kernel
theorem dX9_number_96 : decode cX9_number 96 = .ok (.aload_n 0, 1) := by decide +kernel
theorem dX9_number_97 : decode cX9_number 97 = .ok (.dup, 1) := by decide +kernel
theorem dX9_number_98 : decode cX9_number 98 = .ok (.getfield 101, 3) := by decide +kernel
theorem dX9_number_101 : decode cX9_number 101 = .ok (.iconst 1, 1) := by decide +kernel
theorem dX9_number_102 : decode cX9_number 102 = .ok (.iadd, 1) := by decide +kernel
theorem dX9_number_103 : decode cX9_number 103 = .ok (.putfield 101, 3) := by decide +kernel
theorem dX9_number_106 : decode cX9_number 106 = .ok (.iload 4, 2) := by decide +kernel
theorem dX9_number_108 : decode cX9_number 108 = .ok (.ireturn, 1) := by decide +kernel
theorem dX9_told_0 : decode cX9_told 0 = .ok (.aload_n 0, 1) := by decide +kernel
theorem dX9_told_1 : decode cX9_told 1 = .ok (.iconst 0, 1) := by decide +kernel
theorem dX9_told_2 : decode cX9_told 2 = .ok (.aload_n 0, 1) := by decide +kernel
theorem dX9_told_3 : decode cX9_told 3 = .ok (.getfield 13, 3) := by decide +kernel
theorem dX9_told_6 : decode cX9_told 6 = .ok (.iconst 1, 1) := by decide +kernel
theorem dX9_told_7 : decode cX9_told 7 = .ok (.iaload, 1) := by decide +kernel
theorem dX9_told_8 : decode cX9_told 8 = .ok (.iconst 1, 1) := by decide +kernel
theorem dX9_told_9 : decode cX9_told 9 = .ok (.isub, 1) := by decide +kernel
theorem dX9_told_10 : decode cX9_told 10 = .ok (.iload_n 1, 1) := by decide +kernel
theorem dX9_told_11 : decode cX9_told 11 = .ok (.invokevirtual 112, 3) := by decide +kernel
theorem dX9_told_14 : decode cX9_told 14 = .ok (.ireturn, 1) := by decide +kernel
theorem dX9_readBeast_0 : decode cX9_readBeast 0 = .ok (.aload_n 0, 1) := by decide +kernel
theorem dX9_readBeast_1 : decode cX9_readBeast 1 = .ok (.aload_n 0, 1) := by decide +kernel
theorem dX9_readBeast_2 : decode cX9_readBeast 2 = .ok (.getfield 13, 3) := by decide +kernel
theorem dX9_readBeast_5 : decode cX9_readBeast 5 = .ok (.iconst 1, 1) := by decide +kernel
theorem dX9_readBeast_6 : decode cX9_readBeast 6 = .ok (.iaload, 1) := by decide +kernel
theorem dX9_readBeast_7 : decode cX9_readBeast 7 = .ok (.bipush 8, 2) := by decide +kernel
theorem dX9_readBeast_9 : decode cX9_readBeast 9 = .ok (.if_icmp .ge 7, 3) := by decide +kernel
theorem dX9_readBeast_12 : decode cX9_readBeast 12 = .ok (.iconst 1, 1) := by decide +kernel
theorem dX9_readBeast_13 : decode cX9_readBeast 13 = .ok (.goto 4, 3) := by decide +kernel
theorem dX9_readBeast_16 : decode cX9_readBeast 16 = .ok (.iconst 0, 1) := by decide +kernel
theorem dX9_readBeast_17 : decode cX9_readBeast 17 = .ok (.putfield 108, 3) := by decide +kernel
theorem dX9_readBeast_20 : decode cX9_readBeast 20 = .ok (.aload_n 0, 1) := by decide +kernel
theorem dX9_readBeast_21 : decode cX9_readBeast 21 = .ok (.iconst 1, 1) := by decide +kernel
theorem dX9_readBeast_22 : decode cX9_readBeast 22 = .ok (.bipush 9, 2) := by decide +kernel
theorem dX9_readBeast_24 : decode cX9_readBeast 24 = .ok (.bipush 44, 2) := by decide +kernel
theorem dX9_readBeast_26 : decode cX9_readBeast 26 = .ok (.invokevirtual 112, 3) := by decide +kernel
theorem dX9_readBeast_29 : decode cX9_readBeast 29 = .ok (.istore_n 1, 1) := by decide +kernel
theorem dX9_readBeast_30 : decode cX9_readBeast 30 = .ok (.aload_n 0, 1) := by decide +kernel
theorem dX9_readBeast_31 : decode cX9_readBeast 31 = .ok (.iconst 1, 1) := by decide +kernel
theorem dX9_readBeast_32 : decode cX9_readBeast 32 = .ok (.bipush 9, 2) := by decide +kernel
theorem dX9_readBeast_34 : decode cX9_readBeast 34 = .ok (.bipush 44, 2) := by decide +kernel
theorem dX9_readBeast_36 : decode cX9_readBeast 36 = .ok (.invokevirtual 112, 3) := by decide +kernel
theorem dX9_readBeast_39 : decode cX9_readBeast 39 = .ok (.istore_n 2, 1) := by decide +kernel
theorem dX9_readBeast_40 : decode cX9_readBeast 40 = .ok (.aload_n 0, 1) := by decide +kernel
theorem dX9_readBeast_41 : decode cX9_readBeast 41 = .ok (.iconst 0, 1) := by decide +kernel
theorem dX9_readBeast_42 : decode cX9_readBeast 42 = .ok (.iconst 3, 1) := by decide +kernel
theorem dX9_readBeast_43 : decode cX9_readBeast 43 = .ok (.bipush 44, 2) := by decide +kernel
theorem dX9_readBeast_45 : decode cX9_readBeast 45 = .ok (.invokevirtual 112, 3) := by decide +kernel
theorem dX9_readBeast_48 : decode cX9_readBeast 48 = .ok (.istore_n 3, 1) := by decide +kernel
theorem dX9_readBeast_49 : decode cX9_readBeast 49 = .ok (.aload_n 0, 1) := by decide +kernel
theorem dX9_readBeast_50 : decode cX9_readBeast 50 = .ok (.iconst 0, 1) := by decide +kernel
theorem dX9_readBeast_51 : decode cX9_readBeast 51 = .ok (.bipush 30, 2) := by decide +kernel
theorem dX9_readBeast_53 : decode cX9_readBeast 53 = .ok (.bipush 59, 2) := by decide +kernel
theorem dX9_readBeast_55 : decode cX9_readBeast 55 = .ok (.invokevirtual 112, 3) := by decide +kernel
theorem dX9_readBeast_58 : decode cX9_readBeast 58 = .ok (.istore 4, 2) := by decide +kernel
theorem dX9_readBeast_60 : decode cX9_readBeast 60 = .ok (.aload_n 0, 1) := by decide +kernel
theorem dX9_readBeast_61 : decode cX9_readBeast 61 = .ok (.getfield 108, 3) := by decide +kernel
theorem dX9_readBeast_64 : decode cX9_readBeast 64 = .ok (.ifCond .eq 68, 3) := by decide +kernel
theorem dX9_readBeast_67 : decode cX9_readBeast 67 = .ok (.bipush 8, 2) := by decide +kernel
theorem dX9_readBeast_69 : decode cX9_readBeast 69 = .ok (.aload_n 0, 1) := by decide +kernel
theorem dX9_readBeast_70 : decode cX9_readBeast 70 = .ok (.getfield 13, 3) := by decide +kernel
theorem dX9_readBeast_73 : decode cX9_readBeast 73 = .ok (.iconst 1, 1) := by decide +kernel
theorem dX9_readBeast_74 : decode cX9_readBeast 74 = .ok (.iaload, 1) := by decide +kernel
theorem dX9_readBeast_75 : decode cX9_readBeast 75 = .ok (.iadd, 1) := by decide +kernel
theorem dX9_readBeast_76 : decode cX9_readBeast 76 = .ok (.istore 5, 2) := by decide +kernel
theorem dX9_readBeast_78 : decode cX9_readBeast 78 = .ok (.aload_n 0, 1) := by decide +kernel
theorem dX9_readBeast_79 : decode cX9_readBeast 79 = .ok (.iload 5, 2) := by decide +kernel
theorem dX9_readBeast_81 : decode cX9_readBeast 81 = .ok (.iload_n 1, 1) := by decide +kernel
theorem dX9_readBeast_82 : decode cX9_readBeast 82 = .ok (.iload_n 2, 1) := by decide +kernel
theorem dX9_readBeast_83 : decode cX9_readBeast 83 = .ok (.iload_n 3, 1) := by decide +kernel
theorem dX9_readBeast_84 : decode cX9_readBeast 84 = .ok (.iload 4, 2) := by decide +kernel
theorem dX9_readBeast_86 : decode cX9_readBeast 86 = .ok (.invokevirtual 86, 3) := by decide +kernel
theorem dX9_readBeast_89 : decode cX9_readBeast 89 = .ok (.aload_n 0, 1) := by decide +kernel
theorem dX9_readBeast_90 : decode cX9_readBeast 90 = .ok (.getfield 41, 3) := by decide +kernel
theorem dX9_readBeast_93 : decode cX9_readBeast 93 = .ok (.iload 5, 2) := by decide +kernel
theorem dX9_readBeast_95 : decode cX9_readBeast 95 = .ok (.bipush (-4), 2) := by decide +kernel
theorem dX9_readBeast_97 : decode cX9_readBeast 97 = .ok (.iastore, 1) := by decide +kernel
theorem dX9_readBeast_98 : decode cX9_readBeast 98 = .ok (.aload_n 0, 1) := by decide +kernel
theorem dX9_readBeast_99 : decode cX9_readBeast 99 = .ok (.getfield 50, 3) := by decide +kernel
theorem dX9_readBeast_102 : decode cX9_readBeast 102 = .ok (.iload 5, 2) := by decide +kernel
theorem dX9_readBeast_104 : decode cX9_readBeast 104 = .ok (.iconst 0, 1) := by decide +kernel
theorem dX9_readBeast_105 : decode cX9_readBeast 105 = .ok (.iastore, 1) := by decide +kernel
theorem dX9_readBeast_106 : decode cX9_readBeast 106 = .ok (.aload_n 0, 1) := by decide +kernel
theorem dX9_readBeast_107 : decode cX9_readBeast 107 = .ok (.getfield 56, 3) := by decide +kernel
theorem dX9_readBeast_110 : decode cX9_readBeast 110 = .ok (.iload 5, 2) := by decide +kernel
theorem dX9_readBeast_112 : decode cX9_readBeast 112 = .ok (.iconst 0, 1) := by decide +kernel
theorem dX9_readBeast_113 : decode cX9_readBeast 113 = .ok (.iastore, 1) := by decide +kernel
theorem dX9_readBeast_114 : decode cX9_readBeast 114 = .ok (.aload_n 0, 1) := by decide +kernel
theorem dX9_readBeast_115 : decode cX9_readBeast 115 = .ok (.getfield 59, 3) := by decide +kernel
theorem dX9_readBeast_118 : decode cX9_readBeast 118 = .ok (.iload 5, 2) := by decide +kernel
theorem dX9_readBeast_120 : decode cX9_readBeast 120 = .ok (.iconst 0, 1) := by decide +kernel
theorem dX9_readBeast_121 : decode cX9_readBeast 121 = .ok (.iastore, 1) := by decide +kernel
theorem dX9_readBeast_122 : decode cX9_readBeast 122 = .ok (.aload_n 0, 1) := by decide +kernel
theorem dX9_readBeast_123 : decode cX9_readBeast 123 = .ok (.getfield 13, 3) := by decide +kernel
theorem dX9_readBeast_126 : decode cX9_readBeast 126 = .ok (.iconst 1, 1) := by decide +kernel
theorem dX9_readBeast_127 : decode cX9_readBeast 127 = .ok (.dup2, 1) := by decide +kernel
theorem dX9_readBeast_128 : decode cX9_readBeast 128 = .ok (.iaload, 1) := by decide +kernel
theorem dX9_readBeast_129 : decode cX9_readBeast 129 = .ok (.iconst 1, 1) := by decide +kernel
theorem dX9_readBeast_130 : decode cX9_readBeast 130 = .ok (.iadd, 1) := by decide +kernel
theorem dX9_readBeast_131 : decode cX9_readBeast 131 = .ok (.iastore, 1) := by decide +kernel
theorem dX9_readBeast_132 : decode cX9_readBeast 132 = .ok (.return_, 1) := by decide +kernel
theorem dX9_readRaft_0 : decode cX9_readRaft 0 = .ok (.aload_n 0, 1) := by decide +kernel
theorem dX9_readRaft_1 : decode cX9_readRaft 1 = .ok (.aload_n 0, 1) := by decide +kernel
theorem dX9_readRaft_2 : decode cX9_readRaft 2 = .ok (.getfield 44, 3) := by decide +kernel
theorem dX9_readRaft_5 : decode cX9_readRaft 5 = .ok (.iconst 1, 1) := by decide +kernel
theorem dX9_readRaft_6 : decode cX9_readRaft 6 = .ok (.iaload, 1) := by decide +kernel
theorem dX9_readRaft_7 : decode cX9_readRaft 7 = .ok (.iconst 2, 1) := by decide +kernel
theorem dX9_readRaft_8 : decode cX9_readRaft 8 = .ok (.if_icmp .ge 7, 3) := by decide +kernel
theorem dX9_readRaft_11 : decode cX9_readRaft 11 = .ok (.iconst 1, 1) := by decide +kernel
theorem dX9_readRaft_12 : decode cX9_readRaft 12 = .ok (.goto 4, 3) := by decide +kernel
theorem dX9_readRaft_15 : decode cX9_readRaft 15 = .ok (.iconst 0, 1) := by decide +kernel
theorem dX9_readRaft_16 : decode cX9_readRaft 16 = .ok (.putfield 108, 3) := by decide +kernel
theorem dX9_readRaft_19 : decode cX9_readRaft 19 = .ok (.aload_n 0, 1) := by decide +kernel
theorem dX9_readRaft_20 : decode cX9_readRaft 20 = .ok (.bipush 44, 2) := by decide +kernel
theorem dX9_readRaft_22 : decode cX9_readRaft 22 = .ok (.invokevirtual 116, 3) := by decide +kernel
theorem dX9_readRaft_25 : decode cX9_readRaft 25 = .ok (.istore_n 1, 1) := by decide +kernel
theorem dX9_readRaft_26 : decode cX9_readRaft 26 = .ok (.aload_n 0, 1) := by decide +kernel
theorem dX9_readRaft_27 : decode cX9_readRaft 27 = .ok (.bipush 44, 2) := by decide +kernel
theorem dX9_readRaft_29 : decode cX9_readRaft 29 = .ok (.invokevirtual 116, 3) := by decide +kernel
theorem dX9_readRaft_32 : decode cX9_readRaft 32 = .ok (.istore_n 2, 1) := by decide +kernel
theorem dX9_readRaft_33 : decode cX9_readRaft 33 = .ok (.aload_n 0, 1) := by decide +kernel
theorem dX9_readRaft_34 : decode cX9_readRaft 34 = .ok (.bipush 59, 2) := by decide +kernel
theorem dX9_readRaft_36 : decode cX9_readRaft 36 = .ok (.invokevirtual 116, 3) := by decide +kernel
theorem dX9_readRaft_39 : decode cX9_readRaft 39 = .ok (.istore_n 3, 1) := by decide +kernel
theorem dX9_readRaft_40 : decode cX9_readRaft 40 = .ok (.aload_n 0, 1) := by decide +kernel
theorem dX9_readRaft_41 : decode cX9_readRaft 41 = .ok (.aload_n 0, 1) := by decide +kernel
theorem dX9_readRaft_42 : decode cX9_readRaft 42 = .ok (.getfield 108, 3) := by decide +kernel
theorem dX9_readRaft_45 : decode cX9_readRaft 45 = .ok (.ifCond .eq 22, 3) := by decide +kernel
theorem dX9_readRaft_48 : decode cX9_readRaft 48 = .ok (.iload_n 1, 1) := by decide +kernel
theorem dX9_readRaft_49 : decode cX9_readRaft 49 = .ok (.iload_n 2, 1) := by decide +kernel
theorem dX9_readRaft_50 : decode cX9_readRaft 50 = .ok (.if_icmp .eq 17, 3) := by decide +kernel
theorem dX9_readRaft_53 : decode cX9_readRaft 53 = .ok (.iload_n 1, 1) := by decide +kernel
theorem dX9_readRaft_54 : decode cX9_readRaft 54 = .ok (.iload_n 3, 1) := by decide +kernel
theorem dX9_readRaft_55 : decode cX9_readRaft 55 = .ok (.if_icmp .eq 12, 3) := by decide +kernel
theorem dX9_readRaft_58 : decode cX9_readRaft 58 = .ok (.iload_n 2, 1) := by decide +kernel
theorem dX9_readRaft_59 : decode cX9_readRaft 59 = .ok (.iload_n 3, 1) := by decide +kernel
theorem dX9_readRaft_60 : decode cX9_readRaft 60 = .ok (.if_icmp .eq 7, 3) := by decide +kernel
theorem dX9_readRaft_63 : decode cX9_readRaft 63 = .ok (.iconst 1, 1) := by decide +kernel
theorem dX9_readRaft_64 : decode cX9_readRaft 64 = .ok (.goto 4, 3) := by decide +kernel
theorem dX9_readRaft_67 : decode cX9_readRaft 67 = .ok (.iconst 0, 1) := by decide +kernel
theorem dX9_readRaft_68 : decode cX9_readRaft 68 = .ok (.putfield 108, 3) := by decide +kernel
theorem dX9_readRaft_71 : decode cX9_readRaft 71 = .ok (.aload_n 0, 1) := by decide +kernel
theorem dX9_readRaft_72 : decode cX9_readRaft 72 = .ok (.getfield 108, 3) := by decide +kernel
theorem dX9_readRaft_75 : decode cX9_readRaft 75 = .ok (.ifCond .eq 64, 3) := by decide +kernel
theorem dX9_readRaft_78 : decode cX9_readRaft 78 = .ok (.aload_n 0, 1) := by decide +kernel
theorem dX9_readRaft_79 : decode cX9_readRaft 79 = .ok (.getfield 47, 3) := by decide +kernel
theorem dX9_readRaft_82 : decode cX9_readRaft 82 = .ok (.bipush 6, 2) := by decide +kernel
theorem dX9_readRaft_84 : decode cX9_readRaft 84 = .ok (.iconst 3, 1) := by decide +kernel
theorem dX9_readRaft_85 : decode cX9_readRaft 85 = .ok (.aload_n 0, 1) := by decide +kernel
theorem dX9_readRaft_86 : decode cX9_readRaft 86 = .ok (.getfield 44, 3) := by decide +kernel
theorem dX9_readRaft_89 : decode cX9_readRaft 89 = .ok (.iconst 1, 1) := by decide +kernel
theorem dX9_readRaft_90 : decode cX9_readRaft 90 = .ok (.iaload, 1) := by decide +kernel
theorem dX9_readRaft_91 : decode cX9_readRaft 91 = .ok (.imul, 1) := by decide +kernel
theorem dX9_readRaft_92 : decode cX9_readRaft 92 = .ok (.iadd, 1) := by decide +kernel
theorem dX9_readRaft_93 : decode cX9_readRaft 93 = .ok (.iload_n 1, 1) := by decide +kernel
theorem dX9_readRaft_94 : decode cX9_readRaft 94 = .ok (.iastore, 1) := by decide +kernel
theorem dX9_readRaft_95 : decode cX9_readRaft 95 = .ok (.aload_n 0, 1) := by decide +kernel
theorem dX9_readRaft_96 : decode cX9_readRaft 96 = .ok (.getfield 47, 3) := by decide +kernel
theorem dX9_readRaft_99 : decode cX9_readRaft 99 = .ok (.bipush 7, 2) := by decide +kernel
theorem dX9_readRaft_101 : decode cX9_readRaft 101 = .ok (.iconst 3, 1) := by decide +kernel
theorem dX9_readRaft_102 : decode cX9_readRaft 102 = .ok (.aload_n 0, 1) := by decide +kernel
theorem dX9_readRaft_103 : decode cX9_readRaft 103 = .ok (.getfield 44, 3) := by decide +kernel
theorem dX9_readRaft_106 : decode cX9_readRaft 106 = .ok (.iconst 1, 1) := by decide +kernel
theorem dX9_readRaft_107 : decode cX9_readRaft 107 = .ok (.iaload, 1) := by decide +kernel
theorem dX9_readRaft_108 : decode cX9_readRaft 108 = .ok (.imul, 1) := by decide +kernel
theorem dX9_readRaft_109 : decode cX9_readRaft 109 = .ok (.iadd, 1) := by decide +kernel
theorem dX9_readRaft_110 : decode cX9_readRaft 110 = .ok (.iload_n 2, 1) := by decide +kernel
theorem dX9_readRaft_111 : decode cX9_readRaft 111 = .ok (.iastore, 1) := by decide +kernel
theorem dX9_readRaft_112 : decode cX9_readRaft 112 = .ok (.aload_n 0, 1) := by decide +kernel
theorem dX9_readRaft_113 : decode cX9_readRaft 113 = .ok (.getfield 47, 3) := by decide +kernel
theorem dX9_readRaft_116 : decode cX9_readRaft 116 = .ok (.bipush 8, 2) := by decide +kernel
theorem dX9_readRaft_118 : decode cX9_readRaft 118 = .ok (.iconst 3, 1) := by decide +kernel
theorem dX9_readRaft_119 : decode cX9_readRaft 119 = .ok (.aload_n 0, 1) := by decide +kernel
theorem dX9_readRaft_120 : decode cX9_readRaft 120 = .ok (.getfield 44, 3) := by decide +kernel
theorem dX9_readRaft_123 : decode cX9_readRaft 123 = .ok (.iconst 1, 1) := by decide +kernel
theorem dX9_readRaft_124 : decode cX9_readRaft 124 = .ok (.iaload, 1) := by decide +kernel
theorem dX9_readRaft_125 : decode cX9_readRaft 125 = .ok (.imul, 1) := by decide +kernel
theorem dX9_readRaft_126 : decode cX9_readRaft 126 = .ok (.iadd, 1) := by decide +kernel
theorem dX9_readRaft_127 : decode cX9_readRaft 127 = .ok (.iload_n 3, 1) := by decide +kernel
theorem dX9_readRaft_128 : decode cX9_readRaft 128 = .ok (.iastore, 1) := by decide +kernel
theorem dX9_readRaft_129 : decode cX9_readRaft 129 = .ok (.aload_n 0, 1) := by decide +kernel
theorem dX9_readRaft_130 : decode cX9_readRaft 130 = .ok (.getfield 44, 3) := by decide +kernel
theorem dX9_readRaft_133 : decode cX9_readRaft 133 = .ok (.iconst 1, 1) := by decide +kernel
theorem dX9_readRaft_134 : decode cX9_readRaft 134 = .ok (.dup2, 1) := by decide +kernel
theorem dX9_readRaft_135 : decode cX9_readRaft 135 = .ok (.iaload, 1) := by decide +kernel
theorem dX9_readRaft_136 : decode cX9_readRaft 136 = .ok (.iconst 1, 1) := by decide +kernel
theorem dX9_readRaft_137 : decode cX9_readRaft 137 = .ok (.iadd, 1) := by decide +kernel
theorem dX9_readRaft_138 : decode cX9_readRaft 138 = .ok (.iastore, 1) := by decide +kernel
theorem dX9_readRaft_139 : decode cX9_readRaft 139 = .ok (.return_, 1) := by decide +kernel
theorem dX9_readCurrent_0 : decode cX9_readCurrent 0 = .ok (.aload_n 0, 1) := by decide +kernel
theorem dX9_readCurrent_1 : decode cX9_readCurrent 1 = .ok (.aload_n 0, 1) := by decide +kernel
theorem dX9_readCurrent_2 : decode cX9_readCurrent 2 = .ok (.getfield 32, 3) := by decide +kernel
theorem dX9_readCurrent_5 : decode cX9_readCurrent 5 = .ok (.iconst 1, 1) := by decide +kernel
theorem dX9_readCurrent_6 : decode cX9_readCurrent 6 = .ok (.iaload, 1) := by decide +kernel
theorem dX9_readCurrent_7 : decode cX9_readCurrent 7 = .ok (.iconst 4, 1) := by decide +kernel
theorem dX9_readCurrent_8 : decode cX9_readCurrent 8 = .ok (.if_icmp .ge 7, 3) := by decide +kernel
theorem dX9_readCurrent_11 : decode cX9_readCurrent 11 = .ok (.iconst 1, 1) := by decide +kernel
theorem dX9_readCurrent_12 : decode cX9_readCurrent 12 = .ok (.goto 4, 3) := by decide +kernel
theorem dX9_readCurrent_15 : decode cX9_readCurrent 15 = .ok (.iconst 0, 1) := by decide +kernel
theorem dX9_readCurrent_16 : decode cX9_readCurrent 16 = .ok (.putfield 108, 3) := by decide +kernel
theorem dX9_readCurrent_19 : decode cX9_readCurrent 19 = .ok (.aload_n 0, 1) := by decide +kernel
theorem dX9_readCurrent_20 : decode cX9_readCurrent 20 = .ok (.iconst 0, 1) := by decide +kernel
theorem dX9_readCurrent_21 : decode cX9_readCurrent 21 = .ok (.bipush 99, 2) := by decide +kernel
theorem dX9_readCurrent_23 : decode cX9_readCurrent 23 = .ok (.bipush 44, 2) := by decide +kernel
theorem dX9_readCurrent_25 : decode cX9_readCurrent 25 = .ok (.invokevirtual 112, 3) := by decide +kernel
theorem dX9_readCurrent_28 : decode cX9_readCurrent 28 = .ok (.istore_n 1, 1) := by decide +kernel
theorem dX9_readCurrent_29 : decode cX9_readCurrent 29 = .ok (.aload_n 0, 1) := by decide +kernel
theorem dX9_readCurrent_30 : decode cX9_readCurrent 30 = .ok (.iconst 0, 1) := by decide +kernel
theorem dX9_readCurrent_31 : decode cX9_readCurrent 31 = .ok (.iconst 5, 1) := by decide +kernel
theorem dX9_readCurrent_32 : decode cX9_readCurrent 32 = .ok (.bipush 59, 2) := by decide +kernel
theorem dX9_readCurrent_34 : decode cX9_readCurrent 34 = .ok (.invokevirtual 112, 3) := by decide +kernel
theorem dX9_readCurrent_37 : decode cX9_readCurrent 37 = .ok (.istore_n 2, 1) := by decide +kernel
theorem dX9_readCurrent_38 : decode cX9_readCurrent 38 = .ok (.aload_n 0, 1) := by decide +kernel
theorem dX9_readCurrent_39 : decode cX9_readCurrent 39 = .ok (.getfield 108, 3) := by decide +kernel
theorem dX9_readCurrent_42 : decode cX9_readCurrent 42 = .ok (.ifCond .eq 41, 3) := by decide +kernel
theorem dX9_readCurrent_45 : decode cX9_readCurrent 45 = .ok (.aload_n 0, 1) := by decide +kernel
theorem dX9_readCurrent_46 : decode cX9_readCurrent 46 = .ok (.getfield 35, 3) := by decide +kernel
theorem dX9_readCurrent_49 : decode cX9_readCurrent 49 = .ok (.iconst 4, 1) := by decide +kernel
theorem dX9_readCurrent_50 : decode cX9_readCurrent 50 = .ok (.aload_n 0, 1) := by decide +kernel
theorem dX9_readCurrent_51 : decode cX9_readCurrent 51 = .ok (.getfield 32, 3) := by decide +kernel
theorem dX9_readCurrent_54 : decode cX9_readCurrent 54 = .ok (.iconst 1, 1) := by decide +kernel
theorem dX9_readCurrent_55 : decode cX9_readCurrent 55 = .ok (.iaload, 1) := by decide +kernel
theorem dX9_readCurrent_56 : decode cX9_readCurrent 56 = .ok (.iadd, 1) := by decide +kernel
theorem dX9_readCurrent_57 : decode cX9_readCurrent 57 = .ok (.iload_n 1, 1) := by decide +kernel
theorem dX9_readCurrent_58 : decode cX9_readCurrent 58 = .ok (.iastore, 1) := by decide +kernel
theorem dX9_readCurrent_59 : decode cX9_readCurrent 59 = .ok (.aload_n 0, 1) := by decide +kernel
theorem dX9_readCurrent_60 : decode cX9_readCurrent 60 = .ok (.getfield 38, 3) := by decide +kernel
theorem dX9_readCurrent_63 : decode cX9_readCurrent 63 = .ok (.iconst 4, 1) := by decide +kernel
theorem dX9_readCurrent_64 : decode cX9_readCurrent 64 = .ok (.aload_n 0, 1) := by decide +kernel
theorem dX9_readCurrent_65 : decode cX9_readCurrent 65 = .ok (.getfield 32, 3) := by decide +kernel
theorem dX9_readCurrent_68 : decode cX9_readCurrent 68 = .ok (.iconst 1, 1) := by decide +kernel
theorem dX9_readCurrent_69 : decode cX9_readCurrent 69 = .ok (.iaload, 1) := by decide +kernel
theorem dX9_readCurrent_70 : decode cX9_readCurrent 70 = .ok (.iadd, 1) := by decide +kernel
theorem dX9_readCurrent_71 : decode cX9_readCurrent 71 = .ok (.iload_n 2, 1) := by decide +kernel
theorem dX9_readCurrent_72 : decode cX9_readCurrent 72 = .ok (.iastore, 1) := by decide +kernel
theorem dX9_readCurrent_73 : decode cX9_readCurrent 73 = .ok (.aload_n 0, 1) := by decide +kernel
theorem dX9_readCurrent_74 : decode cX9_readCurrent 74 = .ok (.getfield 32, 3) := by decide +kernel
theorem dX9_readCurrent_77 : decode cX9_readCurrent 77 = .ok (.iconst 1, 1) := by decide +kernel
theorem dX9_readCurrent_78 : decode cX9_readCurrent 78 = .ok (.dup2, 1) := by decide +kernel
theorem dX9_readCurrent_79 : decode cX9_readCurrent 79 = .ok (.iaload, 1) := by decide +kernel
theorem dX9_readCurrent_80 : decode cX9_readCurrent 80 = .ok (.iconst 1, 1) := by decide +kernel
theorem dX9_readCurrent_81 : decode cX9_readCurrent 81 = .ok (.iadd, 1) := by decide +kernel
theorem dX9_readCurrent_82 : decode cX9_readCurrent 82 = .ok (.iastore, 1) := by decide +kernel
theorem dX9_readCurrent_83 : decode cX9_readCurrent 83 = .ok (.return_, 1) := by decide +kernel
theorem dX9_readItem_0 : decode cX9_readItem 0 = .ok (.aload_n 0, 1) := by decide +kernel
theorem dX9_readItem_1 : decode cX9_readItem 1 = .ok (.invokevirtual 104, 3) := by decide +kernel
theorem dX9_readItem_4 : decode cX9_readItem 4 = .ok (.istore_n 1, 1) := by decide +kernel
theorem dX9_readItem_5 : decode cX9_readItem 5 = .ok (.aload_n 0, 1) := by decide +kernel
theorem dX9_readItem_6 : decode cX9_readItem 6 = .ok (.dup, 1) := by decide +kernel
theorem dX9_readItem_7 : decode cX9_readItem 7 = .ok (.getfield 101, 3) := by decide +kernel
theorem dX9_readItem_10 : decode cX9_readItem 10 = .ok (.iconst 1, 1) := by decide +kernel
theorem dX9_readItem_11 : decode cX9_readItem 11 = .ok (.iadd, 1) := by decide +kernel
theorem dX9_readItem_12 : decode cX9_readItem 12 = .ok (.putfield 101, 3) := by decide +kernel
theorem dX9_readItem_15 : decode cX9_readItem 15 = .ok (.aload_n 0, 1) := by decide +kernel
theorem dX9_readItem_16 : decode cX9_readItem 16 = .ok (.iconst 1, 1) := by decide +kernel
theorem dX9_readItem_17 : decode cX9_readItem 17 = .ok (.putfield 108, 3) := by decide +kernel
theorem dX9_readItem_20 : decode cX9_readItem 20 = .ok (.iload_n 1, 1) := by decide +kernel
theorem dX9_readItem_21 : decode cX9_readItem 21 = .ok (.tableswitch 337 97 121 #[202, 115, 140, 337, 337, 337, 337, 337, 337, 337, 337, 337, 337, 337, 337, 337, 337, 147, 209, 337, 337, 263, 122, 337, 300], 115) := by decide +kernel
theorem dX9_readItem_136 : decode cX9_readItem 136 = .ok (.aload_n 0, 1) := by decide +kernel
theorem dX9_readItem_137 : decode cX9_readItem 137 = .ok (.invokevirtual 120, 3) := by decide +kernel
theorem dX9_readItem_140 : decode cX9_readItem 140 = .ok (.goto 223, 3) := by decide +kernel
theorem dX9_readItem_143 : decode cX9_readItem 143 = .ok (.aload_n 0, 1) := by decide +kernel
theorem dX9_readItem_144 : decode cX9_readItem 144 = .ok (.getfield 29, 3) := by decide +kernel
theorem dX9_readItem_147 : decode cX9_readItem 147 = .ok (.iconst 1, 1) := by decide +kernel
theorem dX9_readItem_148 : decode cX9_readItem 148 = .ok (.aload_n 0, 1) := by decide +kernel
theorem dX9_readItem_149 : decode cX9_readItem 149 = .ok (.iconst 1, 1) := by decide +kernel
theorem dX9_readItem_150 : decode cX9_readItem 150 = .ok (.bipush 99, 2) := by decide +kernel
theorem dX9_readItem_152 : decode cX9_readItem 152 = .ok (.bipush 59, 2) := by decide +kernel
theorem dX9_readItem_154 : decode cX9_readItem 154 = .ok (.invokevirtual 112, 3) := by decide +kernel
theorem dX9_readItem_157 : decode cX9_readItem 157 = .ok (.iastore, 1) := by decide +kernel
theorem dX9_readItem_158 : decode cX9_readItem 158 = .ok (.goto 205, 3) := by decide +kernel
theorem dX9_readItem_161 : decode cX9_readItem 161 = .ok (.aload_n 0, 1) := by decide +kernel
theorem dX9_readItem_162 : decode cX9_readItem 162 = .ok (.invokevirtual 123, 3) := by decide +kernel
theorem dX9_readItem_165 : decode cX9_readItem 165 = .ok (.goto 198, 3) := by decide +kernel
theorem dX9_readItem_168 : decode cX9_readItem 168 = .ok (.aload_n 0, 1) := by decide +kernel
theorem dX9_readItem_169 : decode cX9_readItem 169 = .ok (.bipush 44, 2) := by decide +kernel
theorem dX9_readItem_171 : decode cX9_readItem 171 = .ok (.invokevirtual 116, 3) := by decide +kernel
theorem dX9_readItem_174 : decode cX9_readItem 174 = .ok (.istore_n 2, 1) := by decide +kernel
theorem dX9_readItem_175 : decode cX9_readItem 175 = .ok (.aload_n 0, 1) := by decide +kernel
theorem dX9_readItem_176 : decode cX9_readItem 176 = .ok (.bipush 59, 2) := by decide +kernel
theorem dX9_readItem_178 : decode cX9_readItem 178 = .ok (.invokevirtual 116, 3) := by decide +kernel
theorem dX9_readItem_181 : decode cX9_readItem 181 = .ok (.istore_n 3, 1) := by decide +kernel
theorem dX9_readItem_182 : decode cX9_readItem 182 = .ok (.aload_n 0, 1) := by decide +kernel
theorem dX9_readItem_183 : decode cX9_readItem 183 = .ok (.aload_n 0, 1) := by decide +kernel
theorem dX9_readItem_184 : decode cX9_readItem 184 = .ok (.getfield 108, 3) := by decide +kernel
theorem dX9_readItem_187 : decode cX9_readItem 187 = .ok (.ifCond .eq 12, 3) := by decide +kernel
theorem dX9_readItem_190 : decode cX9_readItem 190 = .ok (.iload_n 2, 1) := by decide +kernel
theorem dX9_readItem_191 : decode cX9_readItem 191 = .ok (.iload_n 3, 1) := by decide +kernel
theorem dX9_readItem_192 : decode cX9_readItem 192 = .ok (.if_icmp .eq 7, 3) := by decide +kernel
theorem dX9_readItem_195 : decode cX9_readItem 195 = .ok (.iconst 1, 1) := by decide +kernel
theorem dX9_readItem_196 : decode cX9_readItem 196 = .ok (.goto 4, 3) := by decide +kernel
theorem dX9_readItem_199 : decode cX9_readItem 199 = .ok (.iconst 0, 1) := by decide +kernel
theorem dX9_readItem_200 : decode cX9_readItem 200 = .ok (.putfield 108, 3) := by decide +kernel
theorem dX9_readItem_203 : decode cX9_readItem 203 = .ok (.aload_n 0, 1) := by decide +kernel
theorem dX9_readItem_204 : decode cX9_readItem 204 = .ok (.getfield 108, 3) := by decide +kernel
theorem dX9_readItem_207 : decode cX9_readItem 207 = .ok (.ifCond .eq 156, 3) := by decide +kernel
theorem dX9_readItem_210 : decode cX9_readItem 210 = .ok (.aload_n 0, 1) := by decide +kernel
theorem dX9_readItem_211 : decode cX9_readItem 211 = .ok (.getfield 41, 3) := by decide +kernel
theorem dX9_readItem_214 : decode cX9_readItem 214 = .ok (.bipush 8, 2) := by decide +kernel
theorem dX9_readItem_216 : decode cX9_readItem 216 = .ok (.iload_n 2, 1) := by decide +kernel
theorem dX9_readItem_217 : decode cX9_readItem 217 = .ok (.iadd, 1) := by decide +kernel
theorem dX9_readItem_218 : decode cX9_readItem 218 = .ok (.iload_n 3, 1) := by decide +kernel
theorem dX9_readItem_219 : decode cX9_readItem 219 = .ok (.iastore, 1) := by decide +kernel
theorem dX9_readItem_220 : decode cX9_readItem 220 = .ok (.goto 143, 3) := by decide +kernel
theorem dX9_readItem_223 : decode cX9_readItem 223 = .ok (.aload_n 0, 1) := by decide +kernel
theorem dX9_readItem_224 : decode cX9_readItem 224 = .ok (.invokevirtual 126, 3) := by decide +kernel
theorem dX9_readItem_227 : decode cX9_readItem 227 = .ok (.goto 136, 3) := by decide +kernel
theorem dX9_readItem_230 : decode cX9_readItem 230 = .ok (.aload_n 0, 1) := by decide +kernel
theorem dX9_readItem_231 : decode cX9_readItem 231 = .ok (.bipush 59, 2) := by decide +kernel
theorem dX9_readItem_233 : decode cX9_readItem 233 = .ok (.invokevirtual 116, 3) := by decide +kernel
theorem dX9_readItem_236 : decode cX9_readItem 236 = .ok (.istore_n 2, 1) := by decide +kernel
theorem dX9_readItem_237 : decode cX9_readItem 237 = .ok (.aload_n 0, 1) := by decide +kernel
theorem dX9_readItem_238 : decode cX9_readItem 238 = .ok (.getfield 108, 3) := by decide +kernel
theorem dX9_readItem_241 : decode cX9_readItem 241 = .ok (.ifCond .eq 122, 3) := by decide +kernel
theorem dX9_readItem_244 : decode cX9_readItem 244 = .ok (.aload_n 0, 1) := by decide +kernel
theorem dX9_readItem_245 : decode cX9_readItem 245 = .ok (.getfield 50, 3) := by decide +kernel
theorem dX9_readItem_248 : decode cX9_readItem 248 = .ok (.bipush 8, 2) := by decide +kernel
theorem dX9_readItem_250 : decode cX9_readItem 250 = .ok (.iload_n 2, 1) := by decide +kernel
theorem dX9_readItem_251 : decode cX9_readItem 251 = .ok (.iadd, 1) := by decide +kernel
theorem dX9_readItem_252 : decode cX9_readItem 252 = .ok (.iaload, 1) := by decide +kernel
theorem dX9_readItem_253 : decode cX9_readItem 253 = .ok (.ifCond .ne 110, 3) := by decide +kernel
theorem dX9_readItem_256 : decode cX9_readItem 256 = .ok (.aload_n 0, 1) := by decide +kernel
theorem dX9_readItem_257 : decode cX9_readItem 257 = .ok (.getfield 53, 3) := by decide +kernel
theorem dX9_readItem_260 : decode cX9_readItem 260 = .ok (.iconst 1, 1) := by decide +kernel
theorem dX9_readItem_261 : decode cX9_readItem 261 = .ok (.dup2, 1) := by decide +kernel
theorem dX9_readItem_262 : decode cX9_readItem 262 = .ok (.iaload, 1) := by decide +kernel
theorem dX9_readItem_263 : decode cX9_readItem 263 = .ok (.iconst 1, 1) := by decide +kernel
theorem dX9_readItem_264 : decode cX9_readItem 264 = .ok (.iadd, 1) := by decide +kernel
theorem dX9_readItem_265 : decode cX9_readItem 265 = .ok (.iastore, 1) := by decide +kernel
theorem dX9_readItem_266 : decode cX9_readItem 266 = .ok (.aload_n 0, 1) := by decide +kernel
theorem dX9_readItem_267 : decode cX9_readItem 267 = .ok (.getfield 50, 3) := by decide +kernel
theorem dX9_readItem_270 : decode cX9_readItem 270 = .ok (.bipush 8, 2) := by decide +kernel
theorem dX9_readItem_272 : decode cX9_readItem 272 = .ok (.iload_n 2, 1) := by decide +kernel
theorem dX9_readItem_273 : decode cX9_readItem 273 = .ok (.iadd, 1) := by decide +kernel
theorem dX9_readItem_274 : decode cX9_readItem 274 = .ok (.aload_n 0, 1) := by decide +kernel
theorem dX9_readItem_275 : decode cX9_readItem 275 = .ok (.getfield 53, 3) := by decide +kernel
theorem dX9_readItem_278 : decode cX9_readItem 278 = .ok (.iconst 1, 1) := by decide +kernel
theorem dX9_readItem_279 : decode cX9_readItem 279 = .ok (.iaload, 1) := by decide +kernel
theorem dX9_readItem_280 : decode cX9_readItem 280 = .ok (.iastore, 1) := by decide +kernel
theorem dX9_readItem_281 : decode cX9_readItem 281 = .ok (.goto 82, 3) := by decide +kernel
theorem dX9_readItem_284 : decode cX9_readItem 284 = .ok (.aload_n 0, 1) := by decide +kernel
theorem dX9_readItem_285 : decode cX9_readItem 285 = .ok (.bipush 44, 2) := by decide +kernel
theorem dX9_readItem_287 : decode cX9_readItem 287 = .ok (.invokevirtual 116, 3) := by decide +kernel
theorem dX9_readItem_290 : decode cX9_readItem 290 = .ok (.istore_n 2, 1) := by decide +kernel
theorem dX9_readItem_291 : decode cX9_readItem 291 = .ok (.aload_n 0, 1) := by decide +kernel
theorem dX9_readItem_292 : decode cX9_readItem 292 = .ok (.iconst 1, 1) := by decide +kernel
theorem dX9_readItem_293 : decode cX9_readItem 293 = .ok (.bipush 8, 2) := by decide +kernel
theorem dX9_readItem_295 : decode cX9_readItem 295 = .ok (.bipush 59, 2) := by decide +kernel
theorem dX9_readItem_297 : decode cX9_readItem 297 = .ok (.invokevirtual 112, 3) := by decide +kernel
theorem dX9_readItem_300 : decode cX9_readItem 300 = .ok (.istore_n 3, 1) := by decide +kernel
theorem dX9_readItem_301 : decode cX9_readItem 301 = .ok (.aload_n 0, 1) := by decide +kernel
theorem dX9_readItem_302 : decode cX9_readItem 302 = .ok (.getfield 108, 3) := by decide +kernel
theorem dX9_readItem_305 : decode cX9_readItem 305 = .ok (.ifCond .eq 58, 3) := by decide +kernel
theorem dX9_readItem_308 : decode cX9_readItem 308 = .ok (.aload_n 0, 1) := by decide +kernel
theorem dX9_readItem_309 : decode cX9_readItem 309 = .ok (.getfield 56, 3) := by decide +kernel
theorem dX9_readItem_312 : decode cX9_readItem 312 = .ok (.bipush 8, 2) := by decide +kernel
theorem dX9_readItem_314 : decode cX9_readItem 314 = .ok (.iload_n 2, 1) := by decide +kernel
theorem dX9_readItem_315 : decode cX9_readItem 315 = .ok (.iadd, 1) := by decide +kernel
theorem dX9_readItem_316 : decode cX9_readItem 316 = .ok (.iload_n 3, 1) := by decide +kernel
theorem dX9_readItem_317 : decode cX9_readItem 317 = .ok (.iastore, 1) := by decide +kernel
theorem dX9_readItem_318 : decode cX9_readItem 318 = .ok (.goto 45, 3) := by decide +kernel
theorem dX9_readItem_321 : decode cX9_readItem 321 = .ok (.aload_n 0, 1) := by decide +kernel
theorem dX9_readItem_322 : decode cX9_readItem 322 = .ok (.bipush 44, 2) := by decide +kernel
theorem dX9_readItem_324 : decode cX9_readItem 324 = .ok (.invokevirtual 116, 3) := by decide +kernel
theorem dX9_readItem_327 : decode cX9_readItem 327 = .ok (.istore_n 2, 1) := by decide +kernel
theorem dX9_readItem_328 : decode cX9_readItem 328 = .ok (.aload_n 0, 1) := by decide +kernel
theorem dX9_readItem_329 : decode cX9_readItem 329 = .ok (.iconst 0, 1) := by decide +kernel
theorem dX9_readItem_330 : decode cX9_readItem 330 = .ok (.bipush 99, 2) := by decide +kernel
theorem dX9_readItem_332 : decode cX9_readItem 332 = .ok (.bipush 59, 2) := by decide +kernel
theorem dX9_readItem_334 : decode cX9_readItem 334 = .ok (.invokevirtual 112, 3) := by decide +kernel
theorem dX9_readItem_337 : decode cX9_readItem 337 = .ok (.istore_n 3, 1) := by decide +kernel
theorem dX9_readItem_338 : decode cX9_readItem 338 = .ok (.aload_n 0, 1) := by decide +kernel
theorem dX9_readItem_339 : decode cX9_readItem 339 = .ok (.getfield 108, 3) := by decide +kernel
theorem dX9_readItem_342 : decode cX9_readItem 342 = .ok (.ifCond .eq 21, 3) := by decide +kernel
theorem dX9_readItem_345 : decode cX9_readItem 345 = .ok (.aload_n 0, 1) := by decide +kernel
theorem dX9_readItem_346 : decode cX9_readItem 346 = .ok (.getfield 59, 3) := by decide +kernel
theorem dX9_readItem_349 : decode cX9_readItem 349 = .ok (.bipush 8, 2) := by decide +kernel
theorem dX9_readItem_351 : decode cX9_readItem 351 = .ok (.iload_n 2, 1) := by decide +kernel
theorem dX9_readItem_352 : decode cX9_readItem 352 = .ok (.iadd, 1) := by decide +kernel
theorem dX9_readItem_353 : decode cX9_readItem 353 = .ok (.iload_n 3, 1) := by decide +kernel
theorem dX9_readItem_354 : decode cX9_readItem 354 = .ok (.iastore, 1) := by decide +kernel
theorem dX9_readItem_355 : decode cX9_readItem 355 = .ok (.goto 8, 3) := by decide +kernel
theorem dX9_readItem_358 : decode cX9_readItem 358 = .ok (.aload_n 0, 1) := by decide +kernel
theorem dX9_readItem_359 : decode cX9_readItem 359 = .ok (.iconst 0, 1) := by decide +kernel
theorem dX9_readItem_360 : decode cX9_readItem 360 = .ok (.putfield 108, 3) := by decide +kernel
theorem dX9_readItem_363 : decode cX9_readItem 363 = .ok (.return_, 1) := by decide +kernel
theorem dX9_fault_0 : decode cX9_fault 0 = .ok (.aload_n 0, 1) := by decide +kernel
theorem dX9_fault_1 : decode cX9_fault 1 = .ok (.iconst 0, 1) := by decide +kernel
theorem dX9_fault_2 : decode cX9_fault 2 = .ok (.putfield 101, 3) := by decide +kernel
theorem dX9_fault_5 : decode cX9_fault 5 = .ok (.aload_n 0, 1) := by decide +kernel
theorem dX9_fault_6 : decode cX9_fault 6 = .ok (.getfield 13, 3) := by decide +kernel
theorem dX9_fault_9 : decode cX9_fault 9 = .ok (.iconst 1, 1) := by decide +kernel
theorem dX9_fault_10 : decode cX9_fault 10 = .ok (.iconst 0, 1) := by decide +kernel
theorem dX9_fault_11 : decode cX9_fault 11 = .ok (.iastore, 1) := by decide +kernel
theorem dX9_fault_12 : decode cX9_fault 12 = .ok (.aload_n 0, 1) := by decide +kernel
theorem dX9_fault_13 : decode cX9_fault 13 = .ok (.getfield 29, 3) := by decide +kernel
theorem dX9_fault_16 : decode cX9_fault 16 = .ok (.iconst 1, 1) := by decide +kernel
theorem dX9_fault_17 : decode cX9_fault 17 = .ok (.bipush 30, 2) := by decide +kernel
theorem dX9_fault_19 : decode cX9_fault 19 = .ok (.iastore, 1) := by decide +kernel
theorem dX9_fault_20 : decode cX9_fault 20 = .ok (.aload_n 0, 1) := by decide +kernel
theorem dX9_fault_21 : decode cX9_fault 21 = .ok (.getfield 32, 3) := by decide +kernel
theorem dX9_fault_24 : decode cX9_fault 24 = .ok (.iconst 1, 1) := by decide +kernel
theorem dX9_fault_25 : decode cX9_fault 25 = .ok (.iconst 0, 1) := by decide +kernel
theorem dX9_fault_26 : decode cX9_fault 26 = .ok (.iastore, 1) := by decide +kernel
theorem dX9_fault_27 : decode cX9_fault 27 = .ok (.aload_n 0, 1) := by decide +kernel
theorem dX9_fault_28 : decode cX9_fault 28 = .ok (.getfield 44, 3) := by decide +kernel
theorem dX9_fault_31 : decode cX9_fault 31 = .ok (.iconst 1, 1) := by decide +kernel
theorem dX9_fault_32 : decode cX9_fault 32 = .ok (.iconst 0, 1) := by decide +kernel
theorem dX9_fault_33 : decode cX9_fault 33 = .ok (.iastore, 1) := by decide +kernel
theorem dX9_fault_34 : decode cX9_fault 34 = .ok (.aload_n 0, 1) := by decide +kernel
theorem dX9_fault_35 : decode cX9_fault 35 = .ok (.getfield 53, 3) := by decide +kernel
theorem dX9_fault_38 : decode cX9_fault 38 = .ok (.iconst 1, 1) := by decide +kernel
theorem dX9_fault_39 : decode cX9_fault 39 = .ok (.iconst 0, 1) := by decide +kernel
theorem dX9_fault_40 : decode cX9_fault 40 = .ok (.iastore, 1) := by decide +kernel
theorem dX9_fault_41 : decode cX9_fault 41 = .ok (.aload_n 0, 1) := by decide +kernel
theorem dX9_fault_42 : decode cX9_fault 42 = .ok (.getfield 101, 3) := by decide +kernel
theorem dX9_fault_45 : decode cX9_fault 45 = .ok (.aload_n 0, 1) := by decide +kernel
theorem dX9_fault_46 : decode cX9_fault 46 = .ok (.getfield 97, 3) := by decide +kernel
theorem dX9_fault_49 : decode cX9_fault 49 = .ok (.if_icmp .ge 24, 3) := by decide +kernel
theorem dX9_fault_52 : decode cX9_fault 52 = .ok (.aload_n 0, 1) := by decide +kernel
theorem dX9_fault_53 : decode cX9_fault 53 = .ok (.getfield 101, 3) := by decide +kernel
theorem dX9_fault_56 : decode cX9_fault 56 = .ok (.istore_n 1, 1) := by decide +kernel
theorem dX9_fault_57 : decode cX9_fault 57 = .ok (.aload_n 0, 1) := by decide +kernel
theorem dX9_fault_58 : decode cX9_fault 58 = .ok (.invokevirtual 129, 3) := by decide +kernel
theorem dX9_fault_61 : decode cX9_fault 61 = .ok (.aload_n 0, 1) := by decide +kernel
theorem dX9_fault_62 : decode cX9_fault 62 = .ok (.getfield 108, 3) := by decide +kernel
theorem dX9_fault_65 : decode cX9_fault 65 = .ok (.ifCond .ne 5, 3) := by decide +kernel
theorem dX9_fault_68 : decode cX9_fault 68 = .ok (.iload_n 1, 1) := by decide +kernel
theorem dX9_fault_69 : decode cX9_fault 69 = .ok (.ireturn, 1) := by decide +kernel
theorem dX9_fault_70 : decode cX9_fault 70 = .ok (.goto (-29), 3) := by decide +kernel
theorem dX9_fault_73 : decode cX9_fault 73 = .ok (.bipush (-4), 2) := by decide +kernel
theorem dX9_fault_75 : decode cX9_fault 75 = .ok (.ireturn, 1) := by decide +kernel
theorem dX9_isInRaft_0 : decode cX9_isInRaft 0 = .ok (.iconst 0, 1) := by decide +kernel
theorem dX9_isInRaft_1 : decode cX9_isInRaft 1 = .ok (.istore_n 3, 1) := by decide +kernel
theorem dX9_isInRaft_2 : decode cX9_isInRaft 2 = .ok (.iconst 0, 1) := by decide +kernel
theorem dX9_isInRaft_3 : decode cX9_isInRaft 3 = .ok (.istore 4, 2) := by decide +kernel
theorem dX9_isInRaft_5 : decode cX9_isInRaft 5 = .ok (.iload 4, 2) := by decide +kernel
theorem dX9_isInRaft_7 : decode cX9_isInRaft 7 = .ok (.iconst 3, 1) := by decide +kernel
theorem dX9_isInRaft_8 : decode cX9_isInRaft 8 = .ok (.aload_n 0, 1) := by decide +kernel
theorem dX9_isInRaft_9 : decode cX9_isInRaft 9 = .ok (.getfield 44, 3) := by decide +kernel
theorem dX9_isInRaft_12 : decode cX9_isInRaft 12 = .ok (.iload_n 1, 1) := by decide +kernel
theorem dX9_isInRaft_13 : decode cX9_isInRaft 13 = .ok (.iaload, 1) := by decide +kernel
theorem dX9_isInRaft_14 : decode cX9_isInRaft 14 = .ok (.imul, 1) := by decide +kernel
theorem dX9_isInRaft_15 : decode cX9_isInRaft 15 = .ok (.if_icmp .ge 35, 3) := by decide +kernel
theorem dX9_isInRaft_18 : decode cX9_isInRaft 18 = .ok (.iload_n 3, 1) := by decide +kernel
theorem dX9_isInRaft_19 : decode cX9_isInRaft 19 = .ok (.ifCond .ne 19, 3) := by decide +kernel
theorem dX9_isInRaft_22 : decode cX9_isInRaft 22 = .ok (.aload_n 0, 1) := by decide +kernel
theorem dX9_isInRaft_23 : decode cX9_isInRaft 23 = .ok (.getfield 47, 3) := by decide +kernel
theorem dX9_isInRaft_26 : decode cX9_isInRaft 26 = .ok (.bipush 6, 2) := by decide +kernel
theorem dX9_isInRaft_28 : decode cX9_isInRaft 28 = .ok (.iload_n 1, 1) := by decide +kernel
theorem dX9_isInRaft_29 : decode cX9_isInRaft 29 = .ok (.imul, 1) := by decide +kernel
theorem dX9_isInRaft_30 : decode cX9_isInRaft 30 = .ok (.iload 4, 2) := by decide +kernel
theorem dX9_isInRaft_32 : decode cX9_isInRaft 32 = .ok (.iadd, 1) := by decide +kernel
theorem dX9_isInRaft_33 : decode cX9_isInRaft 33 = .ok (.iaload, 1) := by decide +kernel
theorem dX9_isInRaft_34 : decode cX9_isInRaft 34 = .ok (.iload_n 2, 1) := by decide +kernel
theorem dX9_isInRaft_35 : decode cX9_isInRaft 35 = .ok (.if_icmp .ne 7, 3) := by decide +kernel
theorem dX9_isInRaft_38 : decode cX9_isInRaft 38 = .ok (.iconst 1, 1) := by decide +kernel
theorem dX9_isInRaft_39 : decode cX9_isInRaft 39 = .ok (.goto 4, 3) := by decide +kernel
theorem dX9_isInRaft_42 : decode cX9_isInRaft 42 = .ok (.iconst 0, 1) := by decide +kernel
theorem dX9_isInRaft_43 : decode cX9_isInRaft 43 = .ok (.istore_n 3, 1) := by decide +kernel
theorem dX9_isInRaft_44 : decode cX9_isInRaft 44 = .ok (.iinc 4 1, 3) := by decide +kernel
theorem dX9_isInRaft_47 : decode cX9_isInRaft 47 = .ok (.goto (-42), 3) := by decide +kernel
theorem dX9_isInRaft_50 : decode cX9_isInRaft 50 = .ok (.iload_n 3, 1) := by decide +kernel
theorem dX9_isInRaft_51 : decode cX9_isInRaft 51 = .ok (.ireturn, 1) := by decide +kernel
theorem dX9_canBeLaid_0 : decode cX9_canBeLaid 0 = .ok (.aload_n 0, 1) := by decide +kernel
theorem dX9_canBeLaid_1 : decode cX9_canBeLaid 1 = .ok (.getfield 13, 3) := by decide +kernel
theorem dX9_canBeLaid_4 : decode cX9_canBeLaid 4 = .ok (.iconst 1, 1) := by decide +kernel
theorem dX9_canBeLaid_5 : decode cX9_canBeLaid 5 = .ok (.iaload, 1) := by decide +kernel
theorem dX9_canBeLaid_6 : decode cX9_canBeLaid 6 = .ok (.ifCond .le 7, 3) := by decide +kernel
theorem dX9_canBeLaid_9 : decode cX9_canBeLaid 9 = .ok (.iconst 1, 1) := by decide +kernel
theorem dX9_canBeLaid_10 : decode cX9_canBeLaid 10 = .ok (.goto 4, 3) := by decide +kernel
theorem dX9_canBeLaid_13 : decode cX9_canBeLaid 13 = .ok (.iconst 0, 1) := by decide +kernel
theorem dX9_canBeLaid_14 : decode cX9_canBeLaid 14 = .ok (.istore_n 1, 1) := by decide +kernel
theorem dX9_canBeLaid_15 : decode cX9_canBeLaid 15 = .ok (.iconst 0, 1) := by decide +kernel
theorem dX9_canBeLaid_16 : decode cX9_canBeLaid 16 = .ok (.istore_n 2, 1) := by decide +kernel
theorem dX9_canBeLaid_17 : decode cX9_canBeLaid 17 = .ok (.iload_n 2, 1) := by decide +kernel
theorem dX9_canBeLaid_18 : decode cX9_canBeLaid 18 = .ok (.aload_n 0, 1) := by decide +kernel
theorem dX9_canBeLaid_19 : decode cX9_canBeLaid 19 = .ok (.getfield 13, 3) := by decide +kernel
theorem dX9_canBeLaid_22 : decode cX9_canBeLaid 22 = .ok (.iconst 1, 1) := by decide +kernel
theorem dX9_canBeLaid_23 : decode cX9_canBeLaid 23 = .ok (.iaload, 1) := by decide +kernel
theorem dX9_canBeLaid_24 : decode cX9_canBeLaid 24 = .ok (.if_icmp .ge 58, 3) := by decide +kernel
theorem dX9_canBeLaid_27 : decode cX9_canBeLaid 27 = .ok (.aload_n 0, 1) := by decide +kernel
theorem dX9_canBeLaid_28 : decode cX9_canBeLaid 28 = .ok (.getfield 41, 3) := by decide +kernel
theorem dX9_canBeLaid_31 : decode cX9_canBeLaid 31 = .ok (.bipush 8, 2) := by decide +kernel
theorem dX9_canBeLaid_33 : decode cX9_canBeLaid 33 = .ok (.iload_n 2, 1) := by decide +kernel
theorem dX9_canBeLaid_34 : decode cX9_canBeLaid 34 = .ok (.iadd, 1) := by decide +kernel
theorem dX9_canBeLaid_35 : decode cX9_canBeLaid 35 = .ok (.iaload, 1) := by decide +kernel
theorem dX9_canBeLaid_36 : decode cX9_canBeLaid 36 = .ok (.istore_n 3, 1) := by decide +kernel
theorem dX9_canBeLaid_37 : decode cX9_canBeLaid 37 = .ok (.iload_n 1, 1) := by decide +kernel
theorem dX9_canBeLaid_38 : decode cX9_canBeLaid 38 = .ok (.ifCond .eq 36, 3) := by decide +kernel
theorem dX9_canBeLaid_41 : decode cX9_canBeLaid 41 = .ok (.iload_n 3, 1) := by decide +kernel
theorem dX9_canBeLaid_42 : decode cX9_canBeLaid 42 = .ok (.bipush (-4), 2) := by decide +kernel
theorem dX9_canBeLaid_44 : decode cX9_canBeLaid 44 = .ok (.if_icmp .eq 26, 3) := by decide +kernel
theorem dX9_canBeLaid_47 : decode cX9_canBeLaid 47 = .ok (.aload_n 0, 1) := by decide +kernel
theorem dX9_canBeLaid_48 : decode cX9_canBeLaid 48 = .ok (.getfield 41, 3) := by decide +kernel
theorem dX9_canBeLaid_51 : decode cX9_canBeLaid 51 = .ok (.bipush 8, 2) := by decide +kernel
theorem dX9_canBeLaid_53 : decode cX9_canBeLaid 53 = .ok (.iload_n 3, 1) := by decide +kernel
theorem dX9_canBeLaid_54 : decode cX9_canBeLaid 54 = .ok (.iadd, 1) := by decide +kernel
theorem dX9_canBeLaid_55 : decode cX9_canBeLaid 55 = .ok (.iaload, 1) := by decide +kernel
theorem dX9_canBeLaid_56 : decode cX9_canBeLaid 56 = .ok (.bipush (-4), 2) := by decide +kernel
theorem dX9_canBeLaid_58 : decode cX9_canBeLaid 58 = .ok (.if_icmp .ne 16, 3) := by decide +kernel
theorem dX9_canBeLaid_61 : decode cX9_canBeLaid 61 = .ok (.aload_n 0, 1) := by decide +kernel
theorem dX9_canBeLaid_62 : decode cX9_canBeLaid 62 = .ok (.iconst 1, 1) := by decide +kernel
theorem dX9_canBeLaid_63 : decode cX9_canBeLaid 63 = .ok (.iload_n 2, 1) := by decide +kernel
theorem dX9_canBeLaid_64 : decode cX9_canBeLaid 64 = .ok (.invokevirtual 132, 3) := by decide +kernel
theorem dX9_canBeLaid_67 : decode cX9_canBeLaid 67 = .ok (.ifCond .ne 7, 3) := by decide +kernel
theorem dX9_canBeLaid_70 : decode cX9_canBeLaid 70 = .ok (.iconst 1, 1) := by decide +kernel
theorem dX9_canBeLaid_71 : decode cX9_canBeLaid 71 = .ok (.goto 4, 3) := by decide +kernel
theorem dX9_canBeLaid_74 : decode cX9_canBeLaid 74 = .ok (.iconst 0, 1) := by decide +kernel
theorem dX9_canBeLaid_75 : decode cX9_canBeLaid 75 = .ok (.istore_n 1, 1) := by decide +kernel
theorem dX9_canBeLaid_76 : decode cX9_canBeLaid 76 = .ok (.iinc 2 1, 3) := by decide +kernel
theorem dX9_canBeLaid_79 : decode cX9_canBeLaid 79 = .ok (.goto (-62), 3) := by decide +kernel
theorem dX9_canBeLaid_82 : decode cX9_canBeLaid 82 = .ok (.iconst 0, 1) := by decide +kernel
theorem dX9_canBeLaid_83 : decode cX9_canBeLaid 83 = .ok (.istore_n 2, 1) := by decide +kernel
theorem dX9_canBeLaid_84 : decode cX9_canBeLaid 84 = .ok (.iload_n 2, 1) := by decide +kernel
theorem dX9_canBeLaid_85 : decode cX9_canBeLaid 85 = .ok (.iconst 3, 1) := by decide +kernel
theorem dX9_canBeLaid_86 : decode cX9_canBeLaid 86 = .ok (.if_icmp .ge 63, 3) := by decide +kernel
theorem dX9_canBeLaid_89 : decode cX9_canBeLaid 89 = .ok (.aload_n 0, 1) := by decide +kernel
theorem dX9_canBeLaid_90 : decode cX9_canBeLaid 90 = .ok (.getfield 44, 3) := by decide +kernel
theorem dX9_canBeLaid_93 : decode cX9_canBeLaid 93 = .ok (.iconst 1, 1) := by decide +kernel
theorem dX9_canBeLaid_94 : decode cX9_canBeLaid 94 = .ok (.iaload, 1) := by decide +kernel
theorem dX9_canBeLaid_95 : decode cX9_canBeLaid 95 = .ok (.iconst 2, 1) := by decide +kernel
theorem dX9_canBeLaid_96 : decode cX9_canBeLaid 96 = .ok (.if_icmp .ne 53, 3) := by decide +kernel
theorem dX9_canBeLaid_99 : decode cX9_canBeLaid 99 = .ok (.iconst 0, 1) := by decide +kernel
theorem dX9_canBeLaid_100 : decode cX9_canBeLaid 100 = .ok (.istore_n 3, 1) := by decide +kernel
theorem dX9_canBeLaid_101 : decode cX9_canBeLaid 101 = .ok (.iload_n 3, 1) := by decide +kernel
theorem dX9_canBeLaid_102 : decode cX9_canBeLaid 102 = .ok (.iconst 3, 1) := by decide +kernel
theorem dX9_canBeLaid_103 : decode cX9_canBeLaid 103 = .ok (.if_icmp .ge 40, 3) := by decide +kernel
theorem dX9_canBeLaid_106 : decode cX9_canBeLaid 106 = .ok (.iload_n 1, 1) := by decide +kernel
theorem dX9_canBeLaid_107 : decode cX9_canBeLaid 107 = .ok (.ifCond .eq 28, 3) := by decide +kernel
theorem dX9_canBeLaid_110 : decode cX9_canBeLaid 110 = .ok (.aload_n 0, 1) := by decide +kernel
theorem dX9_canBeLaid_111 : decode cX9_canBeLaid 111 = .ok (.getfield 47, 3) := by decide +kernel
theorem dX9_canBeLaid_114 : decode cX9_canBeLaid 114 = .ok (.bipush 6, 2) := by decide +kernel
theorem dX9_canBeLaid_116 : decode cX9_canBeLaid 116 = .ok (.iload_n 2, 1) := by decide +kernel
theorem dX9_canBeLaid_117 : decode cX9_canBeLaid 117 = .ok (.iadd, 1) := by decide +kernel
theorem dX9_canBeLaid_118 : decode cX9_canBeLaid 118 = .ok (.iaload, 1) := by decide +kernel
theorem dX9_canBeLaid_119 : decode cX9_canBeLaid 119 = .ok (.aload_n 0, 1) := by decide +kernel
theorem dX9_canBeLaid_120 : decode cX9_canBeLaid 120 = .ok (.getfield 47, 3) := by decide +kernel
theorem dX9_canBeLaid_123 : decode cX9_canBeLaid 123 = .ok (.bipush 9, 2) := by decide +kernel
theorem dX9_canBeLaid_125 : decode cX9_canBeLaid 125 = .ok (.iload_n 3, 1) := by decide +kernel
theorem dX9_canBeLaid_126 : decode cX9_canBeLaid 126 = .ok (.iadd, 1) := by decide +kernel
theorem dX9_canBeLaid_127 : decode cX9_canBeLaid 127 = .ok (.iaload, 1) := by decide +kernel
theorem dX9_canBeLaid_128 : decode cX9_canBeLaid 128 = .ok (.if_icmp .eq 7, 3) := by decide +kernel
theorem dX9_canBeLaid_131 : decode cX9_canBeLaid 131 = .ok (.iconst 1, 1) := by decide +kernel
theorem dX9_canBeLaid_132 : decode cX9_canBeLaid 132 = .ok (.goto 4, 3) := by decide +kernel
theorem dX9_canBeLaid_135 : decode cX9_canBeLaid 135 = .ok (.iconst 0, 1) := by decide +kernel
theorem dX9_canBeLaid_136 : decode cX9_canBeLaid 136 = .ok (.istore_n 1, 1) := by decide +kernel
theorem dX9_canBeLaid_137 : decode cX9_canBeLaid 137 = .ok (.iinc 3 1, 3) := by decide +kernel
theorem dX9_canBeLaid_140 : decode cX9_canBeLaid 140 = .ok (.goto (-39), 3) := by decide +kernel
theorem dX9_canBeLaid_143 : decode cX9_canBeLaid 143 = .ok (.iinc 2 1, 3) := by decide +kernel
theorem dX9_canBeLaid_146 : decode cX9_canBeLaid 146 = .ok (.goto (-62), 3) := by decide +kernel
theorem dX9_canBeLaid_149 : decode cX9_canBeLaid 149 = .ok (.iload_n 1, 1) := by decide +kernel
theorem dX9_canBeLaid_150 : decode cX9_canBeLaid 150 = .ok (.ireturn, 1) := by decide +kernel
theorem dX9_lay_0 : decode cX9_lay 0 = .ok (.aload_n 0, 1) := by decide +kernel
theorem dX9_lay_1 : decode cX9_lay 1 = .ok (.invokevirtual 136, 3) := by decide +kernel
theorem dX9_lay_4 : decode cX9_lay 4 = .ok (.bipush (-4), 2) := by decide +kernel
theorem dX9_lay_6 : decode cX9_lay 6 = .ok (.if_icmp .ne 10, 3) := by decide +kernel
theorem dX9_lay_9 : decode cX9_lay 9 = .ok (.aload_n 0, 1) := by decide +kernel
theorem dX9_lay_10 : decode cX9_lay 10 = .ok (.invokevirtual 139, 3) := by decide +kernel
theorem dX9_lay_13 : decode cX9_lay 13 = .ok (.ifCond .ne 6, 3) := by decide +kernel
theorem dX9_lay_16 : decode cX9_lay 16 = .ok (.bipush (-2), 2) := by decide +kernel
theorem dX9_lay_18 : decode cX9_lay 18 = .ok (.ireturn, 1) := by decide +kernel
theorem dX9_lay_19 : decode cX9_lay 19 = .ok (.aload_n 0, 1) := by decide +kernel
theorem dX9_lay_20 : decode cX9_lay 20 = .ok (.getfield 13, 3) := by decide +kernel
theorem dX9_lay_23 : decode cX9_lay 23 = .ok (.iconst 0, 1) := by decide +kernel
theorem dX9_lay_24 : decode cX9_lay 24 = .ok (.aload_n 0, 1) := by decide +kernel
theorem dX9_lay_25 : decode cX9_lay 25 = .ok (.getfield 13, 3) := by decide +kernel
theorem dX9_lay_28 : decode cX9_lay 28 = .ok (.iconst 1, 1) := by decide +kernel
theorem dX9_lay_29 : decode cX9_lay 29 = .ok (.iaload, 1) := by decide +kernel
theorem dX9_lay_30 : decode cX9_lay 30 = .ok (.iastore, 1) := by decide +kernel
theorem dX9_lay_31 : decode cX9_lay 31 = .ok (.aload_n 0, 1) := by decide +kernel
theorem dX9_lay_32 : decode cX9_lay 32 = .ok (.getfield 29, 3) := by decide +kernel
theorem dX9_lay_35 : decode cX9_lay 35 = .ok (.iconst 0, 1) := by decide +kernel
theorem dX9_lay_36 : decode cX9_lay 36 = .ok (.aload_n 0, 1) := by decide +kernel
theorem dX9_lay_37 : decode cX9_lay 37 = .ok (.getfield 29, 3) := by decide +kernel
theorem dX9_lay_40 : decode cX9_lay 40 = .ok (.iconst 1, 1) := by decide +kernel
theorem dX9_lay_41 : decode cX9_lay 41 = .ok (.iaload, 1) := by decide +kernel
theorem dX9_lay_42 : decode cX9_lay 42 = .ok (.iastore, 1) := by decide +kernel
theorem dX9_lay_43 : decode cX9_lay 43 = .ok (.aload_n 0, 1) := by decide +kernel
theorem dX9_lay_44 : decode cX9_lay 44 = .ok (.getfield 32, 3) := by decide +kernel
theorem dX9_lay_47 : decode cX9_lay 47 = .ok (.iconst 0, 1) := by decide +kernel
theorem dX9_lay_48 : decode cX9_lay 48 = .ok (.aload_n 0, 1) := by decide +kernel
theorem dX9_lay_49 : decode cX9_lay 49 = .ok (.getfield 32, 3) := by decide +kernel
theorem dX9_lay_52 : decode cX9_lay 52 = .ok (.iconst 1, 1) := by decide +kernel
theorem dX9_lay_53 : decode cX9_lay 53 = .ok (.iaload, 1) := by decide +kernel
theorem dX9_lay_54 : decode cX9_lay 54 = .ok (.iastore, 1) := by decide +kernel
theorem dX9_lay_55 : decode cX9_lay 55 = .ok (.aload_n 0, 1) := by decide +kernel
theorem dX9_lay_56 : decode cX9_lay 56 = .ok (.getfield 44, 3) := by decide +kernel
theorem dX9_lay_59 : decode cX9_lay 59 = .ok (.iconst 0, 1) := by decide +kernel
theorem dX9_lay_60 : decode cX9_lay 60 = .ok (.aload_n 0, 1) := by decide +kernel
theorem dX9_lay_61 : decode cX9_lay 61 = .ok (.getfield 44, 3) := by decide +kernel
theorem dX9_lay_64 : decode cX9_lay 64 = .ok (.iconst 1, 1) := by decide +kernel
theorem dX9_lay_65 : decode cX9_lay 65 = .ok (.iaload, 1) := by decide +kernel
theorem dX9_lay_66 : decode cX9_lay 66 = .ok (.iastore, 1) := by decide +kernel
theorem dX9_lay_67 : decode cX9_lay 67 = .ok (.aload_n 0, 1) := by decide +kernel
theorem dX9_lay_68 : decode cX9_lay 68 = .ok (.getfield 53, 3) := by decide +kernel
theorem dX9_lay_71 : decode cX9_lay 71 = .ok (.iconst 0, 1) := by decide +kernel
theorem dX9_lay_72 : decode cX9_lay 72 = .ok (.aload_n 0, 1) := by decide +kernel
theorem dX9_lay_73 : decode cX9_lay 73 = .ok (.getfield 53, 3) := by decide +kernel
theorem dX9_lay_76 : decode cX9_lay 76 = .ok (.iconst 1, 1) := by decide +kernel
theorem dX9_lay_77 : decode cX9_lay 77 = .ok (.iaload, 1) := by decide +kernel
theorem dX9_lay_78 : decode cX9_lay 78 = .ok (.iastore, 1) := by decide +kernel
theorem dX9_lay_79 : decode cX9_lay 79 = .ok (.iconst 0, 1) := by decide +kernel
theorem dX9_lay_80 : decode cX9_lay 80 = .ok (.istore_n 1, 1) := by decide +kernel
theorem dX9_lay_81 : decode cX9_lay 81 = .ok (.iload_n 1, 1) := by decide +kernel
theorem dX9_lay_82 : decode cX9_lay 82 = .ok (.bipush 8, 2) := by decide +kernel
theorem dX9_lay_84 : decode cX9_lay 84 = .ok (.if_icmp .ge 110, 3) := by decide +kernel
theorem dX9_lay_87 : decode cX9_lay 87 = .ok (.aload_n 0, 1) := by decide +kernel
theorem dX9_lay_88 : decode cX9_lay 88 = .ok (.iload_n 1, 1) := by decide +kernel
theorem dX9_lay_89 : decode cX9_lay 89 = .ok (.aload_n 0, 1) := by decide +kernel
theorem dX9_lay_90 : decode cX9_lay 90 = .ok (.getfield 17, 3) := by decide +kernel
theorem dX9_lay_93 : decode cX9_lay 93 = .ok (.bipush 8, 2) := by decide +kernel
theorem dX9_lay_95 : decode cX9_lay 95 = .ok (.iload_n 1, 1) := by decide +kernel
theorem dX9_lay_96 : decode cX9_lay 96 = .ok (.iadd, 1) := by decide +kernel
theorem dX9_lay_97 : decode cX9_lay 97 = .ok (.iaload, 1) := by decide +kernel
theorem dX9_lay_98 : decode cX9_lay 98 = .ok (.aload_n 0, 1) := by decide +kernel
theorem dX9_lay_99 : decode cX9_lay 99 = .ok (.getfield 20, 3) := by decide +kernel
theorem dX9_lay_102 : decode cX9_lay 102 = .ok (.bipush 8, 2) := by decide +kernel
theorem dX9_lay_104 : decode cX9_lay 104 = .ok (.iload_n 1, 1) := by decide +kernel
theorem dX9_lay_105 : decode cX9_lay 105 = .ok (.iadd, 1) := by decide +kernel
theorem dX9_lay_106 : decode cX9_lay 106 = .ok (.iaload, 1) := by decide +kernel
theorem dX9_lay_107 : decode cX9_lay 107 = .ok (.aload_n 0, 1) := by decide +kernel
theorem dX9_lay_108 : decode cX9_lay 108 = .ok (.getfield 23, 3) := by decide +kernel
theorem dX9_lay_111 : decode cX9_lay 111 = .ok (.bipush 8, 2) := by decide +kernel
theorem dX9_lay_113 : decode cX9_lay 113 = .ok (.iload_n 1, 1) := by decide +kernel
theorem dX9_lay_114 : decode cX9_lay 114 = .ok (.iadd, 1) := by decide +kernel
theorem dX9_lay_115 : decode cX9_lay 115 = .ok (.iaload, 1) := by decide +kernel
theorem dX9_lay_116 : decode cX9_lay 116 = .ok (.aload_n 0, 1) := by decide +kernel
theorem dX9_lay_117 : decode cX9_lay 117 = .ok (.getfield 26, 3) := by decide +kernel
theorem dX9_lay_120 : decode cX9_lay 120 = .ok (.bipush 8, 2) := by decide +kernel
theorem dX9_lay_122 : decode cX9_lay 122 = .ok (.iload_n 1, 1) := by decide +kernel
theorem dX9_lay_123 : decode cX9_lay 123 = .ok (.iadd, 1) := by decide +kernel
theorem dX9_lay_124 : decode cX9_lay 124 = .ok (.iaload, 1) := by decide +kernel
theorem dX9_lay_125 : decode cX9_lay 125 = .ok (.invokevirtual 86, 3) := by decide +kernel
theorem dX9_lay_128 : decode cX9_lay 128 = .ok (.aload_n 0, 1) := by decide +kernel
theorem dX9_lay_129 : decode cX9_lay 129 = .ok (.getfield 41, 3) := by decide +kernel
theorem dX9_lay_132 : decode cX9_lay 132 = .ok (.iload_n 1, 1) := by decide +kernel
theorem dX9_lay_133 : decode cX9_lay 133 = .ok (.aload_n 0, 1) := by decide +kernel
theorem dX9_lay_134 : decode cX9_lay 134 = .ok (.getfield 41, 3) := by decide +kernel
theorem dX9_lay_137 : decode cX9_lay 137 = .ok (.bipush 8, 2) := by decide +kernel
theorem dX9_lay_139 : decode cX9_lay 139 = .ok (.iload_n 1, 1) := by decide +kernel
theorem dX9_lay_140 : decode cX9_lay 140 = .ok (.iadd, 1) := by decide +kernel
theorem dX9_lay_141 : decode cX9_lay 141 = .ok (.iaload, 1) := by decide +kernel
theorem dX9_lay_142 : decode cX9_lay 142 = .ok (.iastore, 1) := by decide +kernel
theorem dX9_lay_143 : decode cX9_lay 143 = .ok (.aload_n 0, 1) := by decide +kernel
theorem dX9_lay_144 : decode cX9_lay 144 = .ok (.getfield 50, 3) := by decide +kernel
theorem dX9_lay_147 : decode cX9_lay 147 = .ok (.iload_n 1, 1) := by decide +kernel
theorem dX9_lay_148 : decode cX9_lay 148 = .ok (.aload_n 0, 1) := by decide +kernel
theorem dX9_lay_149 : decode cX9_lay 149 = .ok (.getfield 50, 3) := by decide +kernel
theorem dX9_lay_152 : decode cX9_lay 152 = .ok (.bipush 8, 2) := by decide +kernel
theorem dX9_lay_154 : decode cX9_lay 154 = .ok (.iload_n 1, 1) := by decide +kernel
theorem dX9_lay_155 : decode cX9_lay 155 = .ok (.iadd, 1) := by decide +kernel
theorem dX9_lay_156 : decode cX9_lay 156 = .ok (.iaload, 1) := by decide +kernel
theorem dX9_lay_157 : decode cX9_lay 157 = .ok (.iastore, 1) := by decide +kernel
theorem dX9_lay_158 : decode cX9_lay 158 = .ok (.aload_n 0, 1) := by decide +kernel
theorem dX9_lay_159 : decode cX9_lay 159 = .ok (.getfield 56, 3) := by decide +kernel
theorem dX9_lay_162 : decode cX9_lay 162 = .ok (.iload_n 1, 1) := by decide +kernel
theorem dX9_lay_163 : decode cX9_lay 163 = .ok (.aload_n 0, 1) := by decide +kernel
theorem dX9_lay_164 : decode cX9_lay 164 = .ok (.getfield 56, 3) := by decide +kernel
theorem dX9_lay_167 : decode cX9_lay 167 = .ok (.bipush 8, 2) := by decide +kernel
theorem dX9_lay_169 : decode cX9_lay 169 = .ok (.iload_n 1, 1) := by decide +kernel
theorem dX9_lay_170 : decode cX9_lay 170 = .ok (.iadd, 1) := by decide +kernel
theorem dX9_lay_171 : decode cX9_lay 171 = .ok (.iaload, 1) := by decide +kernel
theorem dX9_lay_172 : decode cX9_lay 172 = .ok (.iastore, 1) := by decide +kernel
theorem dX9_lay_173 : decode cX9_lay 173 = .ok (.aload_n 0, 1) := by decide +kernel
theorem dX9_lay_174 : decode cX9_lay 174 = .ok (.getfield 59, 3) := by decide +kernel
theorem dX9_lay_177 : decode cX9_lay 177 = .ok (.iload_n 1, 1) := by decide +kernel
theorem dX9_lay_178 : decode cX9_lay 178 = .ok (.aload_n 0, 1) := by decide +kernel
theorem dX9_lay_179 : decode cX9_lay 179 = .ok (.getfield 59, 3) := by decide +kernel
theorem dX9_lay_182 : decode cX9_lay 182 = .ok (.bipush 8, 2) := by decide +kernel
theorem dX9_lay_184 : decode cX9_lay 184 = .ok (.iload_n 1, 1) := by decide +kernel
theorem dX9_lay_185 : decode cX9_lay 185 = .ok (.iadd, 1) := by decide +kernel
theorem dX9_lay_186 : decode cX9_lay 186 = .ok (.iaload, 1) := by decide +kernel
theorem dX9_lay_187 : decode cX9_lay 187 = .ok (.iastore, 1) := by decide +kernel
theorem dX9_lay_188 : decode cX9_lay 188 = .ok (.iinc 1 1, 3) := by decide +kernel
theorem dX9_lay_191 : decode cX9_lay 191 = .ok (.goto (-110), 3) := by decide +kernel
theorem dX9_lay_194 : decode cX9_lay 194 = .ok (.iconst 0, 1) := by decide +kernel
theorem dX9_lay_195 : decode cX9_lay 195 = .ok (.istore_n 1, 1) := by decide +kernel
theorem dX9_lay_196 : decode cX9_lay 196 = .ok (.iload_n 1, 1) := by decide +kernel
theorem dX9_lay_197 : decode cX9_lay 197 = .ok (.iconst 4, 1) := by decide +kernel
theorem dX9_lay_198 : decode cX9_lay 198 = .ok (.if_icmp .ge 37, 3) := by decide +kernel
theorem dX9_lay_201 : decode cX9_lay 201 = .ok (.aload_n 0, 1) := by decide +kernel
theorem dX9_lay_202 : decode cX9_lay 202 = .ok (.getfield 35, 3) := by decide +kernel
theorem dX9_lay_205 : decode cX9_lay 205 = .ok (.iload_n 1, 1) := by decide +kernel
theorem dX9_lay_206 : decode cX9_lay 206 = .ok (.aload_n 0, 1) := by decide +kernel
theorem dX9_lay_207 : decode cX9_lay 207 = .ok (.getfield 35, 3) := by decide +kernel
theorem dX9_lay_210 : decode cX9_lay 210 = .ok (.iconst 4, 1) := by decide +kernel
theorem dX9_lay_211 : decode cX9_lay 211 = .ok (.iload_n 1, 1) := by decide +kernel
theorem dX9_lay_212 : decode cX9_lay 212 = .ok (.iadd, 1) := by decide +kernel
theorem dX9_lay_213 : decode cX9_lay 213 = .ok (.iaload, 1) := by decide +kernel
theorem dX9_lay_214 : decode cX9_lay 214 = .ok (.iastore, 1) := by decide +kernel
theorem dX9_lay_215 : decode cX9_lay 215 = .ok (.aload_n 0, 1) := by decide +kernel
theorem dX9_lay_216 : decode cX9_lay 216 = .ok (.getfield 38, 3) := by decide +kernel
theorem dX9_lay_219 : decode cX9_lay 219 = .ok (.iload_n 1, 1) := by decide +kernel
theorem dX9_lay_220 : decode cX9_lay 220 = .ok (.aload_n 0, 1) := by decide +kernel
theorem dX9_lay_221 : decode cX9_lay 221 = .ok (.getfield 38, 3) := by decide +kernel
theorem dX9_lay_224 : decode cX9_lay 224 = .ok (.iconst 4, 1) := by decide +kernel
theorem dX9_lay_225 : decode cX9_lay 225 = .ok (.iload_n 1, 1) := by decide +kernel
theorem dX9_lay_226 : decode cX9_lay 226 = .ok (.iadd, 1) := by decide +kernel
theorem dX9_lay_227 : decode cX9_lay 227 = .ok (.iaload, 1) := by decide +kernel
theorem dX9_lay_228 : decode cX9_lay 228 = .ok (.iastore, 1) := by decide +kernel
theorem dX9_lay_229 : decode cX9_lay 229 = .ok (.iinc 1 1, 3) := by decide +kernel
theorem dX9_lay_232 : decode cX9_lay 232 = .ok (.goto (-36), 3) := by decide +kernel
theorem dX9_lay_235 : decode cX9_lay 235 = .ok (.iconst 0, 1) := by decide +kernel
theorem dX9_lay_236 : decode cX9_lay 236 = .ok (.istore_n 1, 1) := by decide +kernel
theorem dX9_lay_237 : decode cX9_lay 237 = .ok (.iload_n 1, 1) := by decide +kernel
theorem dX9_lay_238 : decode cX9_lay 238 = .ok (.bipush 6, 2) := by decide +kernel
theorem dX9_lay_240 : decode cX9_lay 240 = .ok (.if_icmp .ge 24, 3) := by decide +kernel
theorem dX9_lay_243 : decode cX9_lay 243 = .ok (.aload_n 0, 1) := by decide +kernel
theorem dX9_lay_244 : decode cX9_lay 244 = .ok (.getfield 47, 3) := by decide +kernel
theorem dX9_lay_247 : decode cX9_lay 247 = .ok (.iload_n 1, 1) := by decide +kernel
theorem dX9_lay_248 : decode cX9_lay 248 = .ok (.aload_n 0, 1) := by decide +kernel
theorem dX9_lay_249 : decode cX9_lay 249 = .ok (.getfield 47, 3) := by decide +kernel
theorem dX9_lay_252 : decode cX9_lay 252 = .ok (.bipush 6, 2) := by decide +kernel
theorem dX9_lay_254 : decode cX9_lay 254 = .ok (.iload_n 1, 1) := by decide +kernel
theorem dX9_lay_255 : decode cX9_lay 255 = .ok (.iadd, 1) := by decide +kernel
theorem dX9_lay_256 : decode cX9_lay 256 = .ok (.iaload, 1) := by decide +kernel
theorem dX9_lay_257 : decode cX9_lay 257 = .ok (.iastore, 1) := by decide +kernel
theorem dX9_lay_258 : decode cX9_lay 258 = .ok (.iinc 1 1, 3) := by decide +kernel
theorem dX9_lay_261 : decode cX9_lay 261 = .ok (.goto (-24), 3) := by decide +kernel
theorem dX9_lay_264 : decode cX9_lay 264 = .ok (.aload_n 0, 1) := by decide +kernel
theorem dX9_lay_265 : decode cX9_lay 265 = .ok (.invokevirtual 90, 3) := by decide +kernel
theorem dX9_lay_268 : decode cX9_lay 268 = .ok (.aload_n 0, 1) := by decide +kernel
theorem dX9_lay_269 : decode cX9_lay 269 = .ok (.getfield 13, 3) := by decide +kernel
theorem dX9_lay_272 : decode cX9_lay 272 = .ok (.iconst 0, 1) := by decide +kernel
theorem dX9_lay_273 : decode cX9_lay 273 = .ok (.iaload, 1) := by decide +kernel
theorem dX9_lay_274 : decode cX9_lay 274 = .ok (.ireturn, 1) := by decide +kernel
theorem dX9_anew_0 : decode cX9_anew 0 = .ok (.iconst 0, 1) := by decide +kernel
theorem dX9_anew_1 : decode cX9_anew 1 = .ok (.istore_n 1, 1) := by decide +kernel
theorem dX9_anew_2 : decode cX9_anew 2 = .ok (.iload_n 1, 1) := by decide +kernel
theorem dX9_anew_3 : decode cX9_anew 3 = .ok (.bipush 8, 2) := by decide +kernel
theorem dX9_anew_5 : decode cX9_anew 5 = .ok (.if_icmp .ge 53, 3) := by decide +kernel
theorem dX9_anew_8 : decode cX9_anew 8 = .ok (.aload_n 0, 1) := by decide +kernel
theorem dX9_anew_9 : decode cX9_anew 9 = .ok (.getfield 62, 3) := by decide +kernel
theorem dX9_anew_12 : decode cX9_anew 12 = .ok (.iconst 0, 1) := by decide +kernel
theorem dX9_anew_13 : decode cX9_anew 13 = .ok (.iload_n 1, 1) := by decide +kernel
theorem dX9_anew_14 : decode cX9_anew 14 = .ok (.iadd, 1) := by decide +kernel
theorem dX9_anew_15 : decode cX9_anew 15 = .ok (.aload_n 0, 1) := by decide +kernel
theorem dX9_anew_16 : decode cX9_anew 16 = .ok (.getfield 26, 3) := by decide +kernel
theorem dX9_anew_19 : decode cX9_anew 19 = .ok (.iload_n 1, 1) := by decide +kernel
theorem dX9_anew_20 : decode cX9_anew 20 = .ok (.iaload, 1) := by decide +kernel
theorem dX9_anew_21 : decode cX9_anew 21 = .ok (.iastore, 1) := by decide +kernel
theorem dX9_anew_22 : decode cX9_anew 22 = .ok (.aload_n 0, 1) := by decide +kernel
theorem dX9_anew_23 : decode cX9_anew 23 = .ok (.getfield 62, 3) := by decide +kernel
theorem dX9_anew_26 : decode cX9_anew 26 = .ok (.bipush 8, 2) := by decide +kernel
theorem dX9_anew_28 : decode cX9_anew 28 = .ok (.iload_n 1, 1) := by decide +kernel
theorem dX9_anew_29 : decode cX9_anew 29 = .ok (.iadd, 1) := by decide +kernel
theorem dX9_anew_30 : decode cX9_anew 30 = .ok (.iload_n 1, 1) := by decide +kernel
theorem dX9_anew_31 : decode cX9_anew 31 = .ok (.aload_n 0, 1) := by decide +kernel
theorem dX9_anew_32 : decode cX9_anew 32 = .ok (.getfield 13, 3) := by decide +kernel
theorem dX9_anew_35 : decode cX9_anew 35 = .ok (.iconst 0, 1) := by decide +kernel
theorem dX9_anew_36 : decode cX9_anew 36 = .ok (.iaload, 1) := by decide +kernel
theorem dX9_anew_37 : decode cX9_anew 37 = .ok (.if_icmp .ge 12, 3) := by decide +kernel
theorem dX9_anew_40 : decode cX9_anew 40 = .ok (.aload_n 0, 1) := by decide +kernel
theorem dX9_anew_41 : decode cX9_anew 41 = .ok (.getfield 41, 3) := by decide +kernel
theorem dX9_anew_44 : decode cX9_anew 44 = .ok (.iload_n 1, 1) := by decide +kernel
theorem dX9_anew_45 : decode cX9_anew 45 = .ok (.iaload, 1) := by decide +kernel
theorem dX9_anew_46 : decode cX9_anew 46 = .ok (.goto 5, 3) := by decide +kernel
theorem dX9_anew_49 : decode cX9_anew 49 = .ok (.bipush (-4), 2) := by decide +kernel
theorem dX9_anew_51 : decode cX9_anew 51 = .ok (.iastore, 1) := by decide +kernel
theorem dX9_anew_52 : decode cX9_anew 52 = .ok (.iinc 1 1, 3) := by decide +kernel
theorem dX9_anew_55 : decode cX9_anew 55 = .ok (.goto (-53), 3) := by decide +kernel
theorem dX9_anew_58 : decode cX9_anew 58 = .ok (.aload_n 0, 1) := by decide +kernel
theorem dX9_anew_59 : decode cX9_anew 59 = .ok (.iconst 0, 1) := by decide +kernel
theorem dX9_anew_60 : decode cX9_anew 60 = .ok (.putfield 143, 3) := by decide +kernel
theorem dX9_anew_63 : decode cX9_anew 63 = .ok (.aload_n 0, 1) := by decide +kernel
theorem dX9_anew_64 : decode cX9_anew 64 = .ok (.iconst 0, 1) := by decide +kernel
theorem dX9_anew_65 : decode cX9_anew 65 = .ok (.putfield 146, 3) := by decide +kernel
theorem dX9_anew_68 : decode cX9_anew 68 = .ok (.aload_n 0, 1) := by decide +kernel
theorem dX9_anew_69 : decode cX9_anew 69 = .ok (.iconst 0, 1) := by decide +kernel
theorem dX9_anew_70 : decode cX9_anew 70 = .ok (.putfield 149, 3) := by decide +kernel
theorem dX9_anew_73 : decode cX9_anew 73 = .ok (.return_, 1) := by decide +kernel
theorem dX9_copy_0 : decode cX9_copy 0 = .ok (.iconst 0, 1) := by decide +kernel
theorem dX9_copy_1 : decode cX9_copy 1 = .ok (.istore_n 3, 1) := by decide +kernel
theorem dX9_copy_2 : decode cX9_copy 2 = .ok (.iload_n 3, 1) := by decide +kernel
theorem dX9_copy_3 : decode cX9_copy 3 = .ok (.bipush 16, 2) := by decide +kernel
theorem dX9_copy_5 : decode cX9_copy 5 = .ok (.if_icmp .ge 25, 3) := by decide +kernel
theorem dX9_copy_8 : decode cX9_copy 8 = .ok (.aload_n 0, 1) := by decide +kernel
theorem dX9_copy_9 : decode cX9_copy 9 = .ok (.getfield 62, 3) := by decide +kernel
theorem dX9_copy_12 : decode cX9_copy 12 = .ok (.iload_n 2, 1) := by decide +kernel
theorem dX9_copy_13 : decode cX9_copy 13 = .ok (.iload_n 3, 1) := by decide +kernel
theorem dX9_copy_14 : decode cX9_copy 14 = .ok (.iadd, 1) := by decide +kernel
theorem dX9_copy_15 : decode cX9_copy 15 = .ok (.aload_n 0, 1) := by decide +kernel
theorem dX9_copy_16 : decode cX9_copy 16 = .ok (.getfield 62, 3) := by decide +kernel
theorem dX9_copy_19 : decode cX9_copy 19 = .ok (.iload_n 1, 1) := by decide +kernel
theorem dX9_copy_20 : decode cX9_copy 20 = .ok (.iload_n 3, 1) := by decide +kernel
theorem dX9_copy_21 : decode cX9_copy 21 = .ok (.iadd, 1) := by decide +kernel
theorem dX9_copy_22 : decode cX9_copy 22 = .ok (.iaload, 1) := by decide +kernel
theorem dX9_copy_23 : decode cX9_copy 23 = .ok (.iastore, 1) := by decide +kernel
theorem dX9_copy_24 : decode cX9_copy 24 = .ok (.iinc 3 1, 3) := by decide +kernel
theorem dX9_copy_27 : decode cX9_copy 27 = .ok (.goto (-25), 3) := by decide +kernel
theorem dX9_copy_30 : decode cX9_copy 30 = .ok (.return_, 1) := by decide +kernel
theorem dX9_isBeast_0 : decode cX9_isBeast 0 = .ok (.iload_n 1, 1) := by decide +kernel
theorem dX9_isBeast_1 : decode cX9_isBeast 1 = .ok (.iconst 0, 1) := by decide +kernel
theorem dX9_isBeast_2 : decode cX9_isBeast 2 = .ok (.aload_n 0, 1) := by decide +kernel
theorem dX9_isBeast_3 : decode cX9_isBeast 3 = .ok (.getfield 13, 3) := by decide +kernel
theorem dX9_isBeast_6 : decode cX9_isBeast 6 = .ok (.iconst 0, 1) := by decide +kernel
theorem dX9_isBeast_7 : decode cX9_isBeast 7 = .ok (.iaload, 1) := by decide +kernel
theorem dX9_isBeast_8 : decode cX9_isBeast 8 = .ok (.iconst 1, 1) := by decide +kernel
theorem dX9_isBeast_9 : decode cX9_isBeast 9 = .ok (.isub, 1) := by decide +kernel
theorem dX9_isBeast_10 : decode cX9_isBeast 10 = .ok (.invokestatic 93, 3) := by decide +kernel
theorem dX9_isBeast_13 : decode cX9_isBeast 13 = .ok (.ireturn, 1) := by decide +kernel
theorem dX9_ahead_0 : decode cX9_ahead 0 = .ok (.iconst 0, 1) := by decide +kernel
theorem dX9_ahead_1 : decode cX9_ahead 1 = .ok (.istore_n 2, 1) := by decide +kernel
theorem dX9_ahead_2 : decode cX9_ahead 2 = .ok (.iconst 0, 1) := by decide +kernel
theorem dX9_ahead_3 : decode cX9_ahead 3 = .ok (.istore_n 3, 1) := by decide +kernel
theorem dX9_ahead_4 : decode cX9_ahead 4 = .ok (.iload_n 3, 1) := by decide +kernel
theorem dX9_ahead_5 : decode cX9_ahead 5 = .ok (.aload_n 0, 1) := by decide +kernel
theorem dX9_ahead_6 : decode cX9_ahead 6 = .ok (.getfield 13, 3) := by decide +kernel
theorem dX9_ahead_9 : decode cX9_ahead 9 = .ok (.iconst 0, 1) := by decide +kernel
theorem dX9_ahead_10 : decode cX9_ahead 10 = .ok (.iaload, 1) := by decide +kernel
theorem dX9_ahead_11 : decode cX9_ahead 11 = .ok (.if_icmp .ge 89, 3) := by decide +kernel
theorem dX9_ahead_14 : decode cX9_ahead 14 = .ok (.aload_n 0, 1) := by decide +kernel
theorem dX9_ahead_15 : decode cX9_ahead 15 = .ok (.getfield 50, 3) := by decide +kernel
theorem dX9_ahead_18 : decode cX9_ahead 18 = .ok (.iload_n 1, 1) := by decide +kernel
theorem dX9_ahead_19 : decode cX9_ahead 19 = .ok (.iaload, 1) := by decide +kernel
theorem dX9_ahead_20 : decode cX9_ahead 20 = .ok (.ifCond .ne 25, 3) := by decide +kernel
theorem dX9_ahead_23 : decode cX9_ahead 23 = .ok (.aload_n 0, 1) := by decide +kernel
theorem dX9_ahead_24 : decode cX9_ahead 24 = .ok (.getfield 50, 3) := by decide +kernel
theorem dX9_ahead_27 : decode cX9_ahead 27 = .ok (.iload_n 3, 1) := by decide +kernel
theorem dX9_ahead_28 : decode cX9_ahead 28 = .ok (.iaload, 1) := by decide +kernel
theorem dX9_ahead_29 : decode cX9_ahead 29 = .ok (.ifCond .gt 8, 3) := by decide +kernel
theorem dX9_ahead_32 : decode cX9_ahead 32 = .ok (.iload_n 3, 1) := by decide +kernel
theorem dX9_ahead_33 : decode cX9_ahead 33 = .ok (.iload_n 1, 1) := by decide +kernel
theorem dX9_ahead_34 : decode cX9_ahead 34 = .ok (.if_icmp .ge 7, 3) := by decide +kernel
theorem dX9_ahead_37 : decode cX9_ahead 37 = .ok (.iconst 1, 1) := by decide +kernel
theorem dX9_ahead_38 : decode cX9_ahead 38 = .ok (.goto 36, 3) := by decide +kernel
theorem dX9_ahead_41 : decode cX9_ahead 41 = .ok (.iconst 0, 1) := by decide +kernel
theorem dX9_ahead_42 : decode cX9_ahead 42 = .ok (.goto 32, 3) := by decide +kernel
theorem dX9_ahead_45 : decode cX9_ahead 45 = .ok (.aload_n 0, 1) := by decide +kernel
theorem dX9_ahead_46 : decode cX9_ahead 46 = .ok (.getfield 50, 3) := by decide +kernel
theorem dX9_ahead_49 : decode cX9_ahead 49 = .ok (.iload_n 3, 1) := by decide +kernel
theorem dX9_ahead_50 : decode cX9_ahead 50 = .ok (.iaload, 1) := by decide +kernel
theorem dX9_ahead_51 : decode cX9_ahead 51 = .ok (.ifCond .le 22, 3) := by decide +kernel
theorem dX9_ahead_54 : decode cX9_ahead 54 = .ok (.aload_n 0, 1) := by decide +kernel
theorem dX9_ahead_55 : decode cX9_ahead 55 = .ok (.getfield 50, 3) := by decide +kernel
theorem dX9_ahead_58 : decode cX9_ahead 58 = .ok (.iload_n 3, 1) := by decide +kernel
theorem dX9_ahead_59 : decode cX9_ahead 59 = .ok (.iaload, 1) := by decide +kernel
theorem dX9_ahead_60 : decode cX9_ahead 60 = .ok (.aload_n 0, 1) := by decide +kernel
theorem dX9_ahead_61 : decode cX9_ahead 61 = .ok (.getfield 50, 3) := by decide +kernel
theorem dX9_ahead_64 : decode cX9_ahead 64 = .ok (.iload_n 1, 1) := by decide +kernel
theorem dX9_ahead_65 : decode cX9_ahead 65 = .ok (.iaload, 1) := by decide +kernel
theorem dX9_ahead_66 : decode cX9_ahead 66 = .ok (.if_icmp .ge 7, 3) := by decide +kernel
theorem dX9_ahead_69 : decode cX9_ahead 69 = .ok (.iconst 1, 1) := by decide +kernel
theorem dX9_ahead_70 : decode cX9_ahead 70 = .ok (.goto 4, 3) := by decide +kernel
theorem dX9_ahead_73 : decode cX9_ahead 73 = .ok (.iconst 0, 1) := by decide +kernel
theorem dX9_ahead_74 : decode cX9_ahead 74 = .ok (.istore 4, 2) := by decide +kernel
theorem dX9_ahead_76 : decode cX9_ahead 76 = .ok (.iload_n 2, 1) := by decide +kernel
theorem dX9_ahead_77 : decode cX9_ahead 77 = .ok (.iload_n 3, 1) := by decide +kernel
theorem dX9_ahead_78 : decode cX9_ahead 78 = .ok (.iload_n 1, 1) := by decide +kernel
theorem dX9_ahead_79 : decode cX9_ahead 79 = .ok (.if_icmp .eq 12, 3) := by decide +kernel
theorem dX9_ahead_82 : decode cX9_ahead 82 = .ok (.iload 4, 2) := by decide +kernel
theorem dX9_ahead_84 : decode cX9_ahead 84 = .ok (.ifCond .eq 7, 3) := by decide +kernel
theorem dX9_ahead_87 : decode cX9_ahead 87 = .ok (.iconst 1, 1) := by decide +kernel
theorem dX9_ahead_88 : decode cX9_ahead 88 = .ok (.goto 4, 3) := by decide +kernel
theorem dX9_ahead_91 : decode cX9_ahead 91 = .ok (.iconst 0, 1) := by decide +kernel
theorem dX9_ahead_92 : decode cX9_ahead 92 = .ok (.iadd, 1) := by decide +kernel
theorem dX9_ahead_93 : decode cX9_ahead 93 = .ok (.istore_n 2, 1) := by decide +kernel
theorem dX9_ahead_94 : decode cX9_ahead 94 = .ok (.iinc 3 1, 3) := by decide +kernel
theorem dX9_ahead_97 : decode cX9_ahead 97 = .ok (.goto (-93), 3) := by decide +kernel
theorem dX9_ahead_100 : decode cX9_ahead 100 = .ok (.iload_n 2, 1) := by decide +kernel
theorem dX9_ahead_101 : decode cX9_ahead 101 = .ok (.ireturn, 1) := by decide +kernel
theorem dX9_raftOf_0 : decode cX9_raftOf 0 = .ok (.iconst 0, 1) := by decide +kernel
theorem dX9_raftOf_1 : decode cX9_raftOf 1 = .ok (.istore_n 2, 1) := by decide +kernel
theorem dX9_raftOf_2 : decode cX9_raftOf 2 = .ok (.iload_n 2, 1) := by decide +kernel
theorem dX9_raftOf_3 : decode cX9_raftOf 3 = .ok (.iconst 3, 1) := by decide +kernel
theorem dX9_raftOf_4 : decode cX9_raftOf 4 = .ok (.aload_n 0, 1) := by decide +kernel
theorem dX9_raftOf_5 : decode cX9_raftOf 5 = .ok (.getfield 44, 3) := by decide +kernel
theorem dX9_raftOf_8 : decode cX9_raftOf 8 = .ok (.iconst 0, 1) := by decide +kernel
theorem dX9_raftOf_9 : decode cX9_raftOf 9 = .ok (.iaload, 1) := by decide +kernel
theorem dX9_raftOf_10 : decode cX9_raftOf 10 = .ok (.imul, 1) := by decide +kernel
theorem dX9_raftOf_11 : decode cX9_raftOf 11 = .ok (.if_icmp .ge 23, 3) := by decide +kernel
theorem dX9_raftOf_14 : decode cX9_raftOf 14 = .ok (.aload_n 0, 1) := by decide +kernel
theorem dX9_raftOf_15 : decode cX9_raftOf 15 = .ok (.getfield 47, 3) := by decide +kernel
theorem dX9_raftOf_18 : decode cX9_raftOf 18 = .ok (.iload_n 2, 1) := by decide +kernel
theorem dX9_raftOf_19 : decode cX9_raftOf 19 = .ok (.iaload, 1) := by decide +kernel
theorem dX9_raftOf_20 : decode cX9_raftOf 20 = .ok (.iload_n 1, 1) := by decide +kernel
theorem dX9_raftOf_21 : decode cX9_raftOf 21 = .ok (.if_icmp .ne 7, 3) := by decide +kernel
theorem dX9_raftOf_24 : decode cX9_raftOf 24 = .ok (.iload_n 2, 1) := by decide +kernel
theorem dX9_raftOf_25 : decode cX9_raftOf 25 = .ok (.iconst 3, 1) := by decide +kernel
theorem dX9_raftOf_26 : decode cX9_raftOf 26 = .ok (.idiv, 1) := by decide +kernel
theorem dX9_raftOf_27 : decode cX9_raftOf 27 = .ok (.ireturn, 1) := by decide +kernel
theorem dX9_raftOf_28 : decode cX9_raftOf 28 = .ok (.iinc 2 1, 3) := by decide +kernel
theorem dX9_raftOf_31 : decode cX9_raftOf 31 = .ok (.goto (-29), 3) := by decide +kernel
theorem dX9_raftOf_34 : decode cX9_raftOf 34 = .ok (.bipush (-4), 2) := by decide +kernel
theorem dX9_raftOf_36 : decode cX9_raftOf 36 = .ok (.ireturn, 1) := by decide +kernel
theorem dX9_beast_0 : decode cX9_beast 0 = .ok (.aload_n 0, 1) := by decide +kernel
theorem dX9_beast_1 : decode cX9_beast 1 = .ok (.iload_n 1, 1) := by decide +kernel
theorem dX9_beast_2 : decode cX9_beast 2 = .ok (.invokevirtual 152, 3) := by decide +kernel
theorem dX9_beast_5 : decode cX9_beast 5 = .ok (.ifCond .ne 5, 3) := by decide +kernel
theorem dX9_beast_8 : decode cX9_beast 8 = .ok (.iconst (-1), 1) := by decide +kernel
theorem dX9_beast_9 : decode cX9_beast 9 = .ok (.ireturn, 1) := by decide +kernel
theorem dX9_beast_10 : decode cX9_beast 10 = .ok (.iload_n 2, 1) := by decide +kernel
theorem dX9_beast_11 : decode cX9_beast 11 = .ok (.tableswitch 93 0 6 #[41, 48, 55, 62, 71, 81, 87], 41) := by decide +kernel
theorem dX9_beast_52 : decode cX9_beast 52 = .ok (.aload_n 0, 1) := by decide +kernel
theorem dX9_beast_53 : decode cX9_beast 53 = .ok (.getfield 17, 3) := by decide +kernel
theorem dX9_beast_56 : decode cX9_beast 56 = .ok (.iload_n 1, 1) := by decide +kernel
theorem dX9_beast_57 : decode cX9_beast 57 = .ok (.iaload, 1) := by decide +kernel
theorem dX9_beast_58 : decode cX9_beast 58 = .ok (.ireturn, 1) := by decide +kernel
theorem dX9_beast_59 : decode cX9_beast 59 = .ok (.aload_n 0, 1) := by decide +kernel
theorem dX9_beast_60 : decode cX9_beast 60 = .ok (.getfield 20, 3) := by decide +kernel
theorem dX9_beast_63 : decode cX9_beast 63 = .ok (.iload_n 1, 1) := by decide +kernel
theorem dX9_beast_64 : decode cX9_beast 64 = .ok (.iaload, 1) := by decide +kernel
theorem dX9_beast_65 : decode cX9_beast 65 = .ok (.ireturn, 1) := by decide +kernel
theorem dX9_beast_66 : decode cX9_beast 66 = .ok (.aload_n 0, 1) := by decide +kernel
theorem dX9_beast_67 : decode cX9_beast 67 = .ok (.getfield 23, 3) := by decide +kernel
theorem dX9_beast_70 : decode cX9_beast 70 = .ok (.iload_n 1, 1) := by decide +kernel
theorem dX9_beast_71 : decode cX9_beast 71 = .ok (.iaload, 1) := by decide +kernel
theorem dX9_beast_72 : decode cX9_beast 72 = .ok (.ireturn, 1) := by decide +kernel
theorem dX9_beast_73 : decode cX9_beast 73 = .ok (.aload_n 0, 1) := by decide +kernel
theorem dX9_beast_74 : decode cX9_beast 74 = .ok (.getfield 62, 3) := by decide +kernel
theorem dX9_beast_77 : decode cX9_beast 77 = .ok (.iconst 0, 1) := by decide +kernel
theorem dX9_beast_78 : decode cX9_beast 78 = .ok (.iload_n 1, 1) := by decide +kernel
theorem dX9_beast_79 : decode cX9_beast 79 = .ok (.iadd, 1) := by decide +kernel
theorem dX9_beast_80 : decode cX9_beast 80 = .ok (.iaload, 1) := by decide +kernel
theorem dX9_beast_81 : decode cX9_beast 81 = .ok (.ireturn, 1) := by decide +kernel
theorem dX9_beast_82 : decode cX9_beast 82 = .ok (.aload_n 0, 1) := by decide +kernel
theorem dX9_beast_83 : decode cX9_beast 83 = .ok (.getfield 62, 3) := by decide +kernel
theorem dX9_beast_86 : decode cX9_beast 86 = .ok (.bipush 8, 2) := by decide +kernel
theorem dX9_beast_88 : decode cX9_beast 88 = .ok (.iload_n 1, 1) := by decide +kernel
theorem dX9_beast_89 : decode cX9_beast 89 = .ok (.iadd, 1) := by decide +kernel
theorem dX9_beast_90 : decode cX9_beast 90 = .ok (.iaload, 1) := by decide +kernel
theorem dX9_beast_91 : decode cX9_beast 91 = .ok (.ireturn, 1) := by decide +kernel
theorem dX9_beast_92 : decode cX9_beast 92 = .ok (.aload_n 0, 1) := by decide +kernel
theorem dX9_beast_93 : decode cX9_beast 93 = .ok (.iload_n 1, 1) := by decide +kernel
theorem dX9_beast_94 : decode cX9_beast 94 = .ok (.invokevirtual 156, 3) := by decide +kernel
theorem dX9_beast_97 : decode cX9_beast 97 = .ok (.ireturn, 1) := by decide +kernel
theorem dX9_beast_98 : decode cX9_beast 98 = .ok (.aload_n 0, 1) := by decide +kernel
theorem dX9_beast_99 : decode cX9_beast 99 = .ok (.iload_n 1, 1) := by decide +kernel
theorem dX9_beast_100 : decode cX9_beast 100 = .ok (.invokevirtual 159, 3) := by decide +kernel
theorem dX9_beast_103 : decode cX9_beast 103 = .ok (.ireturn, 1) := by decide +kernel
theorem dX9_beast_104 : decode cX9_beast 104 = .ok (.iconst (-1), 1) := by decide +kernel
theorem dX9_beast_105 : decode cX9_beast 105 = .ok (.ireturn, 1) := by decide +kernel
theorem dX9_currentIn_0 : decode cX9_currentIn 0 = .ok (.iconst (-1), 1) := by decide +kernel
theorem dX9_currentIn_1 : decode cX9_currentIn 1 = .ok (.istore_n 2, 1) := by decide +kernel
theorem dX9_currentIn_2 : decode cX9_currentIn 2 = .ok (.iconst 0, 1) := by decide +kernel
theorem dX9_currentIn_3 : decode cX9_currentIn 3 = .ok (.istore_n 3, 1) := by decide +kernel
theorem dX9_currentIn_4 : decode cX9_currentIn 4 = .ok (.iconst 0, 1) := by decide +kernel
theorem dX9_currentIn_5 : decode cX9_currentIn 5 = .ok (.istore 4, 2) := by decide +kernel
theorem dX9_currentIn_7 : decode cX9_currentIn 7 = .ok (.iload 4, 2) := by decide +kernel
theorem dX9_currentIn_9 : decode cX9_currentIn 9 = .ok (.aload_n 0, 1) := by decide +kernel
theorem dX9_currentIn_10 : decode cX9_currentIn 10 = .ok (.getfield 32, 3) := by decide +kernel
theorem dX9_currentIn_13 : decode cX9_currentIn 13 = .ok (.iconst 0, 1) := by decide +kernel
theorem dX9_currentIn_14 : decode cX9_currentIn 14 = .ok (.iaload, 1) := by decide +kernel
theorem dX9_currentIn_15 : decode cX9_currentIn 15 = .ok (.if_icmp .ge 47, 3) := by decide +kernel
theorem dX9_currentIn_18 : decode cX9_currentIn 18 = .ok (.aload_n 0, 1) := by decide +kernel
theorem dX9_currentIn_19 : decode cX9_currentIn 19 = .ok (.getfield 35, 3) := by decide +kernel
theorem dX9_currentIn_22 : decode cX9_currentIn 22 = .ok (.iload 4, 2) := by decide +kernel
theorem dX9_currentIn_24 : decode cX9_currentIn 24 = .ok (.iaload, 1) := by decide +kernel
theorem dX9_currentIn_25 : decode cX9_currentIn 25 = .ok (.iload_n 1, 1) := by decide +kernel
theorem dX9_currentIn_26 : decode cX9_currentIn 26 = .ok (.if_icmp .gt 30, 3) := by decide +kernel
theorem dX9_currentIn_29 : decode cX9_currentIn 29 = .ok (.aload_n 0, 1) := by decide +kernel
theorem dX9_currentIn_30 : decode cX9_currentIn 30 = .ok (.getfield 35, 3) := by decide +kernel
theorem dX9_currentIn_33 : decode cX9_currentIn 33 = .ok (.iload 4, 2) := by decide +kernel
theorem dX9_currentIn_35 : decode cX9_currentIn 35 = .ok (.iaload, 1) := by decide +kernel
theorem dX9_currentIn_36 : decode cX9_currentIn 36 = .ok (.iload_n 2, 1) := by decide +kernel
theorem dX9_currentIn_37 : decode cX9_currentIn 37 = .ok (.if_icmp .lt 19, 3) := by decide +kernel
theorem dX9_currentIn_40 : decode cX9_currentIn 40 = .ok (.aload_n 0, 1) := by decide +kernel
theorem dX9_currentIn_41 : decode cX9_currentIn 41 = .ok (.getfield 35, 3) := by decide +kernel
theorem dX9_currentIn_44 : decode cX9_currentIn 44 = .ok (.iload 4, 2) := by decide +kernel
theorem dX9_currentIn_46 : decode cX9_currentIn 46 = .ok (.iaload, 1) := by decide +kernel
theorem dX9_currentIn_47 : decode cX9_currentIn 47 = .ok (.istore_n 2, 1) := by decide +kernel
theorem dX9_currentIn_48 : decode cX9_currentIn 48 = .ok (.aload_n 0, 1) := by decide +kernel
theorem dX9_currentIn_49 : decode cX9_currentIn 49 = .ok (.getfield 38, 3) := by decide +kernel
theorem dX9_currentIn_52 : decode cX9_currentIn 52 = .ok (.iload 4, 2) := by decide +kernel
theorem dX9_currentIn_54 : decode cX9_currentIn 54 = .ok (.iaload, 1) := by decide +kernel
theorem dX9_currentIn_55 : decode cX9_currentIn 55 = .ok (.istore_n 3, 1) := by decide +kernel
theorem dX9_currentIn_56 : decode cX9_currentIn 56 = .ok (.iinc 4 1, 3) := by decide +kernel
theorem dX9_currentIn_59 : decode cX9_currentIn 59 = .ok (.goto (-52), 3) := by decide +kernel
theorem dX9_currentIn_62 : decode cX9_currentIn 62 = .ok (.iload_n 3, 1) := by decide +kernel
theorem dX9_currentIn_63 : decode cX9_currentIn 63 = .ok (.ireturn, 1) := by decide +kernel
theorem dX9_current_0 : decode cX9_current 0 = .ok (.iload_n 1, 1) := by decide +kernel
theorem dX9_current_1 : decode cX9_current 1 = .ok (.iconst 1, 1) := by decide +kernel
theorem dX9_current_2 : decode cX9_current 2 = .ok (.sipush 200, 3) := by decide +kernel
theorem dX9_current_5 : decode cX9_current 5 = .ok (.invokestatic 93, 3) := by decide +kernel
theorem dX9_current_8 : decode cX9_current 8 = .ok (.ifCond .eq 11, 3) := by decide +kernel
theorem dX9_current_11 : decode cX9_current 11 = .ok (.aload_n 0, 1) := by decide +kernel
theorem dX9_current_12 : decode cX9_current 12 = .ok (.iload_n 1, 1) := by decide +kernel
theorem dX9_current_13 : decode cX9_current 13 = .ok (.invokevirtual 162, 3) := by decide +kernel
theorem dX9_current_16 : decode cX9_current 16 = .ok (.goto 4, 3) := by decide +kernel
theorem dX9_current_19 : decode cX9_current 19 = .ok (.iconst (-1), 1) := by decide +kernel
theorem dX9_current_20 : decode cX9_current 20 = .ok (.ireturn, 1) := by decide +kernel
theorem dX9_takesIn_0 : decode cX9_takesIn 0 = .ok (.aload_n 0, 1) := by decide +kernel
theorem dX9_takesIn_1 : decode cX9_takesIn 1 = .ok (.getfield 165, 3) := by decide +kernel
theorem dX9_takesIn_4 : decode cX9_takesIn 4 = .ok (.ifCond .ge 9, 3) := by decide +kernel
theorem dX9_takesIn_7 : decode cX9_takesIn 7 = .ok (.aload_n 0, 1) := by decide +kernel
theorem dX9_takesIn_8 : decode cX9_takesIn 8 = .ok (.iload_n 1, 1) := by decide +kernel
theorem dX9_takesIn_9 : decode cX9_takesIn 9 = .ok (.invokevirtual 162, 3) := by decide +kernel
theorem dX9_takesIn_12 : decode cX9_takesIn 12 = .ok (.ireturn, 1) := by decide +kernel
theorem dX9_takesIn_13 : decode cX9_takesIn 13 = .ok (.ldc2_w 168, 3) := by decide +kernel
theorem dX9_takesIn_16 : decode cX9_takesIn 16 = .ok (.aload_n 0, 1) := by decide +kernel
theorem dX9_takesIn_17 : decode cX9_takesIn 17 = .ok (.getfield 165, 3) := by decide +kernel
theorem dX9_takesIn_20 : decode cX9_takesIn 20 = .ok (.i2l, 1) := by decide +kernel
theorem dX9_takesIn_21 : decode cX9_takesIn 21 = .ok (.lmul, 1) := by decide +kernel
theorem dX9_takesIn_22 : decode cX9_takesIn 22 = .ok (.ldc2_w 170, 3) := by decide +kernel
theorem dX9_takesIn_25 : decode cX9_takesIn 25 = .ok (.iload_n 1, 1) := by decide +kernel
theorem dX9_takesIn_26 : decode cX9_takesIn 26 = .ok (.i2l, 1) := by decide +kernel
theorem dX9_takesIn_27 : decode cX9_takesIn 27 = .ok (.lmul, 1) := by decide +kernel
theorem dX9_takesIn_28 : decode cX9_takesIn 28 = .ok (.ladd, 1) := by decide +kernel
theorem dX9_takesIn_29 : decode cX9_takesIn 29 = .ok (.lconst 1, 1) := by decide +kernel
theorem dX9_takesIn_30 : decode cX9_takesIn 30 = .ok (.ladd, 1) := by decide +kernel
theorem dX9_takesIn_31 : decode cX9_takesIn 31 = .ok (.lstore_n 2, 1) := by decide +kernel
theorem dX9_takesIn_32 : decode cX9_takesIn 32 = .ok (.lload_n 2, 1) := by decide +kernel
theorem dX9_takesIn_33 : decode cX9_takesIn 33 = .ok (.lload_n 2, 1) := by decide +kernel
theorem dX9_takesIn_34 : decode cX9_takesIn 34 = .ok (.lmul, 1) := by decide +kernel
theorem dX9_takesIn_35 : decode cX9_takesIn 35 = .ok (.ldc2_w 172, 3) := by decide +kernel
theorem dX9_takesIn_38 : decode cX9_takesIn 38 = .ok (.lrem, 1) := by decide +kernel
theorem dX9_takesIn_39 : decode cX9_takesIn 39 = .ok (.ldc2_w 174, 3) := by decide +kernel
theorem dX9_takesIn_42 : decode cX9_takesIn 42 = .ok (.lrem, 1) := by decide +kernel
theorem dX9_takesIn_43 : decode cX9_takesIn 43 = .ok (.l2i, 1) := by decide +kernel
theorem dX9_takesIn_44 : decode cX9_takesIn 44 = .ok (.ireturn, 1) := by decide +kernel
theorem dX9_hasHelp_0 : decode cX9_hasHelp 0 = .ok (.iconst 0, 1) := by decide +kernel
theorem dX9_hasHelp_1 : decode cX9_hasHelp 1 = .ok (.istore_n 3, 1) := by decide +kernel
theorem dX9_hasHelp_2 : decode cX9_hasHelp 2 = .ok (.iconst 0, 1) := by decide +kernel
theorem dX9_hasHelp_3 : decode cX9_hasHelp 3 = .ok (.istore 4, 2) := by decide +kernel
theorem dX9_hasHelp_5 : decode cX9_hasHelp 5 = .ok (.iload 4, 2) := by decide +kernel
theorem dX9_hasHelp_7 : decode cX9_hasHelp 7 = .ok (.aload_n 0, 1) := by decide +kernel
theorem dX9_hasHelp_8 : decode cX9_hasHelp 8 = .ok (.getfield 13, 3) := by decide +kernel
theorem dX9_hasHelp_11 : decode cX9_hasHelp 11 = .ok (.iconst 0, 1) := by decide +kernel
theorem dX9_hasHelp_12 : decode cX9_hasHelp 12 = .ok (.iaload, 1) := by decide +kernel
theorem dX9_hasHelp_13 : decode cX9_hasHelp 13 = .ok (.if_icmp .ge 45, 3) := by decide +kernel
theorem dX9_hasHelp_16 : decode cX9_hasHelp 16 = .ok (.iload_n 3, 1) := by decide +kernel
theorem dX9_hasHelp_17 : decode cX9_hasHelp 17 = .ok (.ifCond .ne 29, 3) := by decide +kernel
theorem dX9_hasHelp_20 : decode cX9_hasHelp 20 = .ok (.aload_n 0, 1) := by decide +kernel
theorem dX9_hasHelp_21 : decode cX9_hasHelp 21 = .ok (.getfield 23, 3) := by decide +kernel
theorem dX9_hasHelp_24 : decode cX9_hasHelp 24 = .ok (.iload 4, 2) := by decide +kernel
theorem dX9_hasHelp_26 : decode cX9_hasHelp 26 = .ok (.iaload, 1) := by decide +kernel
theorem dX9_hasHelp_27 : decode cX9_hasHelp 27 = .ok (.iconst 2, 1) := by decide +kernel
theorem dX9_hasHelp_28 : decode cX9_hasHelp 28 = .ok (.if_icmp .ne 22, 3) := by decide +kernel
theorem dX9_hasHelp_31 : decode cX9_hasHelp 31 = .ok (.aload_n 0, 1) := by decide +kernel
theorem dX9_hasHelp_32 : decode cX9_hasHelp 32 = .ok (.getfield 62, 3) := by decide +kernel
theorem dX9_hasHelp_35 : decode cX9_hasHelp 35 = .ok (.iload_n 1, 1) := by decide +kernel
theorem dX9_hasHelp_36 : decode cX9_hasHelp 36 = .ok (.iconst 0, 1) := by decide +kernel
theorem dX9_hasHelp_37 : decode cX9_hasHelp 37 = .ok (.iadd, 1) := by decide +kernel
theorem dX9_hasHelp_38 : decode cX9_hasHelp 38 = .ok (.iload 4, 2) := by decide +kernel
theorem dX9_hasHelp_40 : decode cX9_hasHelp 40 = .ok (.iadd, 1) := by decide +kernel
theorem dX9_hasHelp_41 : decode cX9_hasHelp 41 = .ok (.iaload, 1) := by decide +kernel
theorem dX9_hasHelp_42 : decode cX9_hasHelp 42 = .ok (.iload_n 2, 1) := by decide +kernel
theorem dX9_hasHelp_43 : decode cX9_hasHelp 43 = .ok (.if_icmp .ge 7, 3) := by decide +kernel
theorem dX9_hasHelp_46 : decode cX9_hasHelp 46 = .ok (.iconst 1, 1) := by decide +kernel
theorem dX9_hasHelp_47 : decode cX9_hasHelp 47 = .ok (.goto 4, 3) := by decide +kernel
theorem dX9_hasHelp_50 : decode cX9_hasHelp 50 = .ok (.iconst 0, 1) := by decide +kernel
theorem dX9_hasHelp_51 : decode cX9_hasHelp 51 = .ok (.istore_n 3, 1) := by decide +kernel
theorem dX9_hasHelp_52 : decode cX9_hasHelp 52 = .ok (.iinc 4 1, 3) := by decide +kernel
theorem dX9_hasHelp_55 : decode cX9_hasHelp 55 = .ok (.goto (-50), 3) := by decide +kernel
theorem dX9_hasHelp_58 : decode cX9_hasHelp 58 = .ok (.iload_n 3, 1) := by decide +kernel
theorem dX9_hasHelp_59 : decode cX9_hasHelp 59 = .ok (.ifCond .eq 19, 3) := by decide +kernel
theorem dX9_hasHelp_62 : decode cX9_hasHelp 62 = .ok (.iload_n 2, 1) := by decide +kernel
theorem dX9_hasHelp_63 : decode cX9_hasHelp 63 = .ok (.iconst 1, 1) := by decide +kernel
theorem dX9_hasHelp_64 : decode cX9_hasHelp 64 = .ok (.if_icmp .le 14, 3) := by decide +kernel
theorem dX9_hasHelp_67 : decode cX9_hasHelp 67 = .ok (.iload_n 2, 1) := by decide +kernel
theorem dX9_hasHelp_68 : decode cX9_hasHelp 68 = .ok (.iconst 5, 1) := by decide +kernel
theorem dX9_hasHelp_69 : decode cX9_hasHelp 69 = .ok (.irem, 1) := by decide +kernel
theorem dX9_hasHelp_70 : decode cX9_hasHelp 70 = .ok (.iconst 1, 1) := by decide +kernel
theorem dX9_hasHelp_71 : decode cX9_hasHelp 71 = .ok (.if_icmp .ne 7, 3) := by decide +kernel
theorem dX9_hasHelp_74 : decode cX9_hasHelp 74 = .ok (.iconst 1, 1) := by decide +kernel
theorem dX9_hasHelp_75 : decode cX9_hasHelp 75 = .ok (.goto 4, 3) := by decide +kernel
theorem dX9_hasHelp_78 : decode cX9_hasHelp 78 = .ok (.iconst 0, 1) := by decide +kernel
theorem dX9_hasHelp_79 : decode cX9_hasHelp 79 = .ok (.ireturn, 1) := by decide +kernel
theorem dX9_strokeOf_0 : decode cX9_strokeOf 0 = .ok (.aload_n 0, 1) := by decide +kernel
theorem dX9_strokeOf_1 : decode cX9_strokeOf 1 = .ok (.getfield 62, 3) := by decide +kernel
theorem dX9_strokeOf_4 : decode cX9_strokeOf 4 = .ok (.iload_n 1, 1) := by decide +kernel
theorem dX9_strokeOf_5 : decode cX9_strokeOf 5 = .ok (.iconst 0, 1) := by decide +kernel
theorem dX9_strokeOf_6 : decode cX9_strokeOf 6 = .ok (.iadd, 1) := by decide +kernel
theorem dX9_strokeOf_7 : decode cX9_strokeOf 7 = .ok (.iload_n 2, 1) := by decide +kernel
theorem dX9_strokeOf_8 : decode cX9_strokeOf 8 = .ok (.iadd, 1) := by decide +kernel
theorem dX9_strokeOf_9 : decode cX9_strokeOf 9 = .ok (.iaload, 1) := by decide +kernel
theorem dX9_strokeOf_10 : decode cX9_strokeOf 10 = .ok (.istore 6, 2) := by decide +kernel
theorem dX9_strokeOf_12 : decode cX9_strokeOf 12 = .ok (.aload_n 0, 1) := by decide +kernel
theorem dX9_strokeOf_13 : decode cX9_strokeOf 13 = .ok (.getfield 23, 3) := by decide +kernel
theorem dX9_strokeOf_16 : decode cX9_strokeOf 16 = .ok (.iload_n 2, 1) := by decide +kernel
theorem dX9_strokeOf_17 : decode cX9_strokeOf 17 = .ok (.iaload, 1) := by decide +kernel
theorem dX9_strokeOf_18 : decode cX9_strokeOf 18 = .ok (.iconst 2, 1) := by decide +kernel
theorem dX9_strokeOf_19 : decode cX9_strokeOf 19 = .ok (.if_icmp .ne 9, 3) := by decide +kernel
theorem dX9_strokeOf_22 : decode cX9_strokeOf 22 = .ok (.iload_n 3, 1) := by decide +kernel
theorem dX9_strokeOf_23 : decode cX9_strokeOf 23 = .ok (.iconst 5, 1) := by decide +kernel
theorem dX9_strokeOf_24 : decode cX9_strokeOf 24 = .ok (.irem, 1) := by decide +kernel
theorem dX9_strokeOf_25 : decode cX9_strokeOf 25 = .ok (.ifCond .eq 21, 3) := by decide +kernel
theorem dX9_strokeOf_28 : decode cX9_strokeOf 28 = .ok (.aload_n 0, 1) := by decide +kernel
theorem dX9_strokeOf_29 : decode cX9_strokeOf 29 = .ok (.getfield 23, 3) := by decide +kernel
theorem dX9_strokeOf_32 : decode cX9_strokeOf 32 = .ok (.iload_n 2, 1) := by decide +kernel
theorem dX9_strokeOf_33 : decode cX9_strokeOf 33 = .ok (.iaload, 1) := by decide +kernel
theorem dX9_strokeOf_34 : decode cX9_strokeOf 34 = .ok (.iconst 3, 1) := by decide +kernel
theorem dX9_strokeOf_35 : decode cX9_strokeOf 35 = .ok (.if_icmp .ne 15, 3) := by decide +kernel
theorem dX9_strokeOf_38 : decode cX9_strokeOf 38 = .ok (.iload_n 3, 1) := by decide +kernel
theorem dX9_strokeOf_39 : decode cX9_strokeOf 39 = .ok (.iload 6, 2) := by decide +kernel
theorem dX9_strokeOf_41 : decode cX9_strokeOf 41 = .ok (.iconst 3, 1) := by decide +kernel
theorem dX9_strokeOf_42 : decode cX9_strokeOf 42 = .ok (.iadd, 1) := by decide +kernel
theorem dX9_strokeOf_43 : decode cX9_strokeOf 43 = .ok (.if_icmp .gt 7, 3) := by decide +kernel
theorem dX9_strokeOf_46 : decode cX9_strokeOf 46 = .ok (.iconst 1, 1) := by decide +kernel
theorem dX9_strokeOf_47 : decode cX9_strokeOf 47 = .ok (.goto 4, 3) := by decide +kernel
theorem dX9_strokeOf_50 : decode cX9_strokeOf 50 = .ok (.iconst 0, 1) := by decide +kernel
theorem dX9_strokeOf_51 : decode cX9_strokeOf 51 = .ok (.istore 7, 2) := by decide +kernel
theorem dX9_strokeOf_53 : decode cX9_strokeOf 53 = .ok (.iload 6, 2) := by decide +kernel
theorem dX9_strokeOf_55 : decode cX9_strokeOf 55 = .ok (.iload_n 3, 1) := by decide +kernel
theorem dX9_strokeOf_56 : decode cX9_strokeOf 56 = .ok (.if_icmp .ge 8, 3) := by decide +kernel
theorem dX9_strokeOf_59 : decode cX9_strokeOf 59 = .ok (.iload 7, 2) := by decide +kernel
theorem dX9_strokeOf_61 : decode cX9_strokeOf 61 = .ok (.ifCond .eq 5, 3) := by decide +kernel
theorem dX9_strokeOf_64 : decode cX9_strokeOf 64 = .ok (.iconst 0, 1) := by decide +kernel
theorem dX9_strokeOf_65 : decode cX9_strokeOf 65 = .ok (.ireturn, 1) := by decide +kernel
theorem dX9_strokeOf_66 : decode cX9_strokeOf 66 = .ok (.iconst 0, 1) := by decide +kernel
theorem dX9_strokeOf_67 : decode cX9_strokeOf 67 = .ok (.istore 8, 2) := by decide +kernel
theorem dX9_strokeOf_69 : decode cX9_strokeOf 69 = .ok (.iconst 0, 1) := by decide +kernel
theorem dX9_strokeOf_70 : decode cX9_strokeOf 70 = .ok (.istore 9, 2) := by decide +kernel
theorem dX9_strokeOf_72 : decode cX9_strokeOf 72 = .ok (.iload 9, 2) := by decide +kernel
theorem dX9_strokeOf_74 : decode cX9_strokeOf 74 = .ok (.aload_n 0, 1) := by decide +kernel
theorem dX9_strokeOf_75 : decode cX9_strokeOf 75 = .ok (.getfield 13, 3) := by decide +kernel
theorem dX9_strokeOf_78 : decode cX9_strokeOf 78 = .ok (.iconst 0, 1) := by decide +kernel
theorem dX9_strokeOf_79 : decode cX9_strokeOf 79 = .ok (.iaload, 1) := by decide +kernel
theorem dX9_strokeOf_80 : decode cX9_strokeOf 80 = .ok (.if_icmp .ge 41, 3) := by decide +kernel
theorem dX9_strokeOf_83 : decode cX9_strokeOf 83 = .ok (.iload 8, 2) := by decide +kernel
theorem dX9_strokeOf_85 : decode cX9_strokeOf 85 = .ok (.aload_n 0, 1) := by decide +kernel
theorem dX9_strokeOf_86 : decode cX9_strokeOf 86 = .ok (.getfield 62, 3) := by decide +kernel
theorem dX9_strokeOf_89 : decode cX9_strokeOf 89 = .ok (.iload_n 1, 1) := by decide +kernel
theorem dX9_strokeOf_90 : decode cX9_strokeOf 90 = .ok (.bipush 8, 2) := by decide +kernel
theorem dX9_strokeOf_92 : decode cX9_strokeOf 92 = .ok (.iadd, 1) := by decide +kernel
theorem dX9_strokeOf_93 : decode cX9_strokeOf 93 = .ok (.iload 9, 2) := by decide +kernel
theorem dX9_strokeOf_95 : decode cX9_strokeOf 95 = .ok (.iadd, 1) := by decide +kernel
theorem dX9_strokeOf_96 : decode cX9_strokeOf 96 = .ok (.iaload, 1) := by decide +kernel
theorem dX9_strokeOf_97 : decode cX9_strokeOf 97 = .ok (.iload_n 2, 1) := by decide +kernel
theorem dX9_strokeOf_98 : decode cX9_strokeOf 98 = .ok (.if_icmp .ne 13, 3) := by decide +kernel
theorem dX9_strokeOf_101 : decode cX9_strokeOf 101 = .ok (.aload_n 0, 1) := by decide +kernel
theorem dX9_strokeOf_102 : decode cX9_strokeOf 102 = .ok (.getfield 20, 3) := by decide +kernel
theorem dX9_strokeOf_105 : decode cX9_strokeOf 105 = .ok (.iload 9, 2) := by decide +kernel
theorem dX9_strokeOf_107 : decode cX9_strokeOf 107 = .ok (.iaload, 1) := by decide +kernel
theorem dX9_strokeOf_108 : decode cX9_strokeOf 108 = .ok (.goto 4, 3) := by decide +kernel
theorem dX9_strokeOf_111 : decode cX9_strokeOf 111 = .ok (.iconst 0, 1) := by decide +kernel
theorem dX9_strokeOf_112 : decode cX9_strokeOf 112 = .ok (.iadd, 1) := by decide +kernel
theorem dX9_strokeOf_113 : decode cX9_strokeOf 113 = .ok (.istore 8, 2) := by decide +kernel
theorem dX9_strokeOf_115 : decode cX9_strokeOf 115 = .ok (.iinc 9 1, 3) := by decide +kernel
theorem dX9_strokeOf_118 : decode cX9_strokeOf 118 = .ok (.goto (-46), 3) := by decide +kernel
theorem dX9_strokeOf_121 : decode cX9_strokeOf 121 = .ok (.iload 5, 2) := by decide +kernel
theorem dX9_strokeOf_123 : decode cX9_strokeOf 123 = .ok (.ifCond .eq 17, 3) := by decide +kernel
theorem dX9_strokeOf_126 : decode cX9_strokeOf 126 = .ok (.aload_n 0, 1) := by decide +kernel
theorem dX9_strokeOf_127 : decode cX9_strokeOf 127 = .ok (.getfield 23, 3) := by decide +kernel
theorem dX9_strokeOf_130 : decode cX9_strokeOf 130 = .ok (.iload_n 2, 1) := by decide +kernel
theorem dX9_strokeOf_131 : decode cX9_strokeOf 131 = .ok (.iaload, 1) := by decide +kernel
theorem dX9_strokeOf_132 : decode cX9_strokeOf 132 = .ok (.iconst 2, 1) := by decide +kernel
theorem dX9_strokeOf_133 : decode cX9_strokeOf 133 = .ok (.if_icmp .eq 7, 3) := by decide +kernel
theorem dX9_strokeOf_136 : decode cX9_strokeOf 136 = .ok (.iconst 0, 1) := by decide +kernel
theorem dX9_strokeOf_137 : decode cX9_strokeOf 137 = .ok (.goto 5, 3) := by decide +kernel
theorem dX9_strokeOf_140 : decode cX9_strokeOf 140 = .ok (.iload 4, 2) := by decide +kernel
theorem dX9_strokeOf_142 : decode cX9_strokeOf 142 = .ok (.istore 9, 2) := by decide +kernel
theorem dX9_strokeOf_144 : decode cX9_strokeOf 144 = .ok (.iload 9, 2) := by decide +kernel
theorem dX9_strokeOf_146 : decode cX9_strokeOf 146 = .ok (.aload_n 0, 1) := by decide +kernel
theorem dX9_strokeOf_147 : decode cX9_strokeOf 147 = .ok (.getfield 23, 3) := by decide +kernel
theorem dX9_strokeOf_150 : decode cX9_strokeOf 150 = .ok (.iload_n 2, 1) := by decide +kernel
theorem dX9_strokeOf_151 : decode cX9_strokeOf 151 = .ok (.iaload, 1) := by decide +kernel
theorem dX9_strokeOf_152 : decode cX9_strokeOf 152 = .ok (.iconst 1, 1) := by decide +kernel
theorem dX9_strokeOf_153 : decode cX9_strokeOf 153 = .ok (.if_icmp .ne 12, 3) := by decide +kernel
theorem dX9_strokeOf_156 : decode cX9_strokeOf 156 = .ok (.iload 9, 2) := by decide +kernel
theorem dX9_strokeOf_158 : decode cX9_strokeOf 158 = .ok (.ifCond .le 7, 3) := by decide +kernel
theorem dX9_strokeOf_161 : decode cX9_strokeOf 161 = .ok (.iconst 1, 1) := by decide +kernel
theorem dX9_strokeOf_162 : decode cX9_strokeOf 162 = .ok (.goto 4, 3) := by decide +kernel
theorem dX9_strokeOf_165 : decode cX9_strokeOf 165 = .ok (.iconst 0, 1) := by decide +kernel
theorem dX9_strokeOf_166 : decode cX9_strokeOf 166 = .ok (.isub, 1) := by decide +kernel
theorem dX9_strokeOf_167 : decode cX9_strokeOf 167 = .ok (.istore 9, 2) := by decide +kernel
theorem dX9_strokeOf_169 : decode cX9_strokeOf 169 = .ok (.aload_n 0, 1) := by decide +kernel
theorem dX9_strokeOf_170 : decode cX9_strokeOf 170 = .ok (.getfield 17, 3) := by decide +kernel
theorem dX9_strokeOf_173 : decode cX9_strokeOf 173 = .ok (.iload_n 2, 1) := by decide +kernel
theorem dX9_strokeOf_174 : decode cX9_strokeOf 174 = .ok (.iaload, 1) := by decide +kernel
theorem dX9_strokeOf_175 : decode cX9_strokeOf 175 = .ok (.iload 9, 2) := by decide +kernel
theorem dX9_strokeOf_177 : decode cX9_strokeOf 177 = .ok (.isub, 1) := by decide +kernel
theorem dX9_strokeOf_178 : decode cX9_strokeOf 178 = .ok (.iload 8, 2) := by decide +kernel
theorem dX9_strokeOf_180 : decode cX9_strokeOf 180 = .ok (.iconst 3, 1) := by decide +kernel
theorem dX9_strokeOf_181 : decode cX9_strokeOf 181 = .ok (.idiv, 1) := by decide +kernel
theorem dX9_strokeOf_182 : decode cX9_strokeOf 182 = .ok (.isub, 1) := by decide +kernel
theorem dX9_strokeOf_183 : decode cX9_strokeOf 183 = .ok (.istore 10, 2) := by decide +kernel
theorem dX9_strokeOf_185 : decode cX9_strokeOf 185 = .ok (.iload 10, 2) := by decide +kernel
theorem dX9_strokeOf_187 : decode cX9_strokeOf 187 = .ok (.iconst 1, 1) := by decide +kernel
theorem dX9_strokeOf_188 : decode cX9_strokeOf 188 = .ok (.if_icmp .ge 7, 3) := by decide +kernel
theorem dX9_strokeOf_191 : decode cX9_strokeOf 191 = .ok (.iconst 1, 1) := by decide +kernel
theorem dX9_strokeOf_192 : decode cX9_strokeOf 192 = .ok (.goto 5, 3) := by decide +kernel
theorem dX9_strokeOf_195 : decode cX9_strokeOf 195 = .ok (.iload 10, 2) := by decide +kernel
theorem dX9_strokeOf_197 : decode cX9_strokeOf 197 = .ok (.ireturn, 1) := by decide +kernel
theorem dX9_raftStroke_0 : decode cX9_raftStroke 0 = .ok (.iconst 0, 1) := by decide +kernel
theorem dX9_raftStroke_1 : decode cX9_raftStroke 1 = .ok (.istore 5, 2) := by decide +kernel
theorem dX9_raftStroke_3 : decode cX9_raftStroke 3 = .ok (.iconst 3, 1) := by decide +kernel
theorem dX9_raftStroke_4 : decode cX9_raftStroke 4 = .ok (.iload_n 2, 1) := by decide +kernel
theorem dX9_raftStroke_5 : decode cX9_raftStroke 5 = .ok (.imul, 1) := by decide +kernel
theorem dX9_raftStroke_6 : decode cX9_raftStroke 6 = .ok (.istore 6, 2) := by decide +kernel
theorem dX9_raftStroke_8 : decode cX9_raftStroke 8 = .ok (.iload 6, 2) := by decide +kernel
theorem dX9_raftStroke_10 : decode cX9_raftStroke 10 = .ok (.iconst 3, 1) := by decide +kernel
theorem dX9_raftStroke_11 : decode cX9_raftStroke 11 = .ok (.iload_n 2, 1) := by decide +kernel
theorem dX9_raftStroke_12 : decode cX9_raftStroke 12 = .ok (.imul, 1) := by decide +kernel
theorem dX9_raftStroke_13 : decode cX9_raftStroke 13 = .ok (.iconst 3, 1) := by decide +kernel
theorem dX9_raftStroke_14 : decode cX9_raftStroke 14 = .ok (.iadd, 1) := by decide +kernel
theorem dX9_raftStroke_15 : decode cX9_raftStroke 15 = .ok (.if_icmp .ge 48, 3) := by decide +kernel
theorem dX9_raftStroke_18 : decode cX9_raftStroke 18 = .ok (.aload_n 0, 1) := by decide +kernel
theorem dX9_raftStroke_19 : decode cX9_raftStroke 19 = .ok (.getfield 62, 3) := by decide +kernel
theorem dX9_raftStroke_22 : decode cX9_raftStroke 22 = .ok (.iload_n 1, 1) := by decide +kernel
theorem dX9_raftStroke_23 : decode cX9_raftStroke 23 = .ok (.iconst 0, 1) := by decide +kernel
theorem dX9_raftStroke_24 : decode cX9_raftStroke 24 = .ok (.iadd, 1) := by decide +kernel
theorem dX9_raftStroke_25 : decode cX9_raftStroke 25 = .ok (.aload_n 0, 1) := by decide +kernel
theorem dX9_raftStroke_26 : decode cX9_raftStroke 26 = .ok (.getfield 47, 3) := by decide +kernel
theorem dX9_raftStroke_29 : decode cX9_raftStroke 29 = .ok (.iload 6, 2) := by decide +kernel
theorem dX9_raftStroke_31 : decode cX9_raftStroke 31 = .ok (.iaload, 1) := by decide +kernel
theorem dX9_raftStroke_32 : decode cX9_raftStroke 32 = .ok (.iadd, 1) := by decide +kernel
theorem dX9_raftStroke_33 : decode cX9_raftStroke 33 = .ok (.iaload, 1) := by decide +kernel
theorem dX9_raftStroke_34 : decode cX9_raftStroke 34 = .ok (.iload_n 3, 1) := by decide +kernel
theorem dX9_raftStroke_35 : decode cX9_raftStroke 35 = .ok (.if_icmp .lt 5, 3) := by decide +kernel
theorem dX9_raftStroke_38 : decode cX9_raftStroke 38 = .ok (.iconst 0, 1) := by decide +kernel
theorem dX9_raftStroke_39 : decode cX9_raftStroke 39 = .ok (.ireturn, 1) := by decide +kernel
theorem dX9_raftStroke_40 : decode cX9_raftStroke 40 = .ok (.iload 5, 2) := by decide +kernel
theorem dX9_raftStroke_42 : decode cX9_raftStroke 42 = .ok (.aload_n 0, 1) := by decide +kernel
theorem dX9_raftStroke_43 : decode cX9_raftStroke 43 = .ok (.getfield 17, 3) := by decide +kernel
theorem dX9_raftStroke_46 : decode cX9_raftStroke 46 = .ok (.aload_n 0, 1) := by decide +kernel
theorem dX9_raftStroke_47 : decode cX9_raftStroke 47 = .ok (.getfield 47, 3) := by decide +kernel
theorem dX9_raftStroke_50 : decode cX9_raftStroke 50 = .ok (.iload 6, 2) := by decide +kernel
theorem dX9_raftStroke_52 : decode cX9_raftStroke 52 = .ok (.iaload, 1) := by decide +kernel
theorem dX9_raftStroke_53 : decode cX9_raftStroke 53 = .ok (.iaload, 1) := by decide +kernel
theorem dX9_raftStroke_54 : decode cX9_raftStroke 54 = .ok (.iadd, 1) := by decide +kernel
theorem dX9_raftStroke_55 : decode cX9_raftStroke 55 = .ok (.istore 5, 2) := by decide +kernel
theorem dX9_raftStroke_57 : decode cX9_raftStroke 57 = .ok (.iinc 6 1, 3) := by decide +kernel
theorem dX9_raftStroke_60 : decode cX9_raftStroke 60 = .ok (.goto (-52), 3) := by decide +kernel
theorem dX9_raftStroke_63 : decode cX9_raftStroke 63 = .ok (.iload 5, 2) := by decide +kernel
theorem dX9_raftStroke_65 : decode cX9_raftStroke 65 = .ok (.iconst 3, 1) := by decide +kernel
theorem dX9_raftStroke_66 : decode cX9_raftStroke 66 = .ok (.idiv, 1) := by decide +kernel
theorem dX9_raftStroke_67 : decode cX9_raftStroke 67 = .ok (.iload 4, 2) := by decide +kernel
theorem dX9_raftStroke_69 : decode cX9_raftStroke 69 = .ok (.isub, 1) := by decide +kernel
theorem dX9_raftStroke_70 : decode cX9_raftStroke 70 = .ok (.istore 6, 2) := by decide +kernel
theorem dX9_raftStroke_72 : decode cX9_raftStroke 72 = .ok (.iload 6, 2) := by decide +kernel
theorem dX9_raftStroke_74 : decode cX9_raftStroke 74 = .ok (.iconst 1, 1) := by decide +kernel
theorem dX9_raftStroke_75 : decode cX9_raftStroke 75 = .ok (.if_icmp .ge 7, 3) := by decide +kernel
theorem dX9_raftStroke_78 : decode cX9_raftStroke 78 = .ok (.iconst 1, 1) := by decide +kernel
theorem dX9_raftStroke_79 : decode cX9_raftStroke 79 = .ok (.goto 5, 3) := by decide +kernel
theorem dX9_raftStroke_82 : decode cX9_raftStroke 82 = .ok (.iload 6, 2) := by decide +kernel
theorem dX9_raftStroke_84 : decode cX9_raftStroke 84 = .ok (.ireturn, 1) := by decide +kernel
theorem dX9_cross_0 : decode cX9_cross 0 = .ok (.iconst 0, 1) := by decide +kernel
theorem dX9_cross_1 : decode cX9_cross 1 = .ok (.istore_n 3, 1) := by decide +kernel
theorem dX9_cross_2 : decode cX9_cross 2 = .ok (.iload_n 3, 1) := by decide +kernel
theorem dX9_cross_3 : decode cX9_cross 3 = .ok (.bipush 8, 2) := by decide +kernel
theorem dX9_cross_5 : decode cX9_cross 5 = .ok (.if_icmp .ge 25, 3) := by decide +kernel
theorem dX9_cross_8 : decode cX9_cross 8 = .ok (.aload_n 0, 1) := by decide +kernel
theorem dX9_cross_9 : decode cX9_cross 9 = .ok (.getfield 65, 3) := by decide +kernel
theorem dX9_cross_12 : decode cX9_cross 12 = .ok (.iload_n 3, 1) := by decide +kernel
theorem dX9_cross_13 : decode cX9_cross 13 = .ok (.iconst 0, 1) := by decide +kernel
theorem dX9_cross_14 : decode cX9_cross 14 = .ok (.iastore, 1) := by decide +kernel
theorem dX9_cross_15 : decode cX9_cross 15 = .ok (.aload_n 0, 1) := by decide +kernel
theorem dX9_cross_16 : decode cX9_cross 16 = .ok (.getfield 68, 3) := by decide +kernel
theorem dX9_cross_19 : decode cX9_cross 19 = .ok (.iload_n 3, 1) := by decide +kernel
theorem dX9_cross_20 : decode cX9_cross 20 = .ok (.sipush 999, 3) := by decide +kernel
theorem dX9_cross_23 : decode cX9_cross 23 = .ok (.iastore, 1) := by decide +kernel
theorem dX9_cross_24 : decode cX9_cross 24 = .ok (.iinc 3 1, 3) := by decide +kernel
theorem dX9_cross_27 : decode cX9_cross 27 = .ok (.goto (-25), 3) := by decide +kernel
theorem dX9_cross_30 : decode cX9_cross 30 = .ok (.iconst 1, 1) := by decide +kernel
theorem dX9_cross_31 : decode cX9_cross 31 = .ok (.istore_n 3, 1) := by decide +kernel
theorem dX9_cross_32 : decode cX9_cross 32 = .ok (.iload_n 3, 1) := by decide +kernel
theorem dX9_cross_33 : decode cX9_cross 33 = .ok (.iload_n 2, 1) := by decide +kernel
theorem dX9_cross_34 : decode cX9_cross 34 = .ok (.if_icmp .gt 183, 3) := by decide +kernel
theorem dX9_cross_37 : decode cX9_cross 37 = .ok (.aload_n 0, 1) := by decide +kernel
theorem dX9_cross_38 : decode cX9_cross 38 = .ok (.iload_n 3, 1) := by decide +kernel
theorem dX9_cross_39 : decode cX9_cross 39 = .ok (.invokevirtual 176, 3) := by decide +kernel
theorem dX9_cross_42 : decode cX9_cross 42 = .ok (.istore 4, 2) := by decide +kernel
theorem dX9_cross_44 : decode cX9_cross 44 = .ok (.aload_n 0, 1) := by decide +kernel
theorem dX9_cross_45 : decode cX9_cross 45 = .ok (.iload_n 1, 1) := by decide +kernel
theorem dX9_cross_46 : decode cX9_cross 46 = .ok (.iload_n 3, 1) := by decide +kernel
theorem dX9_cross_47 : decode cX9_cross 47 = .ok (.invokevirtual 179, 3) := by decide +kernel
theorem dX9_cross_50 : decode cX9_cross 50 = .ok (.istore 5, 2) := by decide +kernel
theorem dX9_cross_52 : decode cX9_cross 52 = .ok (.iload_n 3, 1) := by decide +kernel
theorem dX9_cross_53 : decode cX9_cross 53 = .ok (.iconst 5, 1) := by decide +kernel
theorem dX9_cross_54 : decode cX9_cross 54 = .ok (.if_icmp .gt 21, 3) := by decide +kernel
theorem dX9_cross_57 : decode cX9_cross 57 = .ok (.aload_n 0, 1) := by decide +kernel
theorem dX9_cross_58 : decode cX9_cross 58 = .ok (.getfield 182, 3) := by decide +kernel
theorem dX9_cross_61 : decode cX9_cross 61 = .ok (.iload_n 3, 1) := by decide +kernel
theorem dX9_cross_62 : decode cX9_cross 62 = .ok (.iconst 1, 1) := by decide +kernel
theorem dX9_cross_63 : decode cX9_cross 63 = .ok (.isub, 1) := by decide +kernel
theorem dX9_cross_64 : decode cX9_cross 64 = .ok (.ishr, 1) := by decide +kernel
theorem dX9_cross_65 : decode cX9_cross 65 = .ok (.iconst 1, 1) := by decide +kernel
theorem dX9_cross_66 : decode cX9_cross 66 = .ok (.iand, 1) := by decide +kernel
theorem dX9_cross_67 : decode cX9_cross 67 = .ok (.iconst 1, 1) := by decide +kernel
theorem dX9_cross_68 : decode cX9_cross 68 = .ok (.if_icmp .ne 7, 3) := by decide +kernel
theorem dX9_cross_71 : decode cX9_cross 71 = .ok (.iconst 1, 1) := by decide +kernel
theorem dX9_cross_72 : decode cX9_cross 72 = .ok (.goto 4, 3) := by decide +kernel
theorem dX9_cross_75 : decode cX9_cross 75 = .ok (.iconst 0, 1) := by decide +kernel
theorem dX9_cross_76 : decode cX9_cross 76 = .ok (.istore 6, 2) := by decide +kernel
theorem dX9_cross_78 : decode cX9_cross 78 = .ok (.iconst 0, 1) := by decide +kernel
theorem dX9_cross_79 : decode cX9_cross 79 = .ok (.istore 7, 2) := by decide +kernel
theorem dX9_cross_81 : decode cX9_cross 81 = .ok (.iload 7, 2) := by decide +kernel
theorem dX9_cross_83 : decode cX9_cross 83 = .ok (.aload_n 0, 1) := by decide +kernel
theorem dX9_cross_84 : decode cX9_cross 84 = .ok (.getfield 13, 3) := by decide +kernel
theorem dX9_cross_87 : decode cX9_cross 87 = .ok (.iconst 0, 1) := by decide +kernel
theorem dX9_cross_88 : decode cX9_cross 88 = .ok (.iaload, 1) := by decide +kernel
theorem dX9_cross_89 : decode cX9_cross 89 = .ok (.if_icmp .ge 122, 3) := by decide +kernel
theorem dX9_cross_92 : decode cX9_cross 92 = .ok (.iload 6, 2) := by decide +kernel
theorem dX9_cross_94 : decode cX9_cross 94 = .ok (.ifCond .ne 117, 3) := by decide +kernel
theorem dX9_cross_97 : decode cX9_cross 97 = .ok (.aload_n 0, 1) := by decide +kernel
theorem dX9_cross_98 : decode cX9_cross 98 = .ok (.iload 7, 2) := by decide +kernel
theorem dX9_cross_100 : decode cX9_cross 100 = .ok (.invokevirtual 156, 3) := by decide +kernel
theorem dX9_cross_103 : decode cX9_cross 103 = .ok (.istore 8, 2) := by decide +kernel
theorem dX9_cross_105 : decode cX9_cross 105 = .ok (.aload_n 0, 1) := by decide +kernel
theorem dX9_cross_106 : decode cX9_cross 106 = .ok (.getfield 62, 3) := by decide +kernel
theorem dX9_cross_109 : decode cX9_cross 109 = .ok (.iload_n 1, 1) := by decide +kernel
theorem dX9_cross_110 : decode cX9_cross 110 = .ok (.bipush 8, 2) := by decide +kernel
theorem dX9_cross_112 : decode cX9_cross 112 = .ok (.iadd, 1) := by decide +kernel
theorem dX9_cross_113 : decode cX9_cross 113 = .ok (.iload 7, 2) := by decide +kernel
theorem dX9_cross_115 : decode cX9_cross 115 = .ok (.iadd, 1) := by decide +kernel
theorem dX9_cross_116 : decode cX9_cross 116 = .ok (.iaload, 1) := by decide +kernel
theorem dX9_cross_117 : decode cX9_cross 117 = .ok (.bipush (-4), 2) := by decide +kernel
theorem dX9_cross_119 : decode cX9_cross 119 = .ok (.if_icmp .ne 86, 3) := by decide +kernel
theorem dX9_cross_122 : decode cX9_cross 122 = .ok (.aload_n 0, 1) := by decide +kernel
theorem dX9_cross_123 : decode cX9_cross 123 = .ok (.getfield 68, 3) := by decide +kernel
theorem dX9_cross_126 : decode cX9_cross 126 = .ok (.iload 7, 2) := by decide +kernel
theorem dX9_cross_128 : decode cX9_cross 128 = .ok (.iaload, 1) := by decide +kernel
theorem dX9_cross_129 : decode cX9_cross 129 = .ok (.sipush 999, 3) := by decide +kernel
theorem dX9_cross_132 : decode cX9_cross 132 = .ok (.if_icmp .ne 73, 3) := by decide +kernel
theorem dX9_cross_135 : decode cX9_cross 135 = .ok (.aload_n 0, 1) := by decide +kernel
theorem dX9_cross_136 : decode cX9_cross 136 = .ok (.getfield 65, 3) := by decide +kernel
theorem dX9_cross_139 : decode cX9_cross 139 = .ok (.iload 7, 2) := by decide +kernel
theorem dX9_cross_141 : decode cX9_cross 141 = .ok (.dup2, 1) := by decide +kernel
theorem dX9_cross_142 : decode cX9_cross 142 = .ok (.iaload, 1) := by decide +kernel
theorem dX9_cross_143 : decode cX9_cross 143 = .ok (.iload 8, 2) := by decide +kernel
theorem dX9_cross_145 : decode cX9_cross 145 = .ok (.bipush (-4), 2) := by decide +kernel
theorem dX9_cross_147 : decode cX9_cross 147 = .ok (.if_icmp .ne 18, 3) := by decide +kernel
theorem dX9_cross_150 : decode cX9_cross 150 = .ok (.aload_n 0, 1) := by decide +kernel
theorem dX9_cross_151 : decode cX9_cross 151 = .ok (.iload_n 1, 1) := by decide +kernel
theorem dX9_cross_152 : decode cX9_cross 152 = .ok (.iload 7, 2) := by decide +kernel
theorem dX9_cross_154 : decode cX9_cross 154 = .ok (.iload_n 3, 1) := by decide +kernel
theorem dX9_cross_155 : decode cX9_cross 155 = .ok (.iload 4, 2) := by decide +kernel
theorem dX9_cross_157 : decode cX9_cross 157 = .ok (.iload 5, 2) := by decide +kernel
theorem dX9_cross_159 : decode cX9_cross 159 = .ok (.invokevirtual 185, 3) := by decide +kernel
theorem dX9_cross_162 : decode cX9_cross 162 = .ok (.goto 13, 3) := by decide +kernel
theorem dX9_cross_165 : decode cX9_cross 165 = .ok (.aload_n 0, 1) := by decide +kernel
theorem dX9_cross_166 : decode cX9_cross 166 = .ok (.iload_n 1, 1) := by decide +kernel
theorem dX9_cross_167 : decode cX9_cross 167 = .ok (.iload 8, 2) := by decide +kernel
theorem dX9_cross_169 : decode cX9_cross 169 = .ok (.iload_n 3, 1) := by decide +kernel
theorem dX9_cross_170 : decode cX9_cross 170 = .ok (.iload 4, 2) := by decide +kernel
theorem dX9_cross_172 : decode cX9_cross 172 = .ok (.invokevirtual 189, 3) := by decide +kernel
theorem dX9_cross_175 : decode cX9_cross 175 = .ok (.iadd, 1) := by decide +kernel
theorem dX9_cross_176 : decode cX9_cross 176 = .ok (.iastore, 1) := by decide +kernel
theorem dX9_cross_177 : decode cX9_cross 177 = .ok (.aload_n 0, 1) := by decide +kernel
theorem dX9_cross_178 : decode cX9_cross 178 = .ok (.getfield 68, 3) := by decide +kernel
theorem dX9_cross_181 : decode cX9_cross 181 = .ok (.iload 7, 2) := by decide +kernel
theorem dX9_cross_183 : decode cX9_cross 183 = .ok (.aload_n 0, 1) := by decide +kernel
theorem dX9_cross_184 : decode cX9_cross 184 = .ok (.getfield 65, 3) := by decide +kernel
theorem dX9_cross_187 : decode cX9_cross 187 = .ok (.iload 7, 2) := by decide +kernel
theorem dX9_cross_189 : decode cX9_cross 189 = .ok (.iaload, 1) := by decide +kernel
theorem dX9_cross_190 : decode cX9_cross 190 = .ok (.aload_n 0, 1) := by decide +kernel
theorem dX9_cross_191 : decode cX9_cross 191 = .ok (.getfield 193, 3) := by decide +kernel
theorem dX9_cross_194 : decode cX9_cross 194 = .ok (.if_icmp .lt 7, 3) := by decide +kernel
theorem dX9_cross_197 : decode cX9_cross 197 = .ok (.iload_n 3, 1) := by decide +kernel
theorem dX9_cross_198 : decode cX9_cross 198 = .ok (.goto 6, 3) := by decide +kernel
theorem dX9_cross_201 : decode cX9_cross 201 = .ok (.sipush 999, 3) := by decide +kernel
theorem dX9_cross_204 : decode cX9_cross 204 = .ok (.iastore, 1) := by decide +kernel
theorem dX9_cross_205 : decode cX9_cross 205 = .ok (.iinc 7 1, 3) := by decide +kernel
theorem dX9_cross_208 : decode cX9_cross 208 = .ok (.goto (-127), 3) := by decide +kernel
theorem dX9_cross_211 : decode cX9_cross 211 = .ok (.iinc 3 1, 3) := by decide +kernel
theorem dX9_cross_214 : decode cX9_cross 214 = .ok (.goto (-182), 3) := by decide +kernel
theorem dX9_cross_217 : decode cX9_cross 217 = .ok (.iconst 0, 1) := by decide +kernel
theorem dX9_cross_218 : decode cX9_cross 218 = .ok (.istore_n 3, 1) := by decide +kernel
theorem dX9_cross_219 : decode cX9_cross 219 = .ok (.iload_n 3, 1) := by decide +kernel
theorem dX9_cross_220 : decode cX9_cross 220 = .ok (.aload_n 0, 1) := by decide +kernel
theorem dX9_cross_221 : decode cX9_cross 221 = .ok (.getfield 13, 3) := by decide +kernel
theorem dX9_cross_224 : decode cX9_cross 224 = .ok (.iconst 0, 1) := by decide +kernel
theorem dX9_cross_225 : decode cX9_cross 225 = .ok (.iaload, 1) := by decide +kernel
theorem dX9_cross_226 : decode cX9_cross 226 = .ok (.if_icmp .ge 55, 3) := by decide +kernel
theorem dX9_cross_229 : decode cX9_cross 229 = .ok (.aload_n 0, 1) := by decide +kernel
theorem dX9_cross_230 : decode cX9_cross 230 = .ok (.getfield 62, 3) := by decide +kernel
theorem dX9_cross_233 : decode cX9_cross 233 = .ok (.iload_n 1, 1) := by decide +kernel
theorem dX9_cross_234 : decode cX9_cross 234 = .ok (.bipush 8, 2) := by decide +kernel
theorem dX9_cross_236 : decode cX9_cross 236 = .ok (.iadd, 1) := by decide +kernel
theorem dX9_cross_237 : decode cX9_cross 237 = .ok (.iload_n 3, 1) := by decide +kernel
theorem dX9_cross_238 : decode cX9_cross 238 = .ok (.iadd, 1) := by decide +kernel
theorem dX9_cross_239 : decode cX9_cross 239 = .ok (.iaload, 1) := by decide +kernel
theorem dX9_cross_240 : decode cX9_cross 240 = .ok (.istore 4, 2) := by decide +kernel
theorem dX9_cross_242 : decode cX9_cross 242 = .ok (.iload 4, 2) := by decide +kernel
theorem dX9_cross_244 : decode cX9_cross 244 = .ok (.bipush (-4), 2) := by decide +kernel
theorem dX9_cross_246 : decode cX9_cross 246 = .ok (.if_icmp .eq 29, 3) := by decide +kernel
theorem dX9_cross_249 : decode cX9_cross 249 = .ok (.aload_n 0, 1) := by decide +kernel
theorem dX9_cross_250 : decode cX9_cross 250 = .ok (.getfield 65, 3) := by decide +kernel
theorem dX9_cross_253 : decode cX9_cross 253 = .ok (.iload_n 3, 1) := by decide +kernel
theorem dX9_cross_254 : decode cX9_cross 254 = .ok (.aload_n 0, 1) := by decide +kernel
theorem dX9_cross_255 : decode cX9_cross 255 = .ok (.getfield 65, 3) := by decide +kernel
theorem dX9_cross_258 : decode cX9_cross 258 = .ok (.iload 4, 2) := by decide +kernel
theorem dX9_cross_260 : decode cX9_cross 260 = .ok (.iaload, 1) := by decide +kernel
theorem dX9_cross_261 : decode cX9_cross 261 = .ok (.iastore, 1) := by decide +kernel
theorem dX9_cross_262 : decode cX9_cross 262 = .ok (.aload_n 0, 1) := by decide +kernel
theorem dX9_cross_263 : decode cX9_cross 263 = .ok (.getfield 68, 3) := by decide +kernel
theorem dX9_cross_266 : decode cX9_cross 266 = .ok (.iload_n 3, 1) := by decide +kernel
theorem dX9_cross_267 : decode cX9_cross 267 = .ok (.aload_n 0, 1) := by decide +kernel
theorem dX9_cross_268 : decode cX9_cross 268 = .ok (.getfield 68, 3) := by decide +kernel
theorem dX9_cross_271 : decode cX9_cross 271 = .ok (.iload 4, 2) := by decide +kernel
theorem dX9_cross_273 : decode cX9_cross 273 = .ok (.iaload, 1) := by decide +kernel
theorem dX9_cross_274 : decode cX9_cross 274 = .ok (.iastore, 1) := by decide +kernel
theorem dX9_cross_275 : decode cX9_cross 275 = .ok (.iinc 3 1, 3) := by decide +kernel
theorem dX9_cross_278 : decode cX9_cross 278 = .ok (.goto (-59), 3) := by decide +kernel
theorem dX9_cross_281 : decode cX9_cross 281 = .ok (.return_, 1) := by decide +kernel
theorem dX9_plain_0 : decode cX9_plain 0 = .ok (.aload_n 0, 1) := by decide +kernel
theorem dX9_plain_1 : decode cX9_plain 1 = .ok (.aload_n 0, 1) := by decide +kernel
theorem dX9_plain_2 : decode cX9_plain 2 = .ok (.getfield 29, 3) := by decide +kernel
theorem dX9_plain_5 : decode cX9_plain 5 = .ok (.iconst 0, 1) := by decide +kernel
theorem dX9_plain_6 : decode cX9_plain 6 = .ok (.iaload, 1) := by decide +kernel
theorem dX9_plain_7 : decode cX9_plain 7 = .ok (.putfield 193, 3) := by decide +kernel
theorem dX9_plain_10 : decode cX9_plain 10 = .ok (.aload_n 0, 1) := by decide +kernel
theorem dX9_plain_11 : decode cX9_plain 11 = .ok (.iconst 0, 1) := by decide +kernel
theorem dX9_plain_12 : decode cX9_plain 12 = .ok (.putfield 182, 3) := by decide +kernel
theorem dX9_plain_15 : decode cX9_plain 15 = .ok (.aload_n 0, 1) := by decide +kernel
theorem dX9_plain_16 : decode cX9_plain 16 = .ok (.iconst (-1), 1) := by decide +kernel
theorem dX9_plain_17 : decode cX9_plain 17 = .ok (.putfield 165, 3) := by decide +kernel
theorem dX9_plain_20 : decode cX9_plain 20 = .ok (.return_, 1) := by decide +kernel
theorem dX9_crossNow_0 : decode cX9_crossNow 0 = .ok (.aload_n 0, 1) := by decide +kernel
theorem dX9_crossNow_1 : decode cX9_crossNow 1 = .ok (.invokevirtual 196, 3) := by decide +kernel
theorem dX9_crossNow_4 : decode cX9_crossNow 4 = .ok (.aload_n 0, 1) := by decide +kernel
theorem dX9_crossNow_5 : decode cX9_crossNow 5 = .ok (.iconst 0, 1) := by decide +kernel
theorem dX9_crossNow_6 : decode cX9_crossNow 6 = .ok (.sipush 200, 3) := by decide +kernel
theorem dX9_crossNow_9 : decode cX9_crossNow 9 = .ok (.invokevirtual 199, 3) := by decide +kernel
theorem dX9_crossNow_12 : decode cX9_crossNow 12 = .ok (.return_, 1) := by decide +kernel
theorem dX9_where_0 : decode cX9_where 0 = .ok (.aload_n 0, 1) := by decide +kernel
theorem dX9_where_1 : decode cX9_where 1 = .ok (.iload_n 1, 1) := by decide +kernel
theorem dX9_where_2 : decode cX9_where 2 = .ok (.invokevirtual 152, 3) := by decide +kernel
theorem dX9_where_5 : decode cX9_where 5 = .ok (.ifCond .eq 14, 3) := by decide +kernel
theorem dX9_where_8 : decode cX9_where 8 = .ok (.iload_n 2, 1) := by decide +kernel
theorem dX9_where_9 : decode cX9_where 9 = .ok (.iconst 0, 1) := by decide +kernel
theorem dX9_where_10 : decode cX9_where 10 = .ok (.sipush 200, 3) := by decide +kernel
theorem dX9_where_13 : decode cX9_where 13 = .ok (.invokestatic 93, 3) := by decide +kernel
theorem dX9_where_16 : decode cX9_where 16 = .ok (.ifCond .ne 5, 3) := by decide +kernel
theorem dX9_where_19 : decode cX9_where 19 = .ok (.iconst (-1), 1) := by decide +kernel
theorem dX9_where_20 : decode cX9_where 20 = .ok (.ireturn, 1) := by decide +kernel
theorem dX9_where_21 : decode cX9_where 21 = .ok (.aload_n 0, 1) := by decide +kernel
theorem dX9_where_22 : decode cX9_where 22 = .ok (.invokevirtual 196, 3) := by decide +kernel
theorem dX9_where_25 : decode cX9_where 25 = .ok (.aload_n 0, 1) := by decide +kernel
theorem dX9_where_26 : decode cX9_where 26 = .ok (.iconst 0, 1) := by decide +kernel
theorem dX9_where_27 : decode cX9_where 27 = .ok (.iload_n 2, 1) := by decide +kernel
theorem dX9_where_28 : decode cX9_where 28 = .ok (.invokevirtual 199, 3) := by decide +kernel
theorem dX9_where_31 : decode cX9_where 31 = .ok (.aload_n 0, 1) := by decide +kernel
theorem dX9_where_32 : decode cX9_where 32 = .ok (.getfield 65, 3) := by decide +kernel
theorem dX9_where_35 : decode cX9_where 35 = .ok (.iload_n 1, 1) := by decide +kernel
theorem dX9_where_36 : decode cX9_where 36 = .ok (.iaload, 1) := by decide +kernel
theorem dX9_where_37 : decode cX9_where 37 = .ok (.aload_n 0, 1) := by decide +kernel
theorem dX9_where_38 : decode cX9_where 38 = .ok (.getfield 29, 3) := by decide +kernel
theorem dX9_where_41 : decode cX9_where 41 = .ok (.iconst 0, 1) := by decide +kernel
theorem dX9_where_42 : decode cX9_where 42 = .ok (.iaload, 1) := by decide +kernel
theorem dX9_where_43 : decode cX9_where 43 = .ok (.if_icmp .le 12, 3) := by decide +kernel
theorem dX9_where_46 : decode cX9_where 46 = .ok (.aload_n 0, 1) := by decide +kernel
theorem dX9_where_47 : decode cX9_where 47 = .ok (.getfield 29, 3) := by decide +kernel
theorem dX9_where_50 : decode cX9_where 50 = .ok (.iconst 0, 1) := by decide +kernel
theorem dX9_where_51 : decode cX9_where 51 = .ok (.iaload, 1) := by decide +kernel
theorem dX9_where_52 : decode cX9_where 52 = .ok (.goto 9, 3) := by decide +kernel
theorem dX9_where_55 : decode cX9_where 55 = .ok (.aload_n 0, 1) := by decide +kernel
theorem dX9_where_56 : decode cX9_where 56 = .ok (.getfield 65, 3) := by decide +kernel
theorem dX9_where_59 : decode cX9_where 59 = .ok (.iload_n 1, 1) := by decide +kernel
theorem dX9_where_60 : decode cX9_where 60 = .ok (.iaload, 1) := by decide +kernel
theorem dX9_where_61 : decode cX9_where 61 = .ok (.ireturn, 1) := by decide +kernel
theorem dX9_lands_0 : decode cX9_lands 0 = .ok (.aload_n 0, 1) := by decide +kernel
theorem dX9_lands_1 : decode cX9_lands 1 = .ok (.iload_n 1, 1) := by decide +kernel
theorem dX9_lands_2 : decode cX9_lands 2 = .ok (.invokevirtual 152, 3) := by decide +kernel
theorem dX9_lands_5 : decode cX9_lands 5 = .ok (.ifCond .ne 5, 3) := by decide +kernel
theorem dX9_lands_8 : decode cX9_lands 8 = .ok (.iconst (-1), 1) := by decide +kernel
theorem dX9_lands_9 : decode cX9_lands 9 = .ok (.ireturn, 1) := by decide +kernel
theorem dX9_lands_10 : decode cX9_lands 10 = .ok (.aload_n 0, 1) := by decide +kernel
theorem dX9_lands_11 : decode cX9_lands 11 = .ok (.invokevirtual 203, 3) := by decide +kernel
theorem dX9_lands_14 : decode cX9_lands 14 = .ok (.aload_n 0, 1) := by decide +kernel
theorem dX9_lands_15 : decode cX9_lands 15 = .ok (.getfield 68, 3) := by decide +kernel
theorem dX9_lands_18 : decode cX9_lands 18 = .ok (.iload_n 1, 1) := by decide +kernel
theorem dX9_lands_19 : decode cX9_lands 19 = .ok (.iaload, 1) := by decide +kernel
theorem dX9_lands_20 : decode cX9_lands 20 = .ok (.sipush 999, 3) := by decide +kernel
theorem dX9_lands_23 : decode cX9_lands 23 = .ok (.if_icmp .ne 8, 3) := by decide +kernel
theorem dX9_lands_26 : decode cX9_lands 26 = .ok (.bipush (-4), 2) := by decide +kernel
theorem dX9_lands_28 : decode cX9_lands 28 = .ok (.goto 9, 3) := by decide +kernel
theorem dX9_lands_31 : decode cX9_lands 31 = .ok (.aload_n 0, 1) := by decide +kernel
theorem dX9_lands_32 : decode cX9_lands 32 = .ok (.getfield 68, 3) := by decide +kernel
theorem dX9_lands_35 : decode cX9_lands 35 = .ok (.iload_n 1, 1) := by decide +kernel
theorem dX9_lands_36 : decode cX9_lands 36 = .ok (.iaload, 1) := by decide +kernel
theorem dX9_lands_37 : decode cX9_lands 37 = .ok (.ireturn, 1) := by decide +kernel
theorem dX9_rankedWith_0 : decode cX9_rankedWith 0 = .ok (.aload_n 0, 1) := by decide +kernel
theorem dX9_rankedWith_1 : decode cX9_rankedWith 1 = .ok (.getfield 68, 3) := by decide +kernel
theorem dX9_rankedWith_4 : decode cX9_rankedWith 4 = .ok (.iload_n 2, 1) := by decide +kernel
theorem dX9_rankedWith_5 : decode cX9_rankedWith 5 = .ok (.iaload, 1) := by decide +kernel
theorem dX9_rankedWith_6 : decode cX9_rankedWith 6 = .ok (.sipush 999, 3) := by decide +kernel
theorem dX9_rankedWith_9 : decode cX9_rankedWith 9 = .ok (.if_icmp .ne 8, 3) := by decide +kernel
theorem dX9_rankedWith_12 : decode cX9_rankedWith 12 = .ok (.bipush (-4), 2) := by decide +kernel
theorem dX9_rankedWith_14 : decode cX9_rankedWith 14 = .ok (.goto 14, 3) := by decide +kernel
theorem dX9_rankedWith_17 : decode cX9_rankedWith 17 = .ok (.aload_n 0, 1) := by decide +kernel
theorem dX9_rankedWith_18 : decode cX9_rankedWith 18 = .ok (.getfield 62, 3) := by decide +kernel
theorem dX9_rankedWith_21 : decode cX9_rankedWith 21 = .ok (.iload_n 1, 1) := by decide +kernel
theorem dX9_rankedWith_22 : decode cX9_rankedWith 22 = .ok (.bipush 8, 2) := by decide +kernel
theorem dX9_rankedWith_24 : decode cX9_rankedWith 24 = .ok (.iadd, 1) := by decide +kernel
theorem dX9_rankedWith_25 : decode cX9_rankedWith 25 = .ok (.iload_n 2, 1) := by decide +kernel
theorem dX9_rankedWith_26 : decode cX9_rankedWith 26 = .ok (.iadd, 1) := by decide +kernel
theorem dX9_rankedWith_27 : decode cX9_rankedWith 27 = .ok (.iaload, 1) := by decide +kernel
theorem dX9_rankedWith_28 : decode cX9_rankedWith 28 = .ok (.ireturn, 1) := by decide +kernel
theorem dX9_isAhead_0 : decode cX9_isAhead 0 = .ok (.aload_n 0, 1) := by decide +kernel
theorem dX9_isAhead_1 : decode cX9_isAhead 1 = .ok (.iload_n 1, 1) := by decide +kernel
theorem dX9_isAhead_2 : decode cX9_isAhead 2 = .ok (.iload_n 2, 1) := by decide +kernel
theorem dX9_isAhead_3 : decode cX9_isAhead 3 = .ok (.invokevirtual 206, 3) := by decide +kernel
theorem dX9_isAhead_6 : decode cX9_isAhead 6 = .ok (.istore 4, 2) := by decide +kernel
theorem dX9_isAhead_8 : decode cX9_isAhead 8 = .ok (.aload_n 0, 1) := by decide +kernel
theorem dX9_isAhead_9 : decode cX9_isAhead 9 = .ok (.iload_n 1, 1) := by decide +kernel
theorem dX9_isAhead_10 : decode cX9_isAhead 10 = .ok (.iload_n 3, 1) := by decide +kernel
theorem dX9_isAhead_11 : decode cX9_isAhead 11 = .ok (.invokevirtual 206, 3) := by decide +kernel
theorem dX9_isAhead_14 : decode cX9_isAhead 14 = .ok (.istore 5, 2) := by decide +kernel
theorem dX9_isAhead_16 : decode cX9_isAhead 16 = .ok (.iload 4, 2) := by decide +kernel
theorem dX9_isAhead_18 : decode cX9_isAhead 18 = .ok (.bipush (-4), 2) := by decide +kernel
theorem dX9_isAhead_20 : decode cX9_isAhead 20 = .ok (.if_icmp .ne 7, 3) := by decide +kernel
theorem dX9_isAhead_23 : decode cX9_isAhead 23 = .ok (.iload_n 2, 1) := by decide +kernel
theorem dX9_isAhead_24 : decode cX9_isAhead 24 = .ok (.goto 5, 3) := by decide +kernel
theorem dX9_isAhead_27 : decode cX9_isAhead 27 = .ok (.iload 4, 2) := by decide +kernel
theorem dX9_isAhead_29 : decode cX9_isAhead 29 = .ok (.istore 6, 2) := by decide +kernel
theorem dX9_isAhead_31 : decode cX9_isAhead 31 = .ok (.iload 5, 2) := by decide +kernel
theorem dX9_isAhead_33 : decode cX9_isAhead 33 = .ok (.bipush (-4), 2) := by decide +kernel
theorem dX9_isAhead_35 : decode cX9_isAhead 35 = .ok (.if_icmp .ne 7, 3) := by decide +kernel
theorem dX9_isAhead_38 : decode cX9_isAhead 38 = .ok (.iload_n 3, 1) := by decide +kernel
theorem dX9_isAhead_39 : decode cX9_isAhead 39 = .ok (.goto 5, 3) := by decide +kernel
theorem dX9_isAhead_42 : decode cX9_isAhead 42 = .ok (.iload 5, 2) := by decide +kernel
theorem dX9_isAhead_44 : decode cX9_isAhead 44 = .ok (.istore 7, 2) := by decide +kernel
theorem dX9_isAhead_46 : decode cX9_isAhead 46 = .ok (.iload 6, 2) := by decide +kernel
theorem dX9_isAhead_48 : decode cX9_isAhead 48 = .ok (.iload 7, 2) := by decide +kernel
theorem dX9_isAhead_50 : decode cX9_isAhead 50 = .ok (.if_icmp .ne 36, 3) := by decide +kernel
theorem dX9_isAhead_53 : decode cX9_isAhead 53 = .ok (.iload 4, 2) := by decide +kernel
theorem dX9_isAhead_55 : decode cX9_isAhead 55 = .ok (.bipush (-4), 2) := by decide +kernel
theorem dX9_isAhead_57 : decode cX9_isAhead 57 = .ok (.if_icmp .eq 27, 3) := by decide +kernel
theorem dX9_isAhead_60 : decode cX9_isAhead 60 = .ok (.iload 5, 2) := by decide +kernel
theorem dX9_isAhead_62 : decode cX9_isAhead 62 = .ok (.bipush (-4), 2) := by decide +kernel
theorem dX9_isAhead_64 : decode cX9_isAhead 64 = .ok (.if_icmp .eq 16, 3) := by decide +kernel
theorem dX9_isAhead_67 : decode cX9_isAhead 67 = .ok (.aload_n 0, 1) := by decide +kernel
theorem dX9_isAhead_68 : decode cX9_isAhead 68 = .ok (.iload_n 2, 1) := by decide +kernel
theorem dX9_isAhead_69 : decode cX9_isAhead 69 = .ok (.invokevirtual 159, 3) := by decide +kernel
theorem dX9_isAhead_72 : decode cX9_isAhead 72 = .ok (.aload_n 0, 1) := by decide +kernel
theorem dX9_isAhead_73 : decode cX9_isAhead 73 = .ok (.iload_n 3, 1) := by decide +kernel
theorem dX9_isAhead_74 : decode cX9_isAhead 74 = .ok (.invokevirtual 159, 3) := by decide +kernel
theorem dX9_isAhead_77 : decode cX9_isAhead 77 = .ok (.if_icmp .ge 7, 3) := by decide +kernel
theorem dX9_isAhead_80 : decode cX9_isAhead 80 = .ok (.iconst 1, 1) := by decide +kernel
theorem dX9_isAhead_81 : decode cX9_isAhead 81 = .ok (.goto 4, 3) := by decide +kernel
theorem dX9_isAhead_84 : decode cX9_isAhead 84 = .ok (.iconst 0, 1) := by decide +kernel
theorem dX9_isAhead_85 : decode cX9_isAhead 85 = .ok (.ireturn, 1) := by decide +kernel
theorem dX9_isAhead_86 : decode cX9_isAhead 86 = .ok (.aload_n 0, 1) := by decide +kernel
theorem dX9_isAhead_87 : decode cX9_isAhead 87 = .ok (.getfield 68, 3) := by decide +kernel
theorem dX9_isAhead_90 : decode cX9_isAhead 90 = .ok (.iload 6, 2) := by decide +kernel
theorem dX9_isAhead_92 : decode cX9_isAhead 92 = .ok (.iaload, 1) := by decide +kernel
theorem dX9_isAhead_93 : decode cX9_isAhead 93 = .ok (.aload_n 0, 1) := by decide +kernel
theorem dX9_isAhead_94 : decode cX9_isAhead 94 = .ok (.getfield 68, 3) := by decide +kernel
theorem dX9_isAhead_97 : decode cX9_isAhead 97 = .ok (.iload 7, 2) := by decide +kernel
theorem dX9_isAhead_99 : decode cX9_isAhead 99 = .ok (.iaload, 1) := by decide +kernel
theorem dX9_isAhead_100 : decode cX9_isAhead 100 = .ok (.if_icmp .eq 28, 3) := by decide +kernel
theorem dX9_isAhead_103 : decode cX9_isAhead 103 = .ok (.aload_n 0, 1) := by decide +kernel
theorem dX9_isAhead_104 : decode cX9_isAhead 104 = .ok (.getfield 68, 3) := by decide +kernel
theorem dX9_isAhead_107 : decode cX9_isAhead 107 = .ok (.iload 6, 2) := by decide +kernel
theorem dX9_isAhead_109 : decode cX9_isAhead 109 = .ok (.iaload, 1) := by decide +kernel
theorem dX9_isAhead_110 : decode cX9_isAhead 110 = .ok (.aload_n 0, 1) := by decide +kernel
theorem dX9_isAhead_111 : decode cX9_isAhead 111 = .ok (.getfield 68, 3) := by decide +kernel
theorem dX9_isAhead_114 : decode cX9_isAhead 114 = .ok (.iload 7, 2) := by decide +kernel
theorem dX9_isAhead_116 : decode cX9_isAhead 116 = .ok (.iaload, 1) := by decide +kernel
theorem dX9_isAhead_117 : decode cX9_isAhead 117 = .ok (.if_icmp .ge 7, 3) := by decide +kernel
theorem dX9_isAhead_120 : decode cX9_isAhead 120 = .ok (.iconst 1, 1) := by decide +kernel
theorem dX9_isAhead_121 : decode cX9_isAhead 121 = .ok (.goto 27, 3) := by decide +kernel
theorem dX9_isAhead_124 : decode cX9_isAhead 124 = .ok (.iconst 0, 1) := by decide +kernel
theorem dX9_isAhead_125 : decode cX9_isAhead 125 = .ok (.goto 23, 3) := by decide +kernel
theorem dX9_isAhead_128 : decode cX9_isAhead 128 = .ok (.aload_n 0, 1) := by decide +kernel
theorem dX9_isAhead_129 : decode cX9_isAhead 129 = .ok (.iload 6, 2) := by decide +kernel
theorem dX9_isAhead_131 : decode cX9_isAhead 131 = .ok (.invokevirtual 159, 3) := by decide +kernel
theorem dX9_isAhead_134 : decode cX9_isAhead 134 = .ok (.aload_n 0, 1) := by decide +kernel
theorem dX9_isAhead_135 : decode cX9_isAhead 135 = .ok (.iload 7, 2) := by decide +kernel
theorem dX9_isAhead_137 : decode cX9_isAhead 137 = .ok (.invokevirtual 159, 3) := by decide +kernel
theorem dX9_isAhead_140 : decode cX9_isAhead 140 = .ok (.if_icmp .ge 7, 3) := by decide +kernel
theorem dX9_isAhead_143 : decode cX9_isAhead 143 = .ok (.iconst 1, 1) := by decide +kernel
theorem dX9_isAhead_144 : decode cX9_isAhead 144 = .ok (.goto 4, 3) := by decide +kernel
theorem dX9_isAhead_147 : decode cX9_isAhead 147 = .ok (.iconst 0, 1) := by decide +kernel
theorem dX9_isAhead_148 : decode cX9_isAhead 148 = .ok (.ireturn, 1) := by decide +kernel
theorem dX9_rankOf_0 : decode cX9_rankOf 0 = .ok (.iconst 1, 1) := by decide +kernel
theorem dX9_rankOf_1 : decode cX9_rankOf 1 = .ok (.istore_n 3, 1) := by decide +kernel
theorem dX9_rankOf_2 : decode cX9_rankOf 2 = .ok (.iconst 0, 1) := by decide +kernel
theorem dX9_rankOf_3 : decode cX9_rankOf 3 = .ok (.istore 4, 2) := by decide +kernel
theorem dX9_rankOf_5 : decode cX9_rankOf 5 = .ok (.iload 4, 2) := by decide +kernel
theorem dX9_rankOf_7 : decode cX9_rankOf 7 = .ok (.aload_n 0, 1) := by decide +kernel
theorem dX9_rankOf_8 : decode cX9_rankOf 8 = .ok (.getfield 13, 3) := by decide +kernel
theorem dX9_rankOf_11 : decode cX9_rankOf 11 = .ok (.iconst 0, 1) := by decide +kernel
theorem dX9_rankOf_12 : decode cX9_rankOf 12 = .ok (.iaload, 1) := by decide +kernel
theorem dX9_rankOf_13 : decode cX9_rankOf 13 = .ok (.if_icmp .ge 34, 3) := by decide +kernel
theorem dX9_rankOf_16 : decode cX9_rankOf 16 = .ok (.iload_n 3, 1) := by decide +kernel
theorem dX9_rankOf_17 : decode cX9_rankOf 17 = .ok (.iload 4, 2) := by decide +kernel
theorem dX9_rankOf_19 : decode cX9_rankOf 19 = .ok (.iload_n 2, 1) := by decide +kernel
theorem dX9_rankOf_20 : decode cX9_rankOf 20 = .ok (.if_icmp .eq 18, 3) := by decide +kernel
theorem dX9_rankOf_23 : decode cX9_rankOf 23 = .ok (.aload_n 0, 1) := by decide +kernel
theorem dX9_rankOf_24 : decode cX9_rankOf 24 = .ok (.iload_n 1, 1) := by decide +kernel
theorem dX9_rankOf_25 : decode cX9_rankOf 25 = .ok (.iload 4, 2) := by decide +kernel
theorem dX9_rankOf_27 : decode cX9_rankOf 27 = .ok (.iload_n 2, 1) := by decide +kernel
theorem dX9_rankOf_28 : decode cX9_rankOf 28 = .ok (.invokevirtual 210, 3) := by decide +kernel
theorem dX9_rankOf_31 : decode cX9_rankOf 31 = .ok (.ifCond .eq 7, 3) := by decide +kernel
theorem dX9_rankOf_34 : decode cX9_rankOf 34 = .ok (.iconst 1, 1) := by decide +kernel
theorem dX9_rankOf_35 : decode cX9_rankOf 35 = .ok (.goto 4, 3) := by decide +kernel
theorem dX9_rankOf_38 : decode cX9_rankOf 38 = .ok (.iconst 0, 1) := by decide +kernel
theorem dX9_rankOf_39 : decode cX9_rankOf 39 = .ok (.iadd, 1) := by decide +kernel
theorem dX9_rankOf_40 : decode cX9_rankOf 40 = .ok (.istore_n 3, 1) := by decide +kernel
theorem dX9_rankOf_41 : decode cX9_rankOf 41 = .ok (.iinc 4 1, 3) := by decide +kernel
theorem dX9_rankOf_44 : decode cX9_rankOf 44 = .ok (.goto (-39), 3) := by decide +kernel
theorem dX9_rankOf_47 : decode cX9_rankOf 47 = .ok (.iload_n 3, 1) := by decide +kernel
theorem dX9_rankOf_48 : decode cX9_rankOf 48 = .ok (.ireturn, 1) := by decide +kernel
theorem dX9_findRanks_0 : decode cX9_findRanks 0 = .ok (.iconst 0, 1) := by decide +kernel
theorem dX9_findRanks_1 : decode cX9_findRanks 1 = .ok (.istore_n 2, 1) := by decide +kernel
theorem dX9_findRanks_2 : decode cX9_findRanks 2 = .ok (.iload_n 2, 1) := by decide +kernel
theorem dX9_findRanks_3 : decode cX9_findRanks 3 = .ok (.aload_n 0, 1) := by decide +kernel
theorem dX9_findRanks_4 : decode cX9_findRanks 4 = .ok (.getfield 13, 3) := by decide +kernel
theorem dX9_findRanks_7 : decode cX9_findRanks 7 = .ok (.iconst 0, 1) := by decide +kernel
theorem dX9_findRanks_8 : decode cX9_findRanks 8 = .ok (.iaload, 1) := by decide +kernel
theorem dX9_findRanks_9 : decode cX9_findRanks 9 = .ok (.if_icmp .ge 23, 3) := by decide +kernel
theorem dX9_findRanks_12 : decode cX9_findRanks 12 = .ok (.aload_n 0, 1) := by decide +kernel
theorem dX9_findRanks_13 : decode cX9_findRanks 13 = .ok (.getfield 71, 3) := by decide +kernel
theorem dX9_findRanks_16 : decode cX9_findRanks 16 = .ok (.aload_n 0, 1) := by decide +kernel
theorem dX9_findRanks_17 : decode cX9_findRanks 17 = .ok (.iload_n 1, 1) := by decide +kernel
theorem dX9_findRanks_18 : decode cX9_findRanks 18 = .ok (.iload_n 2, 1) := by decide +kernel
theorem dX9_findRanks_19 : decode cX9_findRanks 19 = .ok (.invokevirtual 213, 3) := by decide +kernel
theorem dX9_findRanks_22 : decode cX9_findRanks 22 = .ok (.iconst 1, 1) := by decide +kernel
theorem dX9_findRanks_23 : decode cX9_findRanks 23 = .ok (.isub, 1) := by decide +kernel
theorem dX9_findRanks_24 : decode cX9_findRanks 24 = .ok (.iload_n 2, 1) := by decide +kernel
theorem dX9_findRanks_25 : decode cX9_findRanks 25 = .ok (.iastore, 1) := by decide +kernel
theorem dX9_findRanks_26 : decode cX9_findRanks 26 = .ok (.iinc 2 1, 3) := by decide +kernel
theorem dX9_findRanks_29 : decode cX9_findRanks 29 = .ok (.goto (-27), 3) := by decide +kernel
theorem dX9_findRanks_32 : decode cX9_findRanks 32 = .ok (.return_, 1) := by decide +kernel
theorem dX9_rank_0 : decode cX9_rank 0 = .ok (.aload_n 0, 1) := by decide +kernel
theorem dX9_rank_1 : decode cX9_rank 1 = .ok (.iload_n 1, 1) := by decide +kernel
theorem dX9_rank_2 : decode cX9_rank 2 = .ok (.invokevirtual 152, 3) := by decide +kernel
theorem dX9_rank_5 : decode cX9_rank 5 = .ok (.ifCond .ne 5, 3) := by decide +kernel
theorem dX9_rank_8 : decode cX9_rank 8 = .ok (.iconst (-1), 1) := by decide +kernel
theorem dX9_rank_9 : decode cX9_rank 9 = .ok (.ireturn, 1) := by decide +kernel
theorem dX9_rank_10 : decode cX9_rank 10 = .ok (.aload_n 0, 1) := by decide +kernel
theorem dX9_rank_11 : decode cX9_rank 11 = .ok (.invokevirtual 203, 3) := by decide +kernel
theorem dX9_rank_14 : decode cX9_rank 14 = .ok (.aload_n 0, 1) := by decide +kernel
theorem dX9_rank_15 : decode cX9_rank 15 = .ok (.iconst 0, 1) := by decide +kernel
theorem dX9_rank_16 : decode cX9_rank 16 = .ok (.iload_n 1, 1) := by decide +kernel
theorem dX9_rank_17 : decode cX9_rank 17 = .ok (.invokevirtual 213, 3) := by decide +kernel
theorem dX9_rank_20 : decode cX9_rank 20 = .ok (.ireturn, 1) := by decide +kernel
theorem dX9_who_0 : decode cX9_who 0 = .ok (.iload_n 1, 1) := by decide +kernel
theorem dX9_who_1 : decode cX9_who 1 = .ok (.iconst 1, 1) := by decide +kernel
theorem dX9_who_2 : decode cX9_who 2 = .ok (.aload_n 0, 1) := by decide +kernel
theorem dX9_who_3 : decode cX9_who 3 = .ok (.getfield 13, 3) := by decide +kernel
theorem dX9_who_6 : decode cX9_who 6 = .ok (.iconst 0, 1) := by decide +kernel
theorem dX9_who_7 : decode cX9_who 7 = .ok (.iaload, 1) := by decide +kernel
theorem dX9_who_8 : decode cX9_who 8 = .ok (.invokestatic 93, 3) := by decide +kernel
theorem dX9_who_11 : decode cX9_who 11 = .ok (.ifCond .ne 5, 3) := by decide +kernel
theorem dX9_who_14 : decode cX9_who 14 = .ok (.iconst (-1), 1) := by decide +kernel
theorem dX9_who_15 : decode cX9_who 15 = .ok (.ireturn, 1) := by decide +kernel
theorem dX9_who_16 : decode cX9_who 16 = .ok (.aload_n 0, 1) := by decide +kernel
theorem dX9_who_17 : decode cX9_who 17 = .ok (.invokevirtual 203, 3) := by decide +kernel
theorem dX9_who_20 : decode cX9_who 20 = .ok (.aload_n 0, 1) := by decide +kernel
theorem dX9_who_21 : decode cX9_who 21 = .ok (.iconst 0, 1) := by decide +kernel
theorem dX9_who_22 : decode cX9_who 22 = .ok (.invokevirtual 216, 3) := by decide +kernel
theorem dX9_who_25 : decode cX9_who 25 = .ok (.aload_n 0, 1) := by decide +kernel
theorem dX9_who_26 : decode cX9_who 26 = .ok (.getfield 71, 3) := by decide +kernel
theorem dX9_who_29 : decode cX9_who 29 = .ok (.iload_n 1, 1) := by decide +kernel
theorem dX9_who_30 : decode cX9_who 30 = .ok (.iconst 1, 1) := by decide +kernel
theorem dX9_who_31 : decode cX9_who 31 = .ok (.isub, 1) := by decide +kernel
theorem dX9_who_32 : decode cX9_who 32 = .ok (.iaload, 1) := by decide +kernel
theorem dX9_who_33 : decode cX9_who 33 = .ok (.ireturn, 1) := by decide +kernel
theorem dX9_know_0 : decode cX9_know 0 = .ok (.aload_n 0, 1) := by decide +kernel
theorem dX9_know_1 : decode cX9_know 1 = .ok (.getfield 143, 3) := by decide +kernel
theorem dX9_know_4 : decode cX9_know 4 = .ok (.bipush 8, 2) := by decide +kernel
theorem dX9_know_6 : decode cX9_know 6 = .ok (.if_icmp .ne 45, 3) := by decide +kernel
theorem dX9_know_9 : decode cX9_know 9 = .ok (.iconst 0, 1) := by decide +kernel
theorem dX9_know_10 : decode cX9_know 10 = .ok (.istore_n 1, 1) := by decide +kernel
theorem dX9_know_11 : decode cX9_know 11 = .ok (.iload_n 1, 1) := by decide +kernel
theorem dX9_know_12 : decode cX9_know 12 = .ok (.bipush 112, 2) := by decide +kernel
theorem dX9_know_14 : decode cX9_know 14 = .ok (.if_icmp .ge 27, 3) := by decide +kernel
theorem dX9_know_17 : decode cX9_know 17 = .ok (.aload_n 0, 1) := by decide +kernel
theorem dX9_know_18 : decode cX9_know 18 = .ok (.getfield 62, 3) := by decide +kernel
theorem dX9_know_21 : decode cX9_know 21 = .ok (.bipush 16, 2) := by decide +kernel
theorem dX9_know_23 : decode cX9_know 23 = .ok (.iload_n 1, 1) := by decide +kernel
theorem dX9_know_24 : decode cX9_know 24 = .ok (.iadd, 1) := by decide +kernel
theorem dX9_know_25 : decode cX9_know 25 = .ok (.aload_n 0, 1) := by decide +kernel
theorem dX9_know_26 : decode cX9_know 26 = .ok (.getfield 62, 3) := by decide +kernel
theorem dX9_know_29 : decode cX9_know 29 = .ok (.bipush 32, 2) := by decide +kernel
theorem dX9_know_31 : decode cX9_know 31 = .ok (.iload_n 1, 1) := by decide +kernel
theorem dX9_know_32 : decode cX9_know 32 = .ok (.iadd, 1) := by decide +kernel
theorem dX9_know_33 : decode cX9_know 33 = .ok (.iaload, 1) := by decide +kernel
theorem dX9_know_34 : decode cX9_know 34 = .ok (.iastore, 1) := by decide +kernel
theorem dX9_know_35 : decode cX9_know 35 = .ok (.iinc 1 1, 3) := by decide +kernel
theorem dX9_know_38 : decode cX9_know 38 = .ok (.goto (-27), 3) := by decide +kernel
theorem dX9_know_41 : decode cX9_know 41 = .ok (.aload_n 0, 1) := by decide +kernel
theorem dX9_know_42 : decode cX9_know 42 = .ok (.dup, 1) := by decide +kernel
theorem dX9_know_43 : decode cX9_know 43 = .ok (.getfield 143, 3) := by decide +kernel
theorem dX9_know_46 : decode cX9_know 46 = .ok (.iconst 1, 1) := by decide +kernel
theorem dX9_know_47 : decode cX9_know 47 = .ok (.isub, 1) := by decide +kernel
theorem dX9_know_48 : decode cX9_know 48 = .ok (.putfield 143, 3) := by decide +kernel
theorem dX9_know_51 : decode cX9_know 51 = .ok (.aload_n 0, 1) := by decide +kernel
theorem dX9_know_52 : decode cX9_know 52 = .ok (.iconst 0, 1) := by decide +kernel
theorem dX9_know_53 : decode cX9_know 53 = .ok (.bipush 16, 2) := by decide +kernel
theorem dX9_know_55 : decode cX9_know 55 = .ok (.bipush 16, 2) := by decide +kernel
theorem dX9_know_57 : decode cX9_know 57 = .ok (.aload_n 0, 1) := by decide +kernel
theorem dX9_know_58 : decode cX9_know 58 = .ok (.getfield 143, 3) := by decide +kernel
theorem dX9_know_61 : decode cX9_know 61 = .ok (.imul, 1) := by decide +kernel
theorem dX9_know_62 : decode cX9_know 62 = .ok (.iadd, 1) := by decide +kernel
theorem dX9_know_63 : decode cX9_know 63 = .ok (.invokevirtual 220, 3) := by decide +kernel
theorem dX9_know_66 : decode cX9_know 66 = .ok (.aload_n 0, 1) := by decide +kernel
theorem dX9_know_67 : decode cX9_know 67 = .ok (.dup, 1) := by decide +kernel
theorem dX9_know_68 : decode cX9_know 68 = .ok (.getfield 143, 3) := by decide +kernel
theorem dX9_know_71 : decode cX9_know 71 = .ok (.iconst 1, 1) := by decide +kernel
theorem dX9_know_72 : decode cX9_know 72 = .ok (.iadd, 1) := by decide +kernel
theorem dX9_know_73 : decode cX9_know 73 = .ok (.putfield 143, 3) := by decide +kernel
theorem dX9_know_76 : decode cX9_know 76 = .ok (.return_, 1) := by decide +kernel
theorem dX9_start_0 : decode cX9_start 0 = .ok (.aload_n 0, 1) := by decide +kernel
theorem dX9_start_1 : decode cX9_start 1 = .ok (.iload_n 1, 1) := by decide +kernel
theorem dX9_start_2 : decode cX9_start 2 = .ok (.invokevirtual 152, 3) := by decide +kernel
theorem dX9_start_5 : decode cX9_start 5 = .ok (.ifCond .eq 13, 3) := by decide +kernel
theorem dX9_start_8 : decode cX9_start 8 = .ok (.iload_n 2, 1) := by decide +kernel
theorem dX9_start_9 : decode cX9_start 9 = .ok (.iconst 0, 1) := by decide +kernel
theorem dX9_start_10 : decode cX9_start 10 = .ok (.bipush 30, 2) := by decide +kernel
theorem dX9_start_12 : decode cX9_start 12 = .ok (.invokestatic 93, 3) := by decide +kernel
theorem dX9_start_15 : decode cX9_start 15 = .ok (.ifCond .ne 5, 3) := by decide +kernel
theorem dX9_start_18 : decode cX9_start 18 = .ok (.iconst (-1), 1) := by decide +kernel
theorem dX9_start_19 : decode cX9_start 19 = .ok (.ireturn, 1) := by decide +kernel
theorem dX9_start_20 : decode cX9_start 20 = .ok (.aload_n 0, 1) := by decide +kernel
theorem dX9_start_21 : decode cX9_start 21 = .ok (.invokevirtual 223, 3) := by decide +kernel
theorem dX9_start_24 : decode cX9_start 24 = .ok (.aload_n 0, 1) := by decide +kernel
theorem dX9_start_25 : decode cX9_start 25 = .ok (.getfield 62, 3) := by decide +kernel
theorem dX9_start_28 : decode cX9_start 28 = .ok (.iconst 0, 1) := by decide +kernel
theorem dX9_start_29 : decode cX9_start 29 = .ok (.iload_n 1, 1) := by decide +kernel
theorem dX9_start_30 : decode cX9_start 30 = .ok (.iadd, 1) := by decide +kernel
theorem dX9_start_31 : decode cX9_start 31 = .ok (.iaload, 1) := by decide +kernel
theorem dX9_start_32 : decode cX9_start 32 = .ok (.istore_n 3, 1) := by decide +kernel
theorem dX9_start_33 : decode cX9_start 33 = .ok (.aload_n 0, 1) := by decide +kernel
theorem dX9_start_34 : decode cX9_start 34 = .ok (.getfield 62, 3) := by decide +kernel
theorem dX9_start_37 : decode cX9_start 37 = .ok (.iconst 0, 1) := by decide +kernel
theorem dX9_start_38 : decode cX9_start 38 = .ok (.iload_n 1, 1) := by decide +kernel
theorem dX9_start_39 : decode cX9_start 39 = .ok (.iadd, 1) := by decide +kernel
theorem dX9_start_40 : decode cX9_start 40 = .ok (.iload_n 2, 1) := by decide +kernel
theorem dX9_start_41 : decode cX9_start 41 = .ok (.iastore, 1) := by decide +kernel
theorem dX9_start_42 : decode cX9_start 42 = .ok (.iload_n 3, 1) := by decide +kernel
theorem dX9_start_43 : decode cX9_start 43 = .ok (.ireturn, 1) := by decide +kernel
theorem dX9_hasRider_0 : decode cX9_hasRider 0 = .ok (.iconst 0, 1) := by decide +kernel
theorem dX9_hasRider_1 : decode cX9_hasRider 1 = .ok (.istore_n 2, 1) := by decide +kernel
theorem dX9_hasRider_2 : decode cX9_hasRider 2 = .ok (.iconst 0, 1) := by decide +kernel
theorem dX9_hasRider_3 : decode cX9_hasRider 3 = .ok (.istore_n 3, 1) := by decide +kernel
theorem dX9_hasRider_4 : decode cX9_hasRider 4 = .ok (.iload_n 3, 1) := by decide +kernel
theorem dX9_hasRider_5 : decode cX9_hasRider 5 = .ok (.aload_n 0, 1) := by decide +kernel
theorem dX9_hasRider_6 : decode cX9_hasRider 6 = .ok (.getfield 13, 3) := by decide +kernel
theorem dX9_hasRider_9 : decode cX9_hasRider 9 = .ok (.iconst 0, 1) := by decide +kernel
theorem dX9_hasRider_10 : decode cX9_hasRider 10 = .ok (.iaload, 1) := by decide +kernel
theorem dX9_hasRider_11 : decode cX9_hasRider 11 = .ok (.if_icmp .ge 32, 3) := by decide +kernel
theorem dX9_hasRider_14 : decode cX9_hasRider 14 = .ok (.iload_n 2, 1) := by decide +kernel
theorem dX9_hasRider_15 : decode cX9_hasRider 15 = .ok (.ifCond .ne 16, 3) := by decide +kernel
theorem dX9_hasRider_18 : decode cX9_hasRider 18 = .ok (.aload_n 0, 1) := by decide +kernel
theorem dX9_hasRider_19 : decode cX9_hasRider 19 = .ok (.getfield 62, 3) := by decide +kernel
theorem dX9_hasRider_22 : decode cX9_hasRider 22 = .ok (.bipush 8, 2) := by decide +kernel
theorem dX9_hasRider_24 : decode cX9_hasRider 24 = .ok (.iload_n 3, 1) := by decide +kernel
theorem dX9_hasRider_25 : decode cX9_hasRider 25 = .ok (.iadd, 1) := by decide +kernel
theorem dX9_hasRider_26 : decode cX9_hasRider 26 = .ok (.iaload, 1) := by decide +kernel
theorem dX9_hasRider_27 : decode cX9_hasRider 27 = .ok (.iload_n 1, 1) := by decide +kernel
theorem dX9_hasRider_28 : decode cX9_hasRider 28 = .ok (.if_icmp .ne 7, 3) := by decide +kernel
theorem dX9_hasRider_31 : decode cX9_hasRider 31 = .ok (.iconst 1, 1) := by decide +kernel
theorem dX9_hasRider_32 : decode cX9_hasRider 32 = .ok (.goto 4, 3) := by decide +kernel
theorem dX9_hasRider_35 : decode cX9_hasRider 35 = .ok (.iconst 0, 1) := by decide +kernel
theorem dX9_hasRider_36 : decode cX9_hasRider 36 = .ok (.istore_n 2, 1) := by decide +kernel
theorem dX9_hasRider_37 : decode cX9_hasRider 37 = .ok (.iinc 3 1, 3) := by decide +kernel
theorem dX9_hasRider_40 : decode cX9_hasRider 40 = .ok (.goto (-36), 3) := by decide +kernel
theorem dX9_hasRider_43 : decode cX9_hasRider 43 = .ok (.iload_n 2, 1) := by decide +kernel
theorem dX9_hasRider_44 : decode cX9_hasRider 44 = .ok (.ireturn, 1) := by decide +kernel
theorem dX9_ride_0 : decode cX9_ride 0 = .ok (.aload_n 0, 1) := by decide +kernel
theorem dX9_ride_1 : decode cX9_ride 1 = .ok (.iload_n 1, 1) := by decide +kernel
theorem dX9_ride_2 : decode cX9_ride 2 = .ok (.invokevirtual 152, 3) := by decide +kernel
theorem dX9_ride_5 : decode cX9_ride 5 = .ok (.ifCond .eq 16, 3) := by decide +kernel
theorem dX9_ride_8 : decode cX9_ride 8 = .ok (.aload_n 0, 1) := by decide +kernel
theorem dX9_ride_9 : decode cX9_ride 9 = .ok (.iload_n 2, 1) := by decide +kernel
theorem dX9_ride_10 : decode cX9_ride 10 = .ok (.invokevirtual 152, 3) := by decide +kernel
theorem dX9_ride_13 : decode cX9_ride 13 = .ok (.ifCond .eq 8, 3) := by decide +kernel
theorem dX9_ride_16 : decode cX9_ride 16 = .ok (.iload_n 1, 1) := by decide +kernel
theorem dX9_ride_17 : decode cX9_ride 17 = .ok (.iload_n 2, 1) := by decide +kernel
theorem dX9_ride_18 : decode cX9_ride 18 = .ok (.if_icmp .ne 5, 3) := by decide +kernel
theorem dX9_ride_21 : decode cX9_ride 21 = .ok (.iconst (-1), 1) := by decide +kernel
theorem dX9_ride_22 : decode cX9_ride 22 = .ok (.ireturn, 1) := by decide +kernel
theorem dX9_ride_23 : decode cX9_ride 23 = .ok (.aload_n 0, 1) := by decide +kernel
theorem dX9_ride_24 : decode cX9_ride 24 = .ok (.getfield 62, 3) := by decide +kernel
theorem dX9_ride_27 : decode cX9_ride 27 = .ok (.bipush 8, 2) := by decide +kernel
theorem dX9_ride_29 : decode cX9_ride 29 = .ok (.iload_n 2, 1) := by decide +kernel
theorem dX9_ride_30 : decode cX9_ride 30 = .ok (.iadd, 1) := by decide +kernel
theorem dX9_ride_31 : decode cX9_ride 31 = .ok (.iaload, 1) := by decide +kernel
theorem dX9_ride_32 : decode cX9_ride 32 = .ok (.bipush (-4), 2) := by decide +kernel
theorem dX9_ride_34 : decode cX9_ride 34 = .ok (.if_icmp .ne 21, 3) := by decide +kernel
theorem dX9_ride_37 : decode cX9_ride 37 = .ok (.aload_n 0, 1) := by decide +kernel
theorem dX9_ride_38 : decode cX9_ride 38 = .ok (.iload_n 1, 1) := by decide +kernel
theorem dX9_ride_39 : decode cX9_ride 39 = .ok (.invokevirtual 226, 3) := by decide +kernel
theorem dX9_ride_42 : decode cX9_ride 42 = .ok (.ifCond .ne 13, 3) := by decide +kernel
theorem dX9_ride_45 : decode cX9_ride 45 = .ok (.aload_n 0, 1) := by decide +kernel
theorem dX9_ride_46 : decode cX9_ride 46 = .ok (.iload_n 1, 1) := by decide +kernel
theorem dX9_ride_47 : decode cX9_ride 47 = .ok (.invokevirtual 156, 3) := by decide +kernel
theorem dX9_ride_50 : decode cX9_ride 50 = .ok (.bipush (-4), 2) := by decide +kernel
theorem dX9_ride_52 : decode cX9_ride 52 = .ok (.if_icmp .eq 6, 3) := by decide +kernel
theorem dX9_ride_55 : decode cX9_ride 55 = .ok (.bipush (-2), 2) := by decide +kernel
theorem dX9_ride_57 : decode cX9_ride 57 = .ok (.ireturn, 1) := by decide +kernel
theorem dX9_ride_58 : decode cX9_ride 58 = .ok (.aload_n 0, 1) := by decide +kernel
theorem dX9_ride_59 : decode cX9_ride 59 = .ok (.invokevirtual 223, 3) := by decide +kernel
theorem dX9_ride_62 : decode cX9_ride 62 = .ok (.aload_n 0, 1) := by decide +kernel
theorem dX9_ride_63 : decode cX9_ride 63 = .ok (.getfield 62, 3) := by decide +kernel
theorem dX9_ride_66 : decode cX9_ride 66 = .ok (.bipush 8, 2) := by decide +kernel
theorem dX9_ride_68 : decode cX9_ride 68 = .ok (.iload_n 1, 1) := by decide +kernel
theorem dX9_ride_69 : decode cX9_ride 69 = .ok (.iadd, 1) := by decide +kernel
theorem dX9_ride_70 : decode cX9_ride 70 = .ok (.iaload, 1) := by decide +kernel
theorem dX9_ride_71 : decode cX9_ride 71 = .ok (.istore_n 3, 1) := by decide +kernel
theorem dX9_ride_72 : decode cX9_ride 72 = .ok (.aload_n 0, 1) := by decide +kernel
theorem dX9_ride_73 : decode cX9_ride 73 = .ok (.getfield 62, 3) := by decide +kernel
theorem dX9_ride_76 : decode cX9_ride 76 = .ok (.bipush 8, 2) := by decide +kernel
theorem dX9_ride_78 : decode cX9_ride 78 = .ok (.iload_n 1, 1) := by decide +kernel
theorem dX9_ride_79 : decode cX9_ride 79 = .ok (.iadd, 1) := by decide +kernel
theorem dX9_ride_80 : decode cX9_ride 80 = .ok (.iload_n 2, 1) := by decide +kernel
theorem dX9_ride_81 : decode cX9_ride 81 = .ok (.iastore, 1) := by decide +kernel
theorem dX9_ride_82 : decode cX9_ride 82 = .ok (.iload_n 3, 1) := by decide +kernel
theorem dX9_ride_83 : decode cX9_ride 83 = .ok (.ireturn, 1) := by decide +kernel
theorem dX9_leave_0 : decode cX9_leave 0 = .ok (.aload_n 0, 1) := by decide +kernel
theorem dX9_leave_1 : decode cX9_leave 1 = .ok (.iload_n 1, 1) := by decide +kernel
theorem dX9_leave_2 : decode cX9_leave 2 = .ok (.invokevirtual 152, 3) := by decide +kernel
theorem dX9_leave_5 : decode cX9_leave 5 = .ok (.ifCond .ne 5, 3) := by decide +kernel
theorem dX9_leave_8 : decode cX9_leave 8 = .ok (.iconst (-1), 1) := by decide +kernel
theorem dX9_leave_9 : decode cX9_leave 9 = .ok (.ireturn, 1) := by decide +kernel
theorem dX9_leave_10 : decode cX9_leave 10 = .ok (.aload_n 0, 1) := by decide +kernel
theorem dX9_leave_11 : decode cX9_leave 11 = .ok (.getfield 62, 3) := by decide +kernel
theorem dX9_leave_14 : decode cX9_leave 14 = .ok (.bipush 8, 2) := by decide +kernel
theorem dX9_leave_16 : decode cX9_leave 16 = .ok (.iload_n 1, 1) := by decide +kernel
theorem dX9_leave_17 : decode cX9_leave 17 = .ok (.iadd, 1) := by decide +kernel
theorem dX9_leave_18 : decode cX9_leave 18 = .ok (.iaload, 1) := by decide +kernel
theorem dX9_leave_19 : decode cX9_leave 19 = .ok (.bipush (-4), 2) := by decide +kernel
theorem dX9_leave_21 : decode cX9_leave 21 = .ok (.if_icmp .ne 6, 3) := by decide +kernel
theorem dX9_leave_24 : decode cX9_leave 24 = .ok (.bipush (-2), 2) := by decide +kernel
theorem dX9_leave_26 : decode cX9_leave 26 = .ok (.ireturn, 1) := by decide +kernel
theorem dX9_leave_27 : decode cX9_leave 27 = .ok (.aload_n 0, 1) := by decide +kernel
theorem dX9_leave_28 : decode cX9_leave 28 = .ok (.invokevirtual 223, 3) := by decide +kernel
theorem dX9_leave_31 : decode cX9_leave 31 = .ok (.aload_n 0, 1) := by decide +kernel
theorem dX9_leave_32 : decode cX9_leave 32 = .ok (.getfield 62, 3) := by decide +kernel
theorem dX9_leave_35 : decode cX9_leave 35 = .ok (.bipush 8, 2) := by decide +kernel
theorem dX9_leave_37 : decode cX9_leave 37 = .ok (.iload_n 1, 1) := by decide +kernel
theorem dX9_leave_38 : decode cX9_leave 38 = .ok (.iadd, 1) := by decide +kernel
theorem dX9_leave_39 : decode cX9_leave 39 = .ok (.iaload, 1) := by decide +kernel
theorem dX9_leave_40 : decode cX9_leave 40 = .ok (.istore_n 2, 1) := by decide +kernel
theorem dX9_leave_41 : decode cX9_leave 41 = .ok (.aload_n 0, 1) := by decide +kernel
theorem dX9_leave_42 : decode cX9_leave 42 = .ok (.getfield 62, 3) := by decide +kernel
theorem dX9_leave_45 : decode cX9_leave 45 = .ok (.bipush 8, 2) := by decide +kernel
theorem dX9_leave_47 : decode cX9_leave 47 = .ok (.iload_n 1, 1) := by decide +kernel
theorem dX9_leave_48 : decode cX9_leave 48 = .ok (.iadd, 1) := by decide +kernel
theorem dX9_leave_49 : decode cX9_leave 49 = .ok (.bipush (-4), 2) := by decide +kernel
theorem dX9_leave_51 : decode cX9_leave 51 = .ok (.iastore, 1) := by decide +kernel
theorem dX9_leave_52 : decode cX9_leave 52 = .ok (.iload_n 2, 1) := by decide +kernel
theorem dX9_leave_53 : decode cX9_leave 53 = .ok (.ireturn, 1) := by decide +kernel
theorem dX9_undo_0 : decode cX9_undo 0 = .ok (.aload_n 0, 1) := by decide +kernel
theorem dX9_undo_1 : decode cX9_undo 1 = .ok (.getfield 143, 3) := by decide +kernel
theorem dX9_undo_4 : decode cX9_undo 4 = .ok (.ifCond .ne 6, 3) := by decide +kernel
theorem dX9_undo_7 : decode cX9_undo 7 = .ok (.bipush (-2), 2) := by decide +kernel
theorem dX9_undo_9 : decode cX9_undo 9 = .ok (.ireturn, 1) := by decide +kernel
theorem dX9_undo_10 : decode cX9_undo 10 = .ok (.aload_n 0, 1) := by decide +kernel
theorem dX9_undo_11 : decode cX9_undo 11 = .ok (.dup, 1) := by decide +kernel
theorem dX9_undo_12 : decode cX9_undo 12 = .ok (.getfield 143, 3) := by decide +kernel
theorem dX9_undo_15 : decode cX9_undo 15 = .ok (.iconst 1, 1) := by decide +kernel
theorem dX9_undo_16 : decode cX9_undo 16 = .ok (.isub, 1) := by decide +kernel
theorem dX9_undo_17 : decode cX9_undo 17 = .ok (.putfield 143, 3) := by decide +kernel
theorem dX9_undo_20 : decode cX9_undo 20 = .ok (.aload_n 0, 1) := by decide +kernel
theorem dX9_undo_21 : decode cX9_undo 21 = .ok (.bipush 16, 2) := by decide +kernel
theorem dX9_undo_23 : decode cX9_undo 23 = .ok (.bipush 16, 2) := by decide +kernel
theorem dX9_undo_25 : decode cX9_undo 25 = .ok (.aload_n 0, 1) := by decide +kernel
theorem dX9_undo_26 : decode cX9_undo 26 = .ok (.getfield 143, 3) := by decide +kernel
theorem dX9_undo_29 : decode cX9_undo 29 = .ok (.imul, 1) := by decide +kernel
theorem dX9_undo_30 : decode cX9_undo 30 = .ok (.iadd, 1) := by decide +kernel
theorem dX9_undo_31 : decode cX9_undo 31 = .ok (.iconst 0, 1) := by decide +kernel
theorem dX9_undo_32 : decode cX9_undo 32 = .ok (.invokevirtual 220, 3) := by decide +kernel
theorem dX9_undo_35 : decode cX9_undo 35 = .ok (.aload_n 0, 1) := by decide +kernel
theorem dX9_undo_36 : decode cX9_undo 36 = .ok (.getfield 143, 3) := by decide +kernel
theorem dX9_undo_39 : decode cX9_undo 39 = .ok (.ireturn, 1) := by decide +kernel
theorem dX9_rankTried_0 : decode cX9_rankTried 0 = .ok (.aload_n 0, 1) := by decide +kernel
theorem dX9_rankTried_1 : decode cX9_rankTried 1 = .ok (.invokevirtual 196, 3) := by decide +kernel
theorem dX9_rankTried_4 : decode cX9_rankTried 4 = .ok (.aload_n 0, 1) := by decide +kernel
theorem dX9_rankTried_5 : decode cX9_rankTried 5 = .ok (.sipush 176, 3) := by decide +kernel
theorem dX9_rankTried_8 : decode cX9_rankTried 8 = .ok (.sipush 200, 3) := by decide +kernel
theorem dX9_rankTried_11 : decode cX9_rankTried 11 = .ok (.invokevirtual 199, 3) := by decide +kernel
theorem dX9_rankTried_14 : decode cX9_rankTried 14 = .ok (.aload_n 0, 1) := by decide +kernel
theorem dX9_rankTried_15 : decode cX9_rankTried 15 = .ok (.sipush 176, 3) := by decide +kernel
theorem dX9_rankTried_18 : decode cX9_rankTried 18 = .ok (.iload_n 1, 1) := by decide +kernel
theorem dX9_rankTried_19 : decode cX9_rankTried 19 = .ok (.invokevirtual 213, 3) := by decide +kernel
theorem dX9_rankTried_22 : decode cX9_rankTried 22 = .ok (.ireturn, 1) := by decide +kernel
theorem dX9_late_0 : decode cX9_late 0 = .ok (.aload_n 0, 1) := by decide +kernel
theorem dX9_late_1 : decode cX9_late 1 = .ok (.iload_n 1, 1) := by decide +kernel
theorem dX9_late_2 : decode cX9_late 2 = .ok (.invokevirtual 152, 3) := by decide +kernel
theorem dX9_late_5 : decode cX9_late 5 = .ok (.ifCond .ne 5, 3) := by decide +kernel
theorem dX9_late_8 : decode cX9_late 8 = .ok (.iconst (-1), 1) := by decide +kernel
theorem dX9_late_9 : decode cX9_late 9 = .ok (.ireturn, 1) := by decide +kernel
theorem dX9_late_10 : decode cX9_late 10 = .ok (.aload_n 0, 1) := by decide +kernel
theorem dX9_late_11 : decode cX9_late 11 = .ok (.iconst 0, 1) := by decide +kernel
theorem dX9_late_12 : decode cX9_late 12 = .ok (.sipush 176, 3) := by decide +kernel
theorem dX9_late_15 : decode cX9_late 15 = .ok (.invokevirtual 220, 3) := by decide +kernel
theorem dX9_late_18 : decode cX9_late 18 = .ok (.aload_n 0, 1) := by decide +kernel
theorem dX9_late_19 : decode cX9_late 19 = .ok (.iload_n 1, 1) := by decide +kernel
theorem dX9_late_20 : decode cX9_late 20 = .ok (.invokevirtual 229, 3) := by decide +kernel
theorem dX9_late_23 : decode cX9_late 23 = .ok (.istore_n 2, 1) := by decide +kernel
theorem dX9_late_24 : decode cX9_late 24 = .ok (.bipush 30, 2) := by decide +kernel
theorem dX9_late_26 : decode cX9_late 26 = .ok (.istore_n 3, 1) := by decide +kernel
theorem dX9_late_27 : decode cX9_late 27 = .ok (.iload_n 3, 1) := by decide +kernel
theorem dX9_late_28 : decode cX9_late 28 = .ok (.ifCond .lt 31, 3) := by decide +kernel
theorem dX9_late_31 : decode cX9_late 31 = .ok (.aload_n 0, 1) := by decide +kernel
theorem dX9_late_32 : decode cX9_late 32 = .ok (.getfield 62, 3) := by decide +kernel
theorem dX9_late_35 : decode cX9_late 35 = .ok (.sipush 176, 3) := by decide +kernel
theorem dX9_late_38 : decode cX9_late 38 = .ok (.iload_n 1, 1) := by decide +kernel
theorem dX9_late_39 : decode cX9_late 39 = .ok (.iadd, 1) := by decide +kernel
theorem dX9_late_40 : decode cX9_late 40 = .ok (.iload_n 3, 1) := by decide +kernel
theorem dX9_late_41 : decode cX9_late 41 = .ok (.iastore, 1) := by decide +kernel
theorem dX9_late_42 : decode cX9_late 42 = .ok (.aload_n 0, 1) := by decide +kernel
theorem dX9_late_43 : decode cX9_late 43 = .ok (.iload_n 1, 1) := by decide +kernel
theorem dX9_late_44 : decode cX9_late 44 = .ok (.invokevirtual 229, 3) := by decide +kernel
theorem dX9_late_47 : decode cX9_late 47 = .ok (.iload_n 2, 1) := by decide +kernel
theorem dX9_late_48 : decode cX9_late 48 = .ok (.if_icmp .gt 5, 3) := by decide +kernel
theorem dX9_late_51 : decode cX9_late 51 = .ok (.iload_n 3, 1) := by decide +kernel
theorem dX9_late_52 : decode cX9_late 52 = .ok (.ireturn, 1) := by decide +kernel
theorem dX9_late_53 : decode cX9_late 53 = .ok (.iinc 3 (-1), 3) := by decide +kernel
theorem dX9_late_56 : decode cX9_late 56 = .ok (.goto (-29), 3) := by decide +kernel
theorem dX9_late_59 : decode cX9_late 59 = .ok (.bipush (-4), 2) := by decide +kernel
theorem dX9_late_61 : decode cX9_late 61 = .ok (.ireturn, 1) := by decide +kernel
theorem dX9_back_0 : decode cX9_back 0 = .ok (.aload_n 0, 1) := by decide +kernel
theorem dX9_back_1 : decode cX9_back 1 = .ok (.iload_n 1, 1) := by decide +kernel
theorem dX9_back_2 : decode cX9_back 2 = .ok (.invokevirtual 152, 3) := by decide +kernel
theorem dX9_back_5 : decode cX9_back 5 = .ok (.ifCond .eq 12, 3) := by decide +kernel
theorem dX9_back_8 : decode cX9_back 8 = .ok (.iload_n 2, 1) := by decide +kernel
theorem dX9_back_9 : decode cX9_back 9 = .ok (.iconst 0, 1) := by decide +kernel
theorem dX9_back_10 : decode cX9_back 10 = .ok (.iconst 1, 1) := by decide +kernel
theorem dX9_back_11 : decode cX9_back 11 = .ok (.invokestatic 93, 3) := by decide +kernel
theorem dX9_back_14 : decode cX9_back 14 = .ok (.ifCond .ne 5, 3) := by decide +kernel
theorem dX9_back_17 : decode cX9_back 17 = .ok (.iconst (-1), 1) := by decide +kernel
theorem dX9_back_18 : decode cX9_back 18 = .ok (.ireturn, 1) := by decide +kernel
theorem dX9_back_19 : decode cX9_back 19 = .ok (.aload_n 0, 1) := by decide +kernel
theorem dX9_back_20 : decode cX9_back 20 = .ok (.iload_n 1, 1) := by decide +kernel
theorem dX9_back_21 : decode cX9_back 21 = .ok (.invokevirtual 226, 3) := by decide +kernel
theorem dX9_back_24 : decode cX9_back 24 = .ok (.ifCond .ne 13, 3) := by decide +kernel
theorem dX9_back_27 : decode cX9_back 27 = .ok (.aload_n 0, 1) := by decide +kernel
theorem dX9_back_28 : decode cX9_back 28 = .ok (.iload_n 1, 1) := by decide +kernel
theorem dX9_back_29 : decode cX9_back 29 = .ok (.invokevirtual 156, 3) := by decide +kernel
theorem dX9_back_32 : decode cX9_back 32 = .ok (.bipush (-4), 2) := by decide +kernel
theorem dX9_back_34 : decode cX9_back 34 = .ok (.if_icmp .eq 6, 3) := by decide +kernel
theorem dX9_back_37 : decode cX9_back 37 = .ok (.bipush (-2), 2) := by decide +kernel
theorem dX9_back_39 : decode cX9_back 39 = .ok (.ireturn, 1) := by decide +kernel
theorem dX9_back_40 : decode cX9_back 40 = .ok (.aload_n 0, 1) := by decide +kernel
theorem dX9_back_41 : decode cX9_back 41 = .ok (.iconst 0, 1) := by decide +kernel
theorem dX9_back_42 : decode cX9_back 42 = .ok (.sipush 176, 3) := by decide +kernel
theorem dX9_back_45 : decode cX9_back 45 = .ok (.invokevirtual 220, 3) := by decide +kernel
theorem dX9_back_48 : decode cX9_back 48 = .ok (.aload_n 0, 1) := by decide +kernel
theorem dX9_back_49 : decode cX9_back 49 = .ok (.getfield 62, 3) := by decide +kernel
theorem dX9_back_52 : decode cX9_back 52 = .ok (.sipush 184, 3) := by decide +kernel
theorem dX9_back_55 : decode cX9_back 55 = .ok (.iload_n 1, 1) := by decide +kernel
theorem dX9_back_56 : decode cX9_back 56 = .ok (.iadd, 1) := by decide +kernel
theorem dX9_back_57 : decode cX9_back 57 = .ok (.bipush (-4), 2) := by decide +kernel
theorem dX9_back_59 : decode cX9_back 59 = .ok (.iastore, 1) := by decide +kernel
theorem dX9_back_60 : decode cX9_back 60 = .ok (.aload_n 0, 1) := by decide +kernel
theorem dX9_back_61 : decode cX9_back 61 = .ok (.iload_n 1, 1) := by decide +kernel
theorem dX9_back_62 : decode cX9_back 62 = .ok (.invokevirtual 229, 3) := by decide +kernel
theorem dX9_back_65 : decode cX9_back 65 = .ok (.istore_n 3, 1) := by decide +kernel
theorem dX9_back_66 : decode cX9_back 66 = .ok (.bipush (-4), 2) := by decide +kernel
theorem dX9_back_68 : decode cX9_back 68 = .ok (.istore 4, 2) := by decide +kernel
theorem dX9_back_70 : decode cX9_back 70 = .ok (.iconst 0, 1) := by decide +kernel
theorem dX9_back_71 : decode cX9_back 71 = .ok (.istore 5, 2) := by decide +kernel
theorem dX9_back_73 : decode cX9_back 73 = .ok (.iload 5, 2) := by decide +kernel
theorem dX9_back_75 : decode cX9_back 75 = .ok (.aload_n 0, 1) := by decide +kernel
theorem dX9_back_76 : decode cX9_back 76 = .ok (.getfield 13, 3) := by decide +kernel
theorem dX9_back_79 : decode cX9_back 79 = .ok (.iconst 0, 1) := by decide +kernel
theorem dX9_back_80 : decode cX9_back 80 = .ok (.iaload, 1) := by decide +kernel
theorem dX9_back_81 : decode cX9_back 81 = .ok (.if_icmp .ge 77, 3) := by decide +kernel
theorem dX9_back_84 : decode cX9_back 84 = .ok (.iload 5, 2) := by decide +kernel
theorem dX9_back_86 : decode cX9_back 86 = .ok (.iload_n 1, 1) := by decide +kernel
theorem dX9_back_87 : decode cX9_back 87 = .ok (.if_icmp .eq 65, 3) := by decide +kernel
theorem dX9_back_90 : decode cX9_back 90 = .ok (.aload_n 0, 1) := by decide +kernel
theorem dX9_back_91 : decode cX9_back 91 = .ok (.getfield 62, 3) := by decide +kernel
theorem dX9_back_94 : decode cX9_back 94 = .ok (.bipush 8, 2) := by decide +kernel
theorem dX9_back_96 : decode cX9_back 96 = .ok (.iload 5, 2) := by decide +kernel
theorem dX9_back_98 : decode cX9_back 98 = .ok (.iadd, 1) := by decide +kernel
theorem dX9_back_99 : decode cX9_back 99 = .ok (.iaload, 1) := by decide +kernel
theorem dX9_back_100 : decode cX9_back 100 = .ok (.bipush (-4), 2) := by decide +kernel
theorem dX9_back_102 : decode cX9_back 102 = .ok (.if_icmp .ne 50, 3) := by decide +kernel
theorem dX9_back_105 : decode cX9_back 105 = .ok (.aload_n 0, 1) := by decide +kernel
theorem dX9_back_106 : decode cX9_back 106 = .ok (.getfield 62, 3) := by decide +kernel
theorem dX9_back_109 : decode cX9_back 109 = .ok (.sipush 184, 3) := by decide +kernel
theorem dX9_back_112 : decode cX9_back 112 = .ok (.iload_n 1, 1) := by decide +kernel
theorem dX9_back_113 : decode cX9_back 113 = .ok (.iadd, 1) := by decide +kernel
theorem dX9_back_114 : decode cX9_back 114 = .ok (.iload 5, 2) := by decide +kernel
theorem dX9_back_116 : decode cX9_back 116 = .ok (.iastore, 1) := by decide +kernel
theorem dX9_back_117 : decode cX9_back 117 = .ok (.aload_n 0, 1) := by decide +kernel
theorem dX9_back_118 : decode cX9_back 118 = .ok (.iload_n 1, 1) := by decide +kernel
theorem dX9_back_119 : decode cX9_back 119 = .ok (.invokevirtual 229, 3) := by decide +kernel
theorem dX9_back_122 : decode cX9_back 122 = .ok (.istore 6, 2) := by decide +kernel
theorem dX9_back_124 : decode cX9_back 124 = .ok (.iload 6, 2) := by decide +kernel
theorem dX9_back_126 : decode cX9_back 126 = .ok (.iload_n 3, 1) := by decide +kernel
theorem dX9_back_127 : decode cX9_back 127 = .ok (.if_icmp .ge 8, 3) := by decide +kernel
theorem dX9_back_130 : decode cX9_back 130 = .ok (.iload 5, 2) := by decide +kernel
theorem dX9_back_132 : decode cX9_back 132 = .ok (.goto 5, 3) := by decide +kernel
theorem dX9_back_135 : decode cX9_back 135 = .ok (.iload 4, 2) := by decide +kernel
theorem dX9_back_137 : decode cX9_back 137 = .ok (.istore 4, 2) := by decide +kernel
theorem dX9_back_139 : decode cX9_back 139 = .ok (.iload 6, 2) := by decide +kernel
theorem dX9_back_141 : decode cX9_back 141 = .ok (.iload_n 3, 1) := by decide +kernel
theorem dX9_back_142 : decode cX9_back 142 = .ok (.if_icmp .ge 8, 3) := by decide +kernel
theorem dX9_back_145 : decode cX9_back 145 = .ok (.iload 6, 2) := by decide +kernel
theorem dX9_back_147 : decode cX9_back 147 = .ok (.goto 4, 3) := by decide +kernel
theorem dX9_back_150 : decode cX9_back 150 = .ok (.iload_n 3, 1) := by decide +kernel
theorem dX9_back_151 : decode cX9_back 151 = .ok (.istore_n 3, 1) := by decide +kernel
theorem dX9_back_152 : decode cX9_back 152 = .ok (.iinc 5 1, 3) := by decide +kernel
theorem dX9_back_155 : decode cX9_back 155 = .ok (.goto (-82), 3) := by decide +kernel
theorem dX9_back_158 : decode cX9_back 158 = .ok (.iload_n 2, 1) := by decide +kernel
theorem dX9_back_159 : decode cX9_back 159 = .ok (.ifCond .ne 8, 3) := by decide +kernel
theorem dX9_back_162 : decode cX9_back 162 = .ok (.iload 4, 2) := by decide +kernel
theorem dX9_back_164 : decode cX9_back 164 = .ok (.goto 4, 3) := by decide +kernel
theorem dX9_back_167 : decode cX9_back 167 = .ok (.iload_n 3, 1) := by decide +kernel
theorem dX9_back_168 : decode cX9_back 168 = .ok (.ireturn, 1) := by decide +kernel
theorem dX9_twos_0 : decode cX9_twos 0 = .ok (.iconst 0, 1) := by decide +kernel
theorem dX9_twos_1 : decode cX9_twos 1 = .ok (.istore_n 1, 1) := by decide +kernel
theorem dX9_twos_2 : decode cX9_twos 2 = .ok (.iload_n 1, 1) := by decide +kernel
theorem dX9_twos_3 : decode cX9_twos 3 = .ok (.sipush 256, 3) := by decide +kernel
theorem dX9_twos_6 : decode cX9_twos 6 = .ok (.if_icmp .ge 25, 3) := by decide +kernel
theorem dX9_twos_9 : decode cX9_twos 9 = .ok (.aload_n 0, 1) := by decide +kernel
theorem dX9_twos_10 : decode cX9_twos 10 = .ok (.getfield 74, 3) := by decide +kernel
theorem dX9_twos_13 : decode cX9_twos 13 = .ok (.iload_n 1, 1) := by decide +kernel
theorem dX9_twos_14 : decode cX9_twos 14 = .ok (.iload_n 1, 1) := by decide +kernel
theorem dX9_twos_15 : decode cX9_twos 15 = .ok (.ifCond .ne 7, 3) := by decide +kernel
theorem dX9_twos_18 : decode cX9_twos 18 = .ok (.iconst 0, 1) := by decide +kernel
theorem dX9_twos_19 : decode cX9_twos 19 = .ok (.goto 5, 3) := by decide +kernel
theorem dX9_twos_22 : decode cX9_twos 22 = .ok (.bipush (-4), 2) := by decide +kernel
theorem dX9_twos_24 : decode cX9_twos 24 = .ok (.iastore, 1) := by decide +kernel
theorem dX9_twos_25 : decode cX9_twos 25 = .ok (.iinc 1 1, 3) := by decide +kernel
theorem dX9_twos_28 : decode cX9_twos 28 = .ok (.goto (-26), 3) := by decide +kernel
theorem dX9_twos_31 : decode cX9_twos 31 = .ok (.iconst 0, 1) := by decide +kernel
theorem dX9_twos_32 : decode cX9_twos 32 = .ok (.istore_n 1, 1) := by decide +kernel
theorem dX9_twos_33 : decode cX9_twos 33 = .ok (.iload_n 1, 1) := by decide +kernel
theorem dX9_twos_34 : decode cX9_twos 34 = .ok (.aload_n 0, 1) := by decide +kernel
theorem dX9_twos_35 : decode cX9_twos 35 = .ok (.getfield 13, 3) := by decide +kernel
theorem dX9_twos_38 : decode cX9_twos 38 = .ok (.iconst 0, 1) := by decide +kernel
theorem dX9_twos_39 : decode cX9_twos 39 = .ok (.iaload, 1) := by decide +kernel
theorem dX9_twos_40 : decode cX9_twos 40 = .ok (.if_icmp .ge 177, 3) := by decide +kernel
theorem dX9_twos_43 : decode cX9_twos 43 = .ok (.aload_n 0, 1) := by decide +kernel
theorem dX9_twos_44 : decode cX9_twos 44 = .ok (.getfield 23, 3) := by decide +kernel
theorem dX9_twos_47 : decode cX9_twos 47 = .ok (.iload_n 1, 1) := by decide +kernel
theorem dX9_twos_48 : decode cX9_twos 48 = .ok (.iaload, 1) := by decide +kernel
theorem dX9_twos_49 : decode cX9_twos 49 = .ok (.iconst 1, 1) := by decide +kernel
theorem dX9_twos_50 : decode cX9_twos 50 = .ok (.if_icmp .ne 161, 3) := by decide +kernel
theorem dX9_twos_53 : decode cX9_twos 53 = .ok (.aload_n 0, 1) := by decide +kernel
theorem dX9_twos_54 : decode cX9_twos 54 = .ok (.iload_n 1, 1) := by decide +kernel
theorem dX9_twos_55 : decode cX9_twos 55 = .ok (.invokevirtual 156, 3) := by decide +kernel
theorem dX9_twos_58 : decode cX9_twos 58 = .ok (.bipush (-4), 2) := by decide +kernel
theorem dX9_twos_60 : decode cX9_twos 60 = .ok (.if_icmp .ne 151, 3) := by decide +kernel
theorem dX9_twos_63 : decode cX9_twos 63 = .ok (.sipush 255, 3) := by decide +kernel
theorem dX9_twos_66 : decode cX9_twos 66 = .ok (.istore_n 2, 1) := by decide +kernel
theorem dX9_twos_67 : decode cX9_twos 67 = .ok (.iload_n 2, 1) := by decide +kernel
theorem dX9_twos_68 : decode cX9_twos 68 = .ok (.ifCond .lt 143, 3) := by decide +kernel
theorem dX9_twos_71 : decode cX9_twos 71 = .ok (.iconst 0, 1) := by decide +kernel
theorem dX9_twos_72 : decode cX9_twos 72 = .ok (.istore_n 3, 1) := by decide +kernel
theorem dX9_twos_73 : decode cX9_twos 73 = .ok (.iload_n 3, 1) := by decide +kernel
theorem dX9_twos_74 : decode cX9_twos 74 = .ok (.aload_n 0, 1) := by decide +kernel
theorem dX9_twos_75 : decode cX9_twos 75 = .ok (.getfield 13, 3) := by decide +kernel
theorem dX9_twos_78 : decode cX9_twos 78 = .ok (.iconst 0, 1) := by decide +kernel
theorem dX9_twos_79 : decode cX9_twos 79 = .ok (.iaload, 1) := by decide +kernel
theorem dX9_twos_80 : decode cX9_twos 80 = .ok (.if_icmp .ge 125, 3) := by decide +kernel
theorem dX9_twos_83 : decode cX9_twos 83 = .ok (.aload_n 0, 1) := by decide +kernel
theorem dX9_twos_84 : decode cX9_twos 84 = .ok (.getfield 74, 3) := by decide +kernel
theorem dX9_twos_87 : decode cX9_twos 87 = .ok (.iload_n 2, 1) := by decide +kernel
theorem dX9_twos_88 : decode cX9_twos 88 = .ok (.iaload, 1) := by decide +kernel
theorem dX9_twos_89 : decode cX9_twos 89 = .ok (.bipush (-4), 2) := by decide +kernel
theorem dX9_twos_91 : decode cX9_twos 91 = .ok (.if_icmp .eq 114, 3) := by decide +kernel
theorem dX9_twos_94 : decode cX9_twos 94 = .ok (.aload_n 0, 1) := by decide +kernel
theorem dX9_twos_95 : decode cX9_twos 95 = .ok (.getfield 23, 3) := by decide +kernel
theorem dX9_twos_98 : decode cX9_twos 98 = .ok (.iload_n 3, 1) := by decide +kernel
theorem dX9_twos_99 : decode cX9_twos 99 = .ok (.iaload, 1) := by decide +kernel
theorem dX9_twos_100 : decode cX9_twos 100 = .ok (.iconst 1, 1) := by decide +kernel
theorem dX9_twos_101 : decode cX9_twos 101 = .ok (.if_icmp .eq 40, 3) := by decide +kernel
theorem dX9_twos_104 : decode cX9_twos 104 = .ok (.aload_n 0, 1) := by decide +kernel
theorem dX9_twos_105 : decode cX9_twos 105 = .ok (.iload_n 3, 1) := by decide +kernel
theorem dX9_twos_106 : decode cX9_twos 106 = .ok (.invokevirtual 156, 3) := by decide +kernel
theorem dX9_twos_109 : decode cX9_twos 109 = .ok (.bipush (-4), 2) := by decide +kernel
theorem dX9_twos_111 : decode cX9_twos 111 = .ok (.if_icmp .ne 30, 3) := by decide +kernel
theorem dX9_twos_114 : decode cX9_twos 114 = .ok (.aload_n 0, 1) := by decide +kernel
theorem dX9_twos_115 : decode cX9_twos 115 = .ok (.getfield 20, 3) := by decide +kernel
theorem dX9_twos_118 : decode cX9_twos 118 = .ok (.iload_n 3, 1) := by decide +kernel
theorem dX9_twos_119 : decode cX9_twos 119 = .ok (.iaload, 1) := by decide +kernel
theorem dX9_twos_120 : decode cX9_twos 120 = .ok (.aload_n 0, 1) := by decide +kernel
theorem dX9_twos_121 : decode cX9_twos 121 = .ok (.getfield 20, 3) := by decide +kernel
theorem dX9_twos_124 : decode cX9_twos 124 = .ok (.iload_n 1, 1) := by decide +kernel
theorem dX9_twos_125 : decode cX9_twos 125 = .ok (.iaload, 1) := by decide +kernel
theorem dX9_twos_126 : decode cX9_twos 126 = .ok (.if_icmp .le 15, 3) := by decide +kernel
theorem dX9_twos_129 : decode cX9_twos 129 = .ok (.iload_n 2, 1) := by decide +kernel
theorem dX9_twos_130 : decode cX9_twos 130 = .ok (.iload_n 3, 1) := by decide +kernel
theorem dX9_twos_131 : decode cX9_twos 131 = .ok (.ishr, 1) := by decide +kernel
theorem dX9_twos_132 : decode cX9_twos 132 = .ok (.iconst 1, 1) := by decide +kernel
theorem dX9_twos_133 : decode cX9_twos 133 = .ok (.iand, 1) := by decide +kernel
theorem dX9_twos_134 : decode cX9_twos 134 = .ok (.ifCond .ne 7, 3) := by decide +kernel
theorem dX9_twos_137 : decode cX9_twos 137 = .ok (.iconst 1, 1) := by decide +kernel
theorem dX9_twos_138 : decode cX9_twos 138 = .ok (.goto 4, 3) := by decide +kernel
theorem dX9_twos_141 : decode cX9_twos 141 = .ok (.iconst 0, 1) := by decide +kernel
theorem dX9_twos_142 : decode cX9_twos 142 = .ok (.istore 4, 2) := by decide +kernel
theorem dX9_twos_144 : decode cX9_twos 144 = .ok (.iload_n 2, 1) := by decide +kernel
theorem dX9_twos_145 : decode cX9_twos 145 = .ok (.iconst 1, 1) := by decide +kernel
theorem dX9_twos_146 : decode cX9_twos 146 = .ok (.iload_n 3, 1) := by decide +kernel
theorem dX9_twos_147 : decode cX9_twos 147 = .ok (.ishl, 1) := by decide +kernel
theorem dX9_twos_148 : decode cX9_twos 148 = .ok (.ior, 1) := by decide +kernel
theorem dX9_twos_149 : decode cX9_twos 149 = .ok (.istore 5, 2) := by decide +kernel
theorem dX9_twos_151 : decode cX9_twos 151 = .ok (.aload_n 0, 1) := by decide +kernel
theorem dX9_twos_152 : decode cX9_twos 152 = .ok (.getfield 74, 3) := by decide +kernel
theorem dX9_twos_155 : decode cX9_twos 155 = .ok (.iload 5, 2) := by decide +kernel
theorem dX9_twos_157 : decode cX9_twos 157 = .ok (.iload 4, 2) := by decide +kernel
theorem dX9_twos_159 : decode cX9_twos 159 = .ok (.ifCond .eq 32, 3) := by decide +kernel
theorem dX9_twos_162 : decode cX9_twos 162 = .ok (.aload_n 0, 1) := by decide +kernel
theorem dX9_twos_163 : decode cX9_twos 163 = .ok (.getfield 74, 3) := by decide +kernel
theorem dX9_twos_166 : decode cX9_twos 166 = .ok (.iload 5, 2) := by decide +kernel
theorem dX9_twos_168 : decode cX9_twos 168 = .ok (.iaload, 1) := by decide +kernel
theorem dX9_twos_169 : decode cX9_twos 169 = .ok (.aload_n 0, 1) := by decide +kernel
theorem dX9_twos_170 : decode cX9_twos 170 = .ok (.getfield 74, 3) := by decide +kernel
theorem dX9_twos_173 : decode cX9_twos 173 = .ok (.iload_n 2, 1) := by decide +kernel
theorem dX9_twos_174 : decode cX9_twos 174 = .ok (.iaload, 1) := by decide +kernel
theorem dX9_twos_175 : decode cX9_twos 175 = .ok (.iconst 1, 1) := by decide +kernel
theorem dX9_twos_176 : decode cX9_twos 176 = .ok (.iadd, 1) := by decide +kernel
theorem dX9_twos_177 : decode cX9_twos 177 = .ok (.if_icmp .ge 14, 3) := by decide +kernel
theorem dX9_twos_180 : decode cX9_twos 180 = .ok (.aload_n 0, 1) := by decide +kernel
theorem dX9_twos_181 : decode cX9_twos 181 = .ok (.getfield 74, 3) := by decide +kernel
theorem dX9_twos_184 : decode cX9_twos 184 = .ok (.iload_n 2, 1) := by decide +kernel
theorem dX9_twos_185 : decode cX9_twos 185 = .ok (.iaload, 1) := by decide +kernel
theorem dX9_twos_186 : decode cX9_twos 186 = .ok (.iconst 1, 1) := by decide +kernel
theorem dX9_twos_187 : decode cX9_twos 187 = .ok (.iadd, 1) := by decide +kernel
theorem dX9_twos_188 : decode cX9_twos 188 = .ok (.goto 10, 3) := by decide +kernel
theorem dX9_twos_191 : decode cX9_twos 191 = .ok (.aload_n 0, 1) := by decide +kernel
theorem dX9_twos_192 : decode cX9_twos 192 = .ok (.getfield 74, 3) := by decide +kernel
theorem dX9_twos_195 : decode cX9_twos 195 = .ok (.iload 5, 2) := by decide +kernel
theorem dX9_twos_197 : decode cX9_twos 197 = .ok (.iaload, 1) := by decide +kernel
theorem dX9_twos_198 : decode cX9_twos 198 = .ok (.iastore, 1) := by decide +kernel
theorem dX9_twos_199 : decode cX9_twos 199 = .ok (.iinc 3 1, 3) := by decide +kernel
theorem dX9_twos_202 : decode cX9_twos 202 = .ok (.goto (-129), 3) := by decide +kernel
theorem dX9_twos_205 : decode cX9_twos 205 = .ok (.iinc 2 (-1), 3) := by decide +kernel
theorem dX9_twos_208 : decode cX9_twos 208 = .ok (.goto (-141), 3) := by decide +kernel
theorem dX9_twos_211 : decode cX9_twos 211 = .ok (.iinc 1 1, 3) := by decide +kernel
theorem dX9_twos_214 : decode cX9_twos 214 = .ok (.goto (-181), 3) := by decide +kernel
theorem dX9_twos_217 : decode cX9_twos 217 = .ok (.iconst 0, 1) := by decide +kernel
theorem dX9_twos_218 : decode cX9_twos 218 = .ok (.istore_n 1, 1) := by decide +kernel
theorem dX9_twos_219 : decode cX9_twos 219 = .ok (.iconst 0, 1) := by decide +kernel
theorem dX9_twos_220 : decode cX9_twos 220 = .ok (.istore_n 2, 1) := by decide +kernel
theorem dX9_twos_221 : decode cX9_twos 221 = .ok (.iload_n 2, 1) := by decide +kernel
theorem dX9_twos_222 : decode cX9_twos 222 = .ok (.sipush 256, 3) := by decide +kernel
theorem dX9_twos_225 : decode cX9_twos 225 = .ok (.if_icmp .ge 30, 3) := by decide +kernel
theorem dX9_twos_228 : decode cX9_twos 228 = .ok (.aload_n 0, 1) := by decide +kernel
theorem dX9_twos_229 : decode cX9_twos 229 = .ok (.getfield 74, 3) := by decide +kernel
theorem dX9_twos_232 : decode cX9_twos 232 = .ok (.iload_n 2, 1) := by decide +kernel
theorem dX9_twos_233 : decode cX9_twos 233 = .ok (.iaload, 1) := by decide +kernel
theorem dX9_twos_234 : decode cX9_twos 234 = .ok (.iload_n 1, 1) := by decide +kernel
theorem dX9_twos_235 : decode cX9_twos 235 = .ok (.if_icmp .le 12, 3) := by decide +kernel
theorem dX9_twos_238 : decode cX9_twos 238 = .ok (.aload_n 0, 1) := by decide +kernel
theorem dX9_twos_239 : decode cX9_twos 239 = .ok (.getfield 74, 3) := by decide +kernel
theorem dX9_twos_242 : decode cX9_twos 242 = .ok (.iload_n 2, 1) := by decide +kernel
theorem dX9_twos_243 : decode cX9_twos 243 = .ok (.iaload, 1) := by decide +kernel
theorem dX9_twos_244 : decode cX9_twos 244 = .ok (.goto 4, 3) := by decide +kernel
theorem dX9_twos_247 : decode cX9_twos 247 = .ok (.iload_n 1, 1) := by decide +kernel
theorem dX9_twos_248 : decode cX9_twos 248 = .ok (.istore_n 1, 1) := by decide +kernel
theorem dX9_twos_249 : decode cX9_twos 249 = .ok (.iinc 2 1, 3) := by decide +kernel
theorem dX9_twos_252 : decode cX9_twos 252 = .ok (.goto (-31), 3) := by decide +kernel
theorem dX9_twos_255 : decode cX9_twos 255 = .ok (.iload_n 1, 1) := by decide +kernel
theorem dX9_twos_256 : decode cX9_twos 256 = .ok (.ireturn, 1) := by decide +kernel
theorem dX9_firstOne_0 : decode cX9_firstOne 0 = .ok (.aload_n 0, 1) := by decide +kernel
theorem dX9_firstOne_1 : decode cX9_firstOne 1 = .ok (.iload_n 1, 1) := by decide +kernel
theorem dX9_firstOne_2 : decode cX9_firstOne 2 = .ok (.invokevirtual 216, 3) := by decide +kernel
theorem dX9_firstOne_5 : decode cX9_firstOne 5 = .ok (.aload_n 0, 1) := by decide +kernel
theorem dX9_firstOne_6 : decode cX9_firstOne 6 = .ok (.getfield 71, 3) := by decide +kernel
theorem dX9_firstOne_9 : decode cX9_firstOne 9 = .ok (.iconst 0, 1) := by decide +kernel
theorem dX9_firstOne_10 : decode cX9_firstOne 10 = .ok (.iaload, 1) := by decide +kernel
theorem dX9_firstOne_11 : decode cX9_firstOne 11 = .ok (.ireturn, 1) := by decide +kernel
theorem dX9_bridge_0 : decode cX9_bridge 0 = .ok (.iload_n 1, 1) := by decide +kernel
theorem dX9_bridge_1 : decode cX9_bridge 1 = .ok (.iconst (-1), 1) := by decide +kernel
theorem dX9_bridge_2 : decode cX9_bridge 2 = .ok (.if_icmp .eq 13, 3) := by decide +kernel
theorem dX9_bridge_5 : decode cX9_bridge 5 = .ok (.aload_n 0, 1) := by decide +kernel
theorem dX9_bridge_6 : decode cX9_bridge 6 = .ok (.iload_n 1, 1) := by decide +kernel
theorem dX9_bridge_7 : decode cX9_bridge 7 = .ok (.invokevirtual 152, 3) := by decide +kernel
theorem dX9_bridge_10 : decode cX9_bridge 10 = .ok (.ifCond .ne 5, 3) := by decide +kernel
theorem dX9_bridge_13 : decode cX9_bridge 13 = .ok (.iconst (-1), 1) := by decide +kernel
theorem dX9_bridge_14 : decode cX9_bridge 14 = .ok (.ireturn, 1) := by decide +kernel
theorem dX9_bridge_15 : decode cX9_bridge 15 = .ok (.iconst 0, 1) := by decide +kernel
theorem dX9_bridge_16 : decode cX9_bridge 16 = .ok (.istore_n 2, 1) := by decide +kernel
theorem dX9_bridge_17 : decode cX9_bridge 17 = .ok (.iconst 0, 1) := by decide +kernel
theorem dX9_bridge_18 : decode cX9_bridge 18 = .ok (.istore_n 3, 1) := by decide +kernel
theorem dX9_bridge_19 : decode cX9_bridge 19 = .ok (.iconst 1, 1) := by decide +kernel
theorem dX9_bridge_20 : decode cX9_bridge 20 = .ok (.istore 4, 2) := by decide +kernel
theorem dX9_bridge_22 : decode cX9_bridge 22 = .ok (.iload 4, 2) := by decide +kernel
theorem dX9_bridge_24 : decode cX9_bridge 24 = .ok (.bipush 99, 2) := by decide +kernel
theorem dX9_bridge_26 : decode cX9_bridge 26 = .ok (.if_icmp .gt 55, 3) := by decide +kernel
theorem dX9_bridge_29 : decode cX9_bridge 29 = .ok (.aload_n 0, 1) := by decide +kernel
theorem dX9_bridge_30 : decode cX9_bridge 30 = .ok (.invokevirtual 196, 3) := by decide +kernel
theorem dX9_bridge_33 : decode cX9_bridge 33 = .ok (.aload_n 0, 1) := by decide +kernel
theorem dX9_bridge_34 : decode cX9_bridge 34 = .ok (.iload 4, 2) := by decide +kernel
theorem dX9_bridge_36 : decode cX9_bridge 36 = .ok (.putfield 193, 3) := by decide +kernel
theorem dX9_bridge_39 : decode cX9_bridge 39 = .ok (.aload_n 0, 1) := by decide +kernel
theorem dX9_bridge_40 : decode cX9_bridge 40 = .ok (.iconst 0, 1) := by decide +kernel
theorem dX9_bridge_41 : decode cX9_bridge 41 = .ok (.sipush 200, 3) := by decide +kernel
theorem dX9_bridge_44 : decode cX9_bridge 44 = .ok (.invokevirtual 199, 3) := by decide +kernel
theorem dX9_bridge_47 : decode cX9_bridge 47 = .ok (.aload_n 0, 1) := by decide +kernel
theorem dX9_bridge_48 : decode cX9_bridge 48 = .ok (.iconst 0, 1) := by decide +kernel
theorem dX9_bridge_49 : decode cX9_bridge 49 = .ok (.invokevirtual 232, 3) := by decide +kernel
theorem dX9_bridge_52 : decode cX9_bridge 52 = .ok (.istore 5, 2) := by decide +kernel
theorem dX9_bridge_54 : decode cX9_bridge 54 = .ok (.iload_n 2, 1) := by decide +kernel
theorem dX9_bridge_55 : decode cX9_bridge 55 = .ok (.iconst 1, 1) := by decide +kernel
theorem dX9_bridge_56 : decode cX9_bridge 56 = .ok (.iload 5, 2) := by decide +kernel
theorem dX9_bridge_58 : decode cX9_bridge 58 = .ok (.ishl, 1) := by decide +kernel
theorem dX9_bridge_59 : decode cX9_bridge 59 = .ok (.ior, 1) := by decide +kernel
theorem dX9_bridge_60 : decode cX9_bridge 60 = .ok (.istore_n 2, 1) := by decide +kernel
theorem dX9_bridge_61 : decode cX9_bridge 61 = .ok (.iload_n 3, 1) := by decide +kernel
theorem dX9_bridge_62 : decode cX9_bridge 62 = .ok (.iload 5, 2) := by decide +kernel
theorem dX9_bridge_64 : decode cX9_bridge 64 = .ok (.iload_n 1, 1) := by decide +kernel
theorem dX9_bridge_65 : decode cX9_bridge 65 = .ok (.if_icmp .ne 7, 3) := by decide +kernel
theorem dX9_bridge_68 : decode cX9_bridge 68 = .ok (.iconst 1, 1) := by decide +kernel
theorem dX9_bridge_69 : decode cX9_bridge 69 = .ok (.goto 4, 3) := by decide +kernel
theorem dX9_bridge_72 : decode cX9_bridge 72 = .ok (.iconst 0, 1) := by decide +kernel
theorem dX9_bridge_73 : decode cX9_bridge 73 = .ok (.iadd, 1) := by decide +kernel
theorem dX9_bridge_74 : decode cX9_bridge 74 = .ok (.istore_n 3, 1) := by decide +kernel
theorem dX9_bridge_75 : decode cX9_bridge 75 = .ok (.iinc 4 1, 3) := by decide +kernel
theorem dX9_bridge_78 : decode cX9_bridge 78 = .ok (.goto (-56), 3) := by decide +kernel
theorem dX9_bridge_81 : decode cX9_bridge 81 = .ok (.iload_n 1, 1) := by decide +kernel
theorem dX9_bridge_82 : decode cX9_bridge 82 = .ok (.iconst (-1), 1) := by decide +kernel
theorem dX9_bridge_83 : decode cX9_bridge 83 = .ok (.if_icmp .ne 7, 3) := by decide +kernel
theorem dX9_bridge_86 : decode cX9_bridge 86 = .ok (.iload_n 2, 1) := by decide +kernel
theorem dX9_bridge_87 : decode cX9_bridge 87 = .ok (.goto 4, 3) := by decide +kernel
theorem dX9_bridge_90 : decode cX9_bridge 90 = .ok (.iload_n 3, 1) := by decide +kernel
theorem dX9_bridge_91 : decode cX9_bridge 91 = .ok (.ireturn, 1) := by decide +kernel
theorem dX9_off_0 : decode cX9_off 0 = .ok (.iload_n 1, 1) := by decide +kernel
theorem dX9_off_1 : decode cX9_off 1 = .ok (.ifCond .ne 7, 3) := by decide +kernel
theorem dX9_off_4 : decode cX9_off 4 = .ok (.iconst 0, 1) := by decide +kernel
theorem dX9_off_5 : decode cX9_off 5 = .ok (.goto 17, 3) := by decide +kernel
theorem dX9_off_8 : decode cX9_off 8 = .ok (.iload_n 0, 1) := by decide +kernel
theorem dX9_off_9 : decode cX9_off 9 = .ok (.iload_n 1, 1) := by decide +kernel
theorem dX9_off_10 : decode cX9_off 10 = .ok (.if_icmp .ge 9, 3) := by decide +kernel
theorem dX9_off_13 : decode cX9_off 13 = .ok (.iload_n 1, 1) := by decide +kernel
theorem dX9_off_14 : decode cX9_off 14 = .ok (.iload_n 0, 1) := by decide +kernel
theorem dX9_off_15 : decode cX9_off 15 = .ok (.isub, 1) := by decide +kernel
theorem dX9_off_16 : decode cX9_off 16 = .ok (.goto 6, 3) := by decide +kernel
theorem dX9_off_19 : decode cX9_off 19 = .ok (.iload_n 0, 1) := by decide +kernel
theorem dX9_off_20 : decode cX9_off 20 = .ok (.iload_n 1, 1) := by decide +kernel
theorem dX9_off_21 : decode cX9_off 21 = .ok (.isub, 1) := by decide +kernel
theorem dX9_off_22 : decode cX9_off 22 = .ok (.ireturn, 1) := by decide +kernel
theorem dX9_calm_0 : decode cX9_calm 0 = .ok (.iload_n 1, 1) := by decide +kernel
theorem dX9_calm_1 : decode cX9_calm 1 = .ok (.iconst 0, 1) := by decide +kernel
theorem dX9_calm_2 : decode cX9_calm 2 = .ok (.iconst 1, 1) := by decide +kernel
theorem dX9_calm_3 : decode cX9_calm 3 = .ok (.invokestatic 93, 3) := by decide +kernel
theorem dX9_calm_6 : decode cX9_calm 6 = .ok (.ifCond .ne 5, 3) := by decide +kernel
theorem dX9_calm_9 : decode cX9_calm 9 = .ok (.iconst (-1), 1) := by decide +kernel
theorem dX9_calm_10 : decode cX9_calm 10 = .ok (.ireturn, 1) := by decide +kernel
theorem dX9_calm_11 : decode cX9_calm 11 = .ok (.aload_n 0, 1) := by decide +kernel
theorem dX9_calm_12 : decode cX9_calm 12 = .ok (.invokevirtual 203, 3) := by decide +kernel
theorem dX9_calm_15 : decode cX9_calm 15 = .ok (.iconst 0, 1) := by decide +kernel
theorem dX9_calm_16 : decode cX9_calm 16 = .ok (.istore_n 2, 1) := by decide +kernel
theorem dX9_calm_17 : decode cX9_calm 17 = .ok (.bipush (-4), 2) := by decide +kernel
theorem dX9_calm_19 : decode cX9_calm 19 = .ok (.istore_n 3, 1) := by decide +kernel
theorem dX9_calm_20 : decode cX9_calm 20 = .ok (.iconst 0, 1) := by decide +kernel
theorem dX9_calm_21 : decode cX9_calm 21 = .ok (.istore 4, 2) := by decide +kernel
theorem dX9_calm_23 : decode cX9_calm 23 = .ok (.iload 4, 2) := by decide +kernel
theorem dX9_calm_25 : decode cX9_calm 25 = .ok (.aload_n 0, 1) := by decide +kernel
theorem dX9_calm_26 : decode cX9_calm 26 = .ok (.getfield 13, 3) := by decide +kernel
theorem dX9_calm_29 : decode cX9_calm 29 = .ok (.iconst 0, 1) := by decide +kernel
theorem dX9_calm_30 : decode cX9_calm 30 = .ok (.iaload, 1) := by decide +kernel
theorem dX9_calm_31 : decode cX9_calm 31 = .ok (.if_icmp .ge 124, 3) := by decide +kernel
theorem dX9_calm_34 : decode cX9_calm 34 = .ok (.iload 4, 2) := by decide +kernel
theorem dX9_calm_36 : decode cX9_calm 36 = .ok (.iconst 1, 1) := by decide +kernel
theorem dX9_calm_37 : decode cX9_calm 37 = .ok (.iadd, 1) := by decide +kernel
theorem dX9_calm_38 : decode cX9_calm 38 = .ok (.istore 5, 2) := by decide +kernel
theorem dX9_calm_40 : decode cX9_calm 40 = .ok (.iload 5, 2) := by decide +kernel
theorem dX9_calm_42 : decode cX9_calm 42 = .ok (.aload_n 0, 1) := by decide +kernel
theorem dX9_calm_43 : decode cX9_calm 43 = .ok (.getfield 13, 3) := by decide +kernel
theorem dX9_calm_46 : decode cX9_calm 46 = .ok (.iconst 0, 1) := by decide +kernel
theorem dX9_calm_47 : decode cX9_calm 47 = .ok (.iaload, 1) := by decide +kernel
theorem dX9_calm_48 : decode cX9_calm 48 = .ok (.if_icmp .ge 101, 3) := by decide +kernel
theorem dX9_calm_51 : decode cX9_calm 51 = .ok (.aload_n 0, 1) := by decide +kernel
theorem dX9_calm_52 : decode cX9_calm 52 = .ok (.iconst 0, 1) := by decide +kernel
theorem dX9_calm_53 : decode cX9_calm 53 = .ok (.iload 4, 2) := by decide +kernel
theorem dX9_calm_55 : decode cX9_calm 55 = .ok (.invokevirtual 213, 3) := by decide +kernel
theorem dX9_calm_58 : decode cX9_calm 58 = .ok (.istore 6, 2) := by decide +kernel
theorem dX9_calm_60 : decode cX9_calm 60 = .ok (.aload_n 0, 1) := by decide +kernel
theorem dX9_calm_61 : decode cX9_calm 61 = .ok (.iconst 0, 1) := by decide +kernel
theorem dX9_calm_62 : decode cX9_calm 62 = .ok (.iload 5, 2) := by decide +kernel
theorem dX9_calm_64 : decode cX9_calm 64 = .ok (.invokevirtual 213, 3) := by decide +kernel
theorem dX9_calm_67 : decode cX9_calm 67 = .ok (.istore 7, 2) := by decide +kernel
theorem dX9_calm_69 : decode cX9_calm 69 = .ok (.iload 7, 2) := by decide +kernel
theorem dX9_calm_71 : decode cX9_calm 71 = .ok (.aload_n 0, 1) := by decide +kernel
theorem dX9_calm_72 : decode cX9_calm 72 = .ok (.getfield 56, 3) := by decide +kernel
theorem dX9_calm_75 : decode cX9_calm 75 = .ok (.iload 4, 2) := by decide +kernel
theorem dX9_calm_77 : decode cX9_calm 77 = .ok (.iaload, 1) := by decide +kernel
theorem dX9_calm_78 : decode cX9_calm 78 = .ok (.invokestatic 235, 3) := by decide +kernel
theorem dX9_calm_81 : decode cX9_calm 81 = .ok (.iload 6, 2) := by decide +kernel
theorem dX9_calm_83 : decode cX9_calm 83 = .ok (.aload_n 0, 1) := by decide +kernel
theorem dX9_calm_84 : decode cX9_calm 84 = .ok (.getfield 56, 3) := by decide +kernel
theorem dX9_calm_87 : decode cX9_calm 87 = .ok (.iload 4, 2) := by decide +kernel
theorem dX9_calm_89 : decode cX9_calm 89 = .ok (.iaload, 1) := by decide +kernel
theorem dX9_calm_90 : decode cX9_calm 90 = .ok (.invokestatic 235, 3) := by decide +kernel
theorem dX9_calm_93 : decode cX9_calm 93 = .ok (.if_icmp .ge 50, 3) := by decide +kernel
theorem dX9_calm_96 : decode cX9_calm 96 = .ok (.iload 6, 2) := by decide +kernel
theorem dX9_calm_98 : decode cX9_calm 98 = .ok (.aload_n 0, 1) := by decide +kernel
theorem dX9_calm_99 : decode cX9_calm 99 = .ok (.getfield 56, 3) := by decide +kernel
theorem dX9_calm_102 : decode cX9_calm 102 = .ok (.iload 5, 2) := by decide +kernel
theorem dX9_calm_104 : decode cX9_calm 104 = .ok (.iaload, 1) := by decide +kernel
theorem dX9_calm_105 : decode cX9_calm 105 = .ok (.invokestatic 235, 3) := by decide +kernel
theorem dX9_calm_108 : decode cX9_calm 108 = .ok (.iload 7, 2) := by decide +kernel
theorem dX9_calm_110 : decode cX9_calm 110 = .ok (.aload_n 0, 1) := by decide +kernel
theorem dX9_calm_111 : decode cX9_calm 111 = .ok (.getfield 56, 3) := by decide +kernel
theorem dX9_calm_114 : decode cX9_calm 114 = .ok (.iload 5, 2) := by decide +kernel
theorem dX9_calm_116 : decode cX9_calm 116 = .ok (.iaload, 1) := by decide +kernel
theorem dX9_calm_117 : decode cX9_calm 117 = .ok (.invokestatic 235, 3) := by decide +kernel
theorem dX9_calm_120 : decode cX9_calm 120 = .ok (.if_icmp .ge 23, 3) := by decide +kernel
theorem dX9_calm_123 : decode cX9_calm 123 = .ok (.iload_n 2, 1) := by decide +kernel
theorem dX9_calm_124 : decode cX9_calm 124 = .ok (.ifCond .ne 14, 3) := by decide +kernel
theorem dX9_calm_127 : decode cX9_calm 127 = .ok (.bipush 8, 2) := by decide +kernel
theorem dX9_calm_129 : decode cX9_calm 129 = .ok (.iload 4, 2) := by decide +kernel
theorem dX9_calm_131 : decode cX9_calm 131 = .ok (.imul, 1) := by decide +kernel
theorem dX9_calm_132 : decode cX9_calm 132 = .ok (.iload 5, 2) := by decide +kernel
theorem dX9_calm_134 : decode cX9_calm 134 = .ok (.iadd, 1) := by decide +kernel
theorem dX9_calm_135 : decode cX9_calm 135 = .ok (.goto 4, 3) := by decide +kernel
theorem dX9_calm_138 : decode cX9_calm 138 = .ok (.iload_n 3, 1) := by decide +kernel
theorem dX9_calm_139 : decode cX9_calm 139 = .ok (.istore_n 3, 1) := by decide +kernel
theorem dX9_calm_140 : decode cX9_calm 140 = .ok (.iinc 2 1, 3) := by decide +kernel
theorem dX9_calm_143 : decode cX9_calm 143 = .ok (.iinc 5 1, 3) := by decide +kernel
theorem dX9_calm_146 : decode cX9_calm 146 = .ok (.goto (-106), 3) := by decide +kernel
theorem dX9_calm_149 : decode cX9_calm 149 = .ok (.iinc 4 1, 3) := by decide +kernel
theorem dX9_calm_152 : decode cX9_calm 152 = .ok (.goto (-129), 3) := by decide +kernel
theorem dX9_calm_155 : decode cX9_calm 155 = .ok (.iload_n 1, 1) := by decide +kernel
theorem dX9_calm_156 : decode cX9_calm 156 = .ok (.ifCond .ne 7, 3) := by decide +kernel
theorem dX9_calm_159 : decode cX9_calm 159 = .ok (.iload_n 2, 1) := by decide +kernel
theorem dX9_calm_160 : decode cX9_calm 160 = .ok (.goto 4, 3) := by decide +kernel
theorem dX9_calm_163 : decode cX9_calm 163 = .ok (.iload_n 3, 1) := by decide +kernel
theorem dX9_calm_164 : decode cX9_calm 164 = .ok (.ireturn, 1) := by decide +kernel
theorem dX9_findOrder_0 : decode cX9_findOrder 0 = .ok (.aload_n 0, 1) := by decide +kernel
theorem dX9_findOrder_1 : decode cX9_findOrder 1 = .ok (.getfield 13, 3) := by decide +kernel
theorem dX9_findOrder_4 : decode cX9_findOrder 4 = .ok (.iconst 0, 1) := by decide +kernel
theorem dX9_findOrder_5 : decode cX9_findOrder 5 = .ok (.iaload, 1) := by decide +kernel
theorem dX9_findOrder_6 : decode cX9_findOrder 6 = .ok (.istore_n 1, 1) := by decide +kernel
theorem dX9_findOrder_7 : decode cX9_findOrder 7 = .ok (.iconst 0, 1) := by decide +kernel
theorem dX9_findOrder_8 : decode cX9_findOrder 8 = .ok (.istore_n 2, 1) := by decide +kernel
theorem dX9_findOrder_9 : decode cX9_findOrder 9 = .ok (.iload_n 2, 1) := by decide +kernel
theorem dX9_findOrder_10 : decode cX9_findOrder 10 = .ok (.iconst 1, 1) := by decide +kernel
theorem dX9_findOrder_11 : decode cX9_findOrder 11 = .ok (.iload_n 1, 1) := by decide +kernel
theorem dX9_findOrder_12 : decode cX9_findOrder 12 = .ok (.ishl, 1) := by decide +kernel
theorem dX9_findOrder_13 : decode cX9_findOrder 13 = .ok (.if_icmp .ge 132, 3) := by decide +kernel
theorem dX9_findOrder_16 : decode cX9_findOrder 16 = .ok (.iload_n 1, 1) := by decide +kernel
theorem dX9_findOrder_17 : decode cX9_findOrder 17 = .ok (.iconst 1, 1) := by decide +kernel
theorem dX9_findOrder_18 : decode cX9_findOrder 18 = .ok (.iadd, 1) := by decide +kernel
theorem dX9_findOrder_19 : decode cX9_findOrder 19 = .ok (.istore_n 3, 1) := by decide +kernel
theorem dX9_findOrder_20 : decode cX9_findOrder 20 = .ok (.iconst 0, 1) := by decide +kernel
theorem dX9_findOrder_21 : decode cX9_findOrder 21 = .ok (.istore 4, 2) := by decide +kernel
theorem dX9_findOrder_23 : decode cX9_findOrder 23 = .ok (.iload 4, 2) := by decide +kernel
theorem dX9_findOrder_25 : decode cX9_findOrder 25 = .ok (.iload_n 1, 1) := by decide +kernel
theorem dX9_findOrder_26 : decode cX9_findOrder 26 = .ok (.if_icmp .ge 18, 3) := by decide +kernel
theorem dX9_findOrder_29 : decode cX9_findOrder 29 = .ok (.iload_n 3, 1) := by decide +kernel
theorem dX9_findOrder_30 : decode cX9_findOrder 30 = .ok (.iload_n 2, 1) := by decide +kernel
theorem dX9_findOrder_31 : decode cX9_findOrder 31 = .ok (.iload 4, 2) := by decide +kernel
theorem dX9_findOrder_33 : decode cX9_findOrder 33 = .ok (.ishr, 1) := by decide +kernel
theorem dX9_findOrder_34 : decode cX9_findOrder 34 = .ok (.iconst 1, 1) := by decide +kernel
theorem dX9_findOrder_35 : decode cX9_findOrder 35 = .ok (.iand, 1) := by decide +kernel
theorem dX9_findOrder_36 : decode cX9_findOrder 36 = .ok (.isub, 1) := by decide +kernel
theorem dX9_findOrder_37 : decode cX9_findOrder 37 = .ok (.istore_n 3, 1) := by decide +kernel
theorem dX9_findOrder_38 : decode cX9_findOrder 38 = .ok (.iinc 4 1, 3) := by decide +kernel
theorem dX9_findOrder_41 : decode cX9_findOrder 41 = .ok (.goto (-18), 3) := by decide +kernel
theorem dX9_findOrder_44 : decode cX9_findOrder 44 = .ok (.iload_n 2, 1) := by decide +kernel
theorem dX9_findOrder_45 : decode cX9_findOrder 45 = .ok (.ifCond .ne 7, 3) := by decide +kernel
theorem dX9_findOrder_48 : decode cX9_findOrder 48 = .ok (.iconst 0, 1) := by decide +kernel
theorem dX9_findOrder_49 : decode cX9_findOrder 49 = .ok (.goto 6, 3) := by decide +kernel
theorem dX9_findOrder_52 : decode cX9_findOrder 52 = .ok (.sipush 999, 3) := by decide +kernel
theorem dX9_findOrder_55 : decode cX9_findOrder 55 = .ok (.istore 4, 2) := by decide +kernel
theorem dX9_findOrder_57 : decode cX9_findOrder 57 = .ok (.iconst 0, 1) := by decide +kernel
theorem dX9_findOrder_58 : decode cX9_findOrder 58 = .ok (.istore 5, 2) := by decide +kernel
theorem dX9_findOrder_60 : decode cX9_findOrder 60 = .ok (.iload 5, 2) := by decide +kernel
theorem dX9_findOrder_62 : decode cX9_findOrder 62 = .ok (.iload_n 1, 1) := by decide +kernel
theorem dX9_findOrder_63 : decode cX9_findOrder 63 = .ok (.if_icmp .ge 68, 3) := by decide +kernel
theorem dX9_findOrder_66 : decode cX9_findOrder 66 = .ok (.iload_n 2, 1) := by decide +kernel
theorem dX9_findOrder_67 : decode cX9_findOrder 67 = .ok (.iload 5, 2) := by decide +kernel
theorem dX9_findOrder_69 : decode cX9_findOrder 69 = .ok (.ishr, 1) := by decide +kernel
theorem dX9_findOrder_70 : decode cX9_findOrder 70 = .ok (.iconst 1, 1) := by decide +kernel
theorem dX9_findOrder_71 : decode cX9_findOrder 71 = .ok (.iand, 1) := by decide +kernel
theorem dX9_findOrder_72 : decode cX9_findOrder 72 = .ok (.iconst 1, 1) := by decide +kernel
theorem dX9_findOrder_73 : decode cX9_findOrder 73 = .ok (.if_icmp .ne 31, 3) := by decide +kernel
theorem dX9_findOrder_76 : decode cX9_findOrder 76 = .ok (.iload_n 3, 1) := by decide +kernel
theorem dX9_findOrder_77 : decode cX9_findOrder 77 = .ok (.aload_n 0, 1) := by decide +kernel
theorem dX9_findOrder_78 : decode cX9_findOrder 78 = .ok (.getfield 56, 3) := by decide +kernel
theorem dX9_findOrder_81 : decode cX9_findOrder 81 = .ok (.iload 5, 2) := by decide +kernel
theorem dX9_findOrder_83 : decode cX9_findOrder 83 = .ok (.iaload, 1) := by decide +kernel
theorem dX9_findOrder_84 : decode cX9_findOrder 84 = .ok (.invokestatic 235, 3) := by decide +kernel
theorem dX9_findOrder_87 : decode cX9_findOrder 87 = .ok (.aload_n 0, 1) := by decide +kernel
theorem dX9_findOrder_88 : decode cX9_findOrder 88 = .ok (.getfield 77, 3) := by decide +kernel
theorem dX9_findOrder_91 : decode cX9_findOrder 91 = .ok (.iload_n 2, 1) := by decide +kernel
theorem dX9_findOrder_92 : decode cX9_findOrder 92 = .ok (.iconst 1, 1) := by decide +kernel
theorem dX9_findOrder_93 : decode cX9_findOrder 93 = .ok (.iload 5, 2) := by decide +kernel
theorem dX9_findOrder_95 : decode cX9_findOrder 95 = .ok (.ishl, 1) := by decide +kernel
theorem dX9_findOrder_96 : decode cX9_findOrder 96 = .ok (.iconst (-1), 1) := by decide +kernel
theorem dX9_findOrder_97 : decode cX9_findOrder 97 = .ok (.ixor, 1) := by decide +kernel
theorem dX9_findOrder_98 : decode cX9_findOrder 98 = .ok (.iand, 1) := by decide +kernel
theorem dX9_findOrder_99 : decode cX9_findOrder 99 = .ok (.iaload, 1) := by decide +kernel
theorem dX9_findOrder_100 : decode cX9_findOrder 100 = .ok (.iadd, 1) := by decide +kernel
theorem dX9_findOrder_101 : decode cX9_findOrder 101 = .ok (.goto 6, 3) := by decide +kernel
theorem dX9_findOrder_104 : decode cX9_findOrder 104 = .ok (.sipush 999, 3) := by decide +kernel
theorem dX9_findOrder_107 : decode cX9_findOrder 107 = .ok (.istore 6, 2) := by decide +kernel
theorem dX9_findOrder_109 : decode cX9_findOrder 109 = .ok (.iload 6, 2) := by decide +kernel
theorem dX9_findOrder_111 : decode cX9_findOrder 111 = .ok (.iload 4, 2) := by decide +kernel
theorem dX9_findOrder_113 : decode cX9_findOrder 113 = .ok (.if_icmp .ge 8, 3) := by decide +kernel
theorem dX9_findOrder_116 : decode cX9_findOrder 116 = .ok (.iload 6, 2) := by decide +kernel
theorem dX9_findOrder_118 : decode cX9_findOrder 118 = .ok (.goto 5, 3) := by decide +kernel
theorem dX9_findOrder_121 : decode cX9_findOrder 121 = .ok (.iload 4, 2) := by decide +kernel
theorem dX9_findOrder_123 : decode cX9_findOrder 123 = .ok (.istore 4, 2) := by decide +kernel
theorem dX9_findOrder_125 : decode cX9_findOrder 125 = .ok (.iinc 5 1, 3) := by decide +kernel
theorem dX9_findOrder_128 : decode cX9_findOrder 128 = .ok (.goto (-68), 3) := by decide +kernel
theorem dX9_findOrder_131 : decode cX9_findOrder 131 = .ok (.aload_n 0, 1) := by decide +kernel
theorem dX9_findOrder_132 : decode cX9_findOrder 132 = .ok (.getfield 77, 3) := by decide +kernel
theorem dX9_findOrder_135 : decode cX9_findOrder 135 = .ok (.iload_n 2, 1) := by decide +kernel
theorem dX9_findOrder_136 : decode cX9_findOrder 136 = .ok (.iload 4, 2) := by decide +kernel
theorem dX9_findOrder_138 : decode cX9_findOrder 138 = .ok (.iastore, 1) := by decide +kernel
theorem dX9_findOrder_139 : decode cX9_findOrder 139 = .ok (.iinc 2 1, 3) := by decide +kernel
theorem dX9_findOrder_142 : decode cX9_findOrder 142 = .ok (.goto (-133), 3) := by decide +kernel
theorem dX9_findOrder_145 : decode cX9_findOrder 145 = .ok (.return_, 1) := by decide +kernel
theorem dX9_order_0 : decode cX9_order 0 = .ok (.iload_n 1, 1) := by decide +kernel
theorem dX9_order_1 : decode cX9_order 1 = .ok (.iconst 0, 1) := by decide +kernel
theorem dX9_order_2 : decode cX9_order 2 = .ok (.aload_n 0, 1) := by decide +kernel
theorem dX9_order_3 : decode cX9_order 3 = .ok (.getfield 13, 3) := by decide +kernel
theorem dX9_order_6 : decode cX9_order 6 = .ok (.iconst 0, 1) := by decide +kernel
theorem dX9_order_7 : decode cX9_order 7 = .ok (.iaload, 1) := by decide +kernel
theorem dX9_order_8 : decode cX9_order 8 = .ok (.invokestatic 93, 3) := by decide +kernel
theorem dX9_order_11 : decode cX9_order 11 = .ok (.ifCond .ne 5, 3) := by decide +kernel
theorem dX9_order_14 : decode cX9_order 14 = .ok (.iconst (-1), 1) := by decide +kernel
theorem dX9_order_15 : decode cX9_order 15 = .ok (.ireturn, 1) := by decide +kernel
theorem dX9_order_16 : decode cX9_order 16 = .ok (.aload_n 0, 1) := by decide +kernel
theorem dX9_order_17 : decode cX9_order 17 = .ok (.invokevirtual 238, 3) := by decide +kernel
theorem dX9_order_20 : decode cX9_order 20 = .ok (.iconst 1, 1) := by decide +kernel
theorem dX9_order_21 : decode cX9_order 21 = .ok (.aload_n 0, 1) := by decide +kernel
theorem dX9_order_22 : decode cX9_order 22 = .ok (.getfield 13, 3) := by decide +kernel
theorem dX9_order_25 : decode cX9_order 25 = .ok (.iconst 0, 1) := by decide +kernel
theorem dX9_order_26 : decode cX9_order 26 = .ok (.iaload, 1) := by decide +kernel
theorem dX9_order_27 : decode cX9_order 27 = .ok (.ishl, 1) := by decide +kernel
theorem dX9_order_28 : decode cX9_order 28 = .ok (.iconst 1, 1) := by decide +kernel
theorem dX9_order_29 : decode cX9_order 29 = .ok (.isub, 1) := by decide +kernel
theorem dX9_order_30 : decode cX9_order 30 = .ok (.istore_n 2, 1) := by decide +kernel
theorem dX9_order_31 : decode cX9_order 31 = .ok (.iload_n 1, 1) := by decide +kernel
theorem dX9_order_32 : decode cX9_order 32 = .ok (.ifCond .ne 10, 3) := by decide +kernel
theorem dX9_order_35 : decode cX9_order 35 = .ok (.aload_n 0, 1) := by decide +kernel
theorem dX9_order_36 : decode cX9_order 36 = .ok (.getfield 77, 3) := by decide +kernel
theorem dX9_order_39 : decode cX9_order 39 = .ok (.iload_n 2, 1) := by decide +kernel
theorem dX9_order_40 : decode cX9_order 40 = .ok (.iaload, 1) := by decide +kernel
theorem dX9_order_41 : decode cX9_order 41 = .ok (.ireturn, 1) := by decide +kernel
theorem dX9_order_42 : decode cX9_order 42 = .ok (.iconst 0, 1) := by decide +kernel
theorem dX9_order_43 : decode cX9_order 43 = .ok (.istore_n 3, 1) := by decide +kernel
theorem dX9_order_44 : decode cX9_order 44 = .ok (.iconst 1, 1) := by decide +kernel
theorem dX9_order_45 : decode cX9_order 45 = .ok (.istore 4, 2) := by decide +kernel
theorem dX9_order_47 : decode cX9_order 47 = .ok (.iload 4, 2) := by decide +kernel
theorem dX9_order_49 : decode cX9_order 49 = .ok (.iload_n 1, 1) := by decide +kernel
theorem dX9_order_50 : decode cX9_order 50 = .ok (.if_icmp .gt 66, 3) := by decide +kernel
theorem dX9_order_53 : decode cX9_order 53 = .ok (.iconst 0, 1) := by decide +kernel
theorem dX9_order_54 : decode cX9_order 54 = .ok (.istore_n 3, 1) := by decide +kernel
theorem dX9_order_55 : decode cX9_order 55 = .ok (.iload_n 2, 1) := by decide +kernel
theorem dX9_order_56 : decode cX9_order 56 = .ok (.iload_n 3, 1) := by decide +kernel
theorem dX9_order_57 : decode cX9_order 57 = .ok (.ishr, 1) := by decide +kernel
theorem dX9_order_58 : decode cX9_order 58 = .ok (.iconst 1, 1) := by decide +kernel
theorem dX9_order_59 : decode cX9_order 59 = .ok (.iand, 1) := by decide +kernel
theorem dX9_order_60 : decode cX9_order 60 = .ok (.ifCond .eq 36, 3) := by decide +kernel
theorem dX9_order_63 : decode cX9_order 63 = .ok (.iload 4, 2) := by decide +kernel
theorem dX9_order_65 : decode cX9_order 65 = .ok (.aload_n 0, 1) := by decide +kernel
theorem dX9_order_66 : decode cX9_order 66 = .ok (.getfield 56, 3) := by decide +kernel
theorem dX9_order_69 : decode cX9_order 69 = .ok (.iload_n 3, 1) := by decide +kernel
theorem dX9_order_70 : decode cX9_order 70 = .ok (.iaload, 1) := by decide +kernel
theorem dX9_order_71 : decode cX9_order 71 = .ok (.invokestatic 235, 3) := by decide +kernel
theorem dX9_order_74 : decode cX9_order 74 = .ok (.aload_n 0, 1) := by decide +kernel
theorem dX9_order_75 : decode cX9_order 75 = .ok (.getfield 77, 3) := by decide +kernel
theorem dX9_order_78 : decode cX9_order 78 = .ok (.iload_n 2, 1) := by decide +kernel
theorem dX9_order_79 : decode cX9_order 79 = .ok (.iconst 1, 1) := by decide +kernel
theorem dX9_order_80 : decode cX9_order 80 = .ok (.iload_n 3, 1) := by decide +kernel
theorem dX9_order_81 : decode cX9_order 81 = .ok (.ishl, 1) := by decide +kernel
theorem dX9_order_82 : decode cX9_order 82 = .ok (.iconst (-1), 1) := by decide +kernel
theorem dX9_order_83 : decode cX9_order 83 = .ok (.ixor, 1) := by decide +kernel
theorem dX9_order_84 : decode cX9_order 84 = .ok (.iand, 1) := by decide +kernel
theorem dX9_order_85 : decode cX9_order 85 = .ok (.iaload, 1) := by decide +kernel
theorem dX9_order_86 : decode cX9_order 86 = .ok (.iadd, 1) := by decide +kernel
theorem dX9_order_87 : decode cX9_order 87 = .ok (.aload_n 0, 1) := by decide +kernel
theorem dX9_order_88 : decode cX9_order 88 = .ok (.getfield 77, 3) := by decide +kernel
theorem dX9_order_91 : decode cX9_order 91 = .ok (.iload_n 2, 1) := by decide +kernel
theorem dX9_order_92 : decode cX9_order 92 = .ok (.iaload, 1) := by decide +kernel
theorem dX9_order_93 : decode cX9_order 93 = .ok (.if_icmp .eq 9, 3) := by decide +kernel
theorem dX9_order_96 : decode cX9_order 96 = .ok (.iinc 3 1, 3) := by decide +kernel
theorem dX9_order_99 : decode cX9_order 99 = .ok (.goto (-44), 3) := by decide +kernel
theorem dX9_order_102 : decode cX9_order 102 = .ok (.iload_n 2, 1) := by decide +kernel
theorem dX9_order_103 : decode cX9_order 103 = .ok (.iconst 1, 1) := by decide +kernel
theorem dX9_order_104 : decode cX9_order 104 = .ok (.iload_n 3, 1) := by decide +kernel
theorem dX9_order_105 : decode cX9_order 105 = .ok (.ishl, 1) := by decide +kernel
theorem dX9_order_106 : decode cX9_order 106 = .ok (.iconst (-1), 1) := by decide +kernel
theorem dX9_order_107 : decode cX9_order 107 = .ok (.ixor, 1) := by decide +kernel
theorem dX9_order_108 : decode cX9_order 108 = .ok (.iand, 1) := by decide +kernel
theorem dX9_order_109 : decode cX9_order 109 = .ok (.istore_n 2, 1) := by decide +kernel
theorem dX9_order_110 : decode cX9_order 110 = .ok (.iinc 4 1, 3) := by decide +kernel
theorem dX9_order_113 : decode cX9_order 113 = .ok (.goto (-66), 3) := by decide +kernel
theorem dX9_order_116 : decode cX9_order 116 = .ok (.iload_n 3, 1) := by decide +kernel
theorem dX9_order_117 : decode cX9_order 117 = .ok (.ireturn, 1) := by decide +kernel
theorem dX9_harvest_0 : decode cX9_harvest 0 = .ok (.iload_n 1, 1) := by decide +kernel
theorem dX9_harvest_1 : decode cX9_harvest 1 = .ok (.iconst 1, 1) := by decide +kernel
theorem dX9_harvest_2 : decode cX9_harvest 2 = .ok (.bipush 99, 2) := by decide +kernel
theorem dX9_harvest_4 : decode cX9_harvest 4 = .ok (.invokestatic 93, 3) := by decide +kernel
theorem dX9_harvest_7 : decode cX9_harvest 7 = .ok (.ifCond .ne 5, 3) := by decide +kernel
theorem dX9_harvest_10 : decode cX9_harvest 10 = .ok (.iconst (-1), 1) := by decide +kernel
theorem dX9_harvest_11 : decode cX9_harvest 11 = .ok (.ireturn, 1) := by decide +kernel
theorem dX9_harvest_12 : decode cX9_harvest 12 = .ok (.aload_n 0, 1) := by decide +kernel
theorem dX9_harvest_13 : decode cX9_harvest 13 = .ok (.invokevirtual 203, 3) := by decide +kernel
theorem dX9_harvest_16 : decode cX9_harvest 16 = .ok (.aload_n 0, 1) := by decide +kernel
theorem dX9_harvest_17 : decode cX9_harvest 17 = .ok (.iconst 0, 1) := by decide +kernel
theorem dX9_harvest_18 : decode cX9_harvest 18 = .ok (.invokevirtual 216, 3) := by decide +kernel
theorem dX9_harvest_21 : decode cX9_harvest 21 = .ok (.iconst 0, 1) := by decide +kernel
theorem dX9_harvest_22 : decode cX9_harvest 22 = .ok (.istore_n 2, 1) := by decide +kernel
theorem dX9_harvest_23 : decode cX9_harvest 23 = .ok (.iconst 0, 1) := by decide +kernel
theorem dX9_harvest_24 : decode cX9_harvest 24 = .ok (.istore_n 3, 1) := by decide +kernel
theorem dX9_harvest_25 : decode cX9_harvest 25 = .ok (.iload_n 3, 1) := by decide +kernel
theorem dX9_harvest_26 : decode cX9_harvest 26 = .ok (.iload_n 1, 1) := by decide +kernel
theorem dX9_harvest_27 : decode cX9_harvest 27 = .ok (.if_icmp .ge 30, 3) := by decide +kernel
theorem dX9_harvest_30 : decode cX9_harvest 30 = .ok (.iload_n 2, 1) := by decide +kernel
theorem dX9_harvest_31 : decode cX9_harvest 31 = .ok (.aload_n 0, 1) := by decide +kernel
theorem dX9_harvest_32 : decode cX9_harvest 32 = .ok (.getfield 59, 3) := by decide +kernel
theorem dX9_harvest_35 : decode cX9_harvest 35 = .ok (.aload_n 0, 1) := by decide +kernel
theorem dX9_harvest_36 : decode cX9_harvest 36 = .ok (.getfield 71, 3) := by decide +kernel
theorem dX9_harvest_39 : decode cX9_harvest 39 = .ok (.iload_n 3, 1) := by decide +kernel
theorem dX9_harvest_40 : decode cX9_harvest 40 = .ok (.aload_n 0, 1) := by decide +kernel
theorem dX9_harvest_41 : decode cX9_harvest 41 = .ok (.getfield 13, 3) := by decide +kernel
theorem dX9_harvest_44 : decode cX9_harvest 44 = .ok (.iconst 0, 1) := by decide +kernel
theorem dX9_harvest_45 : decode cX9_harvest 45 = .ok (.iaload, 1) := by decide +kernel
theorem dX9_harvest_46 : decode cX9_harvest 46 = .ok (.irem, 1) := by decide +kernel
theorem dX9_harvest_47 : decode cX9_harvest 47 = .ok (.iaload, 1) := by decide +kernel
theorem dX9_harvest_48 : decode cX9_harvest 48 = .ok (.iaload, 1) := by decide +kernel
theorem dX9_harvest_49 : decode cX9_harvest 49 = .ok (.iadd, 1) := by decide +kernel
theorem dX9_harvest_50 : decode cX9_harvest 50 = .ok (.istore_n 2, 1) := by decide +kernel
theorem dX9_harvest_51 : decode cX9_harvest 51 = .ok (.iinc 3 1, 3) := by decide +kernel
theorem dX9_harvest_54 : decode cX9_harvest 54 = .ok (.goto (-29), 3) := by decide +kernel
theorem dX9_harvest_57 : decode cX9_harvest 57 = .ok (.iload_n 2, 1) := by decide +kernel
theorem dX9_harvest_58 : decode cX9_harvest 58 = .ok (.ireturn, 1) := by decide +kernel
theorem dX9_odds_0 : decode cX9_odds 0 = .ok (.aload_n 0, 1) := by decide +kernel
theorem dX9_odds_1 : decode cX9_odds 1 = .ok (.iload_n 1, 1) := by decide +kernel
theorem dX9_odds_2 : decode cX9_odds 2 = .ok (.invokevirtual 152, 3) := by decide +kernel
theorem dX9_odds_5 : decode cX9_odds 5 = .ok (.ifCond .eq 32, 3) := by decide +kernel
theorem dX9_odds_8 : decode cX9_odds 8 = .ok (.iload_n 2, 1) := by decide +kernel
theorem dX9_odds_9 : decode cX9_odds 9 = .ok (.iconst 0, 1) := by decide +kernel
theorem dX9_odds_10 : decode cX9_odds 10 = .ok (.iconst 5, 1) := by decide +kernel
theorem dX9_odds_11 : decode cX9_odds 11 = .ok (.invokestatic 93, 3) := by decide +kernel
theorem dX9_odds_14 : decode cX9_odds 14 = .ok (.ifCond .eq 23, 3) := by decide +kernel
theorem dX9_odds_17 : decode cX9_odds 17 = .ok (.iload_n 3, 1) := by decide +kernel
theorem dX9_odds_18 : decode cX9_odds 18 = .ok (.iconst 0, 1) := by decide +kernel
theorem dX9_odds_19 : decode cX9_odds 19 = .ok (.bipush 10, 2) := by decide +kernel
theorem dX9_odds_21 : decode cX9_odds 21 = .ok (.invokestatic 93, 3) := by decide +kernel
theorem dX9_odds_24 : decode cX9_odds 24 = .ok (.ifCond .eq 13, 3) := by decide +kernel
theorem dX9_odds_27 : decode cX9_odds 27 = .ok (.iload 4, 2) := by decide +kernel
theorem dX9_odds_29 : decode cX9_odds 29 = .ok (.iconst 0, 1) := by decide +kernel
theorem dX9_odds_30 : decode cX9_odds 30 = .ok (.iconst 1, 1) := by decide +kernel
theorem dX9_odds_31 : decode cX9_odds 31 = .ok (.invokestatic 93, 3) := by decide +kernel
theorem dX9_odds_34 : decode cX9_odds 34 = .ok (.ifCond .ne 5, 3) := by decide +kernel
theorem dX9_odds_37 : decode cX9_odds 37 = .ok (.iconst (-1), 1) := by decide +kernel
theorem dX9_odds_38 : decode cX9_odds 38 = .ok (.ireturn, 1) := by decide +kernel
theorem dX9_odds_39 : decode cX9_odds 39 = .ok (.iconst 0, 1) := by decide +kernel
theorem dX9_odds_40 : decode cX9_odds 40 = .ok (.istore 5, 2) := by decide +kernel
theorem dX9_odds_42 : decode cX9_odds 42 = .ok (.iconst 1, 1) := by decide +kernel
theorem dX9_odds_43 : decode cX9_odds 43 = .ok (.istore 6, 2) := by decide +kernel
theorem dX9_odds_45 : decode cX9_odds 45 = .ok (.iconst 0, 1) := by decide +kernel
theorem dX9_odds_46 : decode cX9_odds 46 = .ok (.istore 7, 2) := by decide +kernel
theorem dX9_odds_48 : decode cX9_odds 48 = .ok (.iload 7, 2) := by decide +kernel
theorem dX9_odds_50 : decode cX9_odds 50 = .ok (.iconst 1, 1) := by decide +kernel
theorem dX9_odds_51 : decode cX9_odds 51 = .ok (.iload_n 2, 1) := by decide +kernel
theorem dX9_odds_52 : decode cX9_odds 52 = .ok (.ishl, 1) := by decide +kernel
theorem dX9_odds_53 : decode cX9_odds 53 = .ok (.if_icmp .ge 89, 3) := by decide +kernel
theorem dX9_odds_56 : decode cX9_odds 56 = .ok (.iconst 1, 1) := by decide +kernel
theorem dX9_odds_57 : decode cX9_odds 57 = .ok (.istore 8, 2) := by decide +kernel
theorem dX9_odds_59 : decode cX9_odds 59 = .ok (.iconst 0, 1) := by decide +kernel
theorem dX9_odds_60 : decode cX9_odds 60 = .ok (.istore 9, 2) := by decide +kernel
theorem dX9_odds_62 : decode cX9_odds 62 = .ok (.iload 9, 2) := by decide +kernel
theorem dX9_odds_64 : decode cX9_odds 64 = .ok (.iload_n 2, 1) := by decide +kernel
theorem dX9_odds_65 : decode cX9_odds 65 = .ok (.if_icmp .ge 33, 3) := by decide +kernel
theorem dX9_odds_68 : decode cX9_odds 68 = .ok (.iload 8, 2) := by decide +kernel
theorem dX9_odds_70 : decode cX9_odds 70 = .ok (.iload 7, 2) := by decide +kernel
theorem dX9_odds_72 : decode cX9_odds 72 = .ok (.iload 9, 2) := by decide +kernel
theorem dX9_odds_74 : decode cX9_odds 74 = .ok (.ishr, 1) := by decide +kernel
theorem dX9_odds_75 : decode cX9_odds 75 = .ok (.iconst 1, 1) := by decide +kernel
theorem dX9_odds_76 : decode cX9_odds 76 = .ok (.iand, 1) := by decide +kernel
theorem dX9_odds_77 : decode cX9_odds 77 = .ok (.iconst 1, 1) := by decide +kernel
theorem dX9_odds_78 : decode cX9_odds 78 = .ok (.if_icmp .ne 7, 3) := by decide +kernel
theorem dX9_odds_81 : decode cX9_odds 81 = .ok (.iload_n 3, 1) := by decide +kernel
theorem dX9_odds_82 : decode cX9_odds 82 = .ok (.goto 7, 3) := by decide +kernel
theorem dX9_odds_85 : decode cX9_odds 85 = .ok (.bipush 10, 2) := by decide +kernel
theorem dX9_odds_87 : decode cX9_odds 87 = .ok (.iload_n 3, 1) := by decide +kernel
theorem dX9_odds_88 : decode cX9_odds 88 = .ok (.isub, 1) := by decide +kernel
theorem dX9_odds_89 : decode cX9_odds 89 = .ok (.imul, 1) := by decide +kernel
theorem dX9_odds_90 : decode cX9_odds 90 = .ok (.istore 8, 2) := by decide +kernel
theorem dX9_odds_92 : decode cX9_odds 92 = .ok (.iinc 9 1, 3) := by decide +kernel
theorem dX9_odds_95 : decode cX9_odds 95 = .ok (.goto (-33), 3) := by decide +kernel
theorem dX9_odds_98 : decode cX9_odds 98 = .ok (.aload_n 0, 1) := by decide +kernel
theorem dX9_odds_99 : decode cX9_odds 99 = .ok (.invokevirtual 196, 3) := by decide +kernel
theorem dX9_odds_102 : decode cX9_odds 102 = .ok (.aload_n 0, 1) := by decide +kernel
theorem dX9_odds_103 : decode cX9_odds 103 = .ok (.iload 7, 2) := by decide +kernel
theorem dX9_odds_105 : decode cX9_odds 105 = .ok (.putfield 182, 3) := by decide +kernel
theorem dX9_odds_108 : decode cX9_odds 108 = .ok (.aload_n 0, 1) := by decide +kernel
theorem dX9_odds_109 : decode cX9_odds 109 = .ok (.iconst 0, 1) := by decide +kernel
theorem dX9_odds_110 : decode cX9_odds 110 = .ok (.sipush 200, 3) := by decide +kernel
theorem dX9_odds_113 : decode cX9_odds 113 = .ok (.invokevirtual 199, 3) := by decide +kernel
theorem dX9_odds_116 : decode cX9_odds 116 = .ok (.iload 5, 2) := by decide +kernel
theorem dX9_odds_118 : decode cX9_odds 118 = .ok (.aload_n 0, 1) := by decide +kernel
theorem dX9_odds_119 : decode cX9_odds 119 = .ok (.iconst 0, 1) := by decide +kernel
theorem dX9_odds_120 : decode cX9_odds 120 = .ok (.invokevirtual 232, 3) := by decide +kernel
theorem dX9_odds_123 : decode cX9_odds 123 = .ok (.iload_n 1, 1) := by decide +kernel
theorem dX9_odds_124 : decode cX9_odds 124 = .ok (.if_icmp .ne 8, 3) := by decide +kernel
theorem dX9_odds_127 : decode cX9_odds 127 = .ok (.iload 8, 2) := by decide +kernel
theorem dX9_odds_129 : decode cX9_odds 129 = .ok (.goto 4, 3) := by decide +kernel
theorem dX9_odds_132 : decode cX9_odds 132 = .ok (.iconst 0, 1) := by decide +kernel
theorem dX9_odds_133 : decode cX9_odds 133 = .ok (.iadd, 1) := by decide +kernel
theorem dX9_odds_134 : decode cX9_odds 134 = .ok (.istore 5, 2) := by decide +kernel
theorem dX9_odds_136 : decode cX9_odds 136 = .ok (.iinc 7 1, 3) := by decide +kernel
theorem dX9_odds_139 : decode cX9_odds 139 = .ok (.goto (-91), 3) := by decide +kernel
theorem dX9_odds_142 : decode cX9_odds 142 = .ok (.iconst 0, 1) := by decide +kernel
theorem dX9_odds_143 : decode cX9_odds 143 = .ok (.istore 7, 2) := by decide +kernel
theorem dX9_odds_145 : decode cX9_odds 145 = .ok (.iload 7, 2) := by decide +kernel
theorem dX9_odds_147 : decode cX9_odds 147 = .ok (.iload_n 2, 1) := by decide +kernel
theorem dX9_odds_148 : decode cX9_odds 148 = .ok (.if_icmp .ge 16, 3) := by decide +kernel
theorem dX9_odds_151 : decode cX9_odds 151 = .ok (.iload 6, 2) := by decide +kernel
theorem dX9_odds_153 : decode cX9_odds 153 = .ok (.bipush 10, 2) := by decide +kernel
theorem dX9_odds_155 : decode cX9_odds 155 = .ok (.imul, 1) := by decide +kernel
theorem dX9_odds_156 : decode cX9_odds 156 = .ok (.istore 6, 2) := by decide +kernel
theorem dX9_odds_158 : decode cX9_odds 158 = .ok (.iinc 7 1, 3) := by decide +kernel
theorem dX9_odds_161 : decode cX9_odds 161 = .ok (.goto (-16), 3) := by decide +kernel
theorem dX9_odds_164 : decode cX9_odds 164 = .ok (.iload 5, 2) := by decide +kernel
theorem dX9_odds_166 : decode cX9_odds 166 = .ok (.istore 7, 2) := by decide +kernel
theorem dX9_odds_168 : decode cX9_odds 168 = .ok (.iload 6, 2) := by decide +kernel
theorem dX9_odds_170 : decode cX9_odds 170 = .ok (.istore 8, 2) := by decide +kernel
theorem dX9_odds_172 : decode cX9_odds 172 = .ok (.iload 8, 2) := by decide +kernel
theorem dX9_odds_174 : decode cX9_odds 174 = .ok (.ifCond .eq 21, 3) := by decide +kernel
theorem dX9_odds_177 : decode cX9_odds 177 = .ok (.iload 7, 2) := by decide +kernel
theorem dX9_odds_179 : decode cX9_odds 179 = .ok (.iload 8, 2) := by decide +kernel
theorem dX9_odds_181 : decode cX9_odds 181 = .ok (.irem, 1) := by decide +kernel
theorem dX9_odds_182 : decode cX9_odds 182 = .ok (.istore 9, 2) := by decide +kernel
theorem dX9_odds_184 : decode cX9_odds 184 = .ok (.iload 8, 2) := by decide +kernel
theorem dX9_odds_186 : decode cX9_odds 186 = .ok (.istore 7, 2) := by decide +kernel
theorem dX9_odds_188 : decode cX9_odds 188 = .ok (.iload 9, 2) := by decide +kernel
theorem dX9_odds_190 : decode cX9_odds 190 = .ok (.istore 8, 2) := by decide +kernel
theorem dX9_odds_192 : decode cX9_odds 192 = .ok (.goto (-20), 3) := by decide +kernel
theorem dX9_odds_195 : decode cX9_odds 195 = .ok (.iload 4, 2) := by decide +kernel
theorem dX9_odds_197 : decode cX9_odds 197 = .ok (.ifCond .ne 11, 3) := by decide +kernel
theorem dX9_odds_200 : decode cX9_odds 200 = .ok (.iload 5, 2) := by decide +kernel
theorem dX9_odds_202 : decode cX9_odds 202 = .ok (.iload 7, 2) := by decide +kernel
theorem dX9_odds_204 : decode cX9_odds 204 = .ok (.idiv, 1) := by decide +kernel
theorem dX9_odds_205 : decode cX9_odds 205 = .ok (.goto 8, 3) := by decide +kernel
theorem dX9_odds_208 : decode cX9_odds 208 = .ok (.iload 6, 2) := by decide +kernel
theorem dX9_odds_210 : decode cX9_odds 210 = .ok (.iload 7, 2) := by decide +kernel
theorem dX9_odds_212 : decode cX9_odds 212 = .ok (.idiv, 1) := by decide +kernel
theorem dX9_odds_213 : decode cX9_odds 213 = .ok (.ireturn, 1) := by decide +kernel
theorem dX9_seen_0 : decode cX9_seen 0 = .ok (.aload_n 0, 1) := by decide +kernel
theorem dX9_seen_1 : decode cX9_seen 1 = .ok (.iload_n 1, 1) := by decide +kernel
theorem dX9_seen_2 : decode cX9_seen 2 = .ok (.invokevirtual 152, 3) := by decide +kernel
theorem dX9_seen_5 : decode cX9_seen 5 = .ok (.ifCond .eq 17, 3) := by decide +kernel
theorem dX9_seen_8 : decode cX9_seen 8 = .ok (.iload_n 2, 1) := by decide +kernel
theorem dX9_seen_9 : decode cX9_seen 9 = .ok (.iconst 1, 1) := by decide +kernel
theorem dX9_seen_10 : decode cX9_seen 10 = .ok (.aload_n 0, 1) := by decide +kernel
theorem dX9_seen_11 : decode cX9_seen 11 = .ok (.getfield 13, 3) := by decide +kernel
theorem dX9_seen_14 : decode cX9_seen 14 = .ok (.iconst 0, 1) := by decide +kernel
theorem dX9_seen_15 : decode cX9_seen 15 = .ok (.iaload, 1) := by decide +kernel
theorem dX9_seen_16 : decode cX9_seen 16 = .ok (.invokestatic 93, 3) := by decide +kernel
theorem dX9_seen_19 : decode cX9_seen 19 = .ok (.ifCond .ne 5, 3) := by decide +kernel
theorem dX9_seen_22 : decode cX9_seen 22 = .ok (.iconst (-1), 1) := by decide +kernel
theorem dX9_seen_23 : decode cX9_seen 23 = .ok (.ireturn, 1) := by decide +kernel
theorem dX9_seen_24 : decode cX9_seen 24 = .ok (.aload_n 0, 1) := by decide +kernel
theorem dX9_seen_25 : decode cX9_seen 25 = .ok (.getfield 149, 3) := by decide +kernel
theorem dX9_seen_28 : decode cX9_seen 28 = .ok (.bipush 6, 2) := by decide +kernel
theorem dX9_seen_30 : decode cX9_seen 30 = .ok (.if_icmp .ne 6, 3) := by decide +kernel
theorem dX9_seen_33 : decode cX9_seen 33 = .ok (.bipush (-3), 2) := by decide +kernel
theorem dX9_seen_35 : decode cX9_seen 35 = .ok (.ireturn, 1) := by decide +kernel
theorem dX9_seen_36 : decode cX9_seen 36 = .ok (.aload_n 0, 1) := by decide +kernel
theorem dX9_seen_37 : decode cX9_seen 37 = .ok (.getfield 80, 3) := by decide +kernel
theorem dX9_seen_40 : decode cX9_seen 40 = .ok (.aload_n 0, 1) := by decide +kernel
theorem dX9_seen_41 : decode cX9_seen 41 = .ok (.getfield 149, 3) := by decide +kernel
theorem dX9_seen_44 : decode cX9_seen 44 = .ok (.iload_n 1, 1) := by decide +kernel
theorem dX9_seen_45 : decode cX9_seen 45 = .ok (.iastore, 1) := by decide +kernel
theorem dX9_seen_46 : decode cX9_seen 46 = .ok (.aload_n 0, 1) := by decide +kernel
theorem dX9_seen_47 : decode cX9_seen 47 = .ok (.getfield 83, 3) := by decide +kernel
theorem dX9_seen_50 : decode cX9_seen 50 = .ok (.aload_n 0, 1) := by decide +kernel
theorem dX9_seen_51 : decode cX9_seen 51 = .ok (.getfield 149, 3) := by decide +kernel
theorem dX9_seen_54 : decode cX9_seen 54 = .ok (.iload_n 2, 1) := by decide +kernel
theorem dX9_seen_55 : decode cX9_seen 55 = .ok (.iastore, 1) := by decide +kernel
theorem dX9_seen_56 : decode cX9_seen 56 = .ok (.aload_n 0, 1) := by decide +kernel
theorem dX9_seen_57 : decode cX9_seen 57 = .ok (.dup, 1) := by decide +kernel
theorem dX9_seen_58 : decode cX9_seen 58 = .ok (.getfield 149, 3) := by decide +kernel
theorem dX9_seen_61 : decode cX9_seen 61 = .ok (.iconst 1, 1) := by decide +kernel
theorem dX9_seen_62 : decode cX9_seen 62 = .ok (.iadd, 1) := by decide +kernel
theorem dX9_seen_63 : decode cX9_seen 63 = .ok (.putfield 149, 3) := by decide +kernel
theorem dX9_seen_66 : decode cX9_seen 66 = .ok (.aload_n 0, 1) := by decide +kernel
theorem dX9_seen_67 : decode cX9_seen 67 = .ok (.getfield 149, 3) := by decide +kernel
theorem dX9_seen_70 : decode cX9_seen 70 = .ok (.ireturn, 1) := by decide +kernel
theorem dX9_forget_0 : decode cX9_forget 0 = .ok (.aload_n 0, 1) := by decide +kernel
theorem dX9_forget_1 : decode cX9_forget 1 = .ok (.getfield 149, 3) := by decide +kernel
theorem dX9_forget_4 : decode cX9_forget 4 = .ok (.istore_n 1, 1) := by decide +kernel
theorem dX9_forget_5 : decode cX9_forget 5 = .ok (.aload_n 0, 1) := by decide +kernel
theorem dX9_forget_6 : decode cX9_forget 6 = .ok (.iconst 0, 1) := by decide +kernel
theorem dX9_forget_7 : decode cX9_forget 7 = .ok (.putfield 149, 3) := by decide +kernel
theorem dX9_forget_10 : decode cX9_forget 10 = .ok (.iload_n 1, 1) := by decide +kernel
theorem dX9_forget_11 : decode cX9_forget 11 = .ok (.ireturn, 1) := by decide +kernel
theorem dX9_fits_0 : decode cX9_fits 0 = .ok (.aload_n 0, 1) := by decide +kernel
theorem dX9_fits_1 : decode cX9_fits 1 = .ok (.iconst 0, 1) := by decide +kernel
theorem dX9_fits_2 : decode cX9_fits 2 = .ok (.sipush 176, 3) := by decide +kernel
theorem dX9_fits_5 : decode cX9_fits 5 = .ok (.invokevirtual 220, 3) := by decide +kernel
theorem dX9_fits_8 : decode cX9_fits 8 = .ok (.iconst 0, 1) := by decide +kernel
theorem dX9_fits_9 : decode cX9_fits 9 = .ok (.istore_n 3, 1) := by decide +kernel
theorem dX9_fits_10 : decode cX9_fits 10 = .ok (.iload_n 3, 1) := by decide +kernel
theorem dX9_fits_11 : decode cX9_fits 11 = .ok (.bipush 8, 2) := by decide +kernel
theorem dX9_fits_13 : decode cX9_fits 13 = .ok (.if_icmp .ge 30, 3) := by decide +kernel
theorem dX9_fits_16 : decode cX9_fits 16 = .ok (.aload_n 0, 1) := by decide +kernel
theorem dX9_fits_17 : decode cX9_fits 17 = .ok (.getfield 62, 3) := by decide +kernel
theorem dX9_fits_20 : decode cX9_fits 20 = .ok (.sipush 184, 3) := by decide +kernel
theorem dX9_fits_23 : decode cX9_fits 23 = .ok (.iload_n 3, 1) := by decide +kernel
theorem dX9_fits_24 : decode cX9_fits 24 = .ok (.iadd, 1) := by decide +kernel
theorem dX9_fits_25 : decode cX9_fits 25 = .ok (.iload_n 3, 1) := by decide +kernel
theorem dX9_fits_26 : decode cX9_fits 26 = .ok (.iload_n 1, 1) := by decide +kernel
theorem dX9_fits_27 : decode cX9_fits 27 = .ok (.if_icmp .ne 7, 3) := by decide +kernel
theorem dX9_fits_30 : decode cX9_fits 30 = .ok (.iload_n 2, 1) := by decide +kernel
theorem dX9_fits_31 : decode cX9_fits 31 = .ok (.goto 5, 3) := by decide +kernel
theorem dX9_fits_34 : decode cX9_fits 34 = .ok (.bipush (-4), 2) := by decide +kernel
theorem dX9_fits_36 : decode cX9_fits 36 = .ok (.iastore, 1) := by decide +kernel
theorem dX9_fits_37 : decode cX9_fits 37 = .ok (.iinc 3 1, 3) := by decide +kernel
theorem dX9_fits_40 : decode cX9_fits 40 = .ok (.goto (-30), 3) := by decide +kernel
theorem dX9_fits_43 : decode cX9_fits 43 = .ok (.aload_n 0, 1) := by decide +kernel
theorem dX9_fits_44 : decode cX9_fits 44 = .ok (.invokevirtual 196, 3) := by decide +kernel
theorem dX9_fits_47 : decode cX9_fits 47 = .ok (.aload_n 0, 1) := by decide +kernel
theorem dX9_fits_48 : decode cX9_fits 48 = .ok (.sipush 176, 3) := by decide +kernel
theorem dX9_fits_51 : decode cX9_fits 51 = .ok (.sipush 200, 3) := by decide +kernel
theorem dX9_fits_54 : decode cX9_fits 54 = .ok (.invokevirtual 199, 3) := by decide +kernel
theorem dX9_fits_57 : decode cX9_fits 57 = .ok (.iconst 1, 1) := by decide +kernel
theorem dX9_fits_58 : decode cX9_fits 58 = .ok (.istore_n 3, 1) := by decide +kernel
theorem dX9_fits_59 : decode cX9_fits 59 = .ok (.iconst 0, 1) := by decide +kernel
theorem dX9_fits_60 : decode cX9_fits 60 = .ok (.istore 4, 2) := by decide +kernel
theorem dX9_fits_62 : decode cX9_fits 62 = .ok (.iload 4, 2) := by decide +kernel
theorem dX9_fits_64 : decode cX9_fits 64 = .ok (.aload_n 0, 1) := by decide +kernel
theorem dX9_fits_65 : decode cX9_fits 65 = .ok (.getfield 149, 3) := by decide +kernel
theorem dX9_fits_68 : decode cX9_fits 68 = .ok (.if_icmp .ge 43, 3) := by decide +kernel
theorem dX9_fits_71 : decode cX9_fits 71 = .ok (.iload_n 3, 1) := by decide +kernel
theorem dX9_fits_72 : decode cX9_fits 72 = .ok (.ifCond .eq 31, 3) := by decide +kernel
theorem dX9_fits_75 : decode cX9_fits 75 = .ok (.aload_n 0, 1) := by decide +kernel
theorem dX9_fits_76 : decode cX9_fits 76 = .ok (.sipush 176, 3) := by decide +kernel
theorem dX9_fits_79 : decode cX9_fits 79 = .ok (.aload_n 0, 1) := by decide +kernel
theorem dX9_fits_80 : decode cX9_fits 80 = .ok (.getfield 80, 3) := by decide +kernel
theorem dX9_fits_83 : decode cX9_fits 83 = .ok (.iload 4, 2) := by decide +kernel
theorem dX9_fits_85 : decode cX9_fits 85 = .ok (.iaload, 1) := by decide +kernel
theorem dX9_fits_86 : decode cX9_fits 86 = .ok (.invokevirtual 213, 3) := by decide +kernel
theorem dX9_fits_89 : decode cX9_fits 89 = .ok (.aload_n 0, 1) := by decide +kernel
theorem dX9_fits_90 : decode cX9_fits 90 = .ok (.getfield 83, 3) := by decide +kernel
theorem dX9_fits_93 : decode cX9_fits 93 = .ok (.iload 4, 2) := by decide +kernel
theorem dX9_fits_95 : decode cX9_fits 95 = .ok (.iaload, 1) := by decide +kernel
theorem dX9_fits_96 : decode cX9_fits 96 = .ok (.if_icmp .ne 7, 3) := by decide +kernel
theorem dX9_fits_99 : decode cX9_fits 99 = .ok (.iconst 1, 1) := by decide +kernel
theorem dX9_fits_100 : decode cX9_fits 100 = .ok (.goto 4, 3) := by decide +kernel
theorem dX9_fits_103 : decode cX9_fits 103 = .ok (.iconst 0, 1) := by decide +kernel
theorem dX9_fits_104 : decode cX9_fits 104 = .ok (.istore_n 3, 1) := by decide +kernel
theorem dX9_fits_105 : decode cX9_fits 105 = .ok (.iinc 4 1, 3) := by decide +kernel
theorem dX9_fits_108 : decode cX9_fits 108 = .ok (.goto (-46), 3) := by decide +kernel
theorem dX9_fits_111 : decode cX9_fits 111 = .ok (.iload_n 3, 1) := by decide +kernel
theorem dX9_fits_112 : decode cX9_fits 112 = .ok (.ireturn, 1) := by decide +kernel
theorem dX9_rides_0 : decode cX9_rides 0 = .ok (.iload_n 1, 1) := by decide +kernel
theorem dX9_rides_1 : decode cX9_rides 1 = .ok (.iconst 0, 1) := by decide +kernel
theorem dX9_rides_2 : decode cX9_rides 2 = .ok (.iconst 1, 1) := by decide +kernel
theorem dX9_rides_3 : decode cX9_rides 3 = .ok (.invokestatic 93, 3) := by decide +kernel
theorem dX9_rides_6 : decode cX9_rides 6 = .ok (.ifCond .ne 5, 3) := by decide +kernel
theorem dX9_rides_9 : decode cX9_rides 9 = .ok (.iconst (-1), 1) := by decide +kernel
theorem dX9_rides_10 : decode cX9_rides 10 = .ok (.ireturn, 1) := by decide +kernel
theorem dX9_rides_11 : decode cX9_rides 11 = .ok (.iconst 0, 1) := by decide +kernel
theorem dX9_rides_12 : decode cX9_rides 12 = .ok (.istore_n 2, 1) := by decide +kernel
theorem dX9_rides_13 : decode cX9_rides 13 = .ok (.bipush (-4), 2) := by decide +kernel
theorem dX9_rides_15 : decode cX9_rides 15 = .ok (.istore_n 3, 1) := by decide +kernel
theorem dX9_rides_16 : decode cX9_rides 16 = .ok (.iconst 0, 1) := by decide +kernel
theorem dX9_rides_17 : decode cX9_rides 17 = .ok (.istore 4, 2) := by decide +kernel
theorem dX9_rides_19 : decode cX9_rides 19 = .ok (.iload 4, 2) := by decide +kernel
theorem dX9_rides_21 : decode cX9_rides 21 = .ok (.bipush 64, 2) := by decide +kernel
theorem dX9_rides_23 : decode cX9_rides 23 = .ok (.if_icmp .gt 124, 3) := by decide +kernel
theorem dX9_rides_26 : decode cX9_rides 26 = .ok (.iload 4, 2) := by decide +kernel
theorem dX9_rides_28 : decode cX9_rides 28 = .ok (.bipush 8, 2) := by decide +kernel
theorem dX9_rides_30 : decode cX9_rides 30 = .ok (.idiv, 1) := by decide +kernel
theorem dX9_rides_31 : decode cX9_rides 31 = .ok (.istore 5, 2) := by decide +kernel
theorem dX9_rides_33 : decode cX9_rides 33 = .ok (.iload 4, 2) := by decide +kernel
theorem dX9_rides_35 : decode cX9_rides 35 = .ok (.bipush 8, 2) := by decide +kernel
theorem dX9_rides_37 : decode cX9_rides 37 = .ok (.irem, 1) := by decide +kernel
theorem dX9_rides_38 : decode cX9_rides 38 = .ok (.istore 6, 2) := by decide +kernel
theorem dX9_rides_40 : decode cX9_rides 40 = .ok (.iload 4, 2) := by decide +kernel
theorem dX9_rides_42 : decode cX9_rides 42 = .ok (.bipush 64, 2) := by decide +kernel
theorem dX9_rides_44 : decode cX9_rides 44 = .ok (.if_icmp .eq 39, 3) := by decide +kernel
theorem dX9_rides_47 : decode cX9_rides 47 = .ok (.aload_n 0, 1) := by decide +kernel
theorem dX9_rides_48 : decode cX9_rides 48 = .ok (.iload 5, 2) := by decide +kernel
theorem dX9_rides_50 : decode cX9_rides 50 = .ok (.invokevirtual 152, 3) := by decide +kernel
theorem dX9_rides_53 : decode cX9_rides 53 = .ok (.ifCond .eq 34, 3) := by decide +kernel
theorem dX9_rides_56 : decode cX9_rides 56 = .ok (.aload_n 0, 1) := by decide +kernel
theorem dX9_rides_57 : decode cX9_rides 57 = .ok (.iload 6, 2) := by decide +kernel
theorem dX9_rides_59 : decode cX9_rides 59 = .ok (.invokevirtual 152, 3) := by decide +kernel
theorem dX9_rides_62 : decode cX9_rides 62 = .ok (.ifCond .eq 25, 3) := by decide +kernel
theorem dX9_rides_65 : decode cX9_rides 65 = .ok (.iload 5, 2) := by decide +kernel
theorem dX9_rides_67 : decode cX9_rides 67 = .ok (.iload 6, 2) := by decide +kernel
theorem dX9_rides_69 : decode cX9_rides 69 = .ok (.if_icmp .eq 18, 3) := by decide +kernel
theorem dX9_rides_72 : decode cX9_rides 72 = .ok (.aload_n 0, 1) := by decide +kernel
theorem dX9_rides_73 : decode cX9_rides 73 = .ok (.iload 5, 2) := by decide +kernel
theorem dX9_rides_75 : decode cX9_rides 75 = .ok (.invokevirtual 156, 3) := by decide +kernel
theorem dX9_rides_78 : decode cX9_rides 78 = .ok (.bipush (-4), 2) := by decide +kernel
theorem dX9_rides_80 : decode cX9_rides 80 = .ok (.if_icmp .ne 7, 3) := by decide +kernel
theorem dX9_rides_83 : decode cX9_rides 83 = .ok (.iconst 1, 1) := by decide +kernel
theorem dX9_rides_84 : decode cX9_rides 84 = .ok (.goto 4, 3) := by decide +kernel
theorem dX9_rides_87 : decode cX9_rides 87 = .ok (.iconst 0, 1) := by decide +kernel
theorem dX9_rides_88 : decode cX9_rides 88 = .ok (.istore 7, 2) := by decide +kernel
theorem dX9_rides_90 : decode cX9_rides 90 = .ok (.iload 7, 2) := by decide +kernel
theorem dX9_rides_92 : decode cX9_rides 92 = .ok (.ifCond .eq 49, 3) := by decide +kernel
theorem dX9_rides_95 : decode cX9_rides 95 = .ok (.iload 4, 2) := by decide +kernel
theorem dX9_rides_97 : decode cX9_rides 97 = .ok (.bipush 64, 2) := by decide +kernel
theorem dX9_rides_99 : decode cX9_rides 99 = .ok (.if_icmp .ne 17, 3) := by decide +kernel
theorem dX9_rides_102 : decode cX9_rides 102 = .ok (.aload_n 0, 1) := by decide +kernel
theorem dX9_rides_103 : decode cX9_rides 103 = .ok (.bipush (-4), 2) := by decide +kernel
theorem dX9_rides_105 : decode cX9_rides 105 = .ok (.bipush (-4), 2) := by decide +kernel
theorem dX9_rides_107 : decode cX9_rides 107 = .ok (.invokevirtual 241, 3) := by decide +kernel
theorem dX9_rides_110 : decode cX9_rides 110 = .ok (.ifCond .eq 31, 3) := by decide +kernel
theorem dX9_rides_113 : decode cX9_rides 113 = .ok (.goto 14, 3) := by decide +kernel
theorem dX9_rides_116 : decode cX9_rides 116 = .ok (.aload_n 0, 1) := by decide +kernel
theorem dX9_rides_117 : decode cX9_rides 117 = .ok (.iload 5, 2) := by decide +kernel
theorem dX9_rides_119 : decode cX9_rides 119 = .ok (.iload 6, 2) := by decide +kernel
theorem dX9_rides_121 : decode cX9_rides 121 = .ok (.invokevirtual 241, 3) := by decide +kernel
theorem dX9_rides_124 : decode cX9_rides 124 = .ok (.ifCond .eq 17, 3) := by decide +kernel
theorem dX9_rides_127 : decode cX9_rides 127 = .ok (.iload_n 2, 1) := by decide +kernel
theorem dX9_rides_128 : decode cX9_rides 128 = .ok (.ifCond .ne 8, 3) := by decide +kernel
theorem dX9_rides_131 : decode cX9_rides 131 = .ok (.iload 4, 2) := by decide +kernel
theorem dX9_rides_133 : decode cX9_rides 133 = .ok (.goto 4, 3) := by decide +kernel
theorem dX9_rides_136 : decode cX9_rides 136 = .ok (.iload_n 3, 1) := by decide +kernel
theorem dX9_rides_137 : decode cX9_rides 137 = .ok (.istore_n 3, 1) := by decide +kernel
theorem dX9_rides_138 : decode cX9_rides 138 = .ok (.iinc 2 1, 3) := by decide +kernel
theorem dX9_rides_141 : decode cX9_rides 141 = .ok (.iinc 4 1, 3) := by decide +kernel
theorem dX9_rides_144 : decode cX9_rides 144 = .ok (.goto (-125), 3) := by decide +kernel
theorem dX9_rides_147 : decode cX9_rides 147 = .ok (.iload_n 1, 1) := by decide +kernel
theorem dX9_rides_148 : decode cX9_rides 148 = .ok (.ifCond .ne 7, 3) := by decide +kernel
theorem dX9_rides_151 : decode cX9_rides 151 = .ok (.iload_n 2, 1) := by decide +kernel
theorem dX9_rides_152 : decode cX9_rides 152 = .ok (.goto 4, 3) := by decide +kernel
theorem dX9_rides_155 : decode cX9_rides 155 = .ok (.iload_n 3, 1) := by decide +kernel
theorem dX9_rides_156 : decode cX9_rides 156 = .ok (.ireturn, 1) := by decide +kernel
theorem dX9_river_0 : decode cX9_river 0 = .ok (.iload_n 1, 1) := by decide +kernel
theorem dX9_river_1 : decode cX9_river 1 = .ok (.iconst 0, 1) := by decide +kernel
theorem dX9_river_2 : decode cX9_river 2 = .ok (.sipush 9999, 3) := by decide +kernel
theorem dX9_river_5 : decode cX9_river 5 = .ok (.invokestatic 93, 3) := by decide +kernel
theorem dX9_river_8 : decode cX9_river 8 = .ok (.ifCond .eq 12, 3) := by decide +kernel
theorem dX9_river_11 : decode cX9_river 11 = .ok (.iload_n 2, 1) := by decide +kernel
theorem dX9_river_12 : decode cX9_river 12 = .ok (.iconst 0, 1) := by decide +kernel
theorem dX9_river_13 : decode cX9_river 13 = .ok (.iconst 1, 1) := by decide +kernel
theorem dX9_river_14 : decode cX9_river 14 = .ok (.invokestatic 93, 3) := by decide +kernel
theorem dX9_river_17 : decode cX9_river 17 = .ok (.ifCond .ne 5, 3) := by decide +kernel
theorem dX9_river_20 : decode cX9_river 20 = .ok (.iconst (-1), 1) := by decide +kernel
theorem dX9_river_21 : decode cX9_river 21 = .ok (.ireturn, 1) := by decide +kernel
theorem dX9_river_22 : decode cX9_river 22 = .ok (.aload_n 0, 1) := by decide +kernel
theorem dX9_river_23 : decode cX9_river 23 = .ok (.invokevirtual 196, 3) := by decide +kernel
theorem dX9_river_26 : decode cX9_river 26 = .ok (.aload_n 0, 1) := by decide +kernel
theorem dX9_river_27 : decode cX9_river 27 = .ok (.iload_n 1, 1) := by decide +kernel
theorem dX9_river_28 : decode cX9_river 28 = .ok (.putfield 165, 3) := by decide +kernel
theorem dX9_river_31 : decode cX9_river 31 = .ok (.aload_n 0, 1) := by decide +kernel
theorem dX9_river_32 : decode cX9_river 32 = .ok (.iconst 0, 1) := by decide +kernel
theorem dX9_river_33 : decode cX9_river 33 = .ok (.sipush 200, 3) := by decide +kernel
theorem dX9_river_36 : decode cX9_river 36 = .ok (.invokevirtual 199, 3) := by decide +kernel
theorem dX9_river_39 : decode cX9_river 39 = .ok (.iconst 0, 1) := by decide +kernel
theorem dX9_river_40 : decode cX9_river 40 = .ok (.istore_n 3, 1) := by decide +kernel
theorem dX9_river_41 : decode cX9_river 41 = .ok (.iconst 0, 1) := by decide +kernel
theorem dX9_river_42 : decode cX9_river 42 = .ok (.istore 4, 2) := by decide +kernel
theorem dX9_river_44 : decode cX9_river 44 = .ok (.iload 4, 2) := by decide +kernel
theorem dX9_river_46 : decode cX9_river 46 = .ok (.aload_n 0, 1) := by decide +kernel
theorem dX9_river_47 : decode cX9_river 47 = .ok (.getfield 13, 3) := by decide +kernel
theorem dX9_river_50 : decode cX9_river 50 = .ok (.iconst 0, 1) := by decide +kernel
theorem dX9_river_51 : decode cX9_river 51 = .ok (.iaload, 1) := by decide +kernel
theorem dX9_river_52 : decode cX9_river 52 = .ok (.if_icmp .ge 45, 3) := by decide +kernel
theorem dX9_river_55 : decode cX9_river 55 = .ok (.aload_n 0, 1) := by decide +kernel
theorem dX9_river_56 : decode cX9_river 56 = .ok (.getfield 68, 3) := by decide +kernel
theorem dX9_river_59 : decode cX9_river 59 = .ok (.iload 4, 2) := by decide +kernel
theorem dX9_river_61 : decode cX9_river 61 = .ok (.iaload, 1) := by decide +kernel
theorem dX9_river_62 : decode cX9_river 62 = .ok (.sipush 999, 3) := by decide +kernel
theorem dX9_river_65 : decode cX9_river 65 = .ok (.if_icmp .eq 24, 3) := by decide +kernel
theorem dX9_river_68 : decode cX9_river 68 = .ok (.aload_n 0, 1) := by decide +kernel
theorem dX9_river_69 : decode cX9_river 69 = .ok (.getfield 68, 3) := by decide +kernel
theorem dX9_river_72 : decode cX9_river 72 = .ok (.iload 4, 2) := by decide +kernel
theorem dX9_river_74 : decode cX9_river 74 = .ok (.iaload, 1) := by decide +kernel
theorem dX9_river_75 : decode cX9_river 75 = .ok (.iload_n 3, 1) := by decide +kernel
theorem dX9_river_76 : decode cX9_river 76 = .ok (.if_icmp .le 13, 3) := by decide +kernel
theorem dX9_river_79 : decode cX9_river 79 = .ok (.aload_n 0, 1) := by decide +kernel
theorem dX9_river_80 : decode cX9_river 80 = .ok (.getfield 68, 3) := by decide +kernel
theorem dX9_river_83 : decode cX9_river 83 = .ok (.iload 4, 2) := by decide +kernel
theorem dX9_river_85 : decode cX9_river 85 = .ok (.iaload, 1) := by decide +kernel
theorem dX9_river_86 : decode cX9_river 86 = .ok (.goto 4, 3) := by decide +kernel
theorem dX9_river_89 : decode cX9_river 89 = .ok (.iload_n 3, 1) := by decide +kernel
theorem dX9_river_90 : decode cX9_river 90 = .ok (.istore_n 3, 1) := by decide +kernel
theorem dX9_river_91 : decode cX9_river 91 = .ok (.iinc 4 1, 3) := by decide +kernel
theorem dX9_river_94 : decode cX9_river 94 = .ok (.goto (-50), 3) := by decide +kernel
theorem dX9_river_97 : decode cX9_river 97 = .ok (.iload_n 2, 1) := by decide +kernel
theorem dX9_river_98 : decode cX9_river 98 = .ok (.ifCond .ne 11, 3) := by decide +kernel
theorem dX9_river_101 : decode cX9_river 101 = .ok (.aload_n 0, 1) := by decide +kernel
theorem dX9_river_102 : decode cX9_river 102 = .ok (.iconst 0, 1) := by decide +kernel
theorem dX9_river_103 : decode cX9_river 103 = .ok (.invokevirtual 232, 3) := by decide +kernel
theorem dX9_river_106 : decode cX9_river 106 = .ok (.goto 4, 3) := by decide +kernel
theorem dX9_river_109 : decode cX9_river 109 = .ok (.iload_n 3, 1) := by decide +kernel
theorem dX9_river_110 : decode cX9_river 110 = .ok (.ireturn, 1) := by decide +kernel
theorem dX9_keep_0 : decode cX9_keep 0 = .ok (.aload_n 0, 1) := by decide +kernel
theorem dX9_keep_1 : decode cX9_keep 1 = .ok (.getfield 146, 3) := by decide +kernel
theorem dX9_keep_4 : decode cX9_keep 4 = .ok (.iconst 2, 1) := by decide +kernel
theorem dX9_keep_5 : decode cX9_keep 5 = .ok (.if_icmp .ne 6, 3) := by decide +kernel
theorem dX9_keep_8 : decode cX9_keep 8 = .ok (.bipush (-3), 2) := by decide +kernel
theorem dX9_keep_10 : decode cX9_keep 10 = .ok (.ireturn, 1) := by decide +kernel
theorem dX9_keep_11 : decode cX9_keep 11 = .ok (.aload_n 0, 1) := by decide +kernel
theorem dX9_keep_12 : decode cX9_keep 12 = .ok (.iconst 0, 1) := by decide +kernel
theorem dX9_keep_13 : decode cX9_keep 13 = .ok (.sipush 144, 3) := by decide +kernel
theorem dX9_keep_16 : decode cX9_keep 16 = .ok (.bipush 16, 2) := by decide +kernel
theorem dX9_keep_18 : decode cX9_keep 18 = .ok (.aload_n 0, 1) := by decide +kernel
theorem dX9_keep_19 : decode cX9_keep 19 = .ok (.getfield 146, 3) := by decide +kernel
theorem dX9_keep_22 : decode cX9_keep 22 = .ok (.imul, 1) := by decide +kernel
theorem dX9_keep_23 : decode cX9_keep 23 = .ok (.iadd, 1) := by decide +kernel
theorem dX9_keep_24 : decode cX9_keep 24 = .ok (.invokevirtual 220, 3) := by decide +kernel
theorem dX9_keep_27 : decode cX9_keep 27 = .ok (.aload_n 0, 1) := by decide +kernel
theorem dX9_keep_28 : decode cX9_keep 28 = .ok (.dup, 1) := by decide +kernel
theorem dX9_keep_29 : decode cX9_keep 29 = .ok (.getfield 146, 3) := by decide +kernel
theorem dX9_keep_32 : decode cX9_keep 32 = .ok (.iconst 1, 1) := by decide +kernel
theorem dX9_keep_33 : decode cX9_keep 33 = .ok (.iadd, 1) := by decide +kernel
theorem dX9_keep_34 : decode cX9_keep 34 = .ok (.putfield 146, 3) := by decide +kernel
theorem dX9_keep_37 : decode cX9_keep 37 = .ok (.aload_n 0, 1) := by decide +kernel
theorem dX9_keep_38 : decode cX9_keep 38 = .ok (.getfield 146, 3) := by decide +kernel
theorem dX9_keep_41 : decode cX9_keep 41 = .ok (.ireturn, 1) := by decide +kernel
theorem dX9_restore_0 : decode cX9_restore 0 = .ok (.aload_n 0, 1) := by decide +kernel
theorem dX9_restore_1 : decode cX9_restore 1 = .ok (.getfield 146, 3) := by decide +kernel
theorem dX9_restore_4 : decode cX9_restore 4 = .ok (.ifCond .ne 6, 3) := by decide +kernel
theorem dX9_restore_7 : decode cX9_restore 7 = .ok (.bipush (-2), 2) := by decide +kernel
theorem dX9_restore_9 : decode cX9_restore 9 = .ok (.ireturn, 1) := by decide +kernel
theorem dX9_restore_10 : decode cX9_restore 10 = .ok (.aload_n 0, 1) := by decide +kernel
theorem dX9_restore_11 : decode cX9_restore 11 = .ok (.dup, 1) := by decide +kernel
theorem dX9_restore_12 : decode cX9_restore 12 = .ok (.getfield 146, 3) := by decide +kernel
theorem dX9_restore_15 : decode cX9_restore 15 = .ok (.iconst 1, 1) := by decide +kernel
theorem dX9_restore_16 : decode cX9_restore 16 = .ok (.isub, 1) := by decide +kernel
theorem dX9_restore_17 : decode cX9_restore 17 = .ok (.putfield 146, 3) := by decide +kernel
theorem dX9_restore_20 : decode cX9_restore 20 = .ok (.aload_n 0, 1) := by decide +kernel
theorem dX9_restore_21 : decode cX9_restore 21 = .ok (.sipush 144, 3) := by decide +kernel
theorem dX9_restore_24 : decode cX9_restore 24 = .ok (.bipush 16, 2) := by decide +kernel
theorem dX9_restore_26 : decode cX9_restore 26 = .ok (.aload_n 0, 1) := by decide +kernel
theorem dX9_restore_27 : decode cX9_restore 27 = .ok (.getfield 146, 3) := by decide +kernel
theorem dX9_restore_30 : decode cX9_restore 30 = .ok (.imul, 1) := by decide +kernel
theorem dX9_restore_31 : decode cX9_restore 31 = .ok (.iadd, 1) := by decide +kernel
theorem dX9_restore_32 : decode cX9_restore 32 = .ok (.iconst 0, 1) := by decide +kernel
theorem dX9_restore_33 : decode cX9_restore 33 = .ok (.invokevirtual 220, 3) := by decide +kernel
theorem dX9_restore_36 : decode cX9_restore 36 = .ok (.aload_n 0, 1) := by decide +kernel
theorem dX9_restore_37 : decode cX9_restore 37 = .ok (.iconst 0, 1) := by decide +kernel
theorem dX9_restore_38 : decode cX9_restore 38 = .ok (.putfield 143, 3) := by decide +kernel
theorem dX9_restore_41 : decode cX9_restore 41 = .ok (.aload_n 0, 1) := by decide +kernel
theorem dX9_restore_42 : decode cX9_restore 42 = .ok (.getfield 146, 3) := by decide +kernel
theorem dX9_restore_45 : decode cX9_restore 45 = .ok (.ireturn, 1) := by decide +kernel
theorem dX9_count_0 : decode cX9_count 0 = .ok (.iconst 0, 1) := by decide +kernel
theorem dX9_count_1 : decode cX9_count 1 = .ok (.istore_n 2, 1) := by decide +kernel
theorem dX9_count_2 : decode cX9_count 2 = .ok (.iconst 0, 1) := by decide +kernel
theorem dX9_count_3 : decode cX9_count 3 = .ok (.istore_n 3, 1) := by decide +kernel
theorem dX9_count_4 : decode cX9_count 4 = .ok (.iload_n 3, 1) := by decide +kernel
theorem dX9_count_5 : decode cX9_count 5 = .ok (.aload_n 0, 1) := by decide +kernel
theorem dX9_count_6 : decode cX9_count 6 = .ok (.getfield 13, 3) := by decide +kernel
theorem dX9_count_9 : decode cX9_count 9 = .ok (.iconst 0, 1) := by decide +kernel
theorem dX9_count_10 : decode cX9_count 10 = .ok (.iaload, 1) := by decide +kernel
theorem dX9_count_11 : decode cX9_count 11 = .ok (.if_icmp .ge 31, 3) := by decide +kernel
theorem dX9_count_14 : decode cX9_count 14 = .ok (.iload_n 2, 1) := by decide +kernel
theorem dX9_count_15 : decode cX9_count 15 = .ok (.aload_n 0, 1) := by decide +kernel
theorem dX9_count_16 : decode cX9_count 16 = .ok (.getfield 62, 3) := by decide +kernel
theorem dX9_count_19 : decode cX9_count 19 = .ok (.bipush 8, 2) := by decide +kernel
theorem dX9_count_21 : decode cX9_count 21 = .ok (.iload_n 3, 1) := by decide +kernel
theorem dX9_count_22 : decode cX9_count 22 = .ok (.iadd, 1) := by decide +kernel
theorem dX9_count_23 : decode cX9_count 23 = .ok (.iaload, 1) := by decide +kernel
theorem dX9_count_24 : decode cX9_count 24 = .ok (.bipush (-4), 2) := by decide +kernel
theorem dX9_count_26 : decode cX9_count 26 = .ok (.if_icmp .ne 7, 3) := by decide +kernel
theorem dX9_count_29 : decode cX9_count 29 = .ok (.iconst 0, 1) := by decide +kernel
theorem dX9_count_30 : decode cX9_count 30 = .ok (.goto 4, 3) := by decide +kernel
theorem dX9_count_33 : decode cX9_count 33 = .ok (.iconst 1, 1) := by decide +kernel
theorem dX9_count_34 : decode cX9_count 34 = .ok (.iadd, 1) := by decide +kernel
theorem dX9_count_35 : decode cX9_count 35 = .ok (.istore_n 2, 1) := by decide +kernel
theorem dX9_count_36 : decode cX9_count 36 = .ok (.iinc 3 1, 3) := by decide +kernel
theorem dX9_count_39 : decode cX9_count 39 = .ok (.goto (-35), 3) := by decide +kernel
theorem dX9_count_42 : decode cX9_count 42 = .ok (.iload_n 1, 1) := by decide +kernel
theorem dX9_count_43 : decode cX9_count 43 = .ok (.tableswitch 99 0 8 #[49, 56, 63, 70, 77, 79, 84, 89, 94], 49) := by decide +kernel
theorem dX9_count_92 : decode cX9_count 92 = .ok (.aload_n 0, 1) := by decide +kernel
theorem dX9_count_93 : decode cX9_count 93 = .ok (.getfield 13, 3) := by decide +kernel
theorem dX9_count_96 : decode cX9_count 96 = .ok (.iconst 0, 1) := by decide +kernel
theorem dX9_count_97 : decode cX9_count 97 = .ok (.iaload, 1) := by decide +kernel
theorem dX9_count_98 : decode cX9_count 98 = .ok (.ireturn, 1) := by decide +kernel
theorem dX9_count_99 : decode cX9_count 99 = .ok (.aload_n 0, 1) := by decide +kernel
theorem dX9_count_100 : decode cX9_count 100 = .ok (.getfield 29, 3) := by decide +kernel
theorem dX9_count_103 : decode cX9_count 103 = .ok (.iconst 0, 1) := by decide +kernel
theorem dX9_count_104 : decode cX9_count 104 = .ok (.iaload, 1) := by decide +kernel
theorem dX9_count_105 : decode cX9_count 105 = .ok (.ireturn, 1) := by decide +kernel
theorem dX9_count_106 : decode cX9_count 106 = .ok (.aload_n 0, 1) := by decide +kernel
theorem dX9_count_107 : decode cX9_count 107 = .ok (.getfield 32, 3) := by decide +kernel
theorem dX9_count_110 : decode cX9_count 110 = .ok (.iconst 0, 1) := by decide +kernel
theorem dX9_count_111 : decode cX9_count 111 = .ok (.iaload, 1) := by decide +kernel
theorem dX9_count_112 : decode cX9_count 112 = .ok (.ireturn, 1) := by decide +kernel
theorem dX9_count_113 : decode cX9_count 113 = .ok (.aload_n 0, 1) := by decide +kernel
theorem dX9_count_114 : decode cX9_count 114 = .ok (.getfield 44, 3) := by decide +kernel
theorem dX9_count_117 : decode cX9_count 117 = .ok (.iconst 0, 1) := by decide +kernel
theorem dX9_count_118 : decode cX9_count 118 = .ok (.iaload, 1) := by decide +kernel
theorem dX9_count_119 : decode cX9_count 119 = .ok (.ireturn, 1) := by decide +kernel
theorem dX9_count_120 : decode cX9_count 120 = .ok (.iload_n 2, 1) := by decide +kernel
theorem dX9_count_121 : decode cX9_count 121 = .ok (.ireturn, 1) := by decide +kernel
theorem dX9_count_122 : decode cX9_count 122 = .ok (.aload_n 0, 1) := by decide +kernel
theorem dX9_count_123 : decode cX9_count 123 = .ok (.getfield 149, 3) := by decide +kernel
theorem dX9_count_126 : decode cX9_count 126 = .ok (.ireturn, 1) := by decide +kernel
theorem dX9_count_127 : decode cX9_count 127 = .ok (.aload_n 0, 1) := by decide +kernel
theorem dX9_count_128 : decode cX9_count 128 = .ok (.getfield 143, 3) := by decide +kernel
theorem dX9_count_131 : decode cX9_count 131 = .ok (.ireturn, 1) := by decide +kernel
theorem dX9_count_132 : decode cX9_count 132 = .ok (.aload_n 0, 1) := by decide +kernel
theorem dX9_count_133 : decode cX9_count 133 = .ok (.getfield 146, 3) := by decide +kernel
theorem dX9_count_136 : decode cX9_count 136 = .ok (.ireturn, 1) := by decide +kernel
theorem dX9_count_137 : decode cX9_count 137 = .ok (.aload_n 0, 1) := by decide +kernel
theorem dX9_count_138 : decode cX9_count 138 = .ok (.getfield 97, 3) := by decide +kernel
theorem dX9_count_141 : decode cX9_count 141 = .ok (.ireturn, 1) := by decide +kernel
theorem dX9_count_142 : decode cX9_count 142 = .ok (.iconst (-1), 1) := by decide +kernel
theorem dX9_count_143 : decode cX9_count 143 = .ok (.ireturn, 1) := by decide +kernel
