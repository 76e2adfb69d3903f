theorem dL_law_0 : decode cL_law 0 = .ok (.new 7, 3) := by decide +kernel
theorem dL_law_3 : decode cL_law 3 = .ok (.dup, 1) := by decide +kernel
theorem dL_law_4 : decode cL_law 4 = .ok (.invokespecial 9, 3) := by decide +kernel
theorem dL_law_7 : decode cL_law 7 = .ok (.astore_n 1, 1) := by decide +kernel
theorem dL_law_8 : decode cL_law 8 = .ok (.new 10, 3) := by decide +kernel
theorem dL_law_11 : decode cL_law 11 = .ok (.dup, 1) := by decide +kernel
theorem dL_law_12 : decode cL_law 12 = .ok (.invokespecial 12, 3) := by decide +kernel
theorem dL_law_15 : decode cL_law 15 = .ok (.astore_n 2, 1) := by decide +kernel
theorem dL_law_16 : decode cL_law 16 = .ok (.iconst 0, 1) := by decide +kernel
theorem dL_law_17 : decode cL_law 17 = .ok (.istore_n 3, 1) := by decide +kernel
theorem dL_law_18 : decode cL_law 18 = .ok (.iload_n 3, 1) := by decide +kernel
theorem dL_law_19 : decode cL_law 19 = .ok (.aload_n 0, 1) := by decide +kernel
theorem dL_law_20 : decode cL_law 20 = .ok (.arraylength, 1) := by decide +kernel
theorem dL_law_21 : decode cL_law 21 = .ok (.bipush 6, 2) := by decide +kernel
theorem dL_law_23 : decode cL_law 23 = .ok (.isub, 1) := by decide +kernel
theorem dL_law_24 : decode cL_law 24 = .ok (.if_icmp .gt 730, 3) := by decide +kernel
theorem dL_law_27 : decode cL_law 27 = .ok (.aload_n 0, 1) := by decide +kernel
theorem dL_law_28 : decode cL_law 28 = .ok (.iload_n 3, 1) := by decide +kernel
theorem dL_law_29 : decode cL_law 29 = .ok (.iaload, 1) := by decide +kernel
theorem dL_law_30 : decode cL_law 30 = .ok (.bipush 31, 2) := by decide +kernel
theorem dL_law_32 : decode cL_law 32 = .ok (.iand, 1) := by decide +kernel
theorem dL_law_33 : decode cL_law 33 = .ok (.tableswitch 715 0 19 #[95, 158, 181, 194, 207, 220, 243, 266, 299, 332, 365, 398, 431, 464, 507, 550, 593, 616, 659, 702], 95) := by decide +kernel
theorem dL_law_128 : decode cL_law 128 = .ok (.aload_n 1, 1) := by decide +kernel
theorem dL_law_129 : decode cL_law 129 = .ok (.aload_n 0, 1) := by decide +kernel
theorem dL_law_130 : decode cL_law 130 = .ok (.iload_n 3, 1) := by decide +kernel
theorem dL_law_131 : decode cL_law 131 = .ok (.iconst 1, 1) := by decide +kernel
theorem dL_law_132 : decode cL_law 132 = .ok (.iadd, 1) := by decide +kernel
theorem dL_law_133 : decode cL_law 133 = .ok (.iaload, 1) := by decide +kernel
theorem dL_law_134 : decode cL_law 134 = .ok (.aload_n 0, 1) := by decide +kernel
theorem dL_law_135 : decode cL_law 135 = .ok (.iload_n 3, 1) := by decide +kernel
theorem dL_law_136 : decode cL_law 136 = .ok (.iconst 2, 1) := by decide +kernel
theorem dL_law_137 : decode cL_law 137 = .ok (.iadd, 1) := by decide +kernel
theorem dL_law_138 : decode cL_law 138 = .ok (.iaload, 1) := by decide +kernel
theorem dL_law_139 : decode cL_law 139 = .ok (.aload_n 0, 1) := by decide +kernel
theorem dL_law_140 : decode cL_law 140 = .ok (.iload_n 3, 1) := by decide +kernel
theorem dL_law_141 : decode cL_law 141 = .ok (.iconst 3, 1) := by decide +kernel
theorem dL_law_142 : decode cL_law 142 = .ok (.iadd, 1) := by decide +kernel
theorem dL_law_143 : decode cL_law 143 = .ok (.iaload, 1) := by decide +kernel
theorem dL_law_144 : decode cL_law 144 = .ok (.aload_n 0, 1) := by decide +kernel
theorem dL_law_145 : decode cL_law 145 = .ok (.iload_n 3, 1) := by decide +kernel
theorem dL_law_146 : decode cL_law 146 = .ok (.iconst 4, 1) := by decide +kernel
theorem dL_law_147 : decode cL_law 147 = .ok (.iadd, 1) := by decide +kernel
theorem dL_law_148 : decode cL_law 148 = .ok (.iaload, 1) := by decide +kernel
theorem dL_law_149 : decode cL_law 149 = .ok (.aload_n 0, 1) := by decide +kernel
theorem dL_law_150 : decode cL_law 150 = .ok (.iload_n 3, 1) := by decide +kernel
theorem dL_law_151 : decode cL_law 151 = .ok (.iconst 5, 1) := by decide +kernel
theorem dL_law_152 : decode cL_law 152 = .ok (.iadd, 1) := by decide +kernel
theorem dL_law_153 : decode cL_law 153 = .ok (.iaload, 1) := by decide +kernel
theorem dL_law_154 : decode cL_law 154 = .ok (.invokevirtual 13, 3) := by decide +kernel
theorem dL_law_157 : decode cL_law 157 = .ok (.aload_n 2, 1) := by decide +kernel
theorem dL_law_158 : decode cL_law 158 = .ok (.aload_n 0, 1) := by decide +kernel
theorem dL_law_159 : decode cL_law 159 = .ok (.iload_n 3, 1) := by decide +kernel
theorem dL_law_160 : decode cL_law 160 = .ok (.iconst 1, 1) := by decide +kernel
theorem dL_law_161 : decode cL_law 161 = .ok (.iadd, 1) := by decide +kernel
theorem dL_law_162 : decode cL_law 162 = .ok (.iaload, 1) := by decide +kernel
theorem dL_law_163 : decode cL_law 163 = .ok (.aload_n 0, 1) := by decide +kernel
theorem dL_law_164 : decode cL_law 164 = .ok (.iload_n 3, 1) := by decide +kernel
theorem dL_law_165 : decode cL_law 165 = .ok (.iconst 2, 1) := by decide +kernel
theorem dL_law_166 : decode cL_law 166 = .ok (.iadd, 1) := by decide +kernel
theorem dL_law_167 : decode cL_law 167 = .ok (.iaload, 1) := by decide +kernel
theorem dL_law_168 : decode cL_law 168 = .ok (.aload_n 0, 1) := by decide +kernel
theorem dL_law_169 : decode cL_law 169 = .ok (.iload_n 3, 1) := by decide +kernel
theorem dL_law_170 : decode cL_law 170 = .ok (.iconst 3, 1) := by decide +kernel
theorem dL_law_171 : decode cL_law 171 = .ok (.iadd, 1) := by decide +kernel
theorem dL_law_172 : decode cL_law 172 = .ok (.iaload, 1) := by decide +kernel
theorem dL_law_173 : decode cL_law 173 = .ok (.aload_n 0, 1) := by decide +kernel
theorem dL_law_174 : decode cL_law 174 = .ok (.iload_n 3, 1) := by decide +kernel
theorem dL_law_175 : decode cL_law 175 = .ok (.iconst 4, 1) := by decide +kernel
theorem dL_law_176 : decode cL_law 176 = .ok (.iadd, 1) := by decide +kernel
theorem dL_law_177 : decode cL_law 177 = .ok (.iaload, 1) := by decide +kernel
theorem dL_law_178 : decode cL_law 178 = .ok (.aload_n 0, 1) := by decide +kernel
theorem dL_law_179 : decode cL_law 179 = .ok (.iload_n 3, 1) := by decide +kernel
theorem dL_law_180 : decode cL_law 180 = .ok (.iconst 5, 1) := by decide +kernel
theorem dL_law_181 : decode cL_law 181 = .ok (.iadd, 1) := by decide +kernel
theorem dL_law_182 : decode cL_law 182 = .ok (.iaload, 1) := by decide +kernel
theorem dL_law_183 : decode cL_law 183 = .ok (.invokevirtual 17, 3) := by decide +kernel
theorem dL_law_186 : decode cL_law 186 = .ok (.if_icmp .eq 562, 3) := by decide +kernel
theorem dL_law_189 : decode cL_law 189 = .ok (.iconst 0, 1) := by decide +kernel
theorem dL_law_190 : decode cL_law 190 = .ok (.ireturn, 1) := by decide +kernel
theorem dL_law_191 : decode cL_law 191 = .ok (.aload_n 1, 1) := by decide +kernel
theorem dL_law_192 : decode cL_law 192 = .ok (.aload_n 0, 1) := by decide +kernel
theorem dL_law_193 : decode cL_law 193 = .ok (.iload_n 3, 1) := by decide +kernel
theorem dL_law_194 : decode cL_law 194 = .ok (.iconst 1, 1) := by decide +kernel
theorem dL_law_195 : decode cL_law 195 = .ok (.iadd, 1) := by decide +kernel
theorem dL_law_196 : decode cL_law 196 = .ok (.iaload, 1) := by decide +kernel
theorem dL_law_197 : decode cL_law 197 = .ok (.invokevirtual 18, 3) := by decide +kernel
theorem dL_law_200 : decode cL_law 200 = .ok (.aload_n 2, 1) := by decide +kernel
theorem dL_law_201 : decode cL_law 201 = .ok (.aload_n 0, 1) := by decide +kernel
theorem dL_law_202 : decode cL_law 202 = .ok (.iload_n 3, 1) := by decide +kernel
theorem dL_law_203 : decode cL_law 203 = .ok (.iconst 1, 1) := by decide +kernel
theorem dL_law_204 : decode cL_law 204 = .ok (.iadd, 1) := by decide +kernel
theorem dL_law_205 : decode cL_law 205 = .ok (.iaload, 1) := by decide +kernel
theorem dL_law_206 : decode cL_law 206 = .ok (.invokevirtual 22, 3) := by decide +kernel
theorem dL_law_209 : decode cL_law 209 = .ok (.if_icmp .eq 539, 3) := by decide +kernel
theorem dL_law_212 : decode cL_law 212 = .ok (.iconst 0, 1) := by decide +kernel
theorem dL_law_213 : decode cL_law 213 = .ok (.ireturn, 1) := by decide +kernel
theorem dL_law_214 : decode cL_law 214 = .ok (.aload_n 1, 1) := by decide +kernel
theorem dL_law_215 : decode cL_law 215 = .ok (.invokevirtual 23, 3) := by decide +kernel
theorem dL_law_218 : decode cL_law 218 = .ok (.aload_n 2, 1) := by decide +kernel
theorem dL_law_219 : decode cL_law 219 = .ok (.invokevirtual 27, 3) := by decide +kernel
theorem dL_law_222 : decode cL_law 222 = .ok (.if_icmp .eq 526, 3) := by decide +kernel
theorem dL_law_225 : decode cL_law 225 = .ok (.iconst 0, 1) := by decide +kernel
theorem dL_law_226 : decode cL_law 226 = .ok (.ireturn, 1) := by decide +kernel
theorem dL_law_227 : decode cL_law 227 = .ok (.aload_n 1, 1) := by decide +kernel
theorem dL_law_228 : decode cL_law 228 = .ok (.invokevirtual 28, 3) := by decide +kernel
theorem dL_law_231 : decode cL_law 231 = .ok (.aload_n 2, 1) := by decide +kernel
theorem dL_law_232 : decode cL_law 232 = .ok (.invokevirtual 31, 3) := by decide +kernel
theorem dL_law_235 : decode cL_law 235 = .ok (.if_icmp .eq 513, 3) := by decide +kernel
theorem dL_law_238 : decode cL_law 238 = .ok (.iconst 0, 1) := by decide +kernel
theorem dL_law_239 : decode cL_law 239 = .ok (.ireturn, 1) := by decide +kernel
theorem dL_law_240 : decode cL_law 240 = .ok (.aload_n 1, 1) := by decide +kernel
theorem dL_law_241 : decode cL_law 241 = .ok (.invokevirtual 32, 3) := by decide +kernel
theorem dL_law_244 : decode cL_law 244 = .ok (.aload_n 2, 1) := by decide +kernel
theorem dL_law_245 : decode cL_law 245 = .ok (.invokevirtual 35, 3) := by decide +kernel
theorem dL_law_248 : decode cL_law 248 = .ok (.if_icmp .eq 500, 3) := by decide +kernel
theorem dL_law_251 : decode cL_law 251 = .ok (.iconst 0, 1) := by decide +kernel
theorem dL_law_252 : decode cL_law 252 = .ok (.ireturn, 1) := by decide +kernel
theorem dL_law_253 : decode cL_law 253 = .ok (.aload_n 1, 1) := by decide +kernel
theorem dL_law_254 : decode cL_law 254 = .ok (.aload_n 0, 1) := by decide +kernel
theorem dL_law_255 : decode cL_law 255 = .ok (.iload_n 3, 1) := by decide +kernel
theorem dL_law_256 : decode cL_law 256 = .ok (.iconst 1, 1) := by decide +kernel
theorem dL_law_257 : decode cL_law 257 = .ok (.iadd, 1) := by decide +kernel
theorem dL_law_258 : decode cL_law 258 = .ok (.iaload, 1) := by decide +kernel
theorem dL_law_259 : decode cL_law 259 = .ok (.invokevirtual 36, 3) := by decide +kernel
theorem dL_law_262 : decode cL_law 262 = .ok (.aload_n 2, 1) := by decide +kernel
theorem dL_law_263 : decode cL_law 263 = .ok (.aload_n 0, 1) := by decide +kernel
theorem dL_law_264 : decode cL_law 264 = .ok (.iload_n 3, 1) := by decide +kernel
theorem dL_law_265 : decode cL_law 265 = .ok (.iconst 1, 1) := by decide +kernel
theorem dL_law_266 : decode cL_law 266 = .ok (.iadd, 1) := by decide +kernel
theorem dL_law_267 : decode cL_law 267 = .ok (.iaload, 1) := by decide +kernel
theorem dL_law_268 : decode cL_law 268 = .ok (.invokevirtual 39, 3) := by decide +kernel
theorem dL_law_271 : decode cL_law 271 = .ok (.if_icmp .eq 477, 3) := by decide +kernel
theorem dL_law_274 : decode cL_law 274 = .ok (.iconst 0, 1) := by decide +kernel
theorem dL_law_275 : decode cL_law 275 = .ok (.ireturn, 1) := by decide +kernel
theorem dL_law_276 : decode cL_law 276 = .ok (.aload_n 1, 1) := by decide +kernel
theorem dL_law_277 : decode cL_law 277 = .ok (.aload_n 0, 1) := by decide +kernel
theorem dL_law_278 : decode cL_law 278 = .ok (.iload_n 3, 1) := by decide +kernel
theorem dL_law_279 : decode cL_law 279 = .ok (.iconst 1, 1) := by decide +kernel
theorem dL_law_280 : decode cL_law 280 = .ok (.iadd, 1) := by decide +kernel
theorem dL_law_281 : decode cL_law 281 = .ok (.iaload, 1) := by decide +kernel
theorem dL_law_282 : decode cL_law 282 = .ok (.invokevirtual 40, 3) := by decide +kernel
theorem dL_law_285 : decode cL_law 285 = .ok (.aload_n 2, 1) := by decide +kernel
theorem dL_law_286 : decode cL_law 286 = .ok (.aload_n 0, 1) := by decide +kernel
theorem dL_law_287 : decode cL_law 287 = .ok (.iload_n 3, 1) := by decide +kernel
theorem dL_law_288 : decode cL_law 288 = .ok (.iconst 1, 1) := by decide +kernel
theorem dL_law_289 : decode cL_law 289 = .ok (.iadd, 1) := by decide +kernel
theorem dL_law_290 : decode cL_law 290 = .ok (.iaload, 1) := by decide +kernel
theorem dL_law_291 : decode cL_law 291 = .ok (.invokevirtual 43, 3) := by decide +kernel
theorem dL_law_294 : decode cL_law 294 = .ok (.if_icmp .eq 454, 3) := by decide +kernel
theorem dL_law_297 : decode cL_law 297 = .ok (.iconst 0, 1) := by decide +kernel
theorem dL_law_298 : decode cL_law 298 = .ok (.ireturn, 1) := by decide +kernel
theorem dL_law_299 : decode cL_law 299 = .ok (.aload_n 1, 1) := by decide +kernel
theorem dL_law_300 : decode cL_law 300 = .ok (.aload_n 0, 1) := by decide +kernel
theorem dL_law_301 : decode cL_law 301 = .ok (.iload_n 3, 1) := by decide +kernel
theorem dL_law_302 : decode cL_law 302 = .ok (.iconst 1, 1) := by decide +kernel
theorem dL_law_303 : decode cL_law 303 = .ok (.iadd, 1) := by decide +kernel
theorem dL_law_304 : decode cL_law 304 = .ok (.iaload, 1) := by decide +kernel
theorem dL_law_305 : decode cL_law 305 = .ok (.aload_n 0, 1) := by decide +kernel
theorem dL_law_306 : decode cL_law 306 = .ok (.iload_n 3, 1) := by decide +kernel
theorem dL_law_307 : decode cL_law 307 = .ok (.iconst 2, 1) := by decide +kernel
theorem dL_law_308 : decode cL_law 308 = .ok (.iadd, 1) := by decide +kernel
theorem dL_law_309 : decode cL_law 309 = .ok (.iaload, 1) := by decide +kernel
theorem dL_law_310 : decode cL_law 310 = .ok (.invokevirtual 44, 3) := by decide +kernel
theorem dL_law_313 : decode cL_law 313 = .ok (.aload_n 2, 1) := by decide +kernel
theorem dL_law_314 : decode cL_law 314 = .ok (.aload_n 0, 1) := by decide +kernel
theorem dL_law_315 : decode cL_law 315 = .ok (.iload_n 3, 1) := by decide +kernel
theorem dL_law_316 : decode cL_law 316 = .ok (.iconst 1, 1) := by decide +kernel
theorem dL_law_317 : decode cL_law 317 = .ok (.iadd, 1) := by decide +kernel
theorem dL_law_318 : decode cL_law 318 = .ok (.iaload, 1) := by decide +kernel
theorem dL_law_319 : decode cL_law 319 = .ok (.aload_n 0, 1) := by decide +kernel
theorem dL_law_320 : decode cL_law 320 = .ok (.iload_n 3, 1) := by decide +kernel
theorem dL_law_321 : decode cL_law 321 = .ok (.iconst 2, 1) := by decide +kernel
theorem dL_law_322 : decode cL_law 322 = .ok (.iadd, 1) := by decide +kernel
theorem dL_law_323 : decode cL_law 323 = .ok (.iaload, 1) := by decide +kernel
theorem dL_law_324 : decode cL_law 324 = .ok (.invokevirtual 48, 3) := by decide +kernel
theorem dL_law_327 : decode cL_law 327 = .ok (.if_icmp .eq 421, 3) := by decide +kernel
theorem dL_law_330 : decode cL_law 330 = .ok (.iconst 0, 1) := by decide +kernel
theorem dL_law_331 : decode cL_law 331 = .ok (.ireturn, 1) := by decide +kernel
theorem dL_law_332 : decode cL_law 332 = .ok (.aload_n 1, 1) := by decide +kernel
theorem dL_law_333 : decode cL_law 333 = .ok (.aload_n 0, 1) := by decide +kernel
theorem dL_law_334 : decode cL_law 334 = .ok (.iload_n 3, 1) := by decide +kernel
theorem dL_law_335 : decode cL_law 335 = .ok (.iconst 1, 1) := by decide +kernel
theorem dL_law_336 : decode cL_law 336 = .ok (.iadd, 1) := by decide +kernel
theorem dL_law_337 : decode cL_law 337 = .ok (.iaload, 1) := by decide +kernel
theorem dL_law_338 : decode cL_law 338 = .ok (.aload_n 0, 1) := by decide +kernel
theorem dL_law_339 : decode cL_law 339 = .ok (.iload_n 3, 1) := by decide +kernel
theorem dL_law_340 : decode cL_law 340 = .ok (.iconst 2, 1) := by decide +kernel
theorem dL_law_341 : decode cL_law 341 = .ok (.iadd, 1) := by decide +kernel
theorem dL_law_342 : decode cL_law 342 = .ok (.iaload, 1) := by decide +kernel
theorem dL_law_343 : decode cL_law 343 = .ok (.invokevirtual 49, 3) := by decide +kernel
theorem dL_law_346 : decode cL_law 346 = .ok (.aload_n 2, 1) := by decide +kernel
theorem dL_law_347 : decode cL_law 347 = .ok (.aload_n 0, 1) := by decide +kernel
theorem dL_law_348 : decode cL_law 348 = .ok (.iload_n 3, 1) := by decide +kernel
theorem dL_law_349 : decode cL_law 349 = .ok (.iconst 1, 1) := by decide +kernel
theorem dL_law_350 : decode cL_law 350 = .ok (.iadd, 1) := by decide +kernel
theorem dL_law_351 : decode cL_law 351 = .ok (.iaload, 1) := by decide +kernel
theorem dL_law_352 : decode cL_law 352 = .ok (.aload_n 0, 1) := by decide +kernel
theorem dL_law_353 : decode cL_law 353 = .ok (.iload_n 3, 1) := by decide +kernel
theorem dL_law_354 : decode cL_law 354 = .ok (.iconst 2, 1) := by decide +kernel
theorem dL_law_355 : decode cL_law 355 = .ok (.iadd, 1) := by decide +kernel
theorem dL_law_356 : decode cL_law 356 = .ok (.iaload, 1) := by decide +kernel
theorem dL_law_357 : decode cL_law 357 = .ok (.invokevirtual 52, 3) := by decide +kernel
theorem dL_law_360 : decode cL_law 360 = .ok (.if_icmp .eq 388, 3) := by decide +kernel
theorem dL_law_363 : decode cL_law 363 = .ok (.iconst 0, 1) := by decide +kernel
theorem dL_law_364 : decode cL_law 364 = .ok (.ireturn, 1) := by decide +kernel
theorem dL_law_365 : decode cL_law 365 = .ok (.aload_n 1, 1) := by decide +kernel
theorem dL_law_366 : decode cL_law 366 = .ok (.aload_n 0, 1) := by decide +kernel
theorem dL_law_367 : decode cL_law 367 = .ok (.iload_n 3, 1) := by decide +kernel
theorem dL_law_368 : decode cL_law 368 = .ok (.iconst 1, 1) := by decide +kernel
theorem dL_law_369 : decode cL_law 369 = .ok (.iadd, 1) := by decide +kernel
theorem dL_law_370 : decode cL_law 370 = .ok (.iaload, 1) := by decide +kernel
theorem dL_law_371 : decode cL_law 371 = .ok (.aload_n 0, 1) := by decide +kernel
theorem dL_law_372 : decode cL_law 372 = .ok (.iload_n 3, 1) := by decide +kernel
theorem dL_law_373 : decode cL_law 373 = .ok (.iconst 2, 1) := by decide +kernel
theorem dL_law_374 : decode cL_law 374 = .ok (.iadd, 1) := by decide +kernel
theorem dL_law_375 : decode cL_law 375 = .ok (.iaload, 1) := by decide +kernel
theorem dL_law_376 : decode cL_law 376 = .ok (.invokevirtual 53, 3) := by decide +kernel
theorem dL_law_379 : decode cL_law 379 = .ok (.aload_n 2, 1) := by decide +kernel
theorem dL_law_380 : decode cL_law 380 = .ok (.aload_n 0, 1) := by decide +kernel
theorem dL_law_381 : decode cL_law 381 = .ok (.iload_n 3, 1) := by decide +kernel
theorem dL_law_382 : decode cL_law 382 = .ok (.iconst 1, 1) := by decide +kernel
theorem dL_law_383 : decode cL_law 383 = .ok (.iadd, 1) := by decide +kernel
theorem dL_law_384 : decode cL_law 384 = .ok (.iaload, 1) := by decide +kernel
theorem dL_law_385 : decode cL_law 385 = .ok (.aload_n 0, 1) := by decide +kernel
theorem dL_law_386 : decode cL_law 386 = .ok (.iload_n 3, 1) := by decide +kernel
theorem dL_law_387 : decode cL_law 387 = .ok (.iconst 2, 1) := by decide +kernel
theorem dL_law_388 : decode cL_law 388 = .ok (.iadd, 1) := by decide +kernel
theorem dL_law_389 : decode cL_law 389 = .ok (.iaload, 1) := by decide +kernel
theorem dL_law_390 : decode cL_law 390 = .ok (.invokevirtual 56, 3) := by decide +kernel
theorem dL_law_393 : decode cL_law 393 = .ok (.if_icmp .eq 355, 3) := by decide +kernel
theorem dL_law_396 : decode cL_law 396 = .ok (.iconst 0, 1) := by decide +kernel
theorem dL_law_397 : decode cL_law 397 = .ok (.ireturn, 1) := by decide +kernel
theorem dL_law_398 : decode cL_law 398 = .ok (.aload_n 1, 1) := by decide +kernel
theorem dL_law_399 : decode cL_law 399 = .ok (.aload_n 0, 1) := by decide +kernel
theorem dL_law_400 : decode cL_law 400 = .ok (.iload_n 3, 1) := by decide +kernel
theorem dL_law_401 : decode cL_law 401 = .ok (.iconst 1, 1) := by decide +kernel
theorem dL_law_402 : decode cL_law 402 = .ok (.iadd, 1) := by decide +kernel
theorem dL_law_403 : decode cL_law 403 = .ok (.iaload, 1) := by decide +kernel
theorem dL_law_404 : decode cL_law 404 = .ok (.aload_n 0, 1) := by decide +kernel
theorem dL_law_405 : decode cL_law 405 = .ok (.iload_n 3, 1) := by decide +kernel
theorem dL_law_406 : decode cL_law 406 = .ok (.iconst 2, 1) := by decide +kernel
theorem dL_law_407 : decode cL_law 407 = .ok (.iadd, 1) := by decide +kernel
theorem dL_law_408 : decode cL_law 408 = .ok (.iaload, 1) := by decide +kernel
theorem dL_law_409 : decode cL_law 409 = .ok (.invokevirtual 57, 3) := by decide +kernel
theorem dL_law_412 : decode cL_law 412 = .ok (.aload_n 2, 1) := by decide +kernel
theorem dL_law_413 : decode cL_law 413 = .ok (.aload_n 0, 1) := by decide +kernel
theorem dL_law_414 : decode cL_law 414 = .ok (.iload_n 3, 1) := by decide +kernel
theorem dL_law_415 : decode cL_law 415 = .ok (.iconst 1, 1) := by decide +kernel
theorem dL_law_416 : decode cL_law 416 = .ok (.iadd, 1) := by decide +kernel
theorem dL_law_417 : decode cL_law 417 = .ok (.iaload, 1) := by decide +kernel
theorem dL_law_418 : decode cL_law 418 = .ok (.aload_n 0, 1) := by decide +kernel
theorem dL_law_419 : decode cL_law 419 = .ok (.iload_n 3, 1) := by decide +kernel
theorem dL_law_420 : decode cL_law 420 = .ok (.iconst 2, 1) := by decide +kernel
theorem dL_law_421 : decode cL_law 421 = .ok (.iadd, 1) := by decide +kernel
theorem dL_law_422 : decode cL_law 422 = .ok (.iaload, 1) := by decide +kernel
theorem dL_law_423 : decode cL_law 423 = .ok (.invokevirtual 60, 3) := by decide +kernel
theorem dL_law_426 : decode cL_law 426 = .ok (.if_icmp .eq 322, 3) := by decide +kernel
theorem dL_law_429 : decode cL_law 429 = .ok (.iconst 0, 1) := by decide +kernel
theorem dL_law_430 : decode cL_law 430 = .ok (.ireturn, 1) := by decide +kernel
theorem dL_law_431 : decode cL_law 431 = .ok (.aload_n 1, 1) := by decide +kernel
theorem dL_law_432 : decode cL_law 432 = .ok (.aload_n 0, 1) := by decide +kernel
theorem dL_law_433 : decode cL_law 433 = .ok (.iload_n 3, 1) := by decide +kernel
theorem dL_law_434 : decode cL_law 434 = .ok (.iconst 1, 1) := by decide +kernel
theorem dL_law_435 : decode cL_law 435 = .ok (.iadd, 1) := by decide +kernel
theorem dL_law_436 : decode cL_law 436 = .ok (.iaload, 1) := by decide +kernel
theorem dL_law_437 : decode cL_law 437 = .ok (.aload_n 0, 1) := by decide +kernel
theorem dL_law_438 : decode cL_law 438 = .ok (.iload_n 3, 1) := by decide +kernel
theorem dL_law_439 : decode cL_law 439 = .ok (.iconst 2, 1) := by decide +kernel
theorem dL_law_440 : decode cL_law 440 = .ok (.iadd, 1) := by decide +kernel
theorem dL_law_441 : decode cL_law 441 = .ok (.iaload, 1) := by decide +kernel
theorem dL_law_442 : decode cL_law 442 = .ok (.invokevirtual 61, 3) := by decide +kernel
theorem dL_law_445 : decode cL_law 445 = .ok (.aload_n 2, 1) := by decide +kernel
theorem dL_law_446 : decode cL_law 446 = .ok (.aload_n 0, 1) := by decide +kernel
theorem dL_law_447 : decode cL_law 447 = .ok (.iload_n 3, 1) := by decide +kernel
theorem dL_law_448 : decode cL_law 448 = .ok (.iconst 1, 1) := by decide +kernel
theorem dL_law_449 : decode cL_law 449 = .ok (.iadd, 1) := by decide +kernel
theorem dL_law_450 : decode cL_law 450 = .ok (.iaload, 1) := by decide +kernel
theorem dL_law_451 : decode cL_law 451 = .ok (.aload_n 0, 1) := by decide +kernel
theorem dL_law_452 : decode cL_law 452 = .ok (.iload_n 3, 1) := by decide +kernel
theorem dL_law_453 : decode cL_law 453 = .ok (.iconst 2, 1) := by decide +kernel
theorem dL_law_454 : decode cL_law 454 = .ok (.iadd, 1) := by decide +kernel
theorem dL_law_455 : decode cL_law 455 = .ok (.iaload, 1) := by decide +kernel
theorem dL_law_456 : decode cL_law 456 = .ok (.invokevirtual 64, 3) := by decide +kernel
theorem dL_law_459 : decode cL_law 459 = .ok (.if_icmp .eq 289, 3) := by decide +kernel
theorem dL_law_462 : decode cL_law 462 = .ok (.iconst 0, 1) := by decide +kernel
theorem dL_law_463 : decode cL_law 463 = .ok (.ireturn, 1) := by decide +kernel
theorem dL_law_464 : decode cL_law 464 = .ok (.aload_n 1, 1) := by decide +kernel
theorem dL_law_465 : decode cL_law 465 = .ok (.aload_n 0, 1) := by decide +kernel
theorem dL_law_466 : decode cL_law 466 = .ok (.iload_n 3, 1) := by decide +kernel
theorem dL_law_467 : decode cL_law 467 = .ok (.iconst 1, 1) := by decide +kernel
theorem dL_law_468 : decode cL_law 468 = .ok (.iadd, 1) := by decide +kernel
theorem dL_law_469 : decode cL_law 469 = .ok (.iaload, 1) := by decide +kernel
theorem dL_law_470 : decode cL_law 470 = .ok (.aload_n 0, 1) := by decide +kernel
theorem dL_law_471 : decode cL_law 471 = .ok (.iload_n 3, 1) := by decide +kernel
theorem dL_law_472 : decode cL_law 472 = .ok (.iconst 2, 1) := by decide +kernel
theorem dL_law_473 : decode cL_law 473 = .ok (.iadd, 1) := by decide +kernel
theorem dL_law_474 : decode cL_law 474 = .ok (.iaload, 1) := by decide +kernel
theorem dL_law_475 : decode cL_law 475 = .ok (.invokevirtual 65, 3) := by decide +kernel
theorem dL_law_478 : decode cL_law 478 = .ok (.aload_n 2, 1) := by decide +kernel
theorem dL_law_479 : decode cL_law 479 = .ok (.aload_n 0, 1) := by decide +kernel
theorem dL_law_480 : decode cL_law 480 = .ok (.iload_n 3, 1) := by decide +kernel
theorem dL_law_481 : decode cL_law 481 = .ok (.iconst 1, 1) := by decide +kernel
theorem dL_law_482 : decode cL_law 482 = .ok (.iadd, 1) := by decide +kernel
theorem dL_law_483 : decode cL_law 483 = .ok (.iaload, 1) := by decide +kernel
theorem dL_law_484 : decode cL_law 484 = .ok (.aload_n 0, 1) := by decide +kernel
theorem dL_law_485 : decode cL_law 485 = .ok (.iload_n 3, 1) := by decide +kernel
theorem dL_law_486 : decode cL_law 486 = .ok (.iconst 2, 1) := by decide +kernel
theorem dL_law_487 : decode cL_law 487 = .ok (.iadd, 1) := by decide +kernel
theorem dL_law_488 : decode cL_law 488 = .ok (.iaload, 1) := by decide +kernel
theorem dL_law_489 : decode cL_law 489 = .ok (.invokevirtual 68, 3) := by decide +kernel
theorem dL_law_492 : decode cL_law 492 = .ok (.if_icmp .eq 256, 3) := by decide +kernel
theorem dL_law_495 : decode cL_law 495 = .ok (.iconst 0, 1) := by decide +kernel
theorem dL_law_496 : decode cL_law 496 = .ok (.ireturn, 1) := by decide +kernel
theorem dL_law_497 : decode cL_law 497 = .ok (.aload_n 1, 1) := by decide +kernel
theorem dL_law_498 : decode cL_law 498 = .ok (.aload_n 0, 1) := by decide +kernel
theorem dL_law_499 : decode cL_law 499 = .ok (.iload_n 3, 1) := by decide +kernel
theorem dL_law_500 : decode cL_law 500 = .ok (.iconst 1, 1) := by decide +kernel
theorem dL_law_501 : decode cL_law 501 = .ok (.iadd, 1) := by decide +kernel
theorem dL_law_502 : decode cL_law 502 = .ok (.iaload, 1) := by decide +kernel
theorem dL_law_503 : decode cL_law 503 = .ok (.aload_n 0, 1) := by decide +kernel
theorem dL_law_504 : decode cL_law 504 = .ok (.iload_n 3, 1) := by decide +kernel
theorem dL_law_505 : decode cL_law 505 = .ok (.iconst 2, 1) := by decide +kernel
theorem dL_law_506 : decode cL_law 506 = .ok (.iadd, 1) := by decide +kernel
theorem dL_law_507 : decode cL_law 507 = .ok (.iaload, 1) := by decide +kernel
theorem dL_law_508 : decode cL_law 508 = .ok (.aload_n 0, 1) := by decide +kernel
theorem dL_law_509 : decode cL_law 509 = .ok (.iload_n 3, 1) := by decide +kernel
theorem dL_law_510 : decode cL_law 510 = .ok (.iconst 3, 1) := by decide +kernel
theorem dL_law_511 : decode cL_law 511 = .ok (.iadd, 1) := by decide +kernel
theorem dL_law_512 : decode cL_law 512 = .ok (.iaload, 1) := by decide +kernel
theorem dL_law_513 : decode cL_law 513 = .ok (.invokevirtual 69, 3) := by decide +kernel
theorem dL_law_516 : decode cL_law 516 = .ok (.aload_n 2, 1) := by decide +kernel
theorem dL_law_517 : decode cL_law 517 = .ok (.aload_n 0, 1) := by decide +kernel
theorem dL_law_518 : decode cL_law 518 = .ok (.iload_n 3, 1) := by decide +kernel
theorem dL_law_519 : decode cL_law 519 = .ok (.iconst 1, 1) := by decide +kernel
theorem dL_law_520 : decode cL_law 520 = .ok (.iadd, 1) := by decide +kernel
theorem dL_law_521 : decode cL_law 521 = .ok (.iaload, 1) := by decide +kernel
theorem dL_law_522 : decode cL_law 522 = .ok (.aload_n 0, 1) := by decide +kernel
theorem dL_law_523 : decode cL_law 523 = .ok (.iload_n 3, 1) := by decide +kernel
theorem dL_law_524 : decode cL_law 524 = .ok (.iconst 2, 1) := by decide +kernel
theorem dL_law_525 : decode cL_law 525 = .ok (.iadd, 1) := by decide +kernel
theorem dL_law_526 : decode cL_law 526 = .ok (.iaload, 1) := by decide +kernel
theorem dL_law_527 : decode cL_law 527 = .ok (.aload_n 0, 1) := by decide +kernel
theorem dL_law_528 : decode cL_law 528 = .ok (.iload_n 3, 1) := by decide +kernel
theorem dL_law_529 : decode cL_law 529 = .ok (.iconst 3, 1) := by decide +kernel
theorem dL_law_530 : decode cL_law 530 = .ok (.iadd, 1) := by decide +kernel
theorem dL_law_531 : decode cL_law 531 = .ok (.iaload, 1) := by decide +kernel
theorem dL_law_532 : decode cL_law 532 = .ok (.invokevirtual 73, 3) := by decide +kernel
theorem dL_law_535 : decode cL_law 535 = .ok (.if_icmp .eq 213, 3) := by decide +kernel
theorem dL_law_538 : decode cL_law 538 = .ok (.iconst 0, 1) := by decide +kernel
theorem dL_law_539 : decode cL_law 539 = .ok (.ireturn, 1) := by decide +kernel
theorem dL_law_540 : decode cL_law 540 = .ok (.aload_n 1, 1) := by decide +kernel
theorem dL_law_541 : decode cL_law 541 = .ok (.aload_n 0, 1) := by decide +kernel
theorem dL_law_542 : decode cL_law 542 = .ok (.iload_n 3, 1) := by decide +kernel
theorem dL_law_543 : decode cL_law 543 = .ok (.iconst 1, 1) := by decide +kernel
theorem dL_law_544 : decode cL_law 544 = .ok (.iadd, 1) := by decide +kernel
theorem dL_law_545 : decode cL_law 545 = .ok (.iaload, 1) := by decide +kernel
theorem dL_law_546 : decode cL_law 546 = .ok (.aload_n 0, 1) := by decide +kernel
theorem dL_law_547 : decode cL_law 547 = .ok (.iload_n 3, 1) := by decide +kernel
theorem dL_law_548 : decode cL_law 548 = .ok (.iconst 2, 1) := by decide +kernel
theorem dL_law_549 : decode cL_law 549 = .ok (.iadd, 1) := by decide +kernel
theorem dL_law_550 : decode cL_law 550 = .ok (.iaload, 1) := by decide +kernel
theorem dL_law_551 : decode cL_law 551 = .ok (.aload_n 0, 1) := by decide +kernel
theorem dL_law_552 : decode cL_law 552 = .ok (.iload_n 3, 1) := by decide +kernel
theorem dL_law_553 : decode cL_law 553 = .ok (.iconst 3, 1) := by decide +kernel
theorem dL_law_554 : decode cL_law 554 = .ok (.iadd, 1) := by decide +kernel
theorem dL_law_555 : decode cL_law 555 = .ok (.iaload, 1) := by decide +kernel
theorem dL_law_556 : decode cL_law 556 = .ok (.invokevirtual 74, 3) := by decide +kernel
theorem dL_law_559 : decode cL_law 559 = .ok (.aload_n 2, 1) := by decide +kernel
theorem dL_law_560 : decode cL_law 560 = .ok (.aload_n 0, 1) := by decide +kernel
theorem dL_law_561 : decode cL_law 561 = .ok (.iload_n 3, 1) := by decide +kernel
theorem dL_law_562 : decode cL_law 562 = .ok (.iconst 1, 1) := by decide +kernel
theorem dL_law_563 : decode cL_law 563 = .ok (.iadd, 1) := by decide +kernel
theorem dL_law_564 : decode cL_law 564 = .ok (.iaload, 1) := by decide +kernel
theorem dL_law_565 : decode cL_law 565 = .ok (.aload_n 0, 1) := by decide +kernel
theorem dL_law_566 : decode cL_law 566 = .ok (.iload_n 3, 1) := by decide +kernel
theorem dL_law_567 : decode cL_law 567 = .ok (.iconst 2, 1) := by decide +kernel
theorem dL_law_568 : decode cL_law 568 = .ok (.iadd, 1) := by decide +kernel
theorem dL_law_569 : decode cL_law 569 = .ok (.iaload, 1) := by decide +kernel
theorem dL_law_570 : decode cL_law 570 = .ok (.aload_n 0, 1) := by decide +kernel
theorem dL_law_571 : decode cL_law 571 = .ok (.iload_n 3, 1) := by decide +kernel
theorem dL_law_572 : decode cL_law 572 = .ok (.iconst 3, 1) := by decide +kernel
theorem dL_law_573 : decode cL_law 573 = .ok (.iadd, 1) := by decide +kernel
theorem dL_law_574 : decode cL_law 574 = .ok (.iaload, 1) := by decide +kernel
theorem dL_law_575 : decode cL_law 575 = .ok (.invokevirtual 77, 3) := by decide +kernel
theorem dL_law_578 : decode cL_law 578 = .ok (.if_icmp .eq 170, 3) := by decide +kernel
theorem dL_law_581 : decode cL_law 581 = .ok (.iconst 0, 1) := by decide +kernel
theorem dL_law_582 : decode cL_law 582 = .ok (.ireturn, 1) := by decide +kernel
theorem dL_law_583 : decode cL_law 583 = .ok (.aload_n 1, 1) := by decide +kernel
theorem dL_law_584 : decode cL_law 584 = .ok (.aload_n 0, 1) := by decide +kernel
theorem dL_law_585 : decode cL_law 585 = .ok (.iload_n 3, 1) := by decide +kernel
theorem dL_law_586 : decode cL_law 586 = .ok (.iconst 1, 1) := by decide +kernel
theorem dL_law_587 : decode cL_law 587 = .ok (.iadd, 1) := by decide +kernel
theorem dL_law_588 : decode cL_law 588 = .ok (.iaload, 1) := by decide +kernel
theorem dL_law_589 : decode cL_law 589 = .ok (.aload_n 0, 1) := by decide +kernel
theorem dL_law_590 : decode cL_law 590 = .ok (.iload_n 3, 1) := by decide +kernel
theorem dL_law_591 : decode cL_law 591 = .ok (.iconst 2, 1) := by decide +kernel
theorem dL_law_592 : decode cL_law 592 = .ok (.iadd, 1) := by decide +kernel
theorem dL_law_593 : decode cL_law 593 = .ok (.iaload, 1) := by decide +kernel
theorem dL_law_594 : decode cL_law 594 = .ok (.aload_n 0, 1) := by decide +kernel
theorem dL_law_595 : decode cL_law 595 = .ok (.iload_n 3, 1) := by decide +kernel
theorem dL_law_596 : decode cL_law 596 = .ok (.iconst 3, 1) := by decide +kernel
theorem dL_law_597 : decode cL_law 597 = .ok (.iadd, 1) := by decide +kernel
theorem dL_law_598 : decode cL_law 598 = .ok (.iaload, 1) := by decide +kernel
theorem dL_law_599 : decode cL_law 599 = .ok (.invokevirtual 78, 3) := by decide +kernel
theorem dL_law_602 : decode cL_law 602 = .ok (.aload_n 2, 1) := by decide +kernel
theorem dL_law_603 : decode cL_law 603 = .ok (.aload_n 0, 1) := by decide +kernel
theorem dL_law_604 : decode cL_law 604 = .ok (.iload_n 3, 1) := by decide +kernel
theorem dL_law_605 : decode cL_law 605 = .ok (.iconst 1, 1) := by decide +kernel
theorem dL_law_606 : decode cL_law 606 = .ok (.iadd, 1) := by decide +kernel
theorem dL_law_607 : decode cL_law 607 = .ok (.iaload, 1) := by decide +kernel
theorem dL_law_608 : decode cL_law 608 = .ok (.aload_n 0, 1) := by decide +kernel
theorem dL_law_609 : decode cL_law 609 = .ok (.iload_n 3, 1) := by decide +kernel
theorem dL_law_610 : decode cL_law 610 = .ok (.iconst 2, 1) := by decide +kernel
theorem dL_law_611 : decode cL_law 611 = .ok (.iadd, 1) := by decide +kernel
theorem dL_law_612 : decode cL_law 612 = .ok (.iaload, 1) := by decide +kernel
theorem dL_law_613 : decode cL_law 613 = .ok (.aload_n 0, 1) := by decide +kernel
theorem dL_law_614 : decode cL_law 614 = .ok (.iload_n 3, 1) := by decide +kernel
theorem dL_law_615 : decode cL_law 615 = .ok (.iconst 3, 1) := by decide +kernel
theorem dL_law_616 : decode cL_law 616 = .ok (.iadd, 1) := by decide +kernel
theorem dL_law_617 : decode cL_law 617 = .ok (.iaload, 1) := by decide +kernel
theorem dL_law_618 : decode cL_law 618 = .ok (.invokevirtual 81, 3) := by decide +kernel
theorem dL_law_621 : decode cL_law 621 = .ok (.if_icmp .eq 127, 3) := by decide +kernel
theorem dL_law_624 : decode cL_law 624 = .ok (.iconst 0, 1) := by decide +kernel
theorem dL_law_625 : decode cL_law 625 = .ok (.ireturn, 1) := by decide +kernel
theorem dL_law_626 : decode cL_law 626 = .ok (.aload_n 1, 1) := by decide +kernel
theorem dL_law_627 : decode cL_law 627 = .ok (.aload_n 0, 1) := by decide +kernel
theorem dL_law_628 : decode cL_law 628 = .ok (.iload_n 3, 1) := by decide +kernel
theorem dL_law_629 : decode cL_law 629 = .ok (.iconst 1, 1) := by decide +kernel
theorem dL_law_630 : decode cL_law 630 = .ok (.iadd, 1) := by decide +kernel
theorem dL_law_631 : decode cL_law 631 = .ok (.iaload, 1) := by decide +kernel
theorem dL_law_632 : decode cL_law 632 = .ok (.invokevirtual 82, 3) := by decide +kernel
theorem dL_law_635 : decode cL_law 635 = .ok (.aload_n 2, 1) := by decide +kernel
theorem dL_law_636 : decode cL_law 636 = .ok (.aload_n 0, 1) := by decide +kernel
theorem dL_law_637 : decode cL_law 637 = .ok (.iload_n 3, 1) := by decide +kernel
theorem dL_law_638 : decode cL_law 638 = .ok (.iconst 1, 1) := by decide +kernel
theorem dL_law_639 : decode cL_law 639 = .ok (.iadd, 1) := by decide +kernel
theorem dL_law_640 : decode cL_law 640 = .ok (.iaload, 1) := by decide +kernel
theorem dL_law_641 : decode cL_law 641 = .ok (.invokevirtual 85, 3) := by decide +kernel
theorem dL_law_644 : decode cL_law 644 = .ok (.if_icmp .eq 104, 3) := by decide +kernel
theorem dL_law_647 : decode cL_law 647 = .ok (.iconst 0, 1) := by decide +kernel
theorem dL_law_648 : decode cL_law 648 = .ok (.ireturn, 1) := by decide +kernel
theorem dL_law_649 : decode cL_law 649 = .ok (.aload_n 1, 1) := by decide +kernel
theorem dL_law_650 : decode cL_law 650 = .ok (.aload_n 0, 1) := by decide +kernel
theorem dL_law_651 : decode cL_law 651 = .ok (.iload_n 3, 1) := by decide +kernel
theorem dL_law_652 : decode cL_law 652 = .ok (.iconst 1, 1) := by decide +kernel
theorem dL_law_653 : decode cL_law 653 = .ok (.iadd, 1) := by decide +kernel
theorem dL_law_654 : decode cL_law 654 = .ok (.iaload, 1) := by decide +kernel
theorem dL_law_655 : decode cL_law 655 = .ok (.aload_n 0, 1) := by decide +kernel
theorem dL_law_656 : decode cL_law 656 = .ok (.iload_n 3, 1) := by decide +kernel
theorem dL_law_657 : decode cL_law 657 = .ok (.iconst 2, 1) := by decide +kernel
theorem dL_law_658 : decode cL_law 658 = .ok (.iadd, 1) := by decide +kernel
theorem dL_law_659 : decode cL_law 659 = .ok (.iaload, 1) := by decide +kernel
theorem dL_law_660 : decode cL_law 660 = .ok (.aload_n 0, 1) := by decide +kernel
theorem dL_law_661 : decode cL_law 661 = .ok (.iload_n 3, 1) := by decide +kernel
theorem dL_law_662 : decode cL_law 662 = .ok (.iconst 3, 1) := by decide +kernel
theorem dL_law_663 : decode cL_law 663 = .ok (.iadd, 1) := by decide +kernel
theorem dL_law_664 : decode cL_law 664 = .ok (.iaload, 1) := by decide +kernel
theorem dL_law_665 : decode cL_law 665 = .ok (.invokevirtual 86, 3) := by decide +kernel
theorem dL_law_668 : decode cL_law 668 = .ok (.aload_n 2, 1) := by decide +kernel
theorem dL_law_669 : decode cL_law 669 = .ok (.aload_n 0, 1) := by decide +kernel
theorem dL_law_670 : decode cL_law 670 = .ok (.iload_n 3, 1) := by decide +kernel
theorem dL_law_671 : decode cL_law 671 = .ok (.iconst 1, 1) := by decide +kernel
theorem dL_law_672 : decode cL_law 672 = .ok (.iadd, 1) := by decide +kernel
theorem dL_law_673 : decode cL_law 673 = .ok (.iaload, 1) := by decide +kernel
theorem dL_law_674 : decode cL_law 674 = .ok (.aload_n 0, 1) := by decide +kernel
theorem dL_law_675 : decode cL_law 675 = .ok (.iload_n 3, 1) := by decide +kernel
theorem dL_law_676 : decode cL_law 676 = .ok (.iconst 2, 1) := by decide +kernel
theorem dL_law_677 : decode cL_law 677 = .ok (.iadd, 1) := by decide +kernel
theorem dL_law_678 : decode cL_law 678 = .ok (.iaload, 1) := by decide +kernel
theorem dL_law_679 : decode cL_law 679 = .ok (.aload_n 0, 1) := by decide +kernel
theorem dL_law_680 : decode cL_law 680 = .ok (.iload_n 3, 1) := by decide +kernel
theorem dL_law_681 : decode cL_law 681 = .ok (.iconst 3, 1) := by decide +kernel
theorem dL_law_682 : decode cL_law 682 = .ok (.iadd, 1) := by decide +kernel
theorem dL_law_683 : decode cL_law 683 = .ok (.iaload, 1) := by decide +kernel
theorem dL_law_684 : decode cL_law 684 = .ok (.invokevirtual 89, 3) := by decide +kernel
theorem dL_law_687 : decode cL_law 687 = .ok (.if_icmp .eq 61, 3) := by decide +kernel
theorem dL_law_690 : decode cL_law 690 = .ok (.iconst 0, 1) := by decide +kernel
theorem dL_law_691 : decode cL_law 691 = .ok (.ireturn, 1) := by decide +kernel
theorem dL_law_692 : decode cL_law 692 = .ok (.aload_n 1, 1) := by decide +kernel
theorem dL_law_693 : decode cL_law 693 = .ok (.aload_n 0, 1) := by decide +kernel
theorem dL_law_694 : decode cL_law 694 = .ok (.iload_n 3, 1) := by decide +kernel
theorem dL_law_695 : decode cL_law 695 = .ok (.iconst 1, 1) := by decide +kernel
theorem dL_law_696 : decode cL_law 696 = .ok (.iadd, 1) := by decide +kernel
theorem dL_law_697 : decode cL_law 697 = .ok (.iaload, 1) := by decide +kernel
theorem dL_law_698 : decode cL_law 698 = .ok (.aload_n 0, 1) := by decide +kernel
theorem dL_law_699 : decode cL_law 699 = .ok (.iload_n 3, 1) := by decide +kernel
theorem dL_law_700 : decode cL_law 700 = .ok (.iconst 2, 1) := by decide +kernel
theorem dL_law_701 : decode cL_law 701 = .ok (.iadd, 1) := by decide +kernel
theorem dL_law_702 : decode cL_law 702 = .ok (.iaload, 1) := by decide +kernel
theorem dL_law_703 : decode cL_law 703 = .ok (.aload_n 0, 1) := by decide +kernel
theorem dL_law_704 : decode cL_law 704 = .ok (.iload_n 3, 1) := by decide +kernel
theorem dL_law_705 : decode cL_law 705 = .ok (.iconst 3, 1) := by decide +kernel
theorem dL_law_706 : decode cL_law 706 = .ok (.iadd, 1) := by decide +kernel
theorem dL_law_707 : decode cL_law 707 = .ok (.iaload, 1) := by decide +kernel
theorem dL_law_708 : decode cL_law 708 = .ok (.invokevirtual 90, 3) := by decide +kernel
theorem dL_law_711 : decode cL_law 711 = .ok (.aload_n 2, 1) := by decide +kernel
theorem dL_law_712 : decode cL_law 712 = .ok (.aload_n 0, 1) := by decide +kernel
theorem dL_law_713 : decode cL_law 713 = .ok (.iload_n 3, 1) := by decide +kernel
theorem dL_law_714 : decode cL_law 714 = .ok (.iconst 1, 1) := by decide +kernel
theorem dL_law_715 : decode cL_law 715 = .ok (.iadd, 1) := by decide +kernel
theorem dL_law_716 : decode cL_law 716 = .ok (.iaload, 1) := by decide +kernel
theorem dL_law_717 : decode cL_law 717 = .ok (.aload_n 0, 1) := by decide +kernel
theorem dL_law_718 : decode cL_law 718 = .ok (.iload_n 3, 1) := by decide +kernel
theorem dL_law_719 : decode cL_law 719 = .ok (.iconst 2, 1) := by decide +kernel
theorem dL_law_720 : decode cL_law 720 = .ok (.iadd, 1) := by decide +kernel
theorem dL_law_721 : decode cL_law 721 = .ok (.iaload, 1) := by decide +kernel
theorem dL_law_722 : decode cL_law 722 = .ok (.aload_n 0, 1) := by decide +kernel
theorem dL_law_723 : decode cL_law 723 = .ok (.iload_n 3, 1) := by decide +kernel
theorem dL_law_724 : decode cL_law 724 = .ok (.iconst 3, 1) := by decide +kernel
theorem dL_law_725 : decode cL_law 725 = .ok (.iadd, 1) := by decide +kernel
theorem dL_law_726 : decode cL_law 726 = .ok (.iaload, 1) := by decide +kernel
theorem dL_law_727 : decode cL_law 727 = .ok (.invokevirtual 93, 3) := by decide +kernel
theorem dL_law_730 : decode cL_law 730 = .ok (.if_icmp .eq 18, 3) := by decide +kernel
theorem dL_law_733 : decode cL_law 733 = .ok (.iconst 0, 1) := by decide +kernel
theorem dL_law_734 : decode cL_law 734 = .ok (.ireturn, 1) := by decide +kernel
theorem dL_law_735 : decode cL_law 735 = .ok (.aload_n 1, 1) := by decide +kernel
theorem dL_law_736 : decode cL_law 736 = .ok (.invokevirtual 94, 3) := by decide +kernel
theorem dL_law_739 : decode cL_law 739 = .ok (.aload_n 2, 1) := by decide +kernel
theorem dL_law_740 : decode cL_law 740 = .ok (.invokevirtual 97, 3) := by decide +kernel
theorem dL_law_743 : decode cL_law 743 = .ok (.if_icmp .eq 5, 3) := by decide +kernel
theorem dL_law_746 : decode cL_law 746 = .ok (.iconst 0, 1) := by decide +kernel
theorem dL_law_747 : decode cL_law 747 = .ok (.ireturn, 1) := by decide +kernel
theorem dL_law_748 : decode cL_law 748 = .ok (.iinc 3 6, 3) := by decide +kernel
theorem dL_law_751 : decode cL_law 751 = .ok (.goto (-733), 3) := by decide +kernel
theorem dL_law_754 : decode cL_law 754 = .ok (.iconst 1, 1) := by decide +kernel
theorem dL_law_755 : decode cL_law 755 = .ok (.ireturn, 1) := by decide +kernel
theorem dX11_fine_0 : decode cX11_fine 0 = .ok (.aload_n 0, 1) := by decide +kernel
theorem dX11_fine_1 : decode cX11_fine 1 = .ok (.iconst 0, 1) := by decide +kernel
theorem dX11_fine_2 : decode cX11_fine 2 = .ok (.putfield 1, 3) := by decide +kernel
theorem dX11_fine_5 : decode cX11_fine 5 = .ok (.iload_n 1, 1) := by decide +kernel
theorem dX11_fine_6 : decode cX11_fine 6 = .ok (.ireturn, 1) := by decide +kernel
theorem dX11_no_0 : decode cX11_no 0 = .ok (.aload_n 0, 1) := by decide +kernel
theorem dX11_no_1 : decode cX11_no 1 = .ok (.iload_n 1, 1) := by decide +kernel
theorem dX11_no_2 : decode cX11_no 2 = .ok (.putfield 1, 3) := by decide +kernel
theorem dX11_no_5 : decode cX11_no 5 = .ok (.bipush (-9), 2) := by decide +kernel
theorem dX11_no_7 : decode cX11_no 7 = .ok (.ireturn, 1) := by decide +kernel
theorem dX11_isIn_0 : decode cX11_isIn 0 = .ok (.iload_n 0, 1) := by decide +kernel
theorem dX11_isIn_1 : decode cX11_isIn 1 = .ok (.iload_n 1, 1) := by decide +kernel
theorem dX11_isIn_2 : decode cX11_isIn 2 = .ok (.if_icmp .lt 12, 3) := by decide +kernel
theorem dX11_isIn_5 : decode cX11_isIn 5 = .ok (.iload_n 0, 1) := by decide +kernel
theorem dX11_isIn_6 : decode cX11_isIn 6 = .ok (.iload_n 2, 1) := by decide +kernel
theorem dX11_isIn_7 : decode cX11_isIn 7 = .ok (.if_icmp .gt 7, 3) := by decide +kernel
theorem dX11_isIn_10 : decode cX11_isIn 10 = .ok (.iconst 1, 1) := by decide +kernel
theorem dX11_isIn_11 : decode cX11_isIn 11 = .ok (.goto 4, 3) := by decide +kernel
theorem dX11_isIn_14 : decode cX11_isIn 14 = .ok (.iconst 0, 1) := by decide +kernel
theorem dX11_isIn_15 : decode cX11_isIn 15 = .ok (.ireturn, 1) := by decide +kernel
theorem dX11_isPerson_0 : decode cX11_isPerson 0 = .ok (.iload_n 1, 1) := by decide +kernel
theorem dX11_isPerson_1 : decode cX11_isPerson 1 = .ok (.iconst 0, 1) := by decide +kernel
theorem dX11_isPerson_2 : decode cX11_isPerson 2 = .ok (.aload_n 0, 1) := by decide +kernel
theorem dX11_isPerson_3 : decode cX11_isPerson 3 = .ok (.getfield 7, 3) := by decide +kernel
theorem dX11_isPerson_6 : decode cX11_isPerson 6 = .ok (.iconst 1, 1) := by decide +kernel
theorem dX11_isPerson_7 : decode cX11_isPerson 7 = .ok (.isub, 1) := by decide +kernel
theorem dX11_isPerson_8 : decode cX11_isPerson 8 = .ok (.invokestatic 10, 3) := by decide +kernel
theorem dX11_isPerson_11 : decode cX11_isPerson 11 = .ok (.ifCond .eq 21, 3) := by decide +kernel
theorem dX11_isPerson_14 : decode cX11_isPerson 14 = .ok (.aload_n 0, 1) := by decide +kernel
theorem dX11_isPerson_15 : decode cX11_isPerson 15 = .ok (.getfield 14, 3) := by decide +kernel
theorem dX11_isPerson_18 : decode cX11_isPerson 18 = .ok (.aload_n 0, 1) := by decide +kernel
theorem dX11_isPerson_19 : decode cX11_isPerson 19 = .ok (.getfield 18, 3) := by decide +kernel
theorem dX11_isPerson_22 : decode cX11_isPerson 22 = .ok (.iload_n 1, 1) := by decide +kernel
theorem dX11_isPerson_23 : decode cX11_isPerson 23 = .ok (.iaload, 1) := by decide +kernel
theorem dX11_isPerson_24 : decode cX11_isPerson 24 = .ok (.baload, 1) := by decide +kernel
theorem dX11_isPerson_25 : decode cX11_isPerson 25 = .ok (.ifCond .eq 7, 3) := by decide +kernel
theorem dX11_isPerson_28 : decode cX11_isPerson 28 = .ok (.iconst 1, 1) := by decide +kernel
theorem dX11_isPerson_29 : decode cX11_isPerson 29 = .ok (.goto 4, 3) := by decide +kernel
theorem dX11_isPerson_32 : decode cX11_isPerson 32 = .ok (.iconst 0, 1) := by decide +kernel
theorem dX11_isPerson_33 : decode cX11_isPerson 33 = .ok (.ireturn, 1) := by decide +kernel
theorem dX11_isTitle_0 : decode cX11_isTitle 0 = .ok (.iload_n 1, 1) := by decide +kernel
theorem dX11_isTitle_1 : decode cX11_isTitle 1 = .ok (.iconst 0, 1) := by decide +kernel
theorem dX11_isTitle_2 : decode cX11_isTitle 2 = .ok (.aload_n 0, 1) := by decide +kernel
theorem dX11_isTitle_3 : decode cX11_isTitle 3 = .ok (.getfield 22, 3) := by decide +kernel
theorem dX11_isTitle_6 : decode cX11_isTitle 6 = .ok (.iconst 1, 1) := by decide +kernel
theorem dX11_isTitle_7 : decode cX11_isTitle 7 = .ok (.isub, 1) := by decide +kernel
theorem dX11_isTitle_8 : decode cX11_isTitle 8 = .ok (.invokestatic 10, 3) := by decide +kernel
theorem dX11_isTitle_11 : decode cX11_isTitle 11 = .ok (.ifCond .eq 21, 3) := by decide +kernel
theorem dX11_isTitle_14 : decode cX11_isTitle 14 = .ok (.aload_n 0, 1) := by decide +kernel
theorem dX11_isTitle_15 : decode cX11_isTitle 15 = .ok (.getfield 14, 3) := by decide +kernel
theorem dX11_isTitle_18 : decode cX11_isTitle 18 = .ok (.aload_n 0, 1) := by decide +kernel
theorem dX11_isTitle_19 : decode cX11_isTitle 19 = .ok (.getfield 25, 3) := by decide +kernel
theorem dX11_isTitle_22 : decode cX11_isTitle 22 = .ok (.iload_n 1, 1) := by decide +kernel
theorem dX11_isTitle_23 : decode cX11_isTitle 23 = .ok (.iaload, 1) := by decide +kernel
theorem dX11_isTitle_24 : decode cX11_isTitle 24 = .ok (.baload, 1) := by decide +kernel
theorem dX11_isTitle_25 : decode cX11_isTitle 25 = .ok (.ifCond .eq 7, 3) := by decide +kernel
theorem dX11_isTitle_28 : decode cX11_isTitle 28 = .ok (.iconst 1, 1) := by decide +kernel
theorem dX11_isTitle_29 : decode cX11_isTitle 29 = .ok (.goto 4, 3) := by decide +kernel
theorem dX11_isTitle_32 : decode cX11_isTitle 32 = .ok (.iconst 0, 1) := by decide +kernel
theorem dX11_isTitle_33 : decode cX11_isTitle 33 = .ok (.ireturn, 1) := by decide +kernel
theorem dX11_isMale_0 : decode cX11_isMale 0 = .ok (.aload_n 0, 1) := by decide +kernel
theorem dX11_isMale_1 : decode cX11_isMale 1 = .ok (.getfield 28, 3) := by decide +kernel
theorem dX11_isMale_4 : decode cX11_isMale 4 = .ok (.aload_n 0, 1) := by decide +kernel
theorem dX11_isMale_5 : decode cX11_isMale 5 = .ok (.getfield 18, 3) := by decide +kernel
theorem dX11_isMale_8 : decode cX11_isMale 8 = .ok (.iload_n 1, 1) := by decide +kernel
theorem dX11_isMale_9 : decode cX11_isMale 9 = .ok (.iaload, 1) := by decide +kernel
theorem dX11_isMale_10 : decode cX11_isMale 10 = .ok (.iaload, 1) := by decide +kernel
theorem dX11_isMale_11 : decode cX11_isMale 11 = .ok (.iconst 1, 1) := by decide +kernel
theorem dX11_isMale_12 : decode cX11_isMale 12 = .ok (.if_icmp .ne 7, 3) := by decide +kernel
theorem dX11_isMale_15 : decode cX11_isMale 15 = .ok (.iconst 1, 1) := by decide +kernel
theorem dX11_isMale_16 : decode cX11_isMale 16 = .ok (.goto 4, 3) := by decide +kernel
theorem dX11_isMale_19 : decode cX11_isMale 19 = .ok (.iconst 0, 1) := by decide +kernel
theorem dX11_isMale_20 : decode cX11_isMale 20 = .ok (.ireturn, 1) := by decide +kernel
theorem dX11_bornOn_0 : decode cX11_bornOn 0 = .ok (.aload_n 0, 1) := by decide +kernel
theorem dX11_bornOn_1 : decode cX11_bornOn 1 = .ok (.getfield 31, 3) := by decide +kernel
theorem dX11_bornOn_4 : decode cX11_bornOn 4 = .ok (.aload_n 0, 1) := by decide +kernel
theorem dX11_bornOn_5 : decode cX11_bornOn 5 = .ok (.getfield 18, 3) := by decide +kernel
theorem dX11_bornOn_8 : decode cX11_bornOn 8 = .ok (.iload_n 1, 1) := by decide +kernel
theorem dX11_bornOn_9 : decode cX11_bornOn 9 = .ok (.iaload, 1) := by decide +kernel
theorem dX11_bornOn_10 : decode cX11_bornOn 10 = .ok (.iaload, 1) := by decide +kernel
theorem dX11_bornOn_11 : decode cX11_bornOn 11 = .ok (.ireturn, 1) := by decide +kernel
theorem dX11_father_0 : decode cX11_father 0 = .ok (.aload_n 0, 1) := by decide +kernel
theorem dX11_father_1 : decode cX11_father 1 = .ok (.getfield 34, 3) := by decide +kernel
theorem dX11_father_4 : decode cX11_father 4 = .ok (.aload_n 0, 1) := by decide +kernel
theorem dX11_father_5 : decode cX11_father 5 = .ok (.getfield 18, 3) := by decide +kernel
theorem dX11_father_8 : decode cX11_father 8 = .ok (.iload_n 1, 1) := by decide +kernel
theorem dX11_father_9 : decode cX11_father 9 = .ok (.iaload, 1) := by decide +kernel
theorem dX11_father_10 : decode cX11_father 10 = .ok (.iaload, 1) := by decide +kernel
theorem dX11_father_11 : decode cX11_father 11 = .ok (.ireturn, 1) := by decide +kernel
theorem dX11_mother_0 : decode cX11_mother 0 = .ok (.aload_n 0, 1) := by decide +kernel
theorem dX11_mother_1 : decode cX11_mother 1 = .ok (.getfield 37, 3) := by decide +kernel
theorem dX11_mother_4 : decode cX11_mother 4 = .ok (.aload_n 0, 1) := by decide +kernel
theorem dX11_mother_5 : decode cX11_mother 5 = .ok (.getfield 18, 3) := by decide +kernel
theorem dX11_mother_8 : decode cX11_mother 8 = .ok (.iload_n 1, 1) := by decide +kernel
theorem dX11_mother_9 : decode cX11_mother 9 = .ok (.iaload, 1) := by decide +kernel
theorem dX11_mother_10 : decode cX11_mother 10 = .ok (.iaload, 1) := by decide +kernel
theorem dX11_mother_11 : decode cX11_mother 11 = .ok (.ireturn, 1) := by decide +kernel
theorem dX11_deadOn_0 : decode cX11_deadOn 0 = .ok (.iconst 0, 1) := by decide +kernel
theorem dX11_deadOn_1 : decode cX11_deadOn 1 = .ok (.istore_n 2, 1) := by decide +kernel
theorem dX11_deadOn_2 : decode cX11_deadOn 2 = .ok (.iload_n 2, 1) := by decide +kernel
theorem dX11_deadOn_3 : decode cX11_deadOn 3 = .ok (.aload_n 0, 1) := by decide +kernel
theorem dX11_deadOn_4 : decode cX11_deadOn 4 = .ok (.getfield 40, 3) := by decide +kernel
theorem dX11_deadOn_7 : decode cX11_deadOn 7 = .ok (.if_icmp .ge 45, 3) := by decide +kernel
theorem dX11_deadOn_10 : decode cX11_deadOn 10 = .ok (.aload_n 0, 1) := by decide +kernel
theorem dX11_deadOn_11 : decode cX11_deadOn 11 = .ok (.getfield 14, 3) := by decide +kernel
theorem dX11_deadOn_14 : decode cX11_deadOn 14 = .ok (.iload_n 2, 1) := by decide +kernel
theorem dX11_deadOn_15 : decode cX11_deadOn 15 = .ok (.baload, 1) := by decide +kernel
theorem dX11_deadOn_16 : decode cX11_deadOn 16 = .ok (.ifCond .eq 30, 3) := by decide +kernel
theorem dX11_deadOn_19 : decode cX11_deadOn 19 = .ok (.aload_n 0, 1) := by decide +kernel
theorem dX11_deadOn_20 : decode cX11_deadOn 20 = .ok (.getfield 43, 3) := by decide +kernel
theorem dX11_deadOn_23 : decode cX11_deadOn 23 = .ok (.iload_n 2, 1) := by decide +kernel
theorem dX11_deadOn_24 : decode cX11_deadOn 24 = .ok (.iaload, 1) := by decide +kernel
theorem dX11_deadOn_25 : decode cX11_deadOn 25 = .ok (.iconst 3, 1) := by decide +kernel
theorem dX11_deadOn_26 : decode cX11_deadOn 26 = .ok (.if_icmp .ne 20, 3) := by decide +kernel
theorem dX11_deadOn_29 : decode cX11_deadOn 29 = .ok (.aload_n 0, 1) := by decide +kernel
theorem dX11_deadOn_30 : decode cX11_deadOn 30 = .ok (.getfield 46, 3) := by decide +kernel
theorem dX11_deadOn_33 : decode cX11_deadOn 33 = .ok (.iload_n 2, 1) := by decide +kernel
theorem dX11_deadOn_34 : decode cX11_deadOn 34 = .ok (.iaload, 1) := by decide +kernel
theorem dX11_deadOn_35 : decode cX11_deadOn 35 = .ok (.iload_n 1, 1) := by decide +kernel
theorem dX11_deadOn_36 : decode cX11_deadOn 36 = .ok (.if_icmp .ne 10, 3) := by decide +kernel
theorem dX11_deadOn_39 : decode cX11_deadOn 39 = .ok (.aload_n 0, 1) := by decide +kernel
theorem dX11_deadOn_40 : decode cX11_deadOn 40 = .ok (.getfield 31, 3) := by decide +kernel
theorem dX11_deadOn_43 : decode cX11_deadOn 43 = .ok (.iload_n 2, 1) := by decide +kernel
theorem dX11_deadOn_44 : decode cX11_deadOn 44 = .ok (.iaload, 1) := by decide +kernel
theorem dX11_deadOn_45 : decode cX11_deadOn 45 = .ok (.ireturn, 1) := by decide +kernel
theorem dX11_deadOn_46 : decode cX11_deadOn 46 = .ok (.iinc 2 1, 3) := by decide +kernel
theorem dX11_deadOn_49 : decode cX11_deadOn 49 = .ok (.goto (-47), 3) := by decide +kernel
theorem dX11_deadOn_52 : decode cX11_deadOn 52 = .ok (.iconst (-1), 1) := by decide +kernel
theorem dX11_deadOn_53 : decode cX11_deadOn 53 = .ok (.ireturn, 1) := by decide +kernel
theorem dX11_isDeadAhead_0 : decode cX11_isDeadAhead 0 = .ok (.aload_n 0, 1) := by decide +kernel
theorem dX11_isDeadAhead_1 : decode cX11_isDeadAhead 1 = .ok (.iload_n 1, 1) := by decide +kernel
theorem dX11_isDeadAhead_2 : decode cX11_isDeadAhead 2 = .ok (.invokevirtual 49, 3) := by decide +kernel
theorem dX11_isDeadAhead_5 : decode cX11_isDeadAhead 5 = .ok (.istore_n 3, 1) := by decide +kernel
theorem dX11_isDeadAhead_6 : decode cX11_isDeadAhead 6 = .ok (.iload_n 3, 1) := by decide +kernel
theorem dX11_isDeadAhead_7 : decode cX11_isDeadAhead 7 = .ok (.ifCond .lt 12, 3) := by decide +kernel
theorem dX11_isDeadAhead_10 : decode cX11_isDeadAhead 10 = .ok (.iload_n 3, 1) := by decide +kernel
theorem dX11_isDeadAhead_11 : decode cX11_isDeadAhead 11 = .ok (.iload_n 2, 1) := by decide +kernel
theorem dX11_isDeadAhead_12 : decode cX11_isDeadAhead 12 = .ok (.if_icmp .ge 7, 3) := by decide +kernel
theorem dX11_isDeadAhead_15 : decode cX11_isDeadAhead 15 = .ok (.iconst 1, 1) := by decide +kernel
theorem dX11_isDeadAhead_16 : decode cX11_isDeadAhead 16 = .ok (.goto 4, 3) := by decide +kernel
theorem dX11_isDeadAhead_19 : decode cX11_isDeadAhead 19 = .ok (.iconst 0, 1) := by decide +kernel
theorem dX11_isDeadAhead_20 : decode cX11_isDeadAhead 20 = .ok (.ireturn, 1) := by decide +kernel
theorem dX11_isAlive_0 : decode cX11_isAlive 0 = .ok (.aload_n 0, 1) := by decide +kernel
theorem dX11_isAlive_1 : decode cX11_isAlive 1 = .ok (.iload_n 1, 1) := by decide +kernel
theorem dX11_isAlive_2 : decode cX11_isAlive 2 = .ok (.invokevirtual 53, 3) := by decide +kernel
theorem dX11_isAlive_5 : decode cX11_isAlive 5 = .ok (.iload_n 2, 1) := by decide +kernel
theorem dX11_isAlive_6 : decode cX11_isAlive 6 = .ok (.if_icmp .gt 26, 3) := by decide +kernel
theorem dX11_isAlive_9 : decode cX11_isAlive 9 = .ok (.aload_n 0, 1) := by decide +kernel
theorem dX11_isAlive_10 : decode cX11_isAlive 10 = .ok (.getfield 56, 3) := by decide +kernel
theorem dX11_isAlive_13 : decode cX11_isAlive 13 = .ok (.iload_n 1, 1) := by decide +kernel
theorem dX11_isAlive_14 : decode cX11_isAlive 14 = .ok (.iaload, 1) := by decide +kernel
theorem dX11_isAlive_15 : decode cX11_isAlive 15 = .ok (.ifCond .lt 13, 3) := by decide +kernel
theorem dX11_isAlive_18 : decode cX11_isAlive 18 = .ok (.aload_n 0, 1) := by decide +kernel
theorem dX11_isAlive_19 : decode cX11_isAlive 19 = .ok (.getfield 56, 3) := by decide +kernel
theorem dX11_isAlive_22 : decode cX11_isAlive 22 = .ok (.iload_n 1, 1) := by decide +kernel
theorem dX11_isAlive_23 : decode cX11_isAlive 23 = .ok (.iaload, 1) := by decide +kernel
theorem dX11_isAlive_24 : decode cX11_isAlive 24 = .ok (.iload_n 2, 1) := by decide +kernel
theorem dX11_isAlive_25 : decode cX11_isAlive 25 = .ok (.if_icmp .le 7, 3) := by decide +kernel
theorem dX11_isAlive_28 : decode cX11_isAlive 28 = .ok (.iconst 1, 1) := by decide +kernel
theorem dX11_isAlive_29 : decode cX11_isAlive 29 = .ok (.goto 4, 3) := by decide +kernel
theorem dX11_isAlive_32 : decode cX11_isAlive 32 = .ok (.iconst 0, 1) := by decide +kernel
theorem dX11_isAlive_33 : decode cX11_isAlive 33 = .ok (.ireturn, 1) := by decide +kernel
theorem dX11_isOfTwo_0 : decode cX11_isOfTwo 0 = .ok (.aload_n 0, 1) := by decide +kernel
theorem dX11_isOfTwo_1 : decode cX11_isOfTwo 1 = .ok (.getfield 14, 3) := by decide +kernel
theorem dX11_isOfTwo_4 : decode cX11_isOfTwo 4 = .ok (.iload_n 1, 1) := by decide +kernel
theorem dX11_isOfTwo_5 : decode cX11_isOfTwo 5 = .ok (.baload, 1) := by decide +kernel
theorem dX11_isOfTwo_6 : decode cX11_isOfTwo 6 = .ok (.ifCond .eq 47, 3) := by decide +kernel
theorem dX11_isOfTwo_9 : decode cX11_isOfTwo 9 = .ok (.aload_n 0, 1) := by decide +kernel
theorem dX11_isOfTwo_10 : decode cX11_isOfTwo 10 = .ok (.getfield 43, 3) := by decide +kernel
theorem dX11_isOfTwo_13 : decode cX11_isOfTwo 13 = .ok (.iload_n 1, 1) := by decide +kernel
theorem dX11_isOfTwo_14 : decode cX11_isOfTwo 14 = .ok (.iaload, 1) := by decide +kernel
theorem dX11_isOfTwo_15 : decode cX11_isOfTwo 15 = .ok (.iconst 1, 1) := by decide +kernel
theorem dX11_isOfTwo_16 : decode cX11_isOfTwo 16 = .ok (.if_icmp .eq 13, 3) := by decide +kernel
theorem dX11_isOfTwo_19 : decode cX11_isOfTwo 19 = .ok (.aload_n 0, 1) := by decide +kernel
theorem dX11_isOfTwo_20 : decode cX11_isOfTwo 20 = .ok (.getfield 43, 3) := by decide +kernel
theorem dX11_isOfTwo_23 : decode cX11_isOfTwo 23 = .ok (.iload_n 1, 1) := by decide +kernel
theorem dX11_isOfTwo_24 : decode cX11_isOfTwo 24 = .ok (.iaload, 1) := by decide +kernel
theorem dX11_isOfTwo_25 : decode cX11_isOfTwo 25 = .ok (.iconst 2, 1) := by decide +kernel
theorem dX11_isOfTwo_26 : decode cX11_isOfTwo 26 = .ok (.if_icmp .ne 27, 3) := by decide +kernel
theorem dX11_isOfTwo_29 : decode cX11_isOfTwo 29 = .ok (.aload_n 0, 1) := by decide +kernel
theorem dX11_isOfTwo_30 : decode cX11_isOfTwo 30 = .ok (.getfield 46, 3) := by decide +kernel
theorem dX11_isOfTwo_33 : decode cX11_isOfTwo 33 = .ok (.iload_n 1, 1) := by decide +kernel
theorem dX11_isOfTwo_34 : decode cX11_isOfTwo 34 = .ok (.iaload, 1) := by decide +kernel
theorem dX11_isOfTwo_35 : decode cX11_isOfTwo 35 = .ok (.iload_n 2, 1) := by decide +kernel
theorem dX11_isOfTwo_36 : decode cX11_isOfTwo 36 = .ok (.if_icmp .ne 17, 3) := by decide +kernel
theorem dX11_isOfTwo_39 : decode cX11_isOfTwo 39 = .ok (.aload_n 0, 1) := by decide +kernel
theorem dX11_isOfTwo_40 : decode cX11_isOfTwo 40 = .ok (.getfield 34, 3) := by decide +kernel
theorem dX11_isOfTwo_43 : decode cX11_isOfTwo 43 = .ok (.iload_n 1, 1) := by decide +kernel
theorem dX11_isOfTwo_44 : decode cX11_isOfTwo 44 = .ok (.iaload, 1) := by decide +kernel
theorem dX11_isOfTwo_45 : decode cX11_isOfTwo 45 = .ok (.iload_n 3, 1) := by decide +kernel
theorem dX11_isOfTwo_46 : decode cX11_isOfTwo 46 = .ok (.if_icmp .ne 7, 3) := by decide +kernel
theorem dX11_isOfTwo_49 : decode cX11_isOfTwo 49 = .ok (.iconst 1, 1) := by decide +kernel
theorem dX11_isOfTwo_50 : decode cX11_isOfTwo 50 = .ok (.goto 4, 3) := by decide +kernel
theorem dX11_isOfTwo_53 : decode cX11_isOfTwo 53 = .ok (.iconst 0, 1) := by decide +kernel
theorem dX11_isOfTwo_54 : decode cX11_isOfTwo 54 = .ok (.ireturn, 1) := by decide +kernel
theorem dX11_openTo_0 : decode cX11_openTo 0 = .ok (.aload_n 0, 1) := by decide +kernel
theorem dX11_openTo_1 : decode cX11_openTo 1 = .ok (.getfield 46, 3) := by decide +kernel
theorem dX11_openTo_4 : decode cX11_openTo 4 = .ok (.iload_n 1, 1) := by decide +kernel
theorem dX11_openTo_5 : decode cX11_openTo 5 = .ok (.iaload, 1) := by decide +kernel
theorem dX11_openTo_6 : decode cX11_openTo 6 = .ok (.istore_n 2, 1) := by decide +kernel
theorem dX11_openTo_7 : decode cX11_openTo 7 = .ok (.aload_n 0, 1) := by decide +kernel
theorem dX11_openTo_8 : decode cX11_openTo 8 = .ok (.getfield 34, 3) := by decide +kernel
theorem dX11_openTo_11 : decode cX11_openTo 11 = .ok (.iload_n 1, 1) := by decide +kernel
theorem dX11_openTo_12 : decode cX11_openTo 12 = .ok (.iaload, 1) := by decide +kernel
theorem dX11_openTo_13 : decode cX11_openTo 13 = .ok (.istore_n 3, 1) := by decide +kernel
theorem dX11_openTo_14 : decode cX11_openTo 14 = .ok (.ldc 59, 2) := by decide +kernel
theorem dX11_openTo_16 : decode cX11_openTo 16 = .ok (.istore 4, 2) := by decide +kernel
theorem dX11_openTo_18 : decode cX11_openTo 18 = .ok (.iconst 0, 1) := by decide +kernel
theorem dX11_openTo_19 : decode cX11_openTo 19 = .ok (.istore 5, 2) := by decide +kernel
theorem dX11_openTo_21 : decode cX11_openTo 21 = .ok (.iload 5, 2) := by decide +kernel
theorem dX11_openTo_23 : decode cX11_openTo 23 = .ok (.aload_n 0, 1) := by decide +kernel
theorem dX11_openTo_24 : decode cX11_openTo 24 = .ok (.getfield 40, 3) := by decide +kernel
theorem dX11_openTo_27 : decode cX11_openTo 27 = .ok (.if_icmp .ge 63, 3) := by decide +kernel
theorem dX11_openTo_30 : decode cX11_openTo 30 = .ok (.aload_n 0, 1) := by decide +kernel
theorem dX11_openTo_31 : decode cX11_openTo 31 = .ok (.iload 5, 2) := by decide +kernel
theorem dX11_openTo_33 : decode cX11_openTo 33 = .ok (.iload_n 2, 1) := by decide +kernel
theorem dX11_openTo_34 : decode cX11_openTo 34 = .ok (.iload_n 3, 1) := by decide +kernel
theorem dX11_openTo_35 : decode cX11_openTo 35 = .ok (.invokevirtual 60, 3) := by decide +kernel
theorem dX11_openTo_38 : decode cX11_openTo 38 = .ok (.ifCond .eq 46, 3) := by decide +kernel
theorem dX11_openTo_41 : decode cX11_openTo 41 = .ok (.aload_n 0, 1) := by decide +kernel
theorem dX11_openTo_42 : decode cX11_openTo 42 = .ok (.getfield 43, 3) := by decide +kernel
theorem dX11_openTo_45 : decode cX11_openTo 45 = .ok (.iload 5, 2) := by decide +kernel
theorem dX11_openTo_47 : decode cX11_openTo 47 = .ok (.iaload, 1) := by decide +kernel
theorem dX11_openTo_48 : decode cX11_openTo 48 = .ok (.iconst 2, 1) := by decide +kernel
theorem dX11_openTo_49 : decode cX11_openTo 49 = .ok (.if_icmp .ne 35, 3) := by decide +kernel
theorem dX11_openTo_52 : decode cX11_openTo 52 = .ok (.aload_n 0, 1) := by decide +kernel
theorem dX11_openTo_53 : decode cX11_openTo 53 = .ok (.getfield 31, 3) := by decide +kernel
theorem dX11_openTo_56 : decode cX11_openTo 56 = .ok (.iload 5, 2) := by decide +kernel
theorem dX11_openTo_58 : decode cX11_openTo 58 = .ok (.iaload, 1) := by decide +kernel
theorem dX11_openTo_59 : decode cX11_openTo 59 = .ok (.aload_n 0, 1) := by decide +kernel
theorem dX11_openTo_60 : decode cX11_openTo 60 = .ok (.getfield 31, 3) := by decide +kernel
theorem dX11_openTo_63 : decode cX11_openTo 63 = .ok (.iload_n 1, 1) := by decide +kernel
theorem dX11_openTo_64 : decode cX11_openTo 64 = .ok (.iaload, 1) := by decide +kernel
theorem dX11_openTo_65 : decode cX11_openTo 65 = .ok (.if_icmp .le 19, 3) := by decide +kernel
theorem dX11_openTo_68 : decode cX11_openTo 68 = .ok (.iload 4, 2) := by decide +kernel
theorem dX11_openTo_70 : decode cX11_openTo 70 = .ok (.aload_n 0, 1) := by decide +kernel
theorem dX11_openTo_71 : decode cX11_openTo 71 = .ok (.getfield 31, 3) := by decide +kernel
theorem dX11_openTo_74 : decode cX11_openTo 74 = .ok (.iload 5, 2) := by decide +kernel
theorem dX11_openTo_76 : decode cX11_openTo 76 = .ok (.iaload, 1) := by decide +kernel
theorem dX11_openTo_77 : decode cX11_openTo 77 = .ok (.iconst 1, 1) := by decide +kernel
theorem dX11_openTo_78 : decode cX11_openTo 78 = .ok (.isub, 1) := by decide +kernel
theorem dX11_openTo_79 : decode cX11_openTo 79 = .ok (.invokestatic 63, 3) := by decide +kernel
theorem dX11_openTo_82 : decode cX11_openTo 82 = .ok (.istore 4, 2) := by decide +kernel
theorem dX11_openTo_84 : decode cX11_openTo 84 = .ok (.iinc 5 1, 3) := by decide +kernel
theorem dX11_openTo_87 : decode cX11_openTo 87 = .ok (.goto (-66), 3) := by decide +kernel
theorem dX11_openTo_90 : decode cX11_openTo 90 = .ok (.aload_n 0, 1) := by decide +kernel
theorem dX11_openTo_91 : decode cX11_openTo 91 = .ok (.iload_n 2, 1) := by decide +kernel
theorem dX11_openTo_92 : decode cX11_openTo 92 = .ok (.invokevirtual 49, 3) := by decide +kernel
theorem dX11_openTo_95 : decode cX11_openTo 95 = .ok (.istore 5, 2) := by decide +kernel
theorem dX11_openTo_97 : decode cX11_openTo 97 = .ok (.aload_n 0, 1) := by decide +kernel
theorem dX11_openTo_98 : decode cX11_openTo 98 = .ok (.iload_n 3, 1) := by decide +kernel
theorem dX11_openTo_99 : decode cX11_openTo 99 = .ok (.invokevirtual 49, 3) := by decide +kernel
theorem dX11_openTo_102 : decode cX11_openTo 102 = .ok (.istore 6, 2) := by decide +kernel
theorem dX11_openTo_104 : decode cX11_openTo 104 = .ok (.iload 5, 2) := by decide +kernel
theorem dX11_openTo_106 : decode cX11_openTo 106 = .ok (.ifCond .lt 13, 3) := by decide +kernel
theorem dX11_openTo_109 : decode cX11_openTo 109 = .ok (.iload 4, 2) := by decide +kernel
theorem dX11_openTo_111 : decode cX11_openTo 111 = .ok (.iload 5, 2) := by decide +kernel
theorem dX11_openTo_113 : decode cX11_openTo 113 = .ok (.invokestatic 63, 3) := by decide +kernel
theorem dX11_openTo_116 : decode cX11_openTo 116 = .ok (.goto 5, 3) := by decide +kernel
theorem dX11_openTo_119 : decode cX11_openTo 119 = .ok (.iload 4, 2) := by decide +kernel
theorem dX11_openTo_121 : decode cX11_openTo 121 = .ok (.istore 4, 2) := by decide +kernel
theorem dX11_openTo_123 : decode cX11_openTo 123 = .ok (.iload 6, 2) := by decide +kernel
theorem dX11_openTo_125 : decode cX11_openTo 125 = .ok (.ifCond .lt 13, 3) := by decide +kernel
theorem dX11_openTo_128 : decode cX11_openTo 128 = .ok (.iload 4, 2) := by decide +kernel
theorem dX11_openTo_130 : decode cX11_openTo 130 = .ok (.iload 6, 2) := by decide +kernel
theorem dX11_openTo_132 : decode cX11_openTo 132 = .ok (.invokestatic 63, 3) := by decide +kernel
theorem dX11_openTo_135 : decode cX11_openTo 135 = .ok (.goto 5, 3) := by decide +kernel
theorem dX11_openTo_138 : decode cX11_openTo 138 = .ok (.iload 4, 2) := by decide +kernel
theorem dX11_openTo_140 : decode cX11_openTo 140 = .ok (.ireturn, 1) := by decide +kernel
theorem dX11_isOpen_0 : decode cX11_isOpen 0 = .ok (.aload_n 0, 1) := by decide +kernel
theorem dX11_isOpen_1 : decode cX11_isOpen 1 = .ok (.getfield 31, 3) := by decide +kernel
theorem dX11_isOpen_4 : decode cX11_isOpen 4 = .ok (.iload_n 1, 1) := by decide +kernel
theorem dX11_isOpen_5 : decode cX11_isOpen 5 = .ok (.iaload, 1) := by decide +kernel
theorem dX11_isOpen_6 : decode cX11_isOpen 6 = .ok (.iload_n 2, 1) := by decide +kernel
theorem dX11_isOpen_7 : decode cX11_isOpen 7 = .ok (.if_icmp .gt 16, 3) := by decide +kernel
theorem dX11_isOpen_10 : decode cX11_isOpen 10 = .ok (.iload_n 2, 1) := by decide +kernel
theorem dX11_isOpen_11 : decode cX11_isOpen 11 = .ok (.aload_n 0, 1) := by decide +kernel
theorem dX11_isOpen_12 : decode cX11_isOpen 12 = .ok (.iload_n 1, 1) := by decide +kernel
theorem dX11_isOpen_13 : decode cX11_isOpen 13 = .ok (.invokevirtual 69, 3) := by decide +kernel
theorem dX11_isOpen_16 : decode cX11_isOpen 16 = .ok (.if_icmp .gt 7, 3) := by decide +kernel
theorem dX11_isOpen_19 : decode cX11_isOpen 19 = .ok (.iconst 1, 1) := by decide +kernel
theorem dX11_isOpen_20 : decode cX11_isOpen 20 = .ok (.goto 4, 3) := by decide +kernel
theorem dX11_isOpen_23 : decode cX11_isOpen 23 = .ok (.iconst 0, 1) := by decide +kernel
theorem dX11_isOpen_24 : decode cX11_isOpen 24 = .ok (.ireturn, 1) := by decide +kernel
theorem dX11_areUnited_0 : decode cX11_areUnited 0 = .ok (.iconst 0, 1) := by decide +kernel
theorem dX11_areUnited_1 : decode cX11_areUnited 1 = .ok (.istore 4, 2) := by decide +kernel
theorem dX11_areUnited_3 : decode cX11_areUnited 3 = .ok (.iconst 0, 1) := by decide +kernel
theorem dX11_areUnited_4 : decode cX11_areUnited 4 = .ok (.istore 5, 2) := by decide +kernel
theorem dX11_areUnited_6 : decode cX11_areUnited 6 = .ok (.iload 5, 2) := by decide +kernel
theorem dX11_areUnited_8 : decode cX11_areUnited 8 = .ok (.aload_n 0, 1) := by decide +kernel
theorem dX11_areUnited_9 : decode cX11_areUnited 9 = .ok (.getfield 40, 3) := by decide +kernel
theorem dX11_areUnited_12 : decode cX11_areUnited 12 = .ok (.if_icmp .ge 53, 3) := by decide +kernel
theorem dX11_areUnited_15 : decode cX11_areUnited 15 = .ok (.iload 4, 2) := by decide +kernel
theorem dX11_areUnited_17 : decode cX11_areUnited 17 = .ok (.ifCond .ne 48, 3) := by decide +kernel
theorem dX11_areUnited_20 : decode cX11_areUnited 20 = .ok (.aload_n 0, 1) := by decide +kernel
theorem dX11_areUnited_21 : decode cX11_areUnited 21 = .ok (.iload 5, 2) := by decide +kernel
theorem dX11_areUnited_23 : decode cX11_areUnited 23 = .ok (.iload_n 1, 1) := by decide +kernel
theorem dX11_areUnited_24 : decode cX11_areUnited 24 = .ok (.iload_n 2, 1) := by decide +kernel
theorem dX11_areUnited_25 : decode cX11_areUnited 25 = .ok (.invokevirtual 60, 3) := by decide +kernel
theorem dX11_areUnited_28 : decode cX11_areUnited 28 = .ok (.ifCond .eq 28, 3) := by decide +kernel
theorem dX11_areUnited_31 : decode cX11_areUnited 31 = .ok (.aload_n 0, 1) := by decide +kernel
theorem dX11_areUnited_32 : decode cX11_areUnited 32 = .ok (.getfield 43, 3) := by decide +kernel
theorem dX11_areUnited_35 : decode cX11_areUnited 35 = .ok (.iload 5, 2) := by decide +kernel
theorem dX11_areUnited_37 : decode cX11_areUnited 37 = .ok (.iaload, 1) := by decide +kernel
theorem dX11_areUnited_38 : decode cX11_areUnited 38 = .ok (.iconst 1, 1) := by decide +kernel
theorem dX11_areUnited_39 : decode cX11_areUnited 39 = .ok (.if_icmp .ne 17, 3) := by decide +kernel
theorem dX11_areUnited_42 : decode cX11_areUnited 42 = .ok (.aload_n 0, 1) := by decide +kernel
theorem dX11_areUnited_43 : decode cX11_areUnited 43 = .ok (.iload 5, 2) := by decide +kernel
theorem dX11_areUnited_45 : decode cX11_areUnited 45 = .ok (.iload_n 3, 1) := by decide +kernel
theorem dX11_areUnited_46 : decode cX11_areUnited 46 = .ok (.invokevirtual 72, 3) := by decide +kernel
theorem dX11_areUnited_49 : decode cX11_areUnited 49 = .ok (.ifCond .eq 7, 3) := by decide +kernel
theorem dX11_areUnited_52 : decode cX11_areUnited 52 = .ok (.iconst 1, 1) := by decide +kernel
theorem dX11_areUnited_53 : decode cX11_areUnited 53 = .ok (.goto 4, 3) := by decide +kernel
theorem dX11_areUnited_56 : decode cX11_areUnited 56 = .ok (.iconst 0, 1) := by decide +kernel
theorem dX11_areUnited_57 : decode cX11_areUnited 57 = .ok (.istore 4, 2) := by decide +kernel
theorem dX11_areUnited_59 : decode cX11_areUnited 59 = .ok (.iinc 5 1, 3) := by decide +kernel
theorem dX11_areUnited_62 : decode cX11_areUnited 62 = .ok (.goto (-56), 3) := by decide +kernel
theorem dX11_areUnited_65 : decode cX11_areUnited 65 = .ok (.iload 4, 2) := by decide +kernel
theorem dX11_areUnited_67 : decode cX11_areUnited 67 = .ok (.ireturn, 1) := by decide +kernel
theorem dX11_toldLegit_0 : decode cX11_toldLegit 0 = .ok (.aload_n 0, 1) := by decide +kernel
theorem dX11_toldLegit_1 : decode cX11_toldLegit 1 = .ok (.iload_n 1, 1) := by decide +kernel
theorem dX11_toldLegit_2 : decode cX11_toldLegit 2 = .ok (.invokevirtual 76, 3) := by decide +kernel
theorem dX11_toldLegit_5 : decode cX11_toldLegit 5 = .ok (.istore_n 2, 1) := by decide +kernel
theorem dX11_toldLegit_6 : decode cX11_toldLegit 6 = .ok (.aload_n 0, 1) := by decide +kernel
theorem dX11_toldLegit_7 : decode cX11_toldLegit 7 = .ok (.iload_n 1, 1) := by decide +kernel
theorem dX11_toldLegit_8 : decode cX11_toldLegit 8 = .ok (.invokevirtual 79, 3) := by decide +kernel
theorem dX11_toldLegit_11 : decode cX11_toldLegit 11 = .ok (.istore_n 3, 1) := by decide +kernel
theorem dX11_toldLegit_12 : decode cX11_toldLegit 12 = .ok (.iload_n 2, 1) := by decide +kernel
theorem dX11_toldLegit_13 : decode cX11_toldLegit 13 = .ok (.ifCond .lt 7, 3) := by decide +kernel
theorem dX11_toldLegit_16 : decode cX11_toldLegit 16 = .ok (.iload_n 3, 1) := by decide +kernel
theorem dX11_toldLegit_17 : decode cX11_toldLegit 17 = .ok (.ifCond .ge 5, 3) := by decide +kernel
theorem dX11_toldLegit_20 : decode cX11_toldLegit 20 = .ok (.iconst 0, 1) := by decide +kernel
theorem dX11_toldLegit_21 : decode cX11_toldLegit 21 = .ok (.ireturn, 1) := by decide +kernel
theorem dX11_toldLegit_22 : decode cX11_toldLegit 22 = .ok (.aload_n 0, 1) := by decide +kernel
theorem dX11_toldLegit_23 : decode cX11_toldLegit 23 = .ok (.iload_n 1, 1) := by decide +kernel
theorem dX11_toldLegit_24 : decode cX11_toldLegit 24 = .ok (.invokevirtual 53, 3) := by decide +kernel
theorem dX11_toldLegit_27 : decode cX11_toldLegit 27 = .ok (.istore 4, 2) := by decide +kernel
theorem dX11_toldLegit_29 : decode cX11_toldLegit 29 = .ok (.aload_n 0, 1) := by decide +kernel
theorem dX11_toldLegit_30 : decode cX11_toldLegit 30 = .ok (.iload_n 2, 1) := by decide +kernel
theorem dX11_toldLegit_31 : decode cX11_toldLegit 31 = .ok (.invokevirtual 49, 3) := by decide +kernel
theorem dX11_toldLegit_34 : decode cX11_toldLegit 34 = .ok (.istore 5, 2) := by decide +kernel
theorem dX11_toldLegit_36 : decode cX11_toldLegit 36 = .ok (.aload_n 0, 1) := by decide +kernel
theorem dX11_toldLegit_37 : decode cX11_toldLegit 37 = .ok (.iload_n 2, 1) := by decide +kernel
theorem dX11_toldLegit_38 : decode cX11_toldLegit 38 = .ok (.iload_n 3, 1) := by decide +kernel
theorem dX11_toldLegit_39 : decode cX11_toldLegit 39 = .ok (.iload 4, 2) := by decide +kernel
theorem dX11_toldLegit_41 : decode cX11_toldLegit 41 = .ok (.invokevirtual 82, 3) := by decide +kernel
theorem dX11_toldLegit_44 : decode cX11_toldLegit 44 = .ok (.ifCond .ne 37, 3) := by decide +kernel
theorem dX11_toldLegit_47 : decode cX11_toldLegit 47 = .ok (.iload 5, 2) := by decide +kernel
theorem dX11_toldLegit_49 : decode cX11_toldLegit 49 = .ok (.ifCond .lt 36, 3) := by decide +kernel
theorem dX11_toldLegit_52 : decode cX11_toldLegit 52 = .ok (.iload 5, 2) := by decide +kernel
theorem dX11_toldLegit_54 : decode cX11_toldLegit 54 = .ok (.iload 4, 2) := by decide +kernel
theorem dX11_toldLegit_56 : decode cX11_toldLegit 56 = .ok (.sipush 300, 3) := by decide +kernel
theorem dX11_toldLegit_59 : decode cX11_toldLegit 59 = .ok (.isub, 1) := by decide +kernel
theorem dX11_toldLegit_60 : decode cX11_toldLegit 60 = .ok (.if_icmp .lt 25, 3) := by decide +kernel
theorem dX11_toldLegit_63 : decode cX11_toldLegit 63 = .ok (.iload 5, 2) := by decide +kernel
theorem dX11_toldLegit_65 : decode cX11_toldLegit 65 = .ok (.iload 4, 2) := by decide +kernel
theorem dX11_toldLegit_67 : decode cX11_toldLegit 67 = .ok (.if_icmp .gt 18, 3) := by decide +kernel
theorem dX11_toldLegit_70 : decode cX11_toldLegit 70 = .ok (.aload_n 0, 1) := by decide +kernel
theorem dX11_toldLegit_71 : decode cX11_toldLegit 71 = .ok (.iload_n 2, 1) := by decide +kernel
theorem dX11_toldLegit_72 : decode cX11_toldLegit 72 = .ok (.iload_n 3, 1) := by decide +kernel
theorem dX11_toldLegit_73 : decode cX11_toldLegit 73 = .ok (.iload 5, 2) := by decide +kernel
theorem dX11_toldLegit_75 : decode cX11_toldLegit 75 = .ok (.invokevirtual 82, 3) := by decide +kernel
theorem dX11_toldLegit_78 : decode cX11_toldLegit 78 = .ok (.ifCond .eq 7, 3) := by decide +kernel
theorem dX11_toldLegit_81 : decode cX11_toldLegit 81 = .ok (.iconst 1, 1) := by decide +kernel
theorem dX11_toldLegit_82 : decode cX11_toldLegit 82 = .ok (.goto 4, 3) := by decide +kernel
theorem dX11_toldLegit_85 : decode cX11_toldLegit 85 = .ok (.iconst 0, 1) := by decide +kernel
theorem dX11_toldLegit_86 : decode cX11_toldLegit 86 = .ok (.ireturn, 1) := by decide +kernel
theorem dX11_ahead_0 : decode cX11_ahead 0 = .ok (.iconst 0, 1) := by decide +kernel
theorem dX11_ahead_1 : decode cX11_ahead 1 = .ok (.istore_n 2, 1) := by decide +kernel
theorem dX11_ahead_2 : decode cX11_ahead 2 = .ok (.iconst 0, 1) := by decide +kernel
theorem dX11_ahead_3 : decode cX11_ahead 3 = .ok (.istore_n 3, 1) := by decide +kernel
theorem dX11_ahead_4 : decode cX11_ahead 4 = .ok (.iload_n 3, 1) := by decide +kernel
theorem dX11_ahead_5 : decode cX11_ahead 5 = .ok (.aload_n 0, 1) := by decide +kernel
theorem dX11_ahead_6 : decode cX11_ahead 6 = .ok (.getfield 40, 3) := by decide +kernel
theorem dX11_ahead_9 : decode cX11_ahead 9 = .ok (.if_icmp .ge 177, 3) := by decide +kernel
theorem dX11_ahead_12 : decode cX11_ahead 12 = .ok (.iload_n 3, 1) := by decide +kernel
theorem dX11_ahead_13 : decode cX11_ahead 13 = .ok (.iload_n 1, 1) := by decide +kernel
theorem dX11_ahead_14 : decode cX11_ahead 14 = .ok (.if_icmp .eq 166, 3) := by decide +kernel
theorem dX11_ahead_17 : decode cX11_ahead 17 = .ok (.aload_n 0, 1) := by decide +kernel
theorem dX11_ahead_18 : decode cX11_ahead 18 = .ok (.getfield 14, 3) := by decide +kernel
theorem dX11_ahead_21 : decode cX11_ahead 21 = .ok (.iload_n 3, 1) := by decide +kernel
theorem dX11_ahead_22 : decode cX11_ahead 22 = .ok (.baload, 1) := by decide +kernel
theorem dX11_ahead_23 : decode cX11_ahead 23 = .ok (.ifCond .ne 6, 3) := by decide +kernel
theorem dX11_ahead_26 : decode cX11_ahead 26 = .ok (.goto 154, 3) := by decide +kernel
theorem dX11_ahead_29 : decode cX11_ahead 29 = .ok (.aload_n 0, 1) := by decide +kernel
theorem dX11_ahead_30 : decode cX11_ahead 30 = .ok (.getfield 43, 3) := by decide +kernel
theorem dX11_ahead_33 : decode cX11_ahead 33 = .ok (.iload_n 1, 1) := by decide +kernel
theorem dX11_ahead_34 : decode cX11_ahead 34 = .ok (.iaload, 1) := by decide +kernel
theorem dX11_ahead_35 : decode cX11_ahead 35 = .ok (.iconst 2, 1) := by decide +kernel
theorem dX11_ahead_36 : decode cX11_ahead 36 = .ok (.if_icmp .gt 23, 3) := by decide +kernel
theorem dX11_ahead_39 : decode cX11_ahead 39 = .ok (.aload_n 0, 1) := by decide +kernel
theorem dX11_ahead_40 : decode cX11_ahead 40 = .ok (.iload_n 3, 1) := by decide +kernel
theorem dX11_ahead_41 : decode cX11_ahead 41 = .ok (.aload_n 0, 1) := by decide +kernel
theorem dX11_ahead_42 : decode cX11_ahead 42 = .ok (.getfield 46, 3) := by decide +kernel
theorem dX11_ahead_45 : decode cX11_ahead 45 = .ok (.iload_n 1, 1) := by decide +kernel
theorem dX11_ahead_46 : decode cX11_ahead 46 = .ok (.iaload, 1) := by decide +kernel
theorem dX11_ahead_47 : decode cX11_ahead 47 = .ok (.aload_n 0, 1) := by decide +kernel
theorem dX11_ahead_48 : decode cX11_ahead 48 = .ok (.getfield 34, 3) := by decide +kernel
theorem dX11_ahead_51 : decode cX11_ahead 51 = .ok (.iload_n 1, 1) := by decide +kernel
theorem dX11_ahead_52 : decode cX11_ahead 52 = .ok (.iaload, 1) := by decide +kernel
theorem dX11_ahead_53 : decode cX11_ahead 53 = .ok (.invokevirtual 60, 3) := by decide +kernel
theorem dX11_ahead_56 : decode cX11_ahead 56 = .ok (.goto 34, 3) := by decide +kernel
theorem dX11_ahead_59 : decode cX11_ahead 59 = .ok (.aload_n 0, 1) := by decide +kernel
theorem dX11_ahead_60 : decode cX11_ahead 60 = .ok (.getfield 43, 3) := by decide +kernel
theorem dX11_ahead_63 : decode cX11_ahead 63 = .ok (.iload_n 3, 1) := by decide +kernel
theorem dX11_ahead_64 : decode cX11_ahead 64 = .ok (.iaload, 1) := by decide +kernel
theorem dX11_ahead_65 : decode cX11_ahead 65 = .ok (.bipush 7, 2) := by decide +kernel
theorem dX11_ahead_67 : decode cX11_ahead 67 = .ok (.if_icmp .lt 22, 3) := by decide +kernel
theorem dX11_ahead_70 : decode cX11_ahead 70 = .ok (.aload_n 0, 1) := by decide +kernel
theorem dX11_ahead_71 : decode cX11_ahead 71 = .ok (.getfield 34, 3) := by decide +kernel
theorem dX11_ahead_74 : decode cX11_ahead 74 = .ok (.iload_n 3, 1) := by decide +kernel
theorem dX11_ahead_75 : decode cX11_ahead 75 = .ok (.iaload, 1) := by decide +kernel
theorem dX11_ahead_76 : decode cX11_ahead 76 = .ok (.aload_n 0, 1) := by decide +kernel
theorem dX11_ahead_77 : decode cX11_ahead 77 = .ok (.getfield 34, 3) := by decide +kernel
theorem dX11_ahead_80 : decode cX11_ahead 80 = .ok (.iload_n 1, 1) := by decide +kernel
theorem dX11_ahead_81 : decode cX11_ahead 81 = .ok (.iaload, 1) := by decide +kernel
theorem dX11_ahead_82 : decode cX11_ahead 82 = .ok (.if_icmp .ne 7, 3) := by decide +kernel
theorem dX11_ahead_85 : decode cX11_ahead 85 = .ok (.iconst 1, 1) := by decide +kernel
theorem dX11_ahead_86 : decode cX11_ahead 86 = .ok (.goto 4, 3) := by decide +kernel
theorem dX11_ahead_89 : decode cX11_ahead 89 = .ok (.iconst 0, 1) := by decide +kernel
theorem dX11_ahead_90 : decode cX11_ahead 90 = .ok (.istore 4, 2) := by decide +kernel
theorem dX11_ahead_92 : decode cX11_ahead 92 = .ok (.aload_n 0, 1) := by decide +kernel
theorem dX11_ahead_93 : decode cX11_ahead 93 = .ok (.getfield 31, 3) := by decide +kernel
theorem dX11_ahead_96 : decode cX11_ahead 96 = .ok (.iload_n 3, 1) := by decide +kernel
theorem dX11_ahead_97 : decode cX11_ahead 97 = .ok (.iaload, 1) := by decide +kernel
theorem dX11_ahead_98 : decode cX11_ahead 98 = .ok (.aload_n 0, 1) := by decide +kernel
theorem dX11_ahead_99 : decode cX11_ahead 99 = .ok (.getfield 31, 3) := by decide +kernel
theorem dX11_ahead_102 : decode cX11_ahead 102 = .ok (.iload_n 1, 1) := by decide +kernel
theorem dX11_ahead_103 : decode cX11_ahead 103 = .ok (.iaload, 1) := by decide +kernel
theorem dX11_ahead_104 : decode cX11_ahead 104 = .ok (.if_icmp .lt 51, 3) := by decide +kernel
theorem dX11_ahead_107 : decode cX11_ahead 107 = .ok (.aload_n 0, 1) := by decide +kernel
theorem dX11_ahead_108 : decode cX11_ahead 108 = .ok (.getfield 31, 3) := by decide +kernel
theorem dX11_ahead_111 : decode cX11_ahead 111 = .ok (.iload_n 3, 1) := by decide +kernel
theorem dX11_ahead_112 : decode cX11_ahead 112 = .ok (.iaload, 1) := by decide +kernel
theorem dX11_ahead_113 : decode cX11_ahead 113 = .ok (.aload_n 0, 1) := by decide +kernel
theorem dX11_ahead_114 : decode cX11_ahead 114 = .ok (.getfield 31, 3) := by decide +kernel
theorem dX11_ahead_117 : decode cX11_ahead 117 = .ok (.iload_n 1, 1) := by decide +kernel
theorem dX11_ahead_118 : decode cX11_ahead 118 = .ok (.iaload, 1) := by decide +kernel
theorem dX11_ahead_119 : decode cX11_ahead 119 = .ok (.if_icmp .ne 40, 3) := by decide +kernel
theorem dX11_ahead_122 : decode cX11_ahead 122 = .ok (.aload_n 0, 1) := by decide +kernel
theorem dX11_ahead_123 : decode cX11_ahead 123 = .ok (.getfield 43, 3) := by decide +kernel
theorem dX11_ahead_126 : decode cX11_ahead 126 = .ok (.iload_n 3, 1) := by decide +kernel
theorem dX11_ahead_127 : decode cX11_ahead 127 = .ok (.iaload, 1) := by decide +kernel
theorem dX11_ahead_128 : decode cX11_ahead 128 = .ok (.aload_n 0, 1) := by decide +kernel
theorem dX11_ahead_129 : decode cX11_ahead 129 = .ok (.getfield 43, 3) := by decide +kernel
theorem dX11_ahead_132 : decode cX11_ahead 132 = .ok (.iload_n 1, 1) := by decide +kernel
theorem dX11_ahead_133 : decode cX11_ahead 133 = .ok (.iaload, 1) := by decide +kernel
theorem dX11_ahead_134 : decode cX11_ahead 134 = .ok (.if_icmp .eq 16, 3) := by decide +kernel
theorem dX11_ahead_137 : decode cX11_ahead 137 = .ok (.aload_n 0, 1) := by decide +kernel
theorem dX11_ahead_138 : decode cX11_ahead 138 = .ok (.getfield 43, 3) := by decide +kernel
theorem dX11_ahead_141 : decode cX11_ahead 141 = .ok (.iload_n 3, 1) := by decide +kernel
theorem dX11_ahead_142 : decode cX11_ahead 142 = .ok (.iaload, 1) := by decide +kernel
theorem dX11_ahead_143 : decode cX11_ahead 143 = .ok (.iconst 2, 1) := by decide +kernel
theorem dX11_ahead_144 : decode cX11_ahead 144 = .ok (.if_icmp .ne 15, 3) := by decide +kernel
theorem dX11_ahead_147 : decode cX11_ahead 147 = .ok (.goto 8, 3) := by decide +kernel
theorem dX11_ahead_150 : decode cX11_ahead 150 = .ok (.iload_n 3, 1) := by decide +kernel
theorem dX11_ahead_151 : decode cX11_ahead 151 = .ok (.iload_n 1, 1) := by decide +kernel
theorem dX11_ahead_152 : decode cX11_ahead 152 = .ok (.if_icmp .ge 7, 3) := by decide +kernel
theorem dX11_ahead_155 : decode cX11_ahead 155 = .ok (.iconst 1, 1) := by decide +kernel
theorem dX11_ahead_156 : decode cX11_ahead 156 = .ok (.goto 4, 3) := by decide +kernel
theorem dX11_ahead_159 : decode cX11_ahead 159 = .ok (.iconst 0, 1) := by decide +kernel
theorem dX11_ahead_160 : decode cX11_ahead 160 = .ok (.istore 5, 2) := by decide +kernel
theorem dX11_ahead_162 : decode cX11_ahead 162 = .ok (.iload_n 2, 1) := by decide +kernel
theorem dX11_ahead_163 : decode cX11_ahead 163 = .ok (.iload 4, 2) := by decide +kernel
theorem dX11_ahead_165 : decode cX11_ahead 165 = .ok (.ifCond .eq 12, 3) := by decide +kernel
theorem dX11_ahead_168 : decode cX11_ahead 168 = .ok (.iload 5, 2) := by decide +kernel
theorem dX11_ahead_170 : decode cX11_ahead 170 = .ok (.ifCond .eq 7, 3) := by decide +kernel
theorem dX11_ahead_173 : decode cX11_ahead 173 = .ok (.iconst 1, 1) := by decide +kernel
theorem dX11_ahead_174 : decode cX11_ahead 174 = .ok (.goto 4, 3) := by decide +kernel
theorem dX11_ahead_177 : decode cX11_ahead 177 = .ok (.iconst 0, 1) := by decide +kernel
theorem dX11_ahead_178 : decode cX11_ahead 178 = .ok (.iadd, 1) := by decide +kernel
theorem dX11_ahead_179 : decode cX11_ahead 179 = .ok (.istore_n 2, 1) := by decide +kernel
theorem dX11_ahead_180 : decode cX11_ahead 180 = .ok (.iinc 3 1, 3) := by decide +kernel
theorem dX11_ahead_183 : decode cX11_ahead 183 = .ok (.goto (-179), 3) := by decide +kernel
theorem dX11_ahead_186 : decode cX11_ahead 186 = .ok (.iload_n 2, 1) := by decide +kernel
theorem dX11_ahead_187 : decode cX11_ahead 187 = .ok (.ireturn, 1) := by decide +kernel
theorem dX11_isOfAge_0 : decode cX11_isOfAge 0 = .ok (.aload_n 0, 1) := by decide +kernel
theorem dX11_isOfAge_1 : decode cX11_isOfAge 1 = .ok (.iload_n 1, 1) := by decide +kernel
theorem dX11_isOfAge_2 : decode cX11_isOfAge 2 = .ok (.invokevirtual 53, 3) := by decide +kernel
theorem dX11_isOfAge_5 : decode cX11_isOfAge 5 = .ok (.sipush 4000, 3) := by decide +kernel
theorem dX11_isOfAge_8 : decode cX11_isOfAge 8 = .ok (.iadd, 1) := by decide +kernel
theorem dX11_isOfAge_9 : decode cX11_isOfAge 9 = .ok (.iload_n 2, 1) := by decide +kernel
theorem dX11_isOfAge_10 : decode cX11_isOfAge 10 = .ok (.if_icmp .gt 7, 3) := by decide +kernel
theorem dX11_isOfAge_13 : decode cX11_isOfAge 13 = .ok (.iconst 1, 1) := by decide +kernel
theorem dX11_isOfAge_14 : decode cX11_isOfAge 14 = .ok (.goto 4, 3) := by decide +kernel
theorem dX11_isOfAge_17 : decode cX11_isOfAge 17 = .ok (.iconst 0, 1) := by decide +kernel
theorem dX11_isOfAge_18 : decode cX11_isOfAge 18 = .ok (.ireturn, 1) := by decide +kernel
theorem dX11_holdsBond_0 : decode cX11_holdsBond 0 = .ok (.aload_n 0, 1) := by decide +kernel
theorem dX11_holdsBond_1 : decode cX11_holdsBond 1 = .ok (.getfield 43, 3) := by decide +kernel
theorem dX11_holdsBond_4 : decode cX11_holdsBond 4 = .ok (.iload_n 2, 1) := by decide +kernel
theorem dX11_holdsBond_5 : decode cX11_holdsBond 5 = .ok (.iaload, 1) := by decide +kernel
theorem dX11_holdsBond_6 : decode cX11_holdsBond 6 = .ok (.istore_n 3, 1) := by decide +kernel
theorem dX11_holdsBond_7 : decode cX11_holdsBond 7 = .ok (.aload_n 0, 1) := by decide +kernel
theorem dX11_holdsBond_8 : decode cX11_holdsBond 8 = .ok (.getfield 31, 3) := by decide +kernel
theorem dX11_holdsBond_11 : decode cX11_holdsBond 11 = .ok (.iload_n 2, 1) := by decide +kernel
theorem dX11_holdsBond_12 : decode cX11_holdsBond 12 = .ok (.iaload, 1) := by decide +kernel
theorem dX11_holdsBond_13 : decode cX11_holdsBond 13 = .ok (.istore 4, 2) := by decide +kernel
theorem dX11_holdsBond_15 : decode cX11_holdsBond 15 = .ok (.aload_n 0, 1) := by decide +kernel
theorem dX11_holdsBond_16 : decode cX11_holdsBond 16 = .ok (.getfield 46, 3) := by decide +kernel
theorem dX11_holdsBond_19 : decode cX11_holdsBond 19 = .ok (.iload_n 2, 1) := by decide +kernel
theorem dX11_holdsBond_20 : decode cX11_holdsBond 20 = .ok (.iaload, 1) := by decide +kernel
theorem dX11_holdsBond_21 : decode cX11_holdsBond 21 = .ok (.istore 5, 2) := by decide +kernel
theorem dX11_holdsBond_23 : decode cX11_holdsBond 23 = .ok (.aload_n 0, 1) := by decide +kernel
theorem dX11_holdsBond_24 : decode cX11_holdsBond 24 = .ok (.getfield 34, 3) := by decide +kernel
theorem dX11_holdsBond_27 : decode cX11_holdsBond 27 = .ok (.iload_n 2, 1) := by decide +kernel
theorem dX11_holdsBond_28 : decode cX11_holdsBond 28 = .ok (.iaload, 1) := by decide +kernel
theorem dX11_holdsBond_29 : decode cX11_holdsBond 29 = .ok (.istore 6, 2) := by decide +kernel
theorem dX11_holdsBond_31 : decode cX11_holdsBond 31 = .ok (.aload_n 0, 1) := by decide +kernel
theorem dX11_holdsBond_32 : decode cX11_holdsBond 32 = .ok (.getfield 37, 3) := by decide +kernel
theorem dX11_holdsBond_35 : decode cX11_holdsBond 35 = .ok (.iload_n 2, 1) := by decide +kernel
theorem dX11_holdsBond_36 : decode cX11_holdsBond 36 = .ok (.iaload, 1) := by decide +kernel
theorem dX11_holdsBond_37 : decode cX11_holdsBond 37 = .ok (.istore 7, 2) := by decide +kernel
theorem dX11_holdsBond_39 : decode cX11_holdsBond 39 = .ok (.iload_n 3, 1) := by decide +kernel
theorem dX11_holdsBond_40 : decode cX11_holdsBond 40 = .ok (.iconst 1, 1) := by decide +kernel
theorem dX11_holdsBond_41 : decode cX11_holdsBond 41 = .ok (.if_icmp .eq 8, 3) := by decide +kernel
theorem dX11_holdsBond_44 : decode cX11_holdsBond 44 = .ok (.iload_n 3, 1) := by decide +kernel
theorem dX11_holdsBond_45 : decode cX11_holdsBond 45 = .ok (.iconst 2, 1) := by decide +kernel
theorem dX11_holdsBond_46 : decode cX11_holdsBond 46 = .ok (.if_icmp .ne 7, 3) := by decide +kernel
theorem dX11_holdsBond_49 : decode cX11_holdsBond 49 = .ok (.iconst 1, 1) := by decide +kernel
theorem dX11_holdsBond_50 : decode cX11_holdsBond 50 = .ok (.goto 4, 3) := by decide +kernel
theorem dX11_holdsBond_53 : decode cX11_holdsBond 53 = .ok (.iconst 0, 1) := by decide +kernel
theorem dX11_holdsBond_54 : decode cX11_holdsBond 54 = .ok (.istore 8, 2) := by decide +kernel
theorem dX11_holdsBond_56 : decode cX11_holdsBond 56 = .ok (.iload_n 1, 1) := by decide +kernel
theorem dX11_holdsBond_57 : decode cX11_holdsBond 57 = .ok (.tableswitch 435 1 8 #[47, 114, 144, 181, 222, 277, 316, 335], 47) := by decide +kernel
theorem dX11_holdsBond_104 : decode cX11_holdsBond 104 = .ok (.iload_n 3, 1) := by decide +kernel
theorem dX11_holdsBond_105 : decode cX11_holdsBond 105 = .ok (.ifCond .ne 37, 3) := by decide +kernel
theorem dX11_holdsBond_108 : decode cX11_holdsBond 108 = .ok (.iload 6, 2) := by decide +kernel
theorem dX11_holdsBond_110 : decode cX11_holdsBond 110 = .ok (.ifCond .lt 12, 3) := by decide +kernel
theorem dX11_holdsBond_113 : decode cX11_holdsBond 113 = .ok (.aload_n 0, 1) := by decide +kernel
theorem dX11_holdsBond_114 : decode cX11_holdsBond 114 = .ok (.iload 6, 2) := by decide +kernel
theorem dX11_holdsBond_116 : decode cX11_holdsBond 116 = .ok (.invokevirtual 85, 3) := by decide +kernel
theorem dX11_holdsBond_119 : decode cX11_holdsBond 119 = .ok (.ifCond .eq 21, 3) := by decide +kernel
theorem dX11_holdsBond_122 : decode cX11_holdsBond 122 = .ok (.iload 7, 2) := by decide +kernel
theorem dX11_holdsBond_124 : decode cX11_holdsBond 124 = .ok (.ifCond .lt 12, 3) := by decide +kernel
theorem dX11_holdsBond_127 : decode cX11_holdsBond 127 = .ok (.aload_n 0, 1) := by decide +kernel
theorem dX11_holdsBond_128 : decode cX11_holdsBond 128 = .ok (.iload 7, 2) := by decide +kernel
theorem dX11_holdsBond_130 : decode cX11_holdsBond 130 = .ok (.invokevirtual 85, 3) := by decide +kernel
theorem dX11_holdsBond_133 : decode cX11_holdsBond 133 = .ok (.ifCond .ne 7, 3) := by decide +kernel
theorem dX11_holdsBond_136 : decode cX11_holdsBond 136 = .ok (.iconst 1, 1) := by decide +kernel
theorem dX11_holdsBond_137 : decode cX11_holdsBond 137 = .ok (.goto 4, 3) := by decide +kernel
theorem dX11_holdsBond_140 : decode cX11_holdsBond 140 = .ok (.iconst 0, 1) := by decide +kernel
theorem dX11_holdsBond_141 : decode cX11_holdsBond 141 = .ok (.ireturn, 1) := by decide +kernel
theorem dX11_holdsBond_142 : decode cX11_holdsBond 142 = .ok (.iload 8, 2) := by decide +kernel
theorem dX11_holdsBond_144 : decode cX11_holdsBond 144 = .ok (.ifCond .eq 21, 3) := by decide +kernel
theorem dX11_holdsBond_147 : decode cX11_holdsBond 147 = .ok (.aload_n 0, 1) := by decide +kernel
theorem dX11_holdsBond_148 : decode cX11_holdsBond 148 = .ok (.iload 5, 2) := by decide +kernel
theorem dX11_holdsBond_150 : decode cX11_holdsBond 150 = .ok (.invokevirtual 85, 3) := by decide +kernel
theorem dX11_holdsBond_153 : decode cX11_holdsBond 153 = .ok (.ifCond .eq 16, 3) := by decide +kernel
theorem dX11_holdsBond_156 : decode cX11_holdsBond 156 = .ok (.aload_n 0, 1) := by decide +kernel
theorem dX11_holdsBond_157 : decode cX11_holdsBond 157 = .ok (.iload 6, 2) := by decide +kernel
theorem dX11_holdsBond_159 : decode cX11_holdsBond 159 = .ok (.invokevirtual 85, 3) := by decide +kernel
theorem dX11_holdsBond_162 : decode cX11_holdsBond 162 = .ok (.ifCond .ne 7, 3) := by decide +kernel
theorem dX11_holdsBond_165 : decode cX11_holdsBond 165 = .ok (.iconst 1, 1) := by decide +kernel
theorem dX11_holdsBond_166 : decode cX11_holdsBond 166 = .ok (.goto 4, 3) := by decide +kernel
theorem dX11_holdsBond_169 : decode cX11_holdsBond 169 = .ok (.iconst 0, 1) := by decide +kernel
theorem dX11_holdsBond_170 : decode cX11_holdsBond 170 = .ok (.ireturn, 1) := by decide +kernel
theorem dX11_holdsBond_171 : decode cX11_holdsBond 171 = .ok (.iload_n 3, 1) := by decide +kernel
theorem dX11_holdsBond_172 : decode cX11_holdsBond 172 = .ok (.iconst 3, 1) := by decide +kernel
theorem dX11_holdsBond_173 : decode cX11_holdsBond 173 = .ok (.if_icmp .ne 22, 3) := by decide +kernel
theorem dX11_holdsBond_176 : decode cX11_holdsBond 176 = .ok (.iload 4, 2) := by decide +kernel
theorem dX11_holdsBond_178 : decode cX11_holdsBond 178 = .ok (.aload_n 0, 1) := by decide +kernel
theorem dX11_holdsBond_179 : decode cX11_holdsBond 179 = .ok (.iload 5, 2) := by decide +kernel
theorem dX11_holdsBond_181 : decode cX11_holdsBond 181 = .ok (.invokevirtual 53, 3) := by decide +kernel
theorem dX11_holdsBond_184 : decode cX11_holdsBond 184 = .ok (.if_icmp .lt 15, 3) := by decide +kernel
theorem dX11_holdsBond_187 : decode cX11_holdsBond 187 = .ok (.aload_n 0, 1) := by decide +kernel
theorem dX11_holdsBond_188 : decode cX11_holdsBond 188 = .ok (.iload_n 2, 1) := by decide +kernel
theorem dX11_holdsBond_189 : decode cX11_holdsBond 189 = .ok (.invokevirtual 89, 3) := by decide +kernel
theorem dX11_holdsBond_192 : decode cX11_holdsBond 192 = .ok (.ifCond .eq 7, 3) := by decide +kernel
theorem dX11_holdsBond_195 : decode cX11_holdsBond 195 = .ok (.iconst 1, 1) := by decide +kernel
theorem dX11_holdsBond_196 : decode cX11_holdsBond 196 = .ok (.goto 4, 3) := by decide +kernel
theorem dX11_holdsBond_199 : decode cX11_holdsBond 199 = .ok (.iconst 0, 1) := by decide +kernel
theorem dX11_holdsBond_200 : decode cX11_holdsBond 200 = .ok (.ireturn, 1) := by decide +kernel
theorem dX11_holdsBond_201 : decode cX11_holdsBond 201 = .ok (.iload_n 3, 1) := by decide +kernel
theorem dX11_holdsBond_202 : decode cX11_holdsBond 202 = .ok (.ifCond .ne 30, 3) := by decide +kernel
theorem dX11_holdsBond_205 : decode cX11_holdsBond 205 = .ok (.iload 7, 2) := by decide +kernel
theorem dX11_holdsBond_207 : decode cX11_holdsBond 207 = .ok (.ifCond .lt 25, 3) := by decide +kernel
theorem dX11_holdsBond_210 : decode cX11_holdsBond 210 = .ok (.aload_n 0, 1) := by decide +kernel
theorem dX11_holdsBond_211 : decode cX11_holdsBond 211 = .ok (.iload 7, 2) := by decide +kernel
theorem dX11_holdsBond_213 : decode cX11_holdsBond 213 = .ok (.iload 4, 2) := by decide +kernel
theorem dX11_holdsBond_215 : decode cX11_holdsBond 215 = .ok (.invokevirtual 92, 3) := by decide +kernel
theorem dX11_holdsBond_218 : decode cX11_holdsBond 218 = .ok (.ifCond .eq 18, 3) := by decide +kernel
theorem dX11_holdsBond_221 : decode cX11_holdsBond 221 = .ok (.aload_n 0, 1) := by decide +kernel
theorem dX11_holdsBond_222 : decode cX11_holdsBond 222 = .ok (.iload 7, 2) := by decide +kernel
theorem dX11_holdsBond_224 : decode cX11_holdsBond 224 = .ok (.iload 4, 2) := by decide +kernel
theorem dX11_holdsBond_226 : decode cX11_holdsBond 226 = .ok (.invokevirtual 95, 3) := by decide +kernel
theorem dX11_holdsBond_229 : decode cX11_holdsBond 229 = .ok (.ifCond .ne 7, 3) := by decide +kernel
theorem dX11_holdsBond_232 : decode cX11_holdsBond 232 = .ok (.iconst 1, 1) := by decide +kernel
theorem dX11_holdsBond_233 : decode cX11_holdsBond 233 = .ok (.goto 4, 3) := by decide +kernel
theorem dX11_holdsBond_236 : decode cX11_holdsBond 236 = .ok (.iconst 0, 1) := by decide +kernel
theorem dX11_holdsBond_237 : decode cX11_holdsBond 237 = .ok (.ireturn, 1) := by decide +kernel
theorem dX11_holdsBond_238 : decode cX11_holdsBond 238 = .ok (.iload_n 3, 1) := by decide +kernel
theorem dX11_holdsBond_239 : decode cX11_holdsBond 239 = .ok (.ifCond .ne 34, 3) := by decide +kernel
theorem dX11_holdsBond_242 : decode cX11_holdsBond 242 = .ok (.iload 6, 2) := by decide +kernel
theorem dX11_holdsBond_244 : decode cX11_holdsBond 244 = .ok (.ifCond .lt 29, 3) := by decide +kernel
theorem dX11_holdsBond_247 : decode cX11_holdsBond 247 = .ok (.aload_n 0, 1) := by decide +kernel
theorem dX11_holdsBond_248 : decode cX11_holdsBond 248 = .ok (.iload 6, 2) := by decide +kernel
theorem dX11_holdsBond_250 : decode cX11_holdsBond 250 = .ok (.iload 4, 2) := by decide +kernel
theorem dX11_holdsBond_252 : decode cX11_holdsBond 252 = .ok (.invokevirtual 92, 3) := by decide +kernel
theorem dX11_holdsBond_255 : decode cX11_holdsBond 255 = .ok (.ifCond .eq 22, 3) := by decide +kernel
theorem dX11_holdsBond_258 : decode cX11_holdsBond 258 = .ok (.aload_n 0, 1) := by decide +kernel
theorem dX11_holdsBond_259 : decode cX11_holdsBond 259 = .ok (.iload 6, 2) := by decide +kernel
theorem dX11_holdsBond_261 : decode cX11_holdsBond 261 = .ok (.iload 4, 2) := by decide +kernel
theorem dX11_holdsBond_263 : decode cX11_holdsBond 263 = .ok (.sipush 300, 3) := by decide +kernel
theorem dX11_holdsBond_266 : decode cX11_holdsBond 266 = .ok (.isub, 1) := by decide +kernel
theorem dX11_holdsBond_267 : decode cX11_holdsBond 267 = .ok (.invokevirtual 95, 3) := by decide +kernel
theorem dX11_holdsBond_270 : decode cX11_holdsBond 270 = .ok (.ifCond .ne 7, 3) := by decide +kernel
theorem dX11_holdsBond_273 : decode cX11_holdsBond 273 = .ok (.iconst 1, 1) := by decide +kernel
theorem dX11_holdsBond_274 : decode cX11_holdsBond 274 = .ok (.goto 4, 3) := by decide +kernel
theorem dX11_holdsBond_277 : decode cX11_holdsBond 277 = .ok (.iconst 0, 1) := by decide +kernel
theorem dX11_holdsBond_278 : decode cX11_holdsBond 278 = .ok (.ireturn, 1) := by decide +kernel
theorem dX11_holdsBond_279 : decode cX11_holdsBond 279 = .ok (.iload 8, 2) := by decide +kernel
theorem dX11_holdsBond_281 : decode cX11_holdsBond 281 = .ok (.ifCond .eq 47, 3) := by decide +kernel
theorem dX11_holdsBond_284 : decode cX11_holdsBond 284 = .ok (.aload_n 0, 1) := by decide +kernel
theorem dX11_holdsBond_285 : decode cX11_holdsBond 285 = .ok (.iload 5, 2) := by decide +kernel
theorem dX11_holdsBond_287 : decode cX11_holdsBond 287 = .ok (.iload 4, 2) := by decide +kernel
theorem dX11_holdsBond_289 : decode cX11_holdsBond 289 = .ok (.invokevirtual 92, 3) := by decide +kernel
theorem dX11_holdsBond_292 : decode cX11_holdsBond 292 = .ok (.ifCond .eq 40, 3) := by decide +kernel
theorem dX11_holdsBond_295 : decode cX11_holdsBond 295 = .ok (.aload_n 0, 1) := by decide +kernel
theorem dX11_holdsBond_296 : decode cX11_holdsBond 296 = .ok (.iload 6, 2) := by decide +kernel
theorem dX11_holdsBond_298 : decode cX11_holdsBond 298 = .ok (.iload 4, 2) := by decide +kernel
theorem dX11_holdsBond_300 : decode cX11_holdsBond 300 = .ok (.invokevirtual 92, 3) := by decide +kernel
theorem dX11_holdsBond_303 : decode cX11_holdsBond 303 = .ok (.ifCond .eq 29, 3) := by decide +kernel
theorem dX11_holdsBond_306 : decode cX11_holdsBond 306 = .ok (.aload_n 0, 1) := by decide +kernel
theorem dX11_holdsBond_307 : decode cX11_holdsBond 307 = .ok (.iload 5, 2) := by decide +kernel
theorem dX11_holdsBond_309 : decode cX11_holdsBond 309 = .ok (.iload 4, 2) := by decide +kernel
theorem dX11_holdsBond_311 : decode cX11_holdsBond 311 = .ok (.invokevirtual 95, 3) := by decide +kernel
theorem dX11_holdsBond_314 : decode cX11_holdsBond 314 = .ok (.ifCond .ne 18, 3) := by decide +kernel
theorem dX11_holdsBond_317 : decode cX11_holdsBond 317 = .ok (.aload_n 0, 1) := by decide +kernel
theorem dX11_holdsBond_318 : decode cX11_holdsBond 318 = .ok (.iload 6, 2) := by decide +kernel
theorem dX11_holdsBond_320 : decode cX11_holdsBond 320 = .ok (.iload 4, 2) := by decide +kernel
theorem dX11_holdsBond_322 : decode cX11_holdsBond 322 = .ok (.invokevirtual 95, 3) := by decide +kernel
theorem dX11_holdsBond_325 : decode cX11_holdsBond 325 = .ok (.ifCond .ne 7, 3) := by decide +kernel
theorem dX11_holdsBond_328 : decode cX11_holdsBond 328 = .ok (.iconst 1, 1) := by decide +kernel
theorem dX11_holdsBond_329 : decode cX11_holdsBond 329 = .ok (.goto 4, 3) := by decide +kernel
theorem dX11_holdsBond_332 : decode cX11_holdsBond 332 = .ok (.iconst 0, 1) := by decide +kernel
theorem dX11_holdsBond_333 : decode cX11_holdsBond 333 = .ok (.ireturn, 1) := by decide +kernel
theorem dX11_holdsBond_334 : decode cX11_holdsBond 334 = .ok (.iload 8, 2) := by decide +kernel
theorem dX11_holdsBond_336 : decode cX11_holdsBond 336 = .ok (.ifCond .eq 31, 3) := by decide +kernel
theorem dX11_holdsBond_339 : decode cX11_holdsBond 339 = .ok (.aload_n 0, 1) := by decide +kernel
theorem dX11_holdsBond_340 : decode cX11_holdsBond 340 = .ok (.iload_n 2, 1) := by decide +kernel
theorem dX11_holdsBond_341 : decode cX11_holdsBond 341 = .ok (.invokevirtual 98, 3) := by decide +kernel
theorem dX11_holdsBond_344 : decode cX11_holdsBond 344 = .ok (.iconst 2, 1) := by decide +kernel
theorem dX11_holdsBond_345 : decode cX11_holdsBond 345 = .ok (.irem, 1) := by decide +kernel
theorem dX11_holdsBond_346 : decode cX11_holdsBond 346 = .ok (.ifCond .ne 7, 3) := by decide +kernel
theorem dX11_holdsBond_349 : decode cX11_holdsBond 349 = .ok (.iconst 1, 1) := by decide +kernel
theorem dX11_holdsBond_350 : decode cX11_holdsBond 350 = .ok (.goto 4, 3) := by decide +kernel
theorem dX11_holdsBond_353 : decode cX11_holdsBond 353 = .ok (.iconst 0, 1) := by decide +kernel
theorem dX11_holdsBond_354 : decode cX11_holdsBond 354 = .ok (.iload_n 3, 1) := by decide +kernel
theorem dX11_holdsBond_355 : decode cX11_holdsBond 355 = .ok (.iconst 1, 1) := by decide +kernel
theorem dX11_holdsBond_356 : decode cX11_holdsBond 356 = .ok (.if_icmp .ne 7, 3) := by decide +kernel
theorem dX11_holdsBond_359 : decode cX11_holdsBond 359 = .ok (.iconst 1, 1) := by decide +kernel
theorem dX11_holdsBond_360 : decode cX11_holdsBond 360 = .ok (.goto 4, 3) := by decide +kernel
theorem dX11_holdsBond_363 : decode cX11_holdsBond 363 = .ok (.iconst 0, 1) := by decide +kernel
theorem dX11_holdsBond_364 : decode cX11_holdsBond 364 = .ok (.if_icmp .ne 7, 3) := by decide +kernel
theorem dX11_holdsBond_367 : decode cX11_holdsBond 367 = .ok (.iconst 1, 1) := by decide +kernel
theorem dX11_holdsBond_368 : decode cX11_holdsBond 368 = .ok (.goto 4, 3) := by decide +kernel
theorem dX11_holdsBond_371 : decode cX11_holdsBond 371 = .ok (.iconst 0, 1) := by decide +kernel
theorem dX11_holdsBond_372 : decode cX11_holdsBond 372 = .ok (.ireturn, 1) := by decide +kernel
theorem dX11_holdsBond_373 : decode cX11_holdsBond 373 = .ok (.iload_n 3, 1) := by decide +kernel
theorem dX11_holdsBond_374 : decode cX11_holdsBond 374 = .ok (.iconst 1, 1) := by decide +kernel
theorem dX11_holdsBond_375 : decode cX11_holdsBond 375 = .ok (.if_icmp .ne 11, 3) := by decide +kernel
theorem dX11_holdsBond_378 : decode cX11_holdsBond 378 = .ok (.aload_n 0, 1) := by decide +kernel
theorem dX11_holdsBond_379 : decode cX11_holdsBond 379 = .ok (.iload_n 2, 1) := by decide +kernel
theorem dX11_holdsBond_380 : decode cX11_holdsBond 380 = .ok (.invokevirtual 101, 3) := by decide +kernel
theorem dX11_holdsBond_383 : decode cX11_holdsBond 383 = .ok (.ifCond .eq 7, 3) := by decide +kernel
theorem dX11_holdsBond_386 : decode cX11_holdsBond 386 = .ok (.iconst 1, 1) := by decide +kernel
theorem dX11_holdsBond_387 : decode cX11_holdsBond 387 = .ok (.goto 4, 3) := by decide +kernel
theorem dX11_holdsBond_390 : decode cX11_holdsBond 390 = .ok (.iconst 0, 1) := by decide +kernel
theorem dX11_holdsBond_391 : decode cX11_holdsBond 391 = .ok (.ireturn, 1) := by decide +kernel
theorem dX11_holdsBond_392 : decode cX11_holdsBond 392 = .ok (.iload_n 3, 1) := by decide +kernel
theorem dX11_holdsBond_393 : decode cX11_holdsBond 393 = .ok (.iconst 4, 1) := by decide +kernel
theorem dX11_holdsBond_394 : decode cX11_holdsBond 394 = .ok (.if_icmp .lt 33, 3) := by decide +kernel
theorem dX11_holdsBond_397 : decode cX11_holdsBond 397 = .ok (.iload_n 3, 1) := by decide +kernel
theorem dX11_holdsBond_398 : decode cX11_holdsBond 398 = .ok (.bipush 6, 2) := by decide +kernel
theorem dX11_holdsBond_400 : decode cX11_holdsBond 400 = .ok (.if_icmp .gt 27, 3) := by decide +kernel
theorem dX11_holdsBond_403 : decode cX11_holdsBond 403 = .ok (.aload_n 0, 1) := by decide +kernel
theorem dX11_holdsBond_404 : decode cX11_holdsBond 404 = .ok (.iload 5, 2) := by decide +kernel
theorem dX11_holdsBond_406 : decode cX11_holdsBond 406 = .ok (.invokevirtual 53, 3) := by decide +kernel
theorem dX11_holdsBond_409 : decode cX11_holdsBond 409 = .ok (.iload 4, 2) := by decide +kernel
theorem dX11_holdsBond_411 : decode cX11_holdsBond 411 = .ok (.if_icmp .gt 14, 3) := by decide +kernel
theorem dX11_holdsBond_414 : decode cX11_holdsBond 414 = .ok (.aload_n 0, 1) := by decide +kernel
theorem dX11_holdsBond_415 : decode cX11_holdsBond 415 = .ok (.iload 5, 2) := by decide +kernel
theorem dX11_holdsBond_417 : decode cX11_holdsBond 417 = .ok (.iload 4, 2) := by decide +kernel
theorem dX11_holdsBond_419 : decode cX11_holdsBond 419 = .ok (.invokevirtual 95, 3) := by decide +kernel
theorem dX11_holdsBond_422 : decode cX11_holdsBond 422 = .ok (.ifCond .eq 5, 3) := by decide +kernel
theorem dX11_holdsBond_425 : decode cX11_holdsBond 425 = .ok (.iconst 0, 1) := by decide +kernel
theorem dX11_holdsBond_426 : decode cX11_holdsBond 426 = .ok (.ireturn, 1) := by decide +kernel
theorem dX11_holdsBond_427 : decode cX11_holdsBond 427 = .ok (.iload_n 3, 1) := by decide +kernel
theorem dX11_holdsBond_428 : decode cX11_holdsBond 428 = .ok (.iconst 5, 1) := by decide +kernel
theorem dX11_holdsBond_429 : decode cX11_holdsBond 429 = .ok (.if_icmp .lt 22, 3) := by decide +kernel
theorem dX11_holdsBond_432 : decode cX11_holdsBond 432 = .ok (.iload 4, 2) := by decide +kernel
theorem dX11_holdsBond_434 : decode cX11_holdsBond 434 = .ok (.aload_n 0, 1) := by decide +kernel
theorem dX11_holdsBond_435 : decode cX11_holdsBond 435 = .ok (.getfield 31, 3) := by decide +kernel
theorem dX11_holdsBond_438 : decode cX11_holdsBond 438 = .ok (.aload_n 0, 1) := by decide +kernel
theorem dX11_holdsBond_439 : decode cX11_holdsBond 439 = .ok (.getfield 25, 3) := by decide +kernel
theorem dX11_holdsBond_442 : decode cX11_holdsBond 442 = .ok (.iload 6, 2) := by decide +kernel
theorem dX11_holdsBond_444 : decode cX11_holdsBond 444 = .ok (.iaload, 1) := by decide +kernel
theorem dX11_holdsBond_445 : decode cX11_holdsBond 445 = .ok (.iaload, 1) := by decide +kernel
theorem dX11_holdsBond_446 : decode cX11_holdsBond 446 = .ok (.if_icmp .ge 5, 3) := by decide +kernel
theorem dX11_holdsBond_449 : decode cX11_holdsBond 449 = .ok (.iconst 0, 1) := by decide +kernel
theorem dX11_holdsBond_450 : decode cX11_holdsBond 450 = .ok (.ireturn, 1) := by decide +kernel
theorem dX11_holdsBond_451 : decode cX11_holdsBond 451 = .ok (.iload_n 3, 1) := by decide +kernel
theorem dX11_holdsBond_452 : decode cX11_holdsBond 452 = .ok (.iconst 5, 1) := by decide +kernel
theorem dX11_holdsBond_453 : decode cX11_holdsBond 453 = .ok (.if_icmp .ne 11, 3) := by decide +kernel
theorem dX11_holdsBond_456 : decode cX11_holdsBond 456 = .ok (.aload_n 0, 1) := by decide +kernel
theorem dX11_holdsBond_457 : decode cX11_holdsBond 457 = .ok (.iload_n 2, 1) := by decide +kernel
theorem dX11_holdsBond_458 : decode cX11_holdsBond 458 = .ok (.invokevirtual 89, 3) := by decide +kernel
theorem dX11_holdsBond_461 : decode cX11_holdsBond 461 = .ok (.goto 30, 3) := by decide +kernel
theorem dX11_holdsBond_464 : decode cX11_holdsBond 464 = .ok (.iload_n 3, 1) := by decide +kernel
theorem dX11_holdsBond_465 : decode cX11_holdsBond 465 = .ok (.bipush 6, 2) := by decide +kernel
theorem dX11_holdsBond_467 : decode cX11_holdsBond 467 = .ok (.if_icmp .ne 19, 3) := by decide +kernel
theorem dX11_holdsBond_470 : decode cX11_holdsBond 470 = .ok (.aload_n 0, 1) := by decide +kernel
theorem dX11_holdsBond_471 : decode cX11_holdsBond 471 = .ok (.getfield 28, 3) := by decide +kernel
theorem dX11_holdsBond_474 : decode cX11_holdsBond 474 = .ok (.aload_n 0, 1) := by decide +kernel
theorem dX11_holdsBond_475 : decode cX11_holdsBond 475 = .ok (.getfield 25, 3) := by decide +kernel
theorem dX11_holdsBond_478 : decode cX11_holdsBond 478 = .ok (.iload 6, 2) := by decide +kernel
theorem dX11_holdsBond_480 : decode cX11_holdsBond 480 = .ok (.iaload, 1) := by decide +kernel
theorem dX11_holdsBond_481 : decode cX11_holdsBond 481 = .ok (.iaload, 1) := by decide +kernel
theorem dX11_holdsBond_482 : decode cX11_holdsBond 482 = .ok (.iconst 5, 1) := by decide +kernel
theorem dX11_holdsBond_483 : decode cX11_holdsBond 483 = .ok (.if_icmp .ne 7, 3) := by decide +kernel
theorem dX11_holdsBond_486 : decode cX11_holdsBond 486 = .ok (.iconst 1, 1) := by decide +kernel
theorem dX11_holdsBond_487 : decode cX11_holdsBond 487 = .ok (.goto 4, 3) := by decide +kernel
theorem dX11_holdsBond_490 : decode cX11_holdsBond 490 = .ok (.iconst 0, 1) := by decide +kernel
theorem dX11_holdsBond_491 : decode cX11_holdsBond 491 = .ok (.ireturn, 1) := by decide +kernel
theorem dX11_holdsBond_492 : decode cX11_holdsBond 492 = .ok (.iload_n 3, 1) := by decide +kernel
theorem dX11_holdsBond_493 : decode cX11_holdsBond 493 = .ok (.bipush 7, 2) := by decide +kernel
theorem dX11_holdsBond_495 : decode cX11_holdsBond 495 = .ok (.if_icmp .lt 40, 3) := by decide +kernel
theorem dX11_holdsBond_498 : decode cX11_holdsBond 498 = .ok (.aload_n 0, 1) := by decide +kernel
theorem dX11_holdsBond_499 : decode cX11_holdsBond 499 = .ok (.iload_n 2, 1) := by decide +kernel
theorem dX11_holdsBond_500 : decode cX11_holdsBond 500 = .ok (.invokevirtual 98, 3) := by decide +kernel
theorem dX11_holdsBond_503 : decode cX11_holdsBond 503 = .ok (.iconst 2, 1) := by decide +kernel
theorem dX11_holdsBond_504 : decode cX11_holdsBond 504 = .ok (.irem, 1) := by decide +kernel
theorem dX11_holdsBond_505 : decode cX11_holdsBond 505 = .ok (.ifCond .ne 7, 3) := by decide +kernel
theorem dX11_holdsBond_508 : decode cX11_holdsBond 508 = .ok (.iconst 1, 1) := by decide +kernel
theorem dX11_holdsBond_509 : decode cX11_holdsBond 509 = .ok (.goto 4, 3) := by decide +kernel
theorem dX11_holdsBond_512 : decode cX11_holdsBond 512 = .ok (.iconst 0, 1) := by decide +kernel
theorem dX11_holdsBond_513 : decode cX11_holdsBond 513 = .ok (.iload_n 3, 1) := by decide +kernel
theorem dX11_holdsBond_514 : decode cX11_holdsBond 514 = .ok (.bipush 7, 2) := by decide +kernel
theorem dX11_holdsBond_516 : decode cX11_holdsBond 516 = .ok (.if_icmp .ne 7, 3) := by decide +kernel
theorem dX11_holdsBond_519 : decode cX11_holdsBond 519 = .ok (.iconst 1, 1) := by decide +kernel
theorem dX11_holdsBond_520 : decode cX11_holdsBond 520 = .ok (.goto 4, 3) := by decide +kernel
theorem dX11_holdsBond_523 : decode cX11_holdsBond 523 = .ok (.iconst 0, 1) := by decide +kernel
theorem dX11_holdsBond_524 : decode cX11_holdsBond 524 = .ok (.if_icmp .ne 15, 3) := by decide +kernel
theorem dX11_holdsBond_527 : decode cX11_holdsBond 527 = .ok (.aload_n 0, 1) := by decide +kernel
theorem dX11_holdsBond_528 : decode cX11_holdsBond 528 = .ok (.iload_n 2, 1) := by decide +kernel
theorem dX11_holdsBond_529 : decode cX11_holdsBond 529 = .ok (.invokevirtual 104, 3) := by decide +kernel
theorem dX11_holdsBond_532 : decode cX11_holdsBond 532 = .ok (.ifCond .eq 7, 3) := by decide +kernel
theorem dX11_holdsBond_535 : decode cX11_holdsBond 535 = .ok (.iconst 1, 1) := by decide +kernel
theorem dX11_holdsBond_536 : decode cX11_holdsBond 536 = .ok (.goto 4, 3) := by decide +kernel
theorem dX11_holdsBond_539 : decode cX11_holdsBond 539 = .ok (.iconst 0, 1) := by decide +kernel
theorem dX11_holdsBond_540 : decode cX11_holdsBond 540 = .ok (.ireturn, 1) := by decide +kernel
theorem dX11_isOnce_0 : decode cX11_isOnce 0 = .ok (.iconst 1, 1) := by decide +kernel
theorem dX11_isOnce_1 : decode cX11_isOnce 1 = .ok (.istore_n 2, 1) := by decide +kernel
theorem dX11_isOnce_2 : decode cX11_isOnce 2 = .ok (.iconst 0, 1) := by decide +kernel
theorem dX11_isOnce_3 : decode cX11_isOnce 3 = .ok (.istore_n 3, 1) := by decide +kernel
theorem dX11_isOnce_4 : decode cX11_isOnce 4 = .ok (.iload_n 3, 1) := by decide +kernel
theorem dX11_isOnce_5 : decode cX11_isOnce 5 = .ok (.aload_n 0, 1) := by decide +kernel
theorem dX11_isOnce_6 : decode cX11_isOnce 6 = .ok (.getfield 40, 3) := by decide +kernel
theorem dX11_isOnce_9 : decode cX11_isOnce 9 = .ok (.if_icmp .ge 88, 3) := by decide +kernel
theorem dX11_isOnce_12 : decode cX11_isOnce 12 = .ok (.iload_n 2, 1) := by decide +kernel
theorem dX11_isOnce_13 : decode cX11_isOnce 13 = .ok (.ifCond .eq 76, 3) := by decide +kernel
theorem dX11_isOnce_16 : decode cX11_isOnce 16 = .ok (.iload_n 3, 1) := by decide +kernel
theorem dX11_isOnce_17 : decode cX11_isOnce 17 = .ok (.iload_n 1, 1) := by decide +kernel
theorem dX11_isOnce_18 : decode cX11_isOnce 18 = .ok (.if_icmp .eq 67, 3) := by decide +kernel
theorem dX11_isOnce_21 : decode cX11_isOnce 21 = .ok (.aload_n 0, 1) := by decide +kernel
theorem dX11_isOnce_22 : decode cX11_isOnce 22 = .ok (.getfield 14, 3) := by decide +kernel
theorem dX11_isOnce_25 : decode cX11_isOnce 25 = .ok (.iload_n 3, 1) := by decide +kernel
theorem dX11_isOnce_26 : decode cX11_isOnce 26 = .ok (.baload, 1) := by decide +kernel
theorem dX11_isOnce_27 : decode cX11_isOnce 27 = .ok (.ifCond .eq 58, 3) := by decide +kernel
theorem dX11_isOnce_30 : decode cX11_isOnce 30 = .ok (.aload_n 0, 1) := by decide +kernel
theorem dX11_isOnce_31 : decode cX11_isOnce 31 = .ok (.getfield 43, 3) := by decide +kernel
theorem dX11_isOnce_34 : decode cX11_isOnce 34 = .ok (.iload_n 3, 1) := by decide +kernel
theorem dX11_isOnce_35 : decode cX11_isOnce 35 = .ok (.iaload, 1) := by decide +kernel
theorem dX11_isOnce_36 : decode cX11_isOnce 36 = .ok (.aload_n 0, 1) := by decide +kernel
theorem dX11_isOnce_37 : decode cX11_isOnce 37 = .ok (.getfield 43, 3) := by decide +kernel
theorem dX11_isOnce_40 : decode cX11_isOnce 40 = .ok (.iload_n 1, 1) := by decide +kernel
theorem dX11_isOnce_41 : decode cX11_isOnce 41 = .ok (.iaload, 1) := by decide +kernel
theorem dX11_isOnce_42 : decode cX11_isOnce 42 = .ok (.if_icmp .ne 43, 3) := by decide +kernel
theorem dX11_isOnce_45 : decode cX11_isOnce 45 = .ok (.aload_n 0, 1) := by decide +kernel
theorem dX11_isOnce_46 : decode cX11_isOnce 46 = .ok (.getfield 46, 3) := by decide +kernel
theorem dX11_isOnce_49 : decode cX11_isOnce 49 = .ok (.iload_n 3, 1) := by decide +kernel
theorem dX11_isOnce_50 : decode cX11_isOnce 50 = .ok (.iaload, 1) := by decide +kernel
theorem dX11_isOnce_51 : decode cX11_isOnce 51 = .ok (.aload_n 0, 1) := by decide +kernel
theorem dX11_isOnce_52 : decode cX11_isOnce 52 = .ok (.getfield 46, 3) := by decide +kernel
theorem dX11_isOnce_55 : decode cX11_isOnce 55 = .ok (.iload_n 1, 1) := by decide +kernel
theorem dX11_isOnce_56 : decode cX11_isOnce 56 = .ok (.iaload, 1) := by decide +kernel
theorem dX11_isOnce_57 : decode cX11_isOnce 57 = .ok (.if_icmp .ne 28, 3) := by decide +kernel
theorem dX11_isOnce_60 : decode cX11_isOnce 60 = .ok (.aload_n 0, 1) := by decide +kernel
theorem dX11_isOnce_61 : decode cX11_isOnce 61 = .ok (.getfield 43, 3) := by decide +kernel
theorem dX11_isOnce_64 : decode cX11_isOnce 64 = .ok (.iload_n 1, 1) := by decide +kernel
theorem dX11_isOnce_65 : decode cX11_isOnce 65 = .ok (.iaload, 1) := by decide +kernel
theorem dX11_isOnce_66 : decode cX11_isOnce 66 = .ok (.iconst 5, 1) := by decide +kernel
theorem dX11_isOnce_67 : decode cX11_isOnce 67 = .ok (.if_icmp .ne 22, 3) := by decide +kernel
theorem dX11_isOnce_70 : decode cX11_isOnce 70 = .ok (.aload_n 0, 1) := by decide +kernel
theorem dX11_isOnce_71 : decode cX11_isOnce 71 = .ok (.getfield 34, 3) := by decide +kernel
theorem dX11_isOnce_74 : decode cX11_isOnce 74 = .ok (.iload_n 3, 1) := by decide +kernel
theorem dX11_isOnce_75 : decode cX11_isOnce 75 = .ok (.iaload, 1) := by decide +kernel
theorem dX11_isOnce_76 : decode cX11_isOnce 76 = .ok (.aload_n 0, 1) := by decide +kernel
theorem dX11_isOnce_77 : decode cX11_isOnce 77 = .ok (.getfield 34, 3) := by decide +kernel
theorem dX11_isOnce_80 : decode cX11_isOnce 80 = .ok (.iload_n 1, 1) := by decide +kernel
theorem dX11_isOnce_81 : decode cX11_isOnce 81 = .ok (.iaload, 1) := by decide +kernel
theorem dX11_isOnce_82 : decode cX11_isOnce 82 = .ok (.if_icmp .eq 7, 3) := by decide +kernel
theorem dX11_isOnce_85 : decode cX11_isOnce 85 = .ok (.iconst 1, 1) := by decide +kernel
theorem dX11_isOnce_86 : decode cX11_isOnce 86 = .ok (.goto 4, 3) := by decide +kernel
theorem dX11_isOnce_89 : decode cX11_isOnce 89 = .ok (.iconst 0, 1) := by decide +kernel
theorem dX11_isOnce_90 : decode cX11_isOnce 90 = .ok (.istore_n 2, 1) := by decide +kernel
theorem dX11_isOnce_91 : decode cX11_isOnce 91 = .ok (.iinc 3 1, 3) := by decide +kernel
theorem dX11_isOnce_94 : decode cX11_isOnce 94 = .ok (.goto (-90), 3) := by decide +kernel
theorem dX11_isOnce_97 : decode cX11_isOnce 97 = .ok (.iload_n 2, 1) := by decide +kernel
theorem dX11_isOnce_98 : decode cX11_isOnce 98 = .ok (.ireturn, 1) := by decide +kernel
theorem dX11_isOnlyOfItsDay_0 : decode cX11_isOnlyOfItsDay 0 = .ok (.iconst 1, 1) := by decide +kernel
theorem dX11_isOnlyOfItsDay_1 : decode cX11_isOnlyOfItsDay 1 = .ok (.istore_n 2, 1) := by decide +kernel
theorem dX11_isOnlyOfItsDay_2 : decode cX11_isOnlyOfItsDay 2 = .ok (.iconst 0, 1) := by decide +kernel
theorem dX11_isOnlyOfItsDay_3 : decode cX11_isOnlyOfItsDay 3 = .ok (.istore_n 3, 1) := by decide +kernel
theorem dX11_isOnlyOfItsDay_4 : decode cX11_isOnlyOfItsDay 4 = .ok (.iload_n 3, 1) := by decide +kernel
theorem dX11_isOnlyOfItsDay_5 : decode cX11_isOnlyOfItsDay 5 = .ok (.aload_n 0, 1) := by decide +kernel
theorem dX11_isOnlyOfItsDay_6 : decode cX11_isOnlyOfItsDay 6 = .ok (.getfield 40, 3) := by decide +kernel
theorem dX11_isOnlyOfItsDay_9 : decode cX11_isOnlyOfItsDay 9 = .ok (.if_icmp .ge 74, 3) := by decide +kernel
theorem dX11_isOnlyOfItsDay_12 : decode cX11_isOnlyOfItsDay 12 = .ok (.iload_n 2, 1) := by decide +kernel
theorem dX11_isOnlyOfItsDay_13 : decode cX11_isOnlyOfItsDay 13 = .ok (.ifCond .eq 62, 3) := by decide +kernel
theorem dX11_isOnlyOfItsDay_16 : decode cX11_isOnlyOfItsDay 16 = .ok (.iload_n 3, 1) := by decide +kernel
theorem dX11_isOnlyOfItsDay_17 : decode cX11_isOnlyOfItsDay 17 = .ok (.iload_n 1, 1) := by decide +kernel
theorem dX11_isOnlyOfItsDay_18 : decode cX11_isOnlyOfItsDay 18 = .ok (.if_icmp .eq 53, 3) := by decide +kernel
theorem dX11_isOnlyOfItsDay_21 : decode cX11_isOnlyOfItsDay 21 = .ok (.aload_n 0, 1) := by decide +kernel
theorem dX11_isOnlyOfItsDay_22 : decode cX11_isOnlyOfItsDay 22 = .ok (.getfield 14, 3) := by decide +kernel
theorem dX11_isOnlyOfItsDay_25 : decode cX11_isOnlyOfItsDay 25 = .ok (.iload_n 3, 1) := by decide +kernel
theorem dX11_isOnlyOfItsDay_26 : decode cX11_isOnlyOfItsDay 26 = .ok (.baload, 1) := by decide +kernel
theorem dX11_isOnlyOfItsDay_27 : decode cX11_isOnlyOfItsDay 27 = .ok (.ifCond .eq 44, 3) := by decide +kernel
theorem dX11_isOnlyOfItsDay_30 : decode cX11_isOnlyOfItsDay 30 = .ok (.aload_n 0, 1) := by decide +kernel
theorem dX11_isOnlyOfItsDay_31 : decode cX11_isOnlyOfItsDay 31 = .ok (.getfield 43, 3) := by decide +kernel
theorem dX11_isOnlyOfItsDay_34 : decode cX11_isOnlyOfItsDay 34 = .ok (.iload_n 3, 1) := by decide +kernel
theorem dX11_isOnlyOfItsDay_35 : decode cX11_isOnlyOfItsDay 35 = .ok (.iaload, 1) := by decide +kernel
theorem dX11_isOnlyOfItsDay_36 : decode cX11_isOnlyOfItsDay 36 = .ok (.bipush 7, 2) := by decide +kernel
theorem dX11_isOnlyOfItsDay_38 : decode cX11_isOnlyOfItsDay 38 = .ok (.if_icmp .lt 33, 3) := by decide +kernel
theorem dX11_isOnlyOfItsDay_41 : decode cX11_isOnlyOfItsDay 41 = .ok (.aload_n 0, 1) := by decide +kernel
theorem dX11_isOnlyOfItsDay_42 : decode cX11_isOnlyOfItsDay 42 = .ok (.getfield 34, 3) := by decide +kernel
theorem dX11_isOnlyOfItsDay_45 : decode cX11_isOnlyOfItsDay 45 = .ok (.iload_n 3, 1) := by decide +kernel
theorem dX11_isOnlyOfItsDay_46 : decode cX11_isOnlyOfItsDay 46 = .ok (.iaload, 1) := by decide +kernel
theorem dX11_isOnlyOfItsDay_47 : decode cX11_isOnlyOfItsDay 47 = .ok (.aload_n 0, 1) := by decide +kernel
theorem dX11_isOnlyOfItsDay_48 : decode cX11_isOnlyOfItsDay 48 = .ok (.getfield 34, 3) := by decide +kernel
theorem dX11_isOnlyOfItsDay_51 : decode cX11_isOnlyOfItsDay 51 = .ok (.iload_n 1, 1) := by decide +kernel
theorem dX11_isOnlyOfItsDay_52 : decode cX11_isOnlyOfItsDay 52 = .ok (.iaload, 1) := by decide +kernel
theorem dX11_isOnlyOfItsDay_53 : decode cX11_isOnlyOfItsDay 53 = .ok (.if_icmp .ne 18, 3) := by decide +kernel
theorem dX11_isOnlyOfItsDay_56 : decode cX11_isOnlyOfItsDay 56 = .ok (.aload_n 0, 1) := by decide +kernel
theorem dX11_isOnlyOfItsDay_57 : decode cX11_isOnlyOfItsDay 57 = .ok (.getfield 31, 3) := by decide +kernel
theorem dX11_isOnlyOfItsDay_60 : decode cX11_isOnlyOfItsDay 60 = .ok (.iload_n 3, 1) := by decide +kernel
theorem dX11_isOnlyOfItsDay_61 : decode cX11_isOnlyOfItsDay 61 = .ok (.iaload, 1) := by decide +kernel
theorem dX11_isOnlyOfItsDay_62 : decode cX11_isOnlyOfItsDay 62 = .ok (.aload_n 0, 1) := by decide +kernel
theorem dX11_isOnlyOfItsDay_63 : decode cX11_isOnlyOfItsDay 63 = .ok (.getfield 31, 3) := by decide +kernel
theorem dX11_isOnlyOfItsDay_66 : decode cX11_isOnlyOfItsDay 66 = .ok (.iload_n 1, 1) := by decide +kernel
theorem dX11_isOnlyOfItsDay_67 : decode cX11_isOnlyOfItsDay 67 = .ok (.iaload, 1) := by decide +kernel
theorem dX11_isOnlyOfItsDay_68 : decode cX11_isOnlyOfItsDay 68 = .ok (.if_icmp .eq 7, 3) := by decide +kernel
theorem dX11_isOnlyOfItsDay_71 : decode cX11_isOnlyOfItsDay 71 = .ok (.iconst 1, 1) := by decide +kernel
theorem dX11_isOnlyOfItsDay_72 : decode cX11_isOnlyOfItsDay 72 = .ok (.goto 4, 3) := by decide +kernel
theorem dX11_isOnlyOfItsDay_75 : decode cX11_isOnlyOfItsDay 75 = .ok (.iconst 0, 1) := by decide +kernel
theorem dX11_isOnlyOfItsDay_76 : decode cX11_isOnlyOfItsDay 76 = .ok (.istore_n 2, 1) := by decide +kernel
theorem dX11_isOnlyOfItsDay_77 : decode cX11_isOnlyOfItsDay 77 = .ok (.iinc 3 1, 3) := by decide +kernel
theorem dX11_isOnlyOfItsDay_80 : decode cX11_isOnlyOfItsDay 80 = .ok (.goto (-76), 3) := by decide +kernel
theorem dX11_isOnlyOfItsDay_83 : decode cX11_isOnlyOfItsDay 83 = .ok (.iload_n 2, 1) := by decide +kernel
theorem dX11_isOnlyOfItsDay_84 : decode cX11_isOnlyOfItsDay 84 = .ok (.ireturn, 1) := by decide +kernel
theorem dX11_isAlone_0 : decode cX11_isAlone 0 = .ok (.iconst 1, 1) := by decide +kernel
theorem dX11_isAlone_1 : decode cX11_isAlone 1 = .ok (.istore_n 2, 1) := by decide +kernel
theorem dX11_isAlone_2 : decode cX11_isAlone 2 = .ok (.aload_n 0, 1) := by decide +kernel
theorem dX11_isAlone_3 : decode cX11_isAlone 3 = .ok (.iload_n 1, 1) := by decide +kernel
theorem dX11_isAlone_4 : decode cX11_isAlone 4 = .ok (.invokevirtual 69, 3) := by decide +kernel
theorem dX11_isAlone_7 : decode cX11_isAlone 7 = .ok (.istore_n 3, 1) := by decide +kernel
theorem dX11_isAlone_8 : decode cX11_isAlone 8 = .ok (.iconst 0, 1) := by decide +kernel
theorem dX11_isAlone_9 : decode cX11_isAlone 9 = .ok (.istore 4, 2) := by decide +kernel
theorem dX11_isAlone_11 : decode cX11_isAlone 11 = .ok (.iload 4, 2) := by decide +kernel
theorem dX11_isAlone_13 : decode cX11_isAlone 13 = .ok (.aload_n 0, 1) := by decide +kernel
theorem dX11_isAlone_14 : decode cX11_isAlone 14 = .ok (.getfield 40, 3) := by decide +kernel
theorem dX11_isAlone_17 : decode cX11_isAlone 17 = .ok (.if_icmp .ge 107, 3) := by decide +kernel
theorem dX11_isAlone_20 : decode cX11_isAlone 20 = .ok (.iload_n 2, 1) := by decide +kernel
theorem dX11_isAlone_21 : decode cX11_isAlone 21 = .ok (.ifCond .eq 103, 3) := by decide +kernel
theorem dX11_isAlone_24 : decode cX11_isAlone 24 = .ok (.iload 4, 2) := by decide +kernel
theorem dX11_isAlone_26 : decode cX11_isAlone 26 = .ok (.iload_n 1, 1) := by decide +kernel
theorem dX11_isAlone_27 : decode cX11_isAlone 27 = .ok (.if_icmp .eq 91, 3) := by decide +kernel
theorem dX11_isAlone_30 : decode cX11_isAlone 30 = .ok (.aload_n 0, 1) := by decide +kernel
theorem dX11_isAlone_31 : decode cX11_isAlone 31 = .ok (.getfield 14, 3) := by decide +kernel
theorem dX11_isAlone_34 : decode cX11_isAlone 34 = .ok (.iload 4, 2) := by decide +kernel
theorem dX11_isAlone_36 : decode cX11_isAlone 36 = .ok (.baload, 1) := by decide +kernel
theorem dX11_isAlone_37 : decode cX11_isAlone 37 = .ok (.ifCond .eq 81, 3) := by decide +kernel
theorem dX11_isAlone_40 : decode cX11_isAlone 40 = .ok (.aload_n 0, 1) := by decide +kernel
theorem dX11_isAlone_41 : decode cX11_isAlone 41 = .ok (.getfield 43, 3) := by decide +kernel
theorem dX11_isAlone_44 : decode cX11_isAlone 44 = .ok (.iload 4, 2) := by decide +kernel
theorem dX11_isAlone_46 : decode cX11_isAlone 46 = .ok (.iaload, 1) := by decide +kernel
theorem dX11_isAlone_47 : decode cX11_isAlone 47 = .ok (.iconst 1, 1) := by decide +kernel
theorem dX11_isAlone_48 : decode cX11_isAlone 48 = .ok (.if_icmp .ne 70, 3) := by decide +kernel
theorem dX11_isAlone_51 : decode cX11_isAlone 51 = .ok (.aload_n 0, 1) := by decide +kernel
theorem dX11_isAlone_52 : decode cX11_isAlone 52 = .ok (.getfield 46, 3) := by decide +kernel
theorem dX11_isAlone_55 : decode cX11_isAlone 55 = .ok (.iload 4, 2) := by decide +kernel
theorem dX11_isAlone_57 : decode cX11_isAlone 57 = .ok (.iaload, 1) := by decide +kernel
theorem dX11_isAlone_58 : decode cX11_isAlone 58 = .ok (.aload_n 0, 1) := by decide +kernel
theorem dX11_isAlone_59 : decode cX11_isAlone 59 = .ok (.getfield 46, 3) := by decide +kernel
theorem dX11_isAlone_62 : decode cX11_isAlone 62 = .ok (.iload_n 1, 1) := by decide +kernel
theorem dX11_isAlone_63 : decode cX11_isAlone 63 = .ok (.iaload, 1) := by decide +kernel
theorem dX11_isAlone_64 : decode cX11_isAlone 64 = .ok (.if_icmp .eq 22, 3) := by decide +kernel
theorem dX11_isAlone_67 : decode cX11_isAlone 67 = .ok (.aload_n 0, 1) := by decide +kernel
theorem dX11_isAlone_68 : decode cX11_isAlone 68 = .ok (.getfield 34, 3) := by decide +kernel
theorem dX11_isAlone_71 : decode cX11_isAlone 71 = .ok (.iload 4, 2) := by decide +kernel
theorem dX11_isAlone_73 : decode cX11_isAlone 73 = .ok (.iaload, 1) := by decide +kernel
theorem dX11_isAlone_74 : decode cX11_isAlone 74 = .ok (.aload_n 0, 1) := by decide +kernel
theorem dX11_isAlone_75 : decode cX11_isAlone 75 = .ok (.getfield 34, 3) := by decide +kernel
theorem dX11_isAlone_78 : decode cX11_isAlone 78 = .ok (.iload_n 1, 1) := by decide +kernel
theorem dX11_isAlone_79 : decode cX11_isAlone 79 = .ok (.iaload, 1) := by decide +kernel
theorem dX11_isAlone_80 : decode cX11_isAlone 80 = .ok (.if_icmp .eq 6, 3) := by decide +kernel
theorem dX11_isAlone_83 : decode cX11_isAlone 83 = .ok (.goto 35, 3) := by decide +kernel
theorem dX11_isAlone_86 : decode cX11_isAlone 86 = .ok (.aload_n 0, 1) := by decide +kernel
theorem dX11_isAlone_87 : decode cX11_isAlone 87 = .ok (.getfield 31, 3) := by decide +kernel
theorem dX11_isAlone_90 : decode cX11_isAlone 90 = .ok (.iload 4, 2) := by decide +kernel
theorem dX11_isAlone_92 : decode cX11_isAlone 92 = .ok (.iaload, 1) := by decide +kernel
theorem dX11_isAlone_93 : decode cX11_isAlone 93 = .ok (.iload_n 3, 1) := by decide +kernel
theorem dX11_isAlone_94 : decode cX11_isAlone 94 = .ok (.if_icmp .gt 18, 3) := by decide +kernel
theorem dX11_isAlone_97 : decode cX11_isAlone 97 = .ok (.aload_n 0, 1) := by decide +kernel
theorem dX11_isAlone_98 : decode cX11_isAlone 98 = .ok (.iload 4, 2) := by decide +kernel
theorem dX11_isAlone_100 : decode cX11_isAlone 100 = .ok (.invokevirtual 69, 3) := by decide +kernel
theorem dX11_isAlone_103 : decode cX11_isAlone 103 = .ok (.aload_n 0, 1) := by decide +kernel
theorem dX11_isAlone_104 : decode cX11_isAlone 104 = .ok (.getfield 31, 3) := by decide +kernel
theorem dX11_isAlone_107 : decode cX11_isAlone 107 = .ok (.iload_n 1, 1) := by decide +kernel
theorem dX11_isAlone_108 : decode cX11_isAlone 108 = .ok (.iaload, 1) := by decide +kernel
theorem dX11_isAlone_109 : decode cX11_isAlone 109 = .ok (.if_icmp .ge 7, 3) := by decide +kernel
theorem dX11_isAlone_112 : decode cX11_isAlone 112 = .ok (.iconst 1, 1) := by decide +kernel
theorem dX11_isAlone_113 : decode cX11_isAlone 113 = .ok (.goto 4, 3) := by decide +kernel
theorem dX11_isAlone_116 : decode cX11_isAlone 116 = .ok (.iconst 0, 1) := by decide +kernel
theorem dX11_isAlone_117 : decode cX11_isAlone 117 = .ok (.istore_n 2, 1) := by decide +kernel
theorem dX11_isAlone_118 : decode cX11_isAlone 118 = .ok (.iinc 4 1, 3) := by decide +kernel
theorem dX11_isAlone_121 : decode cX11_isAlone 121 = .ok (.goto (-110), 3) := by decide +kernel
theorem dX11_isAlone_124 : decode cX11_isAlone 124 = .ok (.iload_n 2, 1) := by decide +kernel
theorem dX11_isAlone_125 : decode cX11_isAlone 125 = .ok (.ireturn, 1) := by decide +kernel
theorem dX11_broken_0 : decode cX11_broken 0 = .ok (.iconst 1, 1) := by decide +kernel
theorem dX11_broken_1 : decode cX11_broken 1 = .ok (.istore_n 1, 1) := by decide +kernel
theorem dX11_broken_2 : decode cX11_broken 2 = .ok (.iload_n 1, 1) := by decide +kernel
theorem dX11_broken_3 : decode cX11_broken 3 = .ok (.bipush 9, 2) := by decide +kernel
theorem dX11_broken_5 : decode cX11_broken 5 = .ok (.if_icmp .gt 45, 3) := by decide +kernel
theorem dX11_broken_8 : decode cX11_broken 8 = .ok (.iconst 0, 1) := by decide +kernel
theorem dX11_broken_9 : decode cX11_broken 9 = .ok (.istore_n 2, 1) := by decide +kernel
theorem dX11_broken_10 : decode cX11_broken 10 = .ok (.iload_n 2, 1) := by decide +kernel
theorem dX11_broken_11 : decode cX11_broken 11 = .ok (.aload_n 0, 1) := by decide +kernel
theorem dX11_broken_12 : decode cX11_broken 12 = .ok (.getfield 40, 3) := by decide +kernel
theorem dX11_broken_15 : decode cX11_broken 15 = .ok (.if_icmp .ge 29, 3) := by decide +kernel
theorem dX11_broken_18 : decode cX11_broken 18 = .ok (.aload_n 0, 1) := by decide +kernel
theorem dX11_broken_19 : decode cX11_broken 19 = .ok (.getfield 14, 3) := by decide +kernel
theorem dX11_broken_22 : decode cX11_broken 22 = .ok (.iload_n 2, 1) := by decide +kernel
theorem dX11_broken_23 : decode cX11_broken 23 = .ok (.baload, 1) := by decide +kernel
theorem dX11_broken_24 : decode cX11_broken 24 = .ok (.ifCond .eq 14, 3) := by decide +kernel
theorem dX11_broken_27 : decode cX11_broken 27 = .ok (.aload_n 0, 1) := by decide +kernel
theorem dX11_broken_28 : decode cX11_broken 28 = .ok (.iload_n 1, 1) := by decide +kernel
theorem dX11_broken_29 : decode cX11_broken 29 = .ok (.iload_n 2, 1) := by decide +kernel
theorem dX11_broken_30 : decode cX11_broken 30 = .ok (.invokevirtual 107, 3) := by decide +kernel
theorem dX11_broken_33 : decode cX11_broken 33 = .ok (.ifCond .ne 5, 3) := by decide +kernel
theorem dX11_broken_36 : decode cX11_broken 36 = .ok (.iload_n 1, 1) := by decide +kernel
theorem dX11_broken_37 : decode cX11_broken 37 = .ok (.ireturn, 1) := by decide +kernel
theorem dX11_broken_38 : decode cX11_broken 38 = .ok (.iinc 2 1, 3) := by decide +kernel
theorem dX11_broken_41 : decode cX11_broken 41 = .ok (.goto (-31), 3) := by decide +kernel
theorem dX11_broken_44 : decode cX11_broken 44 = .ok (.iinc 1 1, 3) := by decide +kernel
theorem dX11_broken_47 : decode cX11_broken 47 = .ok (.goto (-45), 3) := by decide +kernel
theorem dX11_broken_50 : decode cX11_broken 50 = .ok (.iconst 0, 1) := by decide +kernel
theorem dX11_broken_51 : decode cX11_broken 51 = .ok (.ireturn, 1) := by decide +kernel
theorem dX11_changed_0 : decode cX11_changed 0 = .ok (.aload_n 0, 1) := by decide +kernel
theorem dX11_changed_1 : decode cX11_changed 1 = .ok (.iconst 0, 1) := by decide +kernel
theorem dX11_changed_2 : decode cX11_changed 2 = .ok (.putfield 110, 3) := by decide +kernel
theorem dX11_changed_5 : decode cX11_changed 5 = .ok (.iconst 0, 1) := by decide +kernel
theorem dX11_changed_6 : decode cX11_changed 6 = .ok (.istore_n 1, 1) := by decide +kernel
theorem dX11_changed_7 : decode cX11_changed 7 = .ok (.iload_n 1, 1) := by decide +kernel
theorem dX11_changed_8 : decode cX11_changed 8 = .ok (.bipush 8, 2) := by decide +kernel
theorem dX11_changed_10 : decode cX11_changed 10 = .ok (.if_icmp .ge 16, 3) := by decide +kernel
theorem dX11_changed_13 : decode cX11_changed 13 = .ok (.aload_n 0, 1) := by decide +kernel
theorem dX11_changed_14 : decode cX11_changed 14 = .ok (.getfield 114, 3) := by decide +kernel
theorem dX11_changed_17 : decode cX11_changed 17 = .ok (.iload_n 1, 1) := by decide +kernel
theorem dX11_changed_18 : decode cX11_changed 18 = .ok (.iconst 0, 1) := by decide +kernel
theorem dX11_changed_19 : decode cX11_changed 19 = .ok (.bastore, 1) := by decide +kernel
theorem dX11_changed_20 : decode cX11_changed 20 = .ok (.iinc 1 1, 3) := by decide +kernel
theorem dX11_changed_23 : decode cX11_changed 23 = .ok (.goto (-16), 3) := by decide +kernel
theorem dX11_changed_26 : decode cX11_changed 26 = .ok (.return_, 1) := by decide +kernel
theorem dX11_bit_0 : decode cX11_bit 0 = .ok (.lconst 1, 1) := by decide +kernel
theorem dX11_bit_1 : decode cX11_bit 1 = .ok (.iload_n 0, 1) := by decide +kernel
theorem dX11_bit_2 : decode cX11_bit 2 = .ok (.lshl, 1) := by decide +kernel
theorem dX11_bit_3 : decode cX11_bit 3 = .ok (.lreturn, 1) := by decide +kernel
theorem dX11_isOlder_0 : decode cX11_isOlder 0 = .ok (.aload_n 0, 1) := by decide +kernel
theorem dX11_isOlder_1 : decode cX11_isOlder 1 = .ok (.iload_n 1, 1) := by decide +kernel
theorem dX11_isOlder_2 : decode cX11_isOlder 2 = .ok (.invokevirtual 53, 3) := by decide +kernel
theorem dX11_isOlder_5 : decode cX11_isOlder 5 = .ok (.aload_n 0, 1) := by decide +kernel
theorem dX11_isOlder_6 : decode cX11_isOlder 6 = .ok (.iload_n 2, 1) := by decide +kernel
theorem dX11_isOlder_7 : decode cX11_isOlder 7 = .ok (.invokevirtual 53, 3) := by decide +kernel
theorem dX11_isOlder_10 : decode cX11_isOlder 10 = .ok (.if_icmp .eq 24, 3) := by decide +kernel
theorem dX11_isOlder_13 : decode cX11_isOlder 13 = .ok (.aload_n 0, 1) := by decide +kernel
theorem dX11_isOlder_14 : decode cX11_isOlder 14 = .ok (.iload_n 1, 1) := by decide +kernel
theorem dX11_isOlder_15 : decode cX11_isOlder 15 = .ok (.invokevirtual 53, 3) := by decide +kernel
theorem dX11_isOlder_18 : decode cX11_isOlder 18 = .ok (.aload_n 0, 1) := by decide +kernel
theorem dX11_isOlder_19 : decode cX11_isOlder 19 = .ok (.iload_n 2, 1) := by decide +kernel
theorem dX11_isOlder_20 : decode cX11_isOlder 20 = .ok (.invokevirtual 53, 3) := by decide +kernel
theorem dX11_isOlder_23 : decode cX11_isOlder 23 = .ok (.if_icmp .ge 7, 3) := by decide +kernel
theorem dX11_isOlder_26 : decode cX11_isOlder 26 = .ok (.iconst 1, 1) := by decide +kernel
theorem dX11_isOlder_27 : decode cX11_isOlder 27 = .ok (.goto 17, 3) := by decide +kernel
theorem dX11_isOlder_30 : decode cX11_isOlder 30 = .ok (.iconst 0, 1) := by decide +kernel
theorem dX11_isOlder_31 : decode cX11_isOlder 31 = .ok (.goto 13, 3) := by decide +kernel
theorem dX11_isOlder_34 : decode cX11_isOlder 34 = .ok (.iload_n 1, 1) := by decide +kernel
theorem dX11_isOlder_35 : decode cX11_isOlder 35 = .ok (.iload_n 2, 1) := by decide +kernel
theorem dX11_isOlder_36 : decode cX11_isOlder 36 = .ok (.if_icmp .ge 7, 3) := by decide +kernel
theorem dX11_isOlder_39 : decode cX11_isOlder 39 = .ok (.iconst 1, 1) := by decide +kernel
theorem dX11_isOlder_40 : decode cX11_isOlder 40 = .ok (.goto 4, 3) := by decide +kernel
theorem dX11_isOlder_43 : decode cX11_isOlder 43 = .ok (.iconst 0, 1) := by decide +kernel
theorem dX11_isOlder_44 : decode cX11_isOlder 44 = .ok (.ireturn, 1) := by decide +kernel
theorem dX11_isChild_0 : decode cX11_isChild 0 = .ok (.aload_n 0, 1) := by decide +kernel
theorem dX11_isChild_1 : decode cX11_isChild 1 = .ok (.getfield 117, 3) := by decide +kernel
theorem dX11_isChild_4 : decode cX11_isChild 4 = .ok (.iload_n 1, 1) := by decide +kernel
theorem dX11_isChild_5 : decode cX11_isChild 5 = .ok (.baload, 1) := by decide +kernel
theorem dX11_isChild_6 : decode cX11_isChild 6 = .ok (.ifCond .eq 25, 3) := by decide +kernel
theorem dX11_isChild_9 : decode cX11_isChild 9 = .ok (.aload_n 0, 1) := by decide +kernel
theorem dX11_isChild_10 : decode cX11_isChild 10 = .ok (.iload_n 1, 1) := by decide +kernel
theorem dX11_isChild_11 : decode cX11_isChild 11 = .ok (.invokevirtual 76, 3) := by decide +kernel
theorem dX11_isChild_14 : decode cX11_isChild 14 = .ok (.iload_n 2, 1) := by decide +kernel
theorem dX11_isChild_15 : decode cX11_isChild 15 = .ok (.if_icmp .eq 12, 3) := by decide +kernel
theorem dX11_isChild_18 : decode cX11_isChild 18 = .ok (.aload_n 0, 1) := by decide +kernel
theorem dX11_isChild_19 : decode cX11_isChild 19 = .ok (.iload_n 1, 1) := by decide +kernel
theorem dX11_isChild_20 : decode cX11_isChild 20 = .ok (.invokevirtual 79, 3) := by decide +kernel
theorem dX11_isChild_23 : decode cX11_isChild 23 = .ok (.iload_n 2, 1) := by decide +kernel
theorem dX11_isChild_24 : decode cX11_isChild 24 = .ok (.if_icmp .ne 7, 3) := by decide +kernel
theorem dX11_isChild_27 : decode cX11_isChild 27 = .ok (.iconst 1, 1) := by decide +kernel
theorem dX11_isChild_28 : decode cX11_isChild 28 = .ok (.goto 4, 3) := by decide +kernel
theorem dX11_isChild_31 : decode cX11_isChild 31 = .ok (.iconst 0, 1) := by decide +kernel
theorem dX11_isChild_32 : decode cX11_isChild 32 = .ok (.ireturn, 1) := by decide +kernel
theorem dX11_reckon_0 : decode cX11_reckon 0 = .ok (.aload_n 0, 1) := by decide +kernel
theorem dX11_reckon_1 : decode cX11_reckon 1 = .ok (.getfield 110, 3) := by decide +kernel
theorem dX11_reckon_4 : decode cX11_reckon 4 = .ok (.ifCond .eq 4, 3) := by decide +kernel
theorem dX11_reckon_7 : decode cX11_reckon 7 = .ok (.return_, 1) := by decide +kernel
theorem dX11_reckon_8 : decode cX11_reckon 8 = .ok (.aload_n 0, 1) := by decide +kernel
theorem dX11_reckon_9 : decode cX11_reckon 9 = .ok (.iconst 1, 1) := by decide +kernel
theorem dX11_reckon_10 : decode cX11_reckon 10 = .ok (.putfield 110, 3) := by decide +kernel
theorem dX11_reckon_13 : decode cX11_reckon 13 = .ok (.aload_n 0, 1) := by decide +kernel
theorem dX11_reckon_14 : decode cX11_reckon 14 = .ok (.iconst 0, 1) := by decide +kernel
theorem dX11_reckon_15 : decode cX11_reckon 15 = .ok (.putfield 120, 3) := by decide +kernel
theorem dX11_reckon_18 : decode cX11_reckon 18 = .ok (.iconst 0, 1) := by decide +kernel
theorem dX11_reckon_19 : decode cX11_reckon 19 = .ok (.istore_n 1, 1) := by decide +kernel
theorem dX11_reckon_20 : decode cX11_reckon 20 = .ok (.iload_n 1, 1) := by decide +kernel
theorem dX11_reckon_21 : decode cX11_reckon 21 = .ok (.aload_n 0, 1) := by decide +kernel
theorem dX11_reckon_22 : decode cX11_reckon 22 = .ok (.getfield 7, 3) := by decide +kernel
theorem dX11_reckon_25 : decode cX11_reckon 25 = .ok (.if_icmp .ge 104, 3) := by decide +kernel
theorem dX11_reckon_28 : decode cX11_reckon 28 = .ok (.aload_n 0, 1) := by decide +kernel
theorem dX11_reckon_29 : decode cX11_reckon 29 = .ok (.iload_n 1, 1) := by decide +kernel
theorem dX11_reckon_30 : decode cX11_reckon 30 = .ok (.invokevirtual 123, 3) := by decide +kernel
theorem dX11_reckon_33 : decode cX11_reckon 33 = .ok (.ifCond .ne 6, 3) := by decide +kernel
theorem dX11_reckon_36 : decode cX11_reckon 36 = .ok (.goto 87, 3) := by decide +kernel
theorem dX11_reckon_39 : decode cX11_reckon 39 = .ok (.aload_n 0, 1) := by decide +kernel
theorem dX11_reckon_40 : decode cX11_reckon 40 = .ok (.getfield 117, 3) := by decide +kernel
theorem dX11_reckon_43 : decode cX11_reckon 43 = .ok (.iload_n 1, 1) := by decide +kernel
theorem dX11_reckon_44 : decode cX11_reckon 44 = .ok (.aload_n 0, 1) := by decide +kernel
theorem dX11_reckon_45 : decode cX11_reckon 45 = .ok (.iload_n 1, 1) := by decide +kernel
theorem dX11_reckon_46 : decode cX11_reckon 46 = .ok (.invokevirtual 126, 3) := by decide +kernel
theorem dX11_reckon_49 : decode cX11_reckon 49 = .ok (.bastore, 1) := by decide +kernel
theorem dX11_reckon_50 : decode cX11_reckon 50 = .ok (.aload_n 0, 1) := by decide +kernel
theorem dX11_reckon_51 : decode cX11_reckon 51 = .ok (.getfield 56, 3) := by decide +kernel
theorem dX11_reckon_54 : decode cX11_reckon 54 = .ok (.iload_n 1, 1) := by decide +kernel
theorem dX11_reckon_55 : decode cX11_reckon 55 = .ok (.aload_n 0, 1) := by decide +kernel
theorem dX11_reckon_56 : decode cX11_reckon 56 = .ok (.iload_n 1, 1) := by decide +kernel
theorem dX11_reckon_57 : decode cX11_reckon 57 = .ok (.invokevirtual 49, 3) := by decide +kernel
theorem dX11_reckon_60 : decode cX11_reckon 60 = .ok (.iastore, 1) := by decide +kernel
theorem dX11_reckon_61 : decode cX11_reckon 61 = .ok (.aload_n 0, 1) := by decide +kernel
theorem dX11_reckon_62 : decode cX11_reckon 62 = .ok (.getfield 120, 3) := by decide +kernel
theorem dX11_reckon_65 : decode cX11_reckon 65 = .ok (.istore_n 2, 1) := by decide +kernel
theorem dX11_reckon_66 : decode cX11_reckon 66 = .ok (.iload_n 2, 1) := by decide +kernel
theorem dX11_reckon_67 : decode cX11_reckon 67 = .ok (.ifCond .le 39, 3) := by decide +kernel
theorem dX11_reckon_70 : decode cX11_reckon 70 = .ok (.aload_n 0, 1) := by decide +kernel
theorem dX11_reckon_71 : decode cX11_reckon 71 = .ok (.iload_n 1, 1) := by decide +kernel
theorem dX11_reckon_72 : decode cX11_reckon 72 = .ok (.aload_n 0, 1) := by decide +kernel
theorem dX11_reckon_73 : decode cX11_reckon 73 = .ok (.getfield 129, 3) := by decide +kernel
theorem dX11_reckon_76 : decode cX11_reckon 76 = .ok (.iload_n 2, 1) := by decide +kernel
theorem dX11_reckon_77 : decode cX11_reckon 77 = .ok (.iconst 1, 1) := by decide +kernel
theorem dX11_reckon_78 : decode cX11_reckon 78 = .ok (.isub, 1) := by decide +kernel
theorem dX11_reckon_79 : decode cX11_reckon 79 = .ok (.iaload, 1) := by decide +kernel
theorem dX11_reckon_80 : decode cX11_reckon 80 = .ok (.invokevirtual 132, 3) := by decide +kernel
theorem dX11_reckon_83 : decode cX11_reckon 83 = .ok (.ifCond .eq 23, 3) := by decide +kernel
theorem dX11_reckon_86 : decode cX11_reckon 86 = .ok (.aload_n 0, 1) := by decide +kernel
theorem dX11_reckon_87 : decode cX11_reckon 87 = .ok (.getfield 129, 3) := by decide +kernel
theorem dX11_reckon_90 : decode cX11_reckon 90 = .ok (.iload_n 2, 1) := by decide +kernel
theorem dX11_reckon_91 : decode cX11_reckon 91 = .ok (.aload_n 0, 1) := by decide +kernel
theorem dX11_reckon_92 : decode cX11_reckon 92 = .ok (.getfield 129, 3) := by decide +kernel
theorem dX11_reckon_95 : decode cX11_reckon 95 = .ok (.iload_n 2, 1) := by decide +kernel
theorem dX11_reckon_96 : decode cX11_reckon 96 = .ok (.iconst 1, 1) := by decide +kernel
theorem dX11_reckon_97 : decode cX11_reckon 97 = .ok (.isub, 1) := by decide +kernel
theorem dX11_reckon_98 : decode cX11_reckon 98 = .ok (.iaload, 1) := by decide +kernel
theorem dX11_reckon_99 : decode cX11_reckon 99 = .ok (.iastore, 1) := by decide +kernel
theorem dX11_reckon_100 : decode cX11_reckon 100 = .ok (.iinc 2 (-1), 3) := by decide +kernel
theorem dX11_reckon_103 : decode cX11_reckon 103 = .ok (.goto (-37), 3) := by decide +kernel
theorem dX11_reckon_106 : decode cX11_reckon 106 = .ok (.aload_n 0, 1) := by decide +kernel
theorem dX11_reckon_107 : decode cX11_reckon 107 = .ok (.getfield 129, 3) := by decide +kernel
theorem dX11_reckon_110 : decode cX11_reckon 110 = .ok (.iload_n 2, 1) := by decide +kernel
theorem dX11_reckon_111 : decode cX11_reckon 111 = .ok (.iload_n 1, 1) := by decide +kernel
theorem dX11_reckon_112 : decode cX11_reckon 112 = .ok (.iastore, 1) := by decide +kernel
theorem dX11_reckon_113 : decode cX11_reckon 113 = .ok (.aload_n 0, 1) := by decide +kernel
theorem dX11_reckon_114 : decode cX11_reckon 114 = .ok (.dup, 1) := by decide +kernel
theorem dX11_reckon_115 : decode cX11_reckon 115 = .ok (.getfield 120, 3) := by decide +kernel
theorem dX11_reckon_118 : decode cX11_reckon 118 = .ok (.iconst 1, 1) := by decide +kernel
theorem dX11_reckon_119 : decode cX11_reckon 119 = .ok (.iadd, 1) := by decide +kernel
theorem dX11_reckon_120 : decode cX11_reckon 120 = .ok (.putfield 120, 3) := by decide +kernel
theorem dX11_reckon_123 : decode cX11_reckon 123 = .ok (.iinc 1 1, 3) := by decide +kernel
theorem dX11_reckon_126 : decode cX11_reckon 126 = .ok (.goto (-106), 3) := by decide +kernel
theorem dX11_reckon_129 : decode cX11_reckon 129 = .ok (.iconst 0, 1) := by decide +kernel
theorem dX11_reckon_130 : decode cX11_reckon 130 = .ok (.istore_n 1, 1) := by decide +kernel
theorem dX11_reckon_131 : decode cX11_reckon 131 = .ok (.iload_n 1, 1) := by decide +kernel
theorem dX11_reckon_132 : decode cX11_reckon 132 = .ok (.aload_n 0, 1) := by decide +kernel
theorem dX11_reckon_133 : decode cX11_reckon 133 = .ok (.getfield 135, 3) := by decide +kernel
theorem dX11_reckon_136 : decode cX11_reckon 136 = .ok (.arraylength, 1) := by decide +kernel
theorem dX11_reckon_137 : decode cX11_reckon 137 = .ok (.if_icmp .ge 17, 3) := by decide +kernel
theorem dX11_reckon_140 : decode cX11_reckon 140 = .ok (.aload_n 0, 1) := by decide +kernel
theorem dX11_reckon_141 : decode cX11_reckon 141 = .ok (.getfield 135, 3) := by decide +kernel
theorem dX11_reckon_144 : decode cX11_reckon 144 = .ok (.iload_n 1, 1) := by decide +kernel
theorem dX11_reckon_145 : decode cX11_reckon 145 = .ok (.ldc 138, 2) := by decide +kernel
theorem dX11_reckon_147 : decode cX11_reckon 147 = .ok (.iastore, 1) := by decide +kernel
theorem dX11_reckon_148 : decode cX11_reckon 148 = .ok (.iinc 1 1, 3) := by decide +kernel
theorem dX11_reckon_151 : decode cX11_reckon 151 = .ok (.goto (-20), 3) := by decide +kernel
theorem dX11_reckon_154 : decode cX11_reckon 154 = .ok (.iconst 0, 1) := by decide +kernel
theorem dX11_reckon_155 : decode cX11_reckon 155 = .ok (.istore_n 1, 1) := by decide +kernel
theorem dX11_reckon_156 : decode cX11_reckon 156 = .ok (.iload_n 1, 1) := by decide +kernel
theorem dX11_reckon_157 : decode cX11_reckon 157 = .ok (.aload_n 0, 1) := by decide +kernel
theorem dX11_reckon_158 : decode cX11_reckon 158 = .ok (.getfield 40, 3) := by decide +kernel
theorem dX11_reckon_161 : decode cX11_reckon 161 = .ok (.if_icmp .ge 55, 3) := by decide +kernel
theorem dX11_reckon_164 : decode cX11_reckon 164 = .ok (.aload_n 0, 1) := by decide +kernel
theorem dX11_reckon_165 : decode cX11_reckon 165 = .ok (.getfield 14, 3) := by decide +kernel
theorem dX11_reckon_168 : decode cX11_reckon 168 = .ok (.iload_n 1, 1) := by decide +kernel
theorem dX11_reckon_169 : decode cX11_reckon 169 = .ok (.baload, 1) := by decide +kernel
theorem dX11_reckon_170 : decode cX11_reckon 170 = .ok (.ifCond .eq 40, 3) := by decide +kernel
theorem dX11_reckon_173 : decode cX11_reckon 173 = .ok (.aload_n 0, 1) := by decide +kernel
theorem dX11_reckon_174 : decode cX11_reckon 174 = .ok (.getfield 43, 3) := by decide +kernel
theorem dX11_reckon_177 : decode cX11_reckon 177 = .ok (.iload_n 1, 1) := by decide +kernel
theorem dX11_reckon_178 : decode cX11_reckon 178 = .ok (.iaload, 1) := by decide +kernel
theorem dX11_reckon_179 : decode cX11_reckon 179 = .ok (.iconst 5, 1) := by decide +kernel
theorem dX11_reckon_180 : decode cX11_reckon 180 = .ok (.if_icmp .ne 30, 3) := by decide +kernel
theorem dX11_reckon_183 : decode cX11_reckon 183 = .ok (.aload_n 0, 1) := by decide +kernel
theorem dX11_reckon_184 : decode cX11_reckon 184 = .ok (.getfield 135, 3) := by decide +kernel
theorem dX11_reckon_187 : decode cX11_reckon 187 = .ok (.bipush 64, 2) := by decide +kernel
theorem dX11_reckon_189 : decode cX11_reckon 189 = .ok (.aload_n 0, 1) := by decide +kernel
theorem dX11_reckon_190 : decode cX11_reckon 190 = .ok (.getfield 34, 3) := by decide +kernel
theorem dX11_reckon_193 : decode cX11_reckon 193 = .ok (.iload_n 1, 1) := by decide +kernel
theorem dX11_reckon_194 : decode cX11_reckon 194 = .ok (.iaload, 1) := by decide +kernel
theorem dX11_reckon_195 : decode cX11_reckon 195 = .ok (.imul, 1) := by decide +kernel
theorem dX11_reckon_196 : decode cX11_reckon 196 = .ok (.aload_n 0, 1) := by decide +kernel
theorem dX11_reckon_197 : decode cX11_reckon 197 = .ok (.getfield 46, 3) := by decide +kernel
theorem dX11_reckon_200 : decode cX11_reckon 200 = .ok (.iload_n 1, 1) := by decide +kernel
theorem dX11_reckon_201 : decode cX11_reckon 201 = .ok (.iaload, 1) := by decide +kernel
theorem dX11_reckon_202 : decode cX11_reckon 202 = .ok (.iadd, 1) := by decide +kernel
theorem dX11_reckon_203 : decode cX11_reckon 203 = .ok (.aload_n 0, 1) := by decide +kernel
theorem dX11_reckon_204 : decode cX11_reckon 204 = .ok (.getfield 31, 3) := by decide +kernel
theorem dX11_reckon_207 : decode cX11_reckon 207 = .ok (.iload_n 1, 1) := by decide +kernel
theorem dX11_reckon_208 : decode cX11_reckon 208 = .ok (.iaload, 1) := by decide +kernel
theorem dX11_reckon_209 : decode cX11_reckon 209 = .ok (.iastore, 1) := by decide +kernel
theorem dX11_reckon_210 : decode cX11_reckon 210 = .ok (.iinc 1 1, 3) := by decide +kernel
theorem dX11_reckon_213 : decode cX11_reckon 213 = .ok (.goto (-57), 3) := by decide +kernel
theorem dX11_reckon_216 : decode cX11_reckon 216 = .ok (.aload_n 0, 1) := by decide +kernel
theorem dX11_reckon_217 : decode cX11_reckon 217 = .ok (.getfield 120, 3) := by decide +kernel
theorem dX11_reckon_220 : decode cX11_reckon 220 = .ok (.iconst 1, 1) := by decide +kernel
theorem dX11_reckon_221 : decode cX11_reckon 221 = .ok (.isub, 1) := by decide +kernel
theorem dX11_reckon_222 : decode cX11_reckon 222 = .ok (.istore_n 1, 1) := by decide +kernel
theorem dX11_reckon_223 : decode cX11_reckon 223 = .ok (.iload_n 1, 1) := by decide +kernel
theorem dX11_reckon_224 : decode cX11_reckon 224 = .ok (.ifCond .lt 78, 3) := by decide +kernel
theorem dX11_reckon_227 : decode cX11_reckon 227 = .ok (.aload_n 0, 1) := by decide +kernel
theorem dX11_reckon_228 : decode cX11_reckon 228 = .ok (.getfield 129, 3) := by decide +kernel
theorem dX11_reckon_231 : decode cX11_reckon 231 = .ok (.iload_n 1, 1) := by decide +kernel
theorem dX11_reckon_232 : decode cX11_reckon 232 = .ok (.iaload, 1) := by decide +kernel
theorem dX11_reckon_233 : decode cX11_reckon 233 = .ok (.istore_n 2, 1) := by decide +kernel
theorem dX11_reckon_234 : decode cX11_reckon 234 = .ok (.aload_n 0, 1) := by decide +kernel
theorem dX11_reckon_235 : decode cX11_reckon 235 = .ok (.getfield 139, 3) := by decide +kernel
theorem dX11_reckon_238 : decode cX11_reckon 238 = .ok (.iload_n 2, 1) := by decide +kernel
theorem dX11_reckon_239 : decode cX11_reckon 239 = .ok (.iload_n 2, 1) := by decide +kernel
theorem dX11_reckon_240 : decode cX11_reckon 240 = .ok (.invokestatic 143, 3) := by decide +kernel
theorem dX11_reckon_243 : decode cX11_reckon 243 = .ok (.lastore, 1) := by decide +kernel
theorem dX11_reckon_244 : decode cX11_reckon 244 = .ok (.iload_n 1, 1) := by decide +kernel
theorem dX11_reckon_245 : decode cX11_reckon 245 = .ok (.iconst 1, 1) := by decide +kernel
theorem dX11_reckon_246 : decode cX11_reckon 246 = .ok (.iadd, 1) := by decide +kernel
theorem dX11_reckon_247 : decode cX11_reckon 247 = .ok (.istore_n 3, 1) := by decide +kernel
theorem dX11_reckon_248 : decode cX11_reckon 248 = .ok (.iload_n 3, 1) := by decide +kernel
theorem dX11_reckon_249 : decode cX11_reckon 249 = .ok (.aload_n 0, 1) := by decide +kernel
theorem dX11_reckon_250 : decode cX11_reckon 250 = .ok (.getfield 120, 3) := by decide +kernel
theorem dX11_reckon_253 : decode cX11_reckon 253 = .ok (.if_icmp .ge 43, 3) := by decide +kernel
theorem dX11_reckon_256 : decode cX11_reckon 256 = .ok (.aload_n 0, 1) := by decide +kernel
theorem dX11_reckon_257 : decode cX11_reckon 257 = .ok (.aload_n 0, 1) := by decide +kernel
theorem dX11_reckon_258 : decode cX11_reckon 258 = .ok (.getfield 129, 3) := by decide +kernel
theorem dX11_reckon_261 : decode cX11_reckon 261 = .ok (.iload_n 3, 1) := by decide +kernel
theorem dX11_reckon_262 : decode cX11_reckon 262 = .ok (.iaload, 1) := by decide +kernel
theorem dX11_reckon_263 : decode cX11_reckon 263 = .ok (.iload_n 2, 1) := by decide +kernel
theorem dX11_reckon_264 : decode cX11_reckon 264 = .ok (.invokevirtual 147, 3) := by decide +kernel
theorem dX11_reckon_267 : decode cX11_reckon 267 = .ok (.ifCond .eq 23, 3) := by decide +kernel
theorem dX11_reckon_270 : decode cX11_reckon 270 = .ok (.aload_n 0, 1) := by decide +kernel
theorem dX11_reckon_271 : decode cX11_reckon 271 = .ok (.getfield 139, 3) := by decide +kernel
theorem dX11_reckon_274 : decode cX11_reckon 274 = .ok (.iload_n 2, 1) := by decide +kernel
theorem dX11_reckon_275 : decode cX11_reckon 275 = .ok (.dup2, 1) := by decide +kernel
theorem dX11_reckon_276 : decode cX11_reckon 276 = .ok (.laload, 1) := by decide +kernel
theorem dX11_reckon_277 : decode cX11_reckon 277 = .ok (.aload_n 0, 1) := by decide +kernel
theorem dX11_reckon_278 : decode cX11_reckon 278 = .ok (.getfield 139, 3) := by decide +kernel
theorem dX11_reckon_281 : decode cX11_reckon 281 = .ok (.aload_n 0, 1) := by decide +kernel
theorem dX11_reckon_282 : decode cX11_reckon 282 = .ok (.getfield 129, 3) := by decide +kernel
theorem dX11_reckon_285 : decode cX11_reckon 285 = .ok (.iload_n 3, 1) := by decide +kernel
theorem dX11_reckon_286 : decode cX11_reckon 286 = .ok (.iaload, 1) := by decide +kernel
theorem dX11_reckon_287 : decode cX11_reckon 287 = .ok (.laload, 1) := by decide +kernel
theorem dX11_reckon_288 : decode cX11_reckon 288 = .ok (.lor, 1) := by decide +kernel
theorem dX11_reckon_289 : decode cX11_reckon 289 = .ok (.lastore, 1) := by decide +kernel
theorem dX11_reckon_290 : decode cX11_reckon 290 = .ok (.iinc 3 1, 3) := by decide +kernel
theorem dX11_reckon_293 : decode cX11_reckon 293 = .ok (.goto (-45), 3) := by decide +kernel
theorem dX11_reckon_296 : decode cX11_reckon 296 = .ok (.iinc 1 (-1), 3) := by decide +kernel
theorem dX11_reckon_299 : decode cX11_reckon 299 = .ok (.goto (-76), 3) := by decide +kernel
theorem dX11_reckon_302 : decode cX11_reckon 302 = .ok (.return_, 1) := by decide +kernel
theorem dX11_hasYielded_0 : decode cX11_hasYielded 0 = .ok (.aload_n 0, 1) := by decide +kernel
theorem dX11_hasYielded_1 : decode cX11_hasYielded 1 = .ok (.getfield 135, 3) := by decide +kernel
theorem dX11_hasYielded_4 : decode cX11_hasYielded 4 = .ok (.bipush 64, 2) := by decide +kernel
theorem dX11_hasYielded_6 : decode cX11_hasYielded 6 = .ok (.iload_n 2, 1) := by decide +kernel
theorem dX11_hasYielded_7 : decode cX11_hasYielded 7 = .ok (.imul, 1) := by decide +kernel
theorem dX11_hasYielded_8 : decode cX11_hasYielded 8 = .ok (.iload_n 1, 1) := by decide +kernel
theorem dX11_hasYielded_9 : decode cX11_hasYielded 9 = .ok (.iadd, 1) := by decide +kernel
theorem dX11_hasYielded_10 : decode cX11_hasYielded 10 = .ok (.iaload, 1) := by decide +kernel
theorem dX11_hasYielded_11 : decode cX11_hasYielded 11 = .ok (.iload_n 3, 1) := by decide +kernel
theorem dX11_hasYielded_12 : decode cX11_hasYielded 12 = .ok (.if_icmp .gt 7, 3) := by decide +kernel
theorem dX11_hasYielded_15 : decode cX11_hasYielded 15 = .ok (.iconst 1, 1) := by decide +kernel
theorem dX11_hasYielded_16 : decode cX11_hasYielded 16 = .ok (.goto 4, 3) := by decide +kernel
theorem dX11_hasYielded_19 : decode cX11_hasYielded 19 = .ok (.iconst 0, 1) := by decide +kernel
theorem dX11_hasYielded_20 : decode cX11_hasYielded 20 = .ok (.ireturn, 1) := by decide +kernel
theorem dX11_counts_0 : decode cX11_counts 0 = .ok (.aload_n 0, 1) := by decide +kernel
theorem dX11_counts_1 : decode cX11_counts 1 = .ok (.iload_n 1, 1) := by decide +kernel
theorem dX11_counts_2 : decode cX11_counts 2 = .ok (.iload_n 3, 1) := by decide +kernel
theorem dX11_counts_3 : decode cX11_counts 3 = .ok (.invokevirtual 150, 3) := by decide +kernel
theorem dX11_counts_6 : decode cX11_counts 6 = .ok (.ifCond .eq 39, 3) := by decide +kernel
theorem dX11_counts_9 : decode cX11_counts 9 = .ok (.aload_n 0, 1) := by decide +kernel
theorem dX11_counts_10 : decode cX11_counts 10 = .ok (.iload_n 1, 1) := by decide +kernel
theorem dX11_counts_11 : decode cX11_counts 11 = .ok (.iload_n 2, 1) := by decide +kernel
theorem dX11_counts_12 : decode cX11_counts 12 = .ok (.iload_n 3, 1) := by decide +kernel
theorem dX11_counts_13 : decode cX11_counts 13 = .ok (.invokevirtual 153, 3) := by decide +kernel
theorem dX11_counts_16 : decode cX11_counts 16 = .ok (.ifCond .ne 29, 3) := by decide +kernel
theorem dX11_counts_19 : decode cX11_counts 19 = .ok (.aload_n 0, 1) := by decide +kernel
theorem dX11_counts_20 : decode cX11_counts 20 = .ok (.getfield 28, 3) := by decide +kernel
theorem dX11_counts_23 : decode cX11_counts 23 = .ok (.aload_n 0, 1) := by decide +kernel
theorem dX11_counts_24 : decode cX11_counts 24 = .ok (.getfield 25, 3) := by decide +kernel
theorem dX11_counts_27 : decode cX11_counts 27 = .ok (.iload_n 2, 1) := by decide +kernel
theorem dX11_counts_28 : decode cX11_counts 28 = .ok (.iaload, 1) := by decide +kernel
theorem dX11_counts_29 : decode cX11_counts 29 = .ok (.iaload, 1) := by decide +kernel
theorem dX11_counts_30 : decode cX11_counts 30 = .ok (.ifCond .ne 11, 3) := by decide +kernel
theorem dX11_counts_33 : decode cX11_counts 33 = .ok (.aload_n 0, 1) := by decide +kernel
theorem dX11_counts_34 : decode cX11_counts 34 = .ok (.iload_n 1, 1) := by decide +kernel
theorem dX11_counts_35 : decode cX11_counts 35 = .ok (.invokevirtual 85, 3) := by decide +kernel
theorem dX11_counts_38 : decode cX11_counts 38 = .ok (.ifCond .eq 7, 3) := by decide +kernel
theorem dX11_counts_41 : decode cX11_counts 41 = .ok (.iconst 1, 1) := by decide +kernel
theorem dX11_counts_42 : decode cX11_counts 42 = .ok (.goto 4, 3) := by decide +kernel
theorem dX11_counts_45 : decode cX11_counts 45 = .ok (.iconst 0, 1) := by decide +kernel
theorem dX11_counts_46 : decode cX11_counts 46 = .ok (.ireturn, 1) := by decide +kernel
theorem dX11_walk_0 : decode cX11_walk 0 = .ok (.aload_n 0, 1) := by decide +kernel
theorem dX11_walk_1 : decode cX11_walk 1 = .ok (.getfield 156, 3) := by decide +kernel
theorem dX11_walk_4 : decode cX11_walk 4 = .ok (.iload_n 1, 1) := by decide +kernel
theorem dX11_walk_5 : decode cX11_walk 5 = .ok (.invokestatic 143, 3) := by decide +kernel
theorem dX11_walk_8 : decode cX11_walk 8 = .ok (.land, 1) := by decide +kernel
theorem dX11_walk_9 : decode cX11_walk 9 = .ok (.lconst 0, 1) := by decide +kernel
theorem dX11_walk_10 : decode cX11_walk 10 = .ok (.lcmp, 1) := by decide +kernel
theorem dX11_walk_11 : decode cX11_walk 11 = .ok (.ifCond .eq 4, 3) := by decide +kernel
theorem dX11_walk_14 : decode cX11_walk 14 = .ok (.return_, 1) := by decide +kernel
theorem dX11_walk_15 : decode cX11_walk 15 = .ok (.aload_n 0, 1) := by decide +kernel
theorem dX11_walk_16 : decode cX11_walk 16 = .ok (.dup, 1) := by decide +kernel
theorem dX11_walk_17 : decode cX11_walk 17 = .ok (.getfield 156, 3) := by decide +kernel
theorem dX11_walk_20 : decode cX11_walk 20 = .ok (.iload_n 1, 1) := by decide +kernel
theorem dX11_walk_21 : decode cX11_walk 21 = .ok (.invokestatic 143, 3) := by decide +kernel
theorem dX11_walk_24 : decode cX11_walk 24 = .ok (.lor, 1) := by decide +kernel
theorem dX11_walk_25 : decode cX11_walk 25 = .ok (.putfield 156, 3) := by decide +kernel
theorem dX11_walk_28 : decode cX11_walk 28 = .ok (.aload_n 0, 1) := by decide +kernel
theorem dX11_walk_29 : decode cX11_walk 29 = .ok (.iload_n 1, 1) := by decide +kernel
theorem dX11_walk_30 : decode cX11_walk 30 = .ok (.iload_n 2, 1) := by decide +kernel
theorem dX11_walk_31 : decode cX11_walk 31 = .ok (.iload_n 3, 1) := by decide +kernel
theorem dX11_walk_32 : decode cX11_walk 32 = .ok (.invokevirtual 160, 3) := by decide +kernel
theorem dX11_walk_35 : decode cX11_walk 35 = .ok (.ifCond .eq 23, 3) := by decide +kernel
theorem dX11_walk_38 : decode cX11_walk 38 = .ok (.aload_n 0, 1) := by decide +kernel
theorem dX11_walk_39 : decode cX11_walk 39 = .ok (.getfield 163, 3) := by decide +kernel
theorem dX11_walk_42 : decode cX11_walk 42 = .ok (.aload_n 0, 1) := by decide +kernel
theorem dX11_walk_43 : decode cX11_walk 43 = .ok (.getfield 166, 3) := by decide +kernel
theorem dX11_walk_46 : decode cX11_walk 46 = .ok (.iload_n 1, 1) := by decide +kernel
theorem dX11_walk_47 : decode cX11_walk 47 = .ok (.iastore, 1) := by decide +kernel
theorem dX11_walk_48 : decode cX11_walk 48 = .ok (.aload_n 0, 1) := by decide +kernel
theorem dX11_walk_49 : decode cX11_walk 49 = .ok (.dup, 1) := by decide +kernel
theorem dX11_walk_50 : decode cX11_walk 50 = .ok (.getfield 166, 3) := by decide +kernel
theorem dX11_walk_53 : decode cX11_walk 53 = .ok (.iconst 1, 1) := by decide +kernel
theorem dX11_walk_54 : decode cX11_walk 54 = .ok (.iadd, 1) := by decide +kernel
theorem dX11_walk_55 : decode cX11_walk 55 = .ok (.putfield 166, 3) := by decide +kernel
theorem dX11_walk_58 : decode cX11_walk 58 = .ok (.aload_n 0, 1) := by decide +kernel
theorem dX11_walk_59 : decode cX11_walk 59 = .ok (.getfield 28, 3) := by decide +kernel
theorem dX11_walk_62 : decode cX11_walk 62 = .ok (.aload_n 0, 1) := by decide +kernel
theorem dX11_walk_63 : decode cX11_walk 63 = .ok (.getfield 25, 3) := by decide +kernel
theorem dX11_walk_66 : decode cX11_walk 66 = .ok (.iload_n 2, 1) := by decide +kernel
theorem dX11_walk_67 : decode cX11_walk 67 = .ok (.iaload, 1) := by decide +kernel
theorem dX11_walk_68 : decode cX11_walk 68 = .ok (.iaload, 1) := by decide +kernel
theorem dX11_walk_69 : decode cX11_walk 69 = .ok (.istore 4, 2) := by decide +kernel
theorem dX11_walk_71 : decode cX11_walk 71 = .ok (.iload 4, 2) := by decide +kernel
theorem dX11_walk_73 : decode cX11_walk 73 = .ok (.iconst 1, 1) := by decide +kernel
theorem dX11_walk_74 : decode cX11_walk 74 = .ok (.if_icmp .eq 9, 3) := by decide +kernel
theorem dX11_walk_77 : decode cX11_walk 77 = .ok (.iload 4, 2) := by decide +kernel
theorem dX11_walk_79 : decode cX11_walk 79 = .ok (.iconst 5, 1) := by decide +kernel
theorem dX11_walk_80 : decode cX11_walk 80 = .ok (.if_icmp .ne 7, 3) := by decide +kernel
theorem dX11_walk_83 : decode cX11_walk 83 = .ok (.iconst 1, 1) := by decide +kernel
theorem dX11_walk_84 : decode cX11_walk 84 = .ok (.goto 4, 3) := by decide +kernel
theorem dX11_walk_87 : decode cX11_walk 87 = .ok (.iconst 0, 1) := by decide +kernel
theorem dX11_walk_88 : decode cX11_walk 88 = .ok (.istore 5, 2) := by decide +kernel
theorem dX11_walk_90 : decode cX11_walk 90 = .ok (.iload 4, 2) := by decide +kernel
theorem dX11_walk_92 : decode cX11_walk 92 = .ok (.ifCond .ne 74, 3) := by decide +kernel
theorem dX11_walk_95 : decode cX11_walk 95 = .ok (.aload_n 0, 1) := by decide +kernel
theorem dX11_walk_96 : decode cX11_walk 96 = .ok (.iload_n 1, 1) := by decide +kernel
theorem dX11_walk_97 : decode cX11_walk 97 = .ok (.invokevirtual 85, 3) := by decide +kernel
theorem dX11_walk_100 : decode cX11_walk 100 = .ok (.ifCond .eq 252, 3) := by decide +kernel
theorem dX11_walk_103 : decode cX11_walk 103 = .ok (.iconst 0, 1) := by decide +kernel
theorem dX11_walk_104 : decode cX11_walk 104 = .ok (.istore 6, 2) := by decide +kernel
theorem dX11_walk_106 : decode cX11_walk 106 = .ok (.iload 6, 2) := by decide +kernel
theorem dX11_walk_108 : decode cX11_walk 108 = .ok (.aload_n 0, 1) := by decide +kernel
theorem dX11_walk_109 : decode cX11_walk 109 = .ok (.getfield 120, 3) := by decide +kernel
theorem dX11_walk_112 : decode cX11_walk 112 = .ok (.if_icmp .ge 51, 3) := by decide +kernel
theorem dX11_walk_115 : decode cX11_walk 115 = .ok (.aload_n 0, 1) := by decide +kernel
theorem dX11_walk_116 : decode cX11_walk 116 = .ok (.aload_n 0, 1) := by decide +kernel
theorem dX11_walk_117 : decode cX11_walk 117 = .ok (.getfield 129, 3) := by decide +kernel
theorem dX11_walk_120 : decode cX11_walk 120 = .ok (.iload 6, 2) := by decide +kernel
theorem dX11_walk_122 : decode cX11_walk 122 = .ok (.iaload, 1) := by decide +kernel
theorem dX11_walk_123 : decode cX11_walk 123 = .ok (.iload_n 1, 1) := by decide +kernel
theorem dX11_walk_124 : decode cX11_walk 124 = .ok (.invokevirtual 147, 3) := by decide +kernel
theorem dX11_walk_127 : decode cX11_walk 127 = .ok (.ifCond .eq 30, 3) := by decide +kernel
theorem dX11_walk_130 : decode cX11_walk 130 = .ok (.aload_n 0, 1) := by decide +kernel
theorem dX11_walk_131 : decode cX11_walk 131 = .ok (.aload_n 0, 1) := by decide +kernel
theorem dX11_walk_132 : decode cX11_walk 132 = .ok (.getfield 129, 3) := by decide +kernel
theorem dX11_walk_135 : decode cX11_walk 135 = .ok (.iload 6, 2) := by decide +kernel
theorem dX11_walk_137 : decode cX11_walk 137 = .ok (.iaload, 1) := by decide +kernel
theorem dX11_walk_138 : decode cX11_walk 138 = .ok (.invokevirtual 85, 3) := by decide +kernel
theorem dX11_walk_141 : decode cX11_walk 141 = .ok (.ifCond .eq 16, 3) := by decide +kernel
theorem dX11_walk_144 : decode cX11_walk 144 = .ok (.aload_n 0, 1) := by decide +kernel
theorem dX11_walk_145 : decode cX11_walk 145 = .ok (.aload_n 0, 1) := by decide +kernel
theorem dX11_walk_146 : decode cX11_walk 146 = .ok (.getfield 129, 3) := by decide +kernel
theorem dX11_walk_149 : decode cX11_walk 149 = .ok (.iload 6, 2) := by decide +kernel
theorem dX11_walk_151 : decode cX11_walk 151 = .ok (.iaload, 1) := by decide +kernel
theorem dX11_walk_152 : decode cX11_walk 152 = .ok (.iload_n 2, 1) := by decide +kernel
theorem dX11_walk_153 : decode cX11_walk 153 = .ok (.iload_n 3, 1) := by decide +kernel
theorem dX11_walk_154 : decode cX11_walk 154 = .ok (.invokevirtual 169, 3) := by decide +kernel
theorem dX11_walk_157 : decode cX11_walk 157 = .ok (.iinc 6 1, 3) := by decide +kernel
theorem dX11_walk_160 : decode cX11_walk 160 = .ok (.goto (-54), 3) := by decide +kernel
theorem dX11_walk_163 : decode cX11_walk 163 = .ok (.goto 189, 3) := by decide +kernel
theorem dX11_walk_166 : decode cX11_walk 166 = .ok (.iload 4, 2) := by decide +kernel
theorem dX11_walk_168 : decode cX11_walk 168 = .ok (.iconst 3, 1) := by decide +kernel
theorem dX11_walk_169 : decode cX11_walk 169 = .ok (.if_icmp .ne 53, 3) := by decide +kernel
theorem dX11_walk_172 : decode cX11_walk 172 = .ok (.aload_n 0, 1) := by decide +kernel
theorem dX11_walk_173 : decode cX11_walk 173 = .ok (.getfield 120, 3) := by decide +kernel
theorem dX11_walk_176 : decode cX11_walk 176 = .ok (.iconst 1, 1) := by decide +kernel
theorem dX11_walk_177 : decode cX11_walk 177 = .ok (.isub, 1) := by decide +kernel
theorem dX11_walk_178 : decode cX11_walk 178 = .ok (.istore 6, 2) := by decide +kernel
theorem dX11_walk_180 : decode cX11_walk 180 = .ok (.iload 6, 2) := by decide +kernel
theorem dX11_walk_182 : decode cX11_walk 182 = .ok (.ifCond .lt 37, 3) := by decide +kernel
theorem dX11_walk_185 : decode cX11_walk 185 = .ok (.aload_n 0, 1) := by decide +kernel
theorem dX11_walk_186 : decode cX11_walk 186 = .ok (.aload_n 0, 1) := by decide +kernel
theorem dX11_walk_187 : decode cX11_walk 187 = .ok (.getfield 129, 3) := by decide +kernel
theorem dX11_walk_190 : decode cX11_walk 190 = .ok (.iload 6, 2) := by decide +kernel
theorem dX11_walk_192 : decode cX11_walk 192 = .ok (.iaload, 1) := by decide +kernel
theorem dX11_walk_193 : decode cX11_walk 193 = .ok (.iload_n 1, 1) := by decide +kernel
theorem dX11_walk_194 : decode cX11_walk 194 = .ok (.invokevirtual 147, 3) := by decide +kernel
theorem dX11_walk_197 : decode cX11_walk 197 = .ok (.ifCond .eq 16, 3) := by decide +kernel
theorem dX11_walk_200 : decode cX11_walk 200 = .ok (.aload_n 0, 1) := by decide +kernel
theorem dX11_walk_201 : decode cX11_walk 201 = .ok (.aload_n 0, 1) := by decide +kernel
theorem dX11_walk_202 : decode cX11_walk 202 = .ok (.getfield 129, 3) := by decide +kernel
theorem dX11_walk_205 : decode cX11_walk 205 = .ok (.iload 6, 2) := by decide +kernel
theorem dX11_walk_207 : decode cX11_walk 207 = .ok (.iaload, 1) := by decide +kernel
theorem dX11_walk_208 : decode cX11_walk 208 = .ok (.iload_n 2, 1) := by decide +kernel
theorem dX11_walk_209 : decode cX11_walk 209 = .ok (.iload_n 3, 1) := by decide +kernel
theorem dX11_walk_210 : decode cX11_walk 210 = .ok (.invokevirtual 169, 3) := by decide +kernel
theorem dX11_walk_213 : decode cX11_walk 213 = .ok (.iinc 6 (-1), 3) := by decide +kernel
theorem dX11_walk_216 : decode cX11_walk 216 = .ok (.goto (-36), 3) := by decide +kernel
theorem dX11_walk_219 : decode cX11_walk 219 = .ok (.goto 133, 3) := by decide +kernel
theorem dX11_walk_222 : decode cX11_walk 222 = .ok (.iconst 0, 1) := by decide +kernel
theorem dX11_walk_223 : decode cX11_walk 223 = .ok (.istore 6, 2) := by decide +kernel
theorem dX11_walk_225 : decode cX11_walk 225 = .ok (.iload 6, 2) := by decide +kernel
theorem dX11_walk_227 : decode cX11_walk 227 = .ok (.aload_n 0, 1) := by decide +kernel
theorem dX11_walk_228 : decode cX11_walk 228 = .ok (.getfield 120, 3) := by decide +kernel
theorem dX11_walk_231 : decode cX11_walk 231 = .ok (.if_icmp .ge 56, 3) := by decide +kernel
theorem dX11_walk_234 : decode cX11_walk 234 = .ok (.aload_n 0, 1) := by decide +kernel
theorem dX11_walk_235 : decode cX11_walk 235 = .ok (.aload_n 0, 1) := by decide +kernel
theorem dX11_walk_236 : decode cX11_walk 236 = .ok (.getfield 129, 3) := by decide +kernel
theorem dX11_walk_239 : decode cX11_walk 239 = .ok (.iload 6, 2) := by decide +kernel
theorem dX11_walk_241 : decode cX11_walk 241 = .ok (.iaload, 1) := by decide +kernel
theorem dX11_walk_242 : decode cX11_walk 242 = .ok (.iload_n 1, 1) := by decide +kernel
theorem dX11_walk_243 : decode cX11_walk 243 = .ok (.invokevirtual 147, 3) := by decide +kernel
theorem dX11_walk_246 : decode cX11_walk 246 = .ok (.ifCond .eq 35, 3) := by decide +kernel
theorem dX11_walk_249 : decode cX11_walk 249 = .ok (.iload 5, 2) := by decide +kernel
theorem dX11_walk_251 : decode cX11_walk 251 = .ok (.ifCond .eq 17, 3) := by decide +kernel
theorem dX11_walk_254 : decode cX11_walk 254 = .ok (.aload_n 0, 1) := by decide +kernel
theorem dX11_walk_255 : decode cX11_walk 255 = .ok (.aload_n 0, 1) := by decide +kernel
theorem dX11_walk_256 : decode cX11_walk 256 = .ok (.getfield 129, 3) := by decide +kernel
theorem dX11_walk_259 : decode cX11_walk 259 = .ok (.iload 6, 2) := by decide +kernel
theorem dX11_walk_261 : decode cX11_walk 261 = .ok (.iaload, 1) := by decide +kernel
theorem dX11_walk_262 : decode cX11_walk 262 = .ok (.invokevirtual 85, 3) := by decide +kernel
theorem dX11_walk_265 : decode cX11_walk 265 = .ok (.ifCond .eq 16, 3) := by decide +kernel
theorem dX11_walk_268 : decode cX11_walk 268 = .ok (.aload_n 0, 1) := by decide +kernel
theorem dX11_walk_269 : decode cX11_walk 269 = .ok (.aload_n 0, 1) := by decide +kernel
theorem dX11_walk_270 : decode cX11_walk 270 = .ok (.getfield 129, 3) := by decide +kernel
theorem dX11_walk_273 : decode cX11_walk 273 = .ok (.iload 6, 2) := by decide +kernel
theorem dX11_walk_275 : decode cX11_walk 275 = .ok (.iaload, 1) := by decide +kernel
theorem dX11_walk_276 : decode cX11_walk 276 = .ok (.iload_n 2, 1) := by decide +kernel
theorem dX11_walk_277 : decode cX11_walk 277 = .ok (.iload_n 3, 1) := by decide +kernel
theorem dX11_walk_278 : decode cX11_walk 278 = .ok (.invokevirtual 169, 3) := by decide +kernel
theorem dX11_walk_281 : decode cX11_walk 281 = .ok (.iinc 6 1, 3) := by decide +kernel
theorem dX11_walk_284 : decode cX11_walk 284 = .ok (.goto (-59), 3) := by decide +kernel
theorem dX11_walk_287 : decode cX11_walk 287 = .ok (.iconst 0, 1) := by decide +kernel
theorem dX11_walk_288 : decode cX11_walk 288 = .ok (.istore 6, 2) := by decide +kernel
theorem dX11_walk_290 : decode cX11_walk 290 = .ok (.iload 6, 2) := by decide +kernel
theorem dX11_walk_292 : decode cX11_walk 292 = .ok (.aload_n 0, 1) := by decide +kernel
theorem dX11_walk_293 : decode cX11_walk 293 = .ok (.getfield 120, 3) := by decide +kernel
theorem dX11_walk_296 : decode cX11_walk 296 = .ok (.if_icmp .ge 56, 3) := by decide +kernel
theorem dX11_walk_299 : decode cX11_walk 299 = .ok (.iload 5, 2) := by decide +kernel
theorem dX11_walk_301 : decode cX11_walk 301 = .ok (.ifCond .eq 51, 3) := by decide +kernel
theorem dX11_walk_304 : decode cX11_walk 304 = .ok (.aload_n 0, 1) := by decide +kernel
theorem dX11_walk_305 : decode cX11_walk 305 = .ok (.aload_n 0, 1) := by decide +kernel
theorem dX11_walk_306 : decode cX11_walk 306 = .ok (.getfield 129, 3) := by decide +kernel
theorem dX11_walk_309 : decode cX11_walk 309 = .ok (.iload 6, 2) := by decide +kernel
theorem dX11_walk_311 : decode cX11_walk 311 = .ok (.iaload, 1) := by decide +kernel
theorem dX11_walk_312 : decode cX11_walk 312 = .ok (.iload_n 1, 1) := by decide +kernel
theorem dX11_walk_313 : decode cX11_walk 313 = .ok (.invokevirtual 147, 3) := by decide +kernel
theorem dX11_walk_316 : decode cX11_walk 316 = .ok (.ifCond .eq 30, 3) := by decide +kernel
theorem dX11_walk_319 : decode cX11_walk 319 = .ok (.aload_n 0, 1) := by decide +kernel
theorem dX11_walk_320 : decode cX11_walk 320 = .ok (.aload_n 0, 1) := by decide +kernel
theorem dX11_walk_321 : decode cX11_walk 321 = .ok (.getfield 129, 3) := by decide +kernel
theorem dX11_walk_324 : decode cX11_walk 324 = .ok (.iload 6, 2) := by decide +kernel
theorem dX11_walk_326 : decode cX11_walk 326 = .ok (.iaload, 1) := by decide +kernel
theorem dX11_walk_327 : decode cX11_walk 327 = .ok (.invokevirtual 85, 3) := by decide +kernel
theorem dX11_walk_330 : decode cX11_walk 330 = .ok (.ifCond .ne 16, 3) := by decide +kernel
theorem dX11_walk_333 : decode cX11_walk 333 = .ok (.aload_n 0, 1) := by decide +kernel
theorem dX11_walk_334 : decode cX11_walk 334 = .ok (.aload_n 0, 1) := by decide +kernel
theorem dX11_walk_335 : decode cX11_walk 335 = .ok (.getfield 129, 3) := by decide +kernel
theorem dX11_walk_338 : decode cX11_walk 338 = .ok (.iload 6, 2) := by decide +kernel
theorem dX11_walk_340 : decode cX11_walk 340 = .ok (.iaload, 1) := by decide +kernel
theorem dX11_walk_341 : decode cX11_walk 341 = .ok (.iload_n 2, 1) := by decide +kernel
theorem dX11_walk_342 : decode cX11_walk 342 = .ok (.iload_n 3, 1) := by decide +kernel
theorem dX11_walk_343 : decode cX11_walk 343 = .ok (.invokevirtual 169, 3) := by decide +kernel
theorem dX11_walk_346 : decode cX11_walk 346 = .ok (.iinc 6 1, 3) := by decide +kernel
theorem dX11_walk_349 : decode cX11_walk 349 = .ok (.goto (-59), 3) := by decide +kernel
theorem dX11_walk_352 : decode cX11_walk 352 = .ok (.return_, 1) := by decide +kernel
theorem dX11_walkNear_0 : decode cX11_walkNear 0 = .ok (.iconst 0, 1) := by decide +kernel
theorem dX11_walkNear_1 : decode cX11_walkNear 1 = .ok (.istore 4, 2) := by decide +kernel
theorem dX11_walkNear_3 : decode cX11_walkNear 3 = .ok (.iload 4, 2) := by decide +kernel
theorem dX11_walkNear_5 : decode cX11_walkNear 5 = .ok (.bipush 64, 2) := by decide +kernel
theorem dX11_walkNear_7 : decode cX11_walkNear 7 = .ok (.if_icmp .ge 17, 3) := by decide +kernel
theorem dX11_walkNear_10 : decode cX11_walkNear 10 = .ok (.aload_n 0, 1) := by decide +kernel
theorem dX11_walkNear_11 : decode cX11_walkNear 11 = .ok (.getfield 173, 3) := by decide +kernel
theorem dX11_walkNear_14 : decode cX11_walkNear 14 = .ok (.iload 4, 2) := by decide +kernel
theorem dX11_walkNear_16 : decode cX11_walkNear 16 = .ok (.iconst (-1), 1) := by decide +kernel
theorem dX11_walkNear_17 : decode cX11_walkNear 17 = .ok (.iastore, 1) := by decide +kernel
theorem dX11_walkNear_18 : decode cX11_walkNear 18 = .ok (.iinc 4 1, 3) := by decide +kernel
theorem dX11_walkNear_21 : decode cX11_walkNear 21 = .ok (.goto (-18), 3) := by decide +kernel
theorem dX11_walkNear_24 : decode cX11_walkNear 24 = .ok (.aload_n 0, 1) := by decide +kernel
theorem dX11_walkNear_25 : decode cX11_walkNear 25 = .ok (.getfield 173, 3) := by decide +kernel
theorem dX11_walkNear_28 : decode cX11_walkNear 28 = .ok (.iload_n 1, 1) := by decide +kernel
theorem dX11_walkNear_29 : decode cX11_walkNear 29 = .ok (.iconst 0, 1) := by decide +kernel
theorem dX11_walkNear_30 : decode cX11_walkNear 30 = .ok (.iastore, 1) := by decide +kernel
theorem dX11_walkNear_31 : decode cX11_walkNear 31 = .ok (.iconst 0, 1) := by decide +kernel
theorem dX11_walkNear_32 : decode cX11_walkNear 32 = .ok (.istore 4, 2) := by decide +kernel
theorem dX11_walkNear_34 : decode cX11_walkNear 34 = .ok (.iconst 0, 1) := by decide +kernel
theorem dX11_walkNear_35 : decode cX11_walkNear 35 = .ok (.istore 5, 2) := by decide +kernel
theorem dX11_walkNear_37 : decode cX11_walkNear 37 = .ok (.iload 5, 2) := by decide +kernel
theorem dX11_walkNear_39 : decode cX11_walkNear 39 = .ok (.aload_n 0, 1) := by decide +kernel
theorem dX11_walkNear_40 : decode cX11_walkNear 40 = .ok (.getfield 120, 3) := by decide +kernel
theorem dX11_walkNear_43 : decode cX11_walkNear 43 = .ok (.if_icmp .ge 141, 3) := by decide +kernel
theorem dX11_walkNear_46 : decode cX11_walkNear 46 = .ok (.aload_n 0, 1) := by decide +kernel
theorem dX11_walkNear_47 : decode cX11_walkNear 47 = .ok (.getfield 129, 3) := by decide +kernel
theorem dX11_walkNear_50 : decode cX11_walkNear 50 = .ok (.iload 5, 2) := by decide +kernel
theorem dX11_walkNear_52 : decode cX11_walkNear 52 = .ok (.iaload, 1) := by decide +kernel
theorem dX11_walkNear_53 : decode cX11_walkNear 53 = .ok (.istore 6, 2) := by decide +kernel
theorem dX11_walkNear_55 : decode cX11_walkNear 55 = .ok (.iload 6, 2) := by decide +kernel
theorem dX11_walkNear_57 : decode cX11_walkNear 57 = .ok (.iload_n 1, 1) := by decide +kernel
theorem dX11_walkNear_58 : decode cX11_walkNear 58 = .ok (.if_icmp .eq 120, 3) := by decide +kernel
theorem dX11_walkNear_61 : decode cX11_walkNear 61 = .ok (.aload_n 0, 1) := by decide +kernel
theorem dX11_walkNear_62 : decode cX11_walkNear 62 = .ok (.getfield 117, 3) := by decide +kernel
theorem dX11_walkNear_65 : decode cX11_walkNear 65 = .ok (.iload 6, 2) := by decide +kernel
theorem dX11_walkNear_67 : decode cX11_walkNear 67 = .ok (.baload, 1) := by decide +kernel
theorem dX11_walkNear_68 : decode cX11_walkNear 68 = .ok (.ifCond .ne 6, 3) := by decide +kernel
theorem dX11_walkNear_71 : decode cX11_walkNear 71 = .ok (.goto 107, 3) := by decide +kernel
theorem dX11_walkNear_74 : decode cX11_walkNear 74 = .ok (.aload_n 0, 1) := by decide +kernel
theorem dX11_walkNear_75 : decode cX11_walkNear 75 = .ok (.getfield 173, 3) := by decide +kernel
theorem dX11_walkNear_78 : decode cX11_walkNear 78 = .ok (.aload_n 0, 1) := by decide +kernel
theorem dX11_walkNear_79 : decode cX11_walkNear 79 = .ok (.iload 6, 2) := by decide +kernel
theorem dX11_walkNear_81 : decode cX11_walkNear 81 = .ok (.invokevirtual 76, 3) := by decide +kernel
theorem dX11_walkNear_84 : decode cX11_walkNear 84 = .ok (.iaload, 1) := by decide +kernel
theorem dX11_walkNear_85 : decode cX11_walkNear 85 = .ok (.istore 7, 2) := by decide +kernel
theorem dX11_walkNear_87 : decode cX11_walkNear 87 = .ok (.aload_n 0, 1) := by decide +kernel
theorem dX11_walkNear_88 : decode cX11_walkNear 88 = .ok (.getfield 173, 3) := by decide +kernel
theorem dX11_walkNear_91 : decode cX11_walkNear 91 = .ok (.aload_n 0, 1) := by decide +kernel
theorem dX11_walkNear_92 : decode cX11_walkNear 92 = .ok (.iload 6, 2) := by decide +kernel
theorem dX11_walkNear_94 : decode cX11_walkNear 94 = .ok (.invokevirtual 79, 3) := by decide +kernel
theorem dX11_walkNear_97 : decode cX11_walkNear 97 = .ok (.iaload, 1) := by decide +kernel
theorem dX11_walkNear_98 : decode cX11_walkNear 98 = .ok (.istore 8, 2) := by decide +kernel
theorem dX11_walkNear_100 : decode cX11_walkNear 100 = .ok (.aload_n 0, 1) := by decide +kernel
theorem dX11_walkNear_101 : decode cX11_walkNear 101 = .ok (.getfield 173, 3) := by decide +kernel
theorem dX11_walkNear_104 : decode cX11_walkNear 104 = .ok (.iload 6, 2) := by decide +kernel
theorem dX11_walkNear_106 : decode cX11_walkNear 106 = .ok (.iload 7, 2) := by decide +kernel
theorem dX11_walkNear_108 : decode cX11_walkNear 108 = .ok (.ifCond .ge 8, 3) := by decide +kernel
theorem dX11_walkNear_111 : decode cX11_walkNear 111 = .ok (.iload 8, 2) := by decide +kernel
theorem dX11_walkNear_113 : decode cX11_walkNear 113 = .ok (.goto 20, 3) := by decide +kernel
theorem dX11_walkNear_116 : decode cX11_walkNear 116 = .ok (.iload 8, 2) := by decide +kernel
theorem dX11_walkNear_118 : decode cX11_walkNear 118 = .ok (.ifCond .ge 8, 3) := by decide +kernel
theorem dX11_walkNear_121 : decode cX11_walkNear 121 = .ok (.iload 7, 2) := by decide +kernel
theorem dX11_walkNear_123 : decode cX11_walkNear 123 = .ok (.goto 10, 3) := by decide +kernel
theorem dX11_walkNear_126 : decode cX11_walkNear 126 = .ok (.iload 7, 2) := by decide +kernel
theorem dX11_walkNear_128 : decode cX11_walkNear 128 = .ok (.iload 8, 2) := by decide +kernel
theorem dX11_walkNear_130 : decode cX11_walkNear 130 = .ok (.invokestatic 63, 3) := by decide +kernel
theorem dX11_walkNear_133 : decode cX11_walkNear 133 = .ok (.iastore, 1) := by decide +kernel
theorem dX11_walkNear_134 : decode cX11_walkNear 134 = .ok (.aload_n 0, 1) := by decide +kernel
theorem dX11_walkNear_135 : decode cX11_walkNear 135 = .ok (.getfield 173, 3) := by decide +kernel
theorem dX11_walkNear_138 : decode cX11_walkNear 138 = .ok (.iload 6, 2) := by decide +kernel
theorem dX11_walkNear_140 : decode cX11_walkNear 140 = .ok (.aload_n 0, 1) := by decide +kernel
theorem dX11_walkNear_141 : decode cX11_walkNear 141 = .ok (.getfield 173, 3) := by decide +kernel
theorem dX11_walkNear_144 : decode cX11_walkNear 144 = .ok (.iload 6, 2) := by decide +kernel
theorem dX11_walkNear_146 : decode cX11_walkNear 146 = .ok (.iaload, 1) := by decide +kernel
theorem dX11_walkNear_147 : decode cX11_walkNear 147 = .ok (.ifCond .ge 7, 3) := by decide +kernel
theorem dX11_walkNear_150 : decode cX11_walkNear 150 = .ok (.iconst (-1), 1) := by decide +kernel
theorem dX11_walkNear_151 : decode cX11_walkNear 151 = .ok (.goto 12, 3) := by decide +kernel
theorem dX11_walkNear_154 : decode cX11_walkNear 154 = .ok (.aload_n 0, 1) := by decide +kernel
theorem dX11_walkNear_155 : decode cX11_walkNear 155 = .ok (.getfield 173, 3) := by decide +kernel
theorem dX11_walkNear_158 : decode cX11_walkNear 158 = .ok (.iload 6, 2) := by decide +kernel
theorem dX11_walkNear_160 : decode cX11_walkNear 160 = .ok (.iaload, 1) := by decide +kernel
theorem dX11_walkNear_161 : decode cX11_walkNear 161 = .ok (.iconst 1, 1) := by decide +kernel
theorem dX11_walkNear_162 : decode cX11_walkNear 162 = .ok (.iadd, 1) := by decide +kernel
theorem dX11_walkNear_163 : decode cX11_walkNear 163 = .ok (.iastore, 1) := by decide +kernel
theorem dX11_walkNear_164 : decode cX11_walkNear 164 = .ok (.iload 4, 2) := by decide +kernel
theorem dX11_walkNear_166 : decode cX11_walkNear 166 = .ok (.aload_n 0, 1) := by decide +kernel
theorem dX11_walkNear_167 : decode cX11_walkNear 167 = .ok (.getfield 173, 3) := by decide +kernel
theorem dX11_walkNear_170 : decode cX11_walkNear 170 = .ok (.iload 6, 2) := by decide +kernel
theorem dX11_walkNear_172 : decode cX11_walkNear 172 = .ok (.iaload, 1) := by decide +kernel
theorem dX11_walkNear_173 : decode cX11_walkNear 173 = .ok (.invokestatic 176, 3) := by decide +kernel
theorem dX11_walkNear_176 : decode cX11_walkNear 176 = .ok (.istore 4, 2) := by decide +kernel
theorem dX11_walkNear_178 : decode cX11_walkNear 178 = .ok (.iinc 5 1, 3) := by decide +kernel
theorem dX11_walkNear_181 : decode cX11_walkNear 181 = .ok (.goto (-144), 3) := by decide +kernel
theorem dX11_walkNear_184 : decode cX11_walkNear 184 = .ok (.iconst 0, 1) := by decide +kernel
theorem dX11_walkNear_185 : decode cX11_walkNear 185 = .ok (.istore 5, 2) := by decide +kernel
theorem dX11_walkNear_187 : decode cX11_walkNear 187 = .ok (.iload 5, 2) := by decide +kernel
theorem dX11_walkNear_189 : decode cX11_walkNear 189 = .ok (.iload 4, 2) := by decide +kernel
theorem dX11_walkNear_191 : decode cX11_walkNear 191 = .ok (.if_icmp .gt 89, 3) := by decide +kernel
theorem dX11_walkNear_194 : decode cX11_walkNear 194 = .ok (.iconst 0, 1) := by decide +kernel
theorem dX11_walkNear_195 : decode cX11_walkNear 195 = .ok (.istore 6, 2) := by decide +kernel
theorem dX11_walkNear_197 : decode cX11_walkNear 197 = .ok (.iload 6, 2) := by decide +kernel
theorem dX11_walkNear_199 : decode cX11_walkNear 199 = .ok (.aload_n 0, 1) := by decide +kernel
theorem dX11_walkNear_200 : decode cX11_walkNear 200 = .ok (.getfield 120, 3) := by decide +kernel
theorem dX11_walkNear_203 : decode cX11_walkNear 203 = .ok (.if_icmp .ge 71, 3) := by decide +kernel
theorem dX11_walkNear_206 : decode cX11_walkNear 206 = .ok (.aload_n 0, 1) := by decide +kernel
theorem dX11_walkNear_207 : decode cX11_walkNear 207 = .ok (.getfield 173, 3) := by decide +kernel
theorem dX11_walkNear_210 : decode cX11_walkNear 210 = .ok (.aload_n 0, 1) := by decide +kernel
theorem dX11_walkNear_211 : decode cX11_walkNear 211 = .ok (.getfield 129, 3) := by decide +kernel
theorem dX11_walkNear_214 : decode cX11_walkNear 214 = .ok (.iload 6, 2) := by decide +kernel
theorem dX11_walkNear_216 : decode cX11_walkNear 216 = .ok (.iaload, 1) := by decide +kernel
theorem dX11_walkNear_217 : decode cX11_walkNear 217 = .ok (.iaload, 1) := by decide +kernel
theorem dX11_walkNear_218 : decode cX11_walkNear 218 = .ok (.iload 5, 2) := by decide +kernel
theorem dX11_walkNear_220 : decode cX11_walkNear 220 = .ok (.if_icmp .ne 48, 3) := by decide +kernel
theorem dX11_walkNear_223 : decode cX11_walkNear 223 = .ok (.aload_n 0, 1) := by decide +kernel
theorem dX11_walkNear_224 : decode cX11_walkNear 224 = .ok (.aload_n 0, 1) := by decide +kernel
theorem dX11_walkNear_225 : decode cX11_walkNear 225 = .ok (.getfield 129, 3) := by decide +kernel
theorem dX11_walkNear_228 : decode cX11_walkNear 228 = .ok (.iload 6, 2) := by decide +kernel
theorem dX11_walkNear_230 : decode cX11_walkNear 230 = .ok (.iaload, 1) := by decide +kernel
theorem dX11_walkNear_231 : decode cX11_walkNear 231 = .ok (.iload_n 2, 1) := by decide +kernel
theorem dX11_walkNear_232 : decode cX11_walkNear 232 = .ok (.iload_n 3, 1) := by decide +kernel
theorem dX11_walkNear_233 : decode cX11_walkNear 233 = .ok (.invokevirtual 160, 3) := by decide +kernel
theorem dX11_walkNear_236 : decode cX11_walkNear 236 = .ok (.ifCond .ne 6, 3) := by decide +kernel
theorem dX11_walkNear_239 : decode cX11_walkNear 239 = .ok (.goto 29, 3) := by decide +kernel
theorem dX11_walkNear_242 : decode cX11_walkNear 242 = .ok (.aload_n 0, 1) := by decide +kernel
theorem dX11_walkNear_243 : decode cX11_walkNear 243 = .ok (.getfield 163, 3) := by decide +kernel
theorem dX11_walkNear_246 : decode cX11_walkNear 246 = .ok (.aload_n 0, 1) := by decide +kernel
theorem dX11_walkNear_247 : decode cX11_walkNear 247 = .ok (.getfield 166, 3) := by decide +kernel
theorem dX11_walkNear_250 : decode cX11_walkNear 250 = .ok (.aload_n 0, 1) := by decide +kernel
theorem dX11_walkNear_251 : decode cX11_walkNear 251 = .ok (.getfield 129, 3) := by decide +kernel
theorem dX11_walkNear_254 : decode cX11_walkNear 254 = .ok (.iload 6, 2) := by decide +kernel
theorem dX11_walkNear_256 : decode cX11_walkNear 256 = .ok (.iaload, 1) := by decide +kernel
theorem dX11_walkNear_257 : decode cX11_walkNear 257 = .ok (.iastore, 1) := by decide +kernel
theorem dX11_walkNear_258 : decode cX11_walkNear 258 = .ok (.aload_n 0, 1) := by decide +kernel
theorem dX11_walkNear_259 : decode cX11_walkNear 259 = .ok (.dup, 1) := by decide +kernel
theorem dX11_walkNear_260 : decode cX11_walkNear 260 = .ok (.getfield 166, 3) := by decide +kernel
theorem dX11_walkNear_263 : decode cX11_walkNear 263 = .ok (.iconst 1, 1) := by decide +kernel
theorem dX11_walkNear_264 : decode cX11_walkNear 264 = .ok (.iadd, 1) := by decide +kernel
theorem dX11_walkNear_265 : decode cX11_walkNear 265 = .ok (.putfield 166, 3) := by decide +kernel
theorem dX11_walkNear_268 : decode cX11_walkNear 268 = .ok (.iinc 6 1, 3) := by decide +kernel
theorem dX11_walkNear_271 : decode cX11_walkNear 271 = .ok (.goto (-74), 3) := by decide +kernel
theorem dX11_walkNear_274 : decode cX11_walkNear 274 = .ok (.iinc 5 1, 3) := by decide +kernel
theorem dX11_walkNear_277 : decode cX11_walkNear 277 = .ok (.goto (-90), 3) := by decide +kernel
theorem dX11_walkNear_280 : decode cX11_walkNear 280 = .ok (.return_, 1) := by decide +kernel
theorem dX11_lineOf_0 : decode cX11_lineOf 0 = .ok (.aload_n 0, 1) := by decide +kernel
theorem dX11_lineOf_1 : decode cX11_lineOf 1 = .ok (.invokevirtual 179, 3) := by decide +kernel
theorem dX11_lineOf_4 : decode cX11_lineOf 4 = .ok (.aload_n 0, 1) := by decide +kernel
theorem dX11_lineOf_5 : decode cX11_lineOf 5 = .ok (.iconst 0, 1) := by decide +kernel
theorem dX11_lineOf_6 : decode cX11_lineOf 6 = .ok (.putfield 166, 3) := by decide +kernel
theorem dX11_lineOf_9 : decode cX11_lineOf 9 = .ok (.aload_n 0, 1) := by decide +kernel
theorem dX11_lineOf_10 : decode cX11_lineOf 10 = .ok (.lconst 0, 1) := by decide +kernel
theorem dX11_lineOf_11 : decode cX11_lineOf 11 = .ok (.putfield 156, 3) := by decide +kernel
theorem dX11_lineOf_14 : decode cX11_lineOf 14 = .ok (.aload_n 0, 1) := by decide +kernel
theorem dX11_lineOf_15 : decode cX11_lineOf 15 = .ok (.getfield 28, 3) := by decide +kernel
theorem dX11_lineOf_18 : decode cX11_lineOf 18 = .ok (.aload_n 0, 1) := by decide +kernel
theorem dX11_lineOf_19 : decode cX11_lineOf 19 = .ok (.getfield 25, 3) := by decide +kernel
theorem dX11_lineOf_22 : decode cX11_lineOf 22 = .ok (.iload_n 1, 1) := by decide +kernel
theorem dX11_lineOf_23 : decode cX11_lineOf 23 = .ok (.iaload, 1) := by decide +kernel
theorem dX11_lineOf_24 : decode cX11_lineOf 24 = .ok (.iaload, 1) := by decide +kernel
theorem dX11_lineOf_25 : decode cX11_lineOf 25 = .ok (.iconst 4, 1) := by decide +kernel
theorem dX11_lineOf_26 : decode cX11_lineOf 26 = .ok (.if_icmp .ne 13, 3) := by decide +kernel
theorem dX11_lineOf_29 : decode cX11_lineOf 29 = .ok (.aload_n 0, 1) := by decide +kernel
theorem dX11_lineOf_30 : decode cX11_lineOf 30 = .ok (.iload_n 3, 1) := by decide +kernel
theorem dX11_lineOf_31 : decode cX11_lineOf 31 = .ok (.iload_n 1, 1) := by decide +kernel
theorem dX11_lineOf_32 : decode cX11_lineOf 32 = .ok (.iload_n 2, 1) := by decide +kernel
theorem dX11_lineOf_33 : decode cX11_lineOf 33 = .ok (.invokevirtual 183, 3) := by decide +kernel
theorem dX11_lineOf_36 : decode cX11_lineOf 36 = .ok (.goto 10, 3) := by decide +kernel
theorem dX11_lineOf_39 : decode cX11_lineOf 39 = .ok (.aload_n 0, 1) := by decide +kernel
theorem dX11_lineOf_40 : decode cX11_lineOf 40 = .ok (.iload_n 3, 1) := by decide +kernel
theorem dX11_lineOf_41 : decode cX11_lineOf 41 = .ok (.iload_n 1, 1) := by decide +kernel
theorem dX11_lineOf_42 : decode cX11_lineOf 42 = .ok (.iload_n 2, 1) := by decide +kernel
theorem dX11_lineOf_43 : decode cX11_lineOf 43 = .ok (.invokevirtual 169, 3) := by decide +kernel
theorem dX11_lineOf_46 : decode cX11_lineOf 46 = .ok (.return_, 1) := by decide +kernel
theorem dX11_placeOf_0 : decode cX11_placeOf 0 = .ok (.iconst 0, 1) := by decide +kernel
theorem dX11_placeOf_1 : decode cX11_placeOf 1 = .ok (.istore_n 2, 1) := by decide +kernel
theorem dX11_placeOf_2 : decode cX11_placeOf 2 = .ok (.iload_n 2, 1) := by decide +kernel
theorem dX11_placeOf_3 : decode cX11_placeOf 3 = .ok (.aload_n 0, 1) := by decide +kernel
theorem dX11_placeOf_4 : decode cX11_placeOf 4 = .ok (.getfield 166, 3) := by decide +kernel
theorem dX11_placeOf_7 : decode cX11_placeOf 7 = .ok (.if_icmp .ge 19, 3) := by decide +kernel
theorem dX11_placeOf_10 : decode cX11_placeOf 10 = .ok (.aload_n 0, 1) := by decide +kernel
theorem dX11_placeOf_11 : decode cX11_placeOf 11 = .ok (.getfield 163, 3) := by decide +kernel
theorem dX11_placeOf_14 : decode cX11_placeOf 14 = .ok (.iload_n 2, 1) := by decide +kernel
theorem dX11_placeOf_15 : decode cX11_placeOf 15 = .ok (.iaload, 1) := by decide +kernel
theorem dX11_placeOf_16 : decode cX11_placeOf 16 = .ok (.iload_n 1, 1) := by decide +kernel
theorem dX11_placeOf_17 : decode cX11_placeOf 17 = .ok (.if_icmp .eq 9, 3) := by decide +kernel
theorem dX11_placeOf_20 : decode cX11_placeOf 20 = .ok (.iinc 2 1, 3) := by decide +kernel
theorem dX11_placeOf_23 : decode cX11_placeOf 23 = .ok (.goto (-21), 3) := by decide +kernel
theorem dX11_placeOf_26 : decode cX11_placeOf 26 = .ok (.iload_n 2, 1) := by decide +kernel
theorem dX11_placeOf_27 : decode cX11_placeOf 27 = .ok (.aload_n 0, 1) := by decide +kernel
theorem dX11_placeOf_28 : decode cX11_placeOf 28 = .ok (.getfield 166, 3) := by decide +kernel
theorem dX11_placeOf_31 : decode cX11_placeOf 31 = .ok (.if_icmp .ge 7, 3) := by decide +kernel
theorem dX11_placeOf_34 : decode cX11_placeOf 34 = .ok (.iload_n 2, 1) := by decide +kernel
theorem dX11_placeOf_35 : decode cX11_placeOf 35 = .ok (.goto 4, 3) := by decide +kernel
theorem dX11_placeOf_38 : decode cX11_placeOf 38 = .ok (.iconst (-1), 1) := by decide +kernel
theorem dX11_placeOf_39 : decode cX11_placeOf 39 = .ok (.ireturn, 1) := by decide +kernel
theorem dX11_lineBits_0 : decode cX11_lineBits 0 = .ok (.lconst 0, 1) := by decide +kernel
theorem dX11_lineBits_1 : decode cX11_lineBits 1 = .ok (.lstore_n 1, 1) := by decide +kernel
theorem dX11_lineBits_2 : decode cX11_lineBits 2 = .ok (.iconst 0, 1) := by decide +kernel
theorem dX11_lineBits_3 : decode cX11_lineBits 3 = .ok (.istore_n 3, 1) := by decide +kernel
theorem dX11_lineBits_4 : decode cX11_lineBits 4 = .ok (.iload_n 3, 1) := by decide +kernel
theorem dX11_lineBits_5 : decode cX11_lineBits 5 = .ok (.aload_n 0, 1) := by decide +kernel
theorem dX11_lineBits_6 : decode cX11_lineBits 6 = .ok (.getfield 166, 3) := by decide +kernel
theorem dX11_lineBits_9 : decode cX11_lineBits 9 = .ok (.if_icmp .ge 21, 3) := by decide +kernel
theorem dX11_lineBits_12 : decode cX11_lineBits 12 = .ok (.lload_n 1, 1) := by decide +kernel
theorem dX11_lineBits_13 : decode cX11_lineBits 13 = .ok (.aload_n 0, 1) := by decide +kernel
theorem dX11_lineBits_14 : decode cX11_lineBits 14 = .ok (.getfield 163, 3) := by decide +kernel
theorem dX11_lineBits_17 : decode cX11_lineBits 17 = .ok (.iload_n 3, 1) := by decide +kernel
theorem dX11_lineBits_18 : decode cX11_lineBits 18 = .ok (.iaload, 1) := by decide +kernel
theorem dX11_lineBits_19 : decode cX11_lineBits 19 = .ok (.invokestatic 143, 3) := by decide +kernel
theorem dX11_lineBits_22 : decode cX11_lineBits 22 = .ok (.lor, 1) := by decide +kernel
theorem dX11_lineBits_23 : decode cX11_lineBits 23 = .ok (.lstore_n 1, 1) := by decide +kernel
theorem dX11_lineBits_24 : decode cX11_lineBits 24 = .ok (.iinc 3 1, 3) := by decide +kernel
theorem dX11_lineBits_27 : decode cX11_lineBits 27 = .ok (.goto (-23), 3) := by decide +kernel
theorem dX11_lineBits_30 : decode cX11_lineBits 30 = .ok (.lload_n 1, 1) := by decide +kernel
theorem dX11_lineBits_31 : decode cX11_lineBits 31 = .ok (.lreturn, 1) := by decide +kernel
theorem dX11_firstOf_0 : decode cX11_firstOf 0 = .ok (.iconst 0, 1) := by decide +kernel
theorem dX11_firstOf_1 : decode cX11_firstOf 1 = .ok (.istore_n 3, 1) := by decide +kernel
theorem dX11_firstOf_2 : decode cX11_firstOf 2 = .ok (.iload_n 3, 1) := by decide +kernel
theorem dX11_firstOf_3 : decode cX11_firstOf 3 = .ok (.aload_n 0, 1) := by decide +kernel
theorem dX11_firstOf_4 : decode cX11_firstOf 4 = .ok (.getfield 166, 3) := by decide +kernel
theorem dX11_firstOf_7 : decode cX11_firstOf 7 = .ok (.if_icmp .ge 25, 3) := by decide +kernel
theorem dX11_firstOf_10 : decode cX11_firstOf 10 = .ok (.lload_n 1, 1) := by decide +kernel
theorem dX11_firstOf_11 : decode cX11_firstOf 11 = .ok (.aload_n 0, 1) := by decide +kernel
theorem dX11_firstOf_12 : decode cX11_firstOf 12 = .ok (.getfield 163, 3) := by decide +kernel
theorem dX11_firstOf_15 : decode cX11_firstOf 15 = .ok (.iload_n 3, 1) := by decide +kernel
theorem dX11_firstOf_16 : decode cX11_firstOf 16 = .ok (.iaload, 1) := by decide +kernel
theorem dX11_firstOf_17 : decode cX11_firstOf 17 = .ok (.invokestatic 143, 3) := by decide +kernel
theorem dX11_firstOf_20 : decode cX11_firstOf 20 = .ok (.land, 1) := by decide +kernel
theorem dX11_firstOf_21 : decode cX11_firstOf 21 = .ok (.lconst 0, 1) := by decide +kernel
theorem dX11_firstOf_22 : decode cX11_firstOf 22 = .ok (.lcmp, 1) := by decide +kernel
theorem dX11_firstOf_23 : decode cX11_firstOf 23 = .ok (.ifCond .ne 9, 3) := by decide +kernel
theorem dX11_firstOf_26 : decode cX11_firstOf 26 = .ok (.iinc 3 1, 3) := by decide +kernel
theorem dX11_firstOf_29 : decode cX11_firstOf 29 = .ok (.goto (-27), 3) := by decide +kernel
theorem dX11_firstOf_32 : decode cX11_firstOf 32 = .ok (.iload_n 3, 1) := by decide +kernel
theorem dX11_firstOf_33 : decode cX11_firstOf 33 = .ok (.aload_n 0, 1) := by decide +kernel
theorem dX11_firstOf_34 : decode cX11_firstOf 34 = .ok (.getfield 166, 3) := by decide +kernel
theorem dX11_firstOf_37 : decode cX11_firstOf 37 = .ok (.if_icmp .ge 12, 3) := by decide +kernel
theorem dX11_firstOf_40 : decode cX11_firstOf 40 = .ok (.aload_n 0, 1) := by decide +kernel
theorem dX11_firstOf_41 : decode cX11_firstOf 41 = .ok (.getfield 163, 3) := by decide +kernel
theorem dX11_firstOf_44 : decode cX11_firstOf 44 = .ok (.iload_n 3, 1) := by decide +kernel
theorem dX11_firstOf_45 : decode cX11_firstOf 45 = .ok (.iaload, 1) := by decide +kernel
theorem dX11_firstOf_46 : decode cX11_firstOf 46 = .ok (.goto 4, 3) := by decide +kernel
theorem dX11_firstOf_49 : decode cX11_firstOf 49 = .ok (.iconst (-1), 1) := by decide +kernel
theorem dX11_firstOf_50 : decode cX11_firstOf 50 = .ok (.ireturn, 1) := by decide +kernel
theorem dX11_passes_0 : decode cX11_passes 0 = .ok (.aload_n 0, 1) := by decide +kernel
theorem dX11_passes_1 : decode cX11_passes 1 = .ok (.getfield 46, 3) := by decide +kernel
theorem dX11_passes_4 : decode cX11_passes 4 = .ok (.aload_n 0, 1) := by decide +kernel
theorem dX11_passes_5 : decode cX11_passes 5 = .ok (.getfield 25, 3) := by decide +kernel
theorem dX11_passes_8 : decode cX11_passes 8 = .ok (.iload_n 1, 1) := by decide +kernel
theorem dX11_passes_9 : decode cX11_passes 9 = .ok (.iaload, 1) := by decide +kernel
theorem dX11_passes_10 : decode cX11_passes 10 = .ok (.iaload, 1) := by decide +kernel
theorem dX11_passes_11 : decode cX11_passes 11 = .ok (.istore_n 3, 1) := by decide +kernel
theorem dX11_passes_12 : decode cX11_passes 12 = .ok (.aload_n 0, 1) := by decide +kernel
theorem dX11_passes_13 : decode cX11_passes 13 = .ok (.iload_n 1, 1) := by decide +kernel
theorem dX11_passes_14 : decode cX11_passes 14 = .ok (.iload_n 2, 1) := by decide +kernel
theorem dX11_passes_15 : decode cX11_passes 15 = .ok (.aload_n 0, 1) := by decide +kernel
theorem dX11_passes_16 : decode cX11_passes 16 = .ok (.getfield 186, 3) := by decide +kernel
theorem dX11_passes_19 : decode cX11_passes 19 = .ok (.invokevirtual 189, 3) := by decide +kernel
theorem dX11_passes_22 : decode cX11_passes 22 = .ok (.aload_n 0, 1) := by decide +kernel
theorem dX11_passes_23 : decode cX11_passes 23 = .ok (.getfield 166, 3) := by decide +kernel
theorem dX11_passes_26 : decode cX11_passes 26 = .ok (.ifCond .ne 26, 3) := by decide +kernel
theorem dX11_passes_29 : decode cX11_passes 29 = .ok (.aload_n 0, 1) := by decide +kernel
theorem dX11_passes_30 : decode cX11_passes 30 = .ok (.getfield 186, 3) := by decide +kernel
theorem dX11_passes_33 : decode cX11_passes 33 = .ok (.iload_n 3, 1) := by decide +kernel
theorem dX11_passes_34 : decode cX11_passes 34 = .ok (.if_icmp .eq 18, 3) := by decide +kernel
theorem dX11_passes_37 : decode cX11_passes 37 = .ok (.aload_n 0, 1) := by decide +kernel
theorem dX11_passes_38 : decode cX11_passes 38 = .ok (.iload_n 3, 1) := by decide +kernel
theorem dX11_passes_39 : decode cX11_passes 39 = .ok (.putfield 186, 3) := by decide +kernel
theorem dX11_passes_42 : decode cX11_passes 42 = .ok (.aload_n 0, 1) := by decide +kernel
theorem dX11_passes_43 : decode cX11_passes 43 = .ok (.iload_n 1, 1) := by decide +kernel
theorem dX11_passes_44 : decode cX11_passes 44 = .ok (.iload_n 2, 1) := by decide +kernel
theorem dX11_passes_45 : decode cX11_passes 45 = .ok (.aload_n 0, 1) := by decide +kernel
theorem dX11_passes_46 : decode cX11_passes 46 = .ok (.getfield 186, 3) := by decide +kernel
theorem dX11_passes_49 : decode cX11_passes 49 = .ok (.invokevirtual 189, 3) := by decide +kernel
theorem dX11_passes_52 : decode cX11_passes 52 = .ok (.aload_n 0, 1) := by decide +kernel
theorem dX11_passes_53 : decode cX11_passes 53 = .ok (.iconst 0, 1) := by decide +kernel
theorem dX11_passes_54 : decode cX11_passes 54 = .ok (.putfield 192, 3) := by decide +kernel
theorem dX11_passes_57 : decode cX11_passes 57 = .ok (.aload_n 0, 1) := by decide +kernel
theorem dX11_passes_58 : decode cX11_passes 58 = .ok (.getfield 166, 3) := by decide +kernel
theorem dX11_passes_61 : decode cX11_passes 61 = .ok (.ifCond .ne 11, 3) := by decide +kernel
theorem dX11_passes_64 : decode cX11_passes 64 = .ok (.aload_n 0, 1) := by decide +kernel
theorem dX11_passes_65 : decode cX11_passes 65 = .ok (.iconst (-1), 1) := by decide +kernel
theorem dX11_passes_66 : decode cX11_passes 66 = .ok (.putfield 195, 3) := by decide +kernel
theorem dX11_passes_69 : decode cX11_passes 69 = .ok (.goto 35, 3) := by decide +kernel
theorem dX11_passes_72 : decode cX11_passes 72 = .ok (.aload_n 0, 1) := by decide +kernel
theorem dX11_passes_73 : decode cX11_passes 73 = .ok (.getfield 28, 3) := by decide +kernel
theorem dX11_passes_76 : decode cX11_passes 76 = .ok (.aload_n 0, 1) := by decide +kernel
theorem dX11_passes_77 : decode cX11_passes 77 = .ok (.getfield 25, 3) := by decide +kernel
theorem dX11_passes_80 : decode cX11_passes 80 = .ok (.iload_n 1, 1) := by decide +kernel
theorem dX11_passes_81 : decode cX11_passes 81 = .ok (.iaload, 1) := by decide +kernel
theorem dX11_passes_82 : decode cX11_passes 82 = .ok (.iaload, 1) := by decide +kernel
theorem dX11_passes_83 : decode cX11_passes 83 = .ok (.iconst 5, 1) := by decide +kernel
theorem dX11_passes_84 : decode cX11_passes 84 = .ok (.if_icmp .eq 16, 3) := by decide +kernel
theorem dX11_passes_87 : decode cX11_passes 87 = .ok (.aload_n 0, 1) := by decide +kernel
theorem dX11_passes_88 : decode cX11_passes 88 = .ok (.aload_n 0, 1) := by decide +kernel
theorem dX11_passes_89 : decode cX11_passes 89 = .ok (.getfield 163, 3) := by decide +kernel
theorem dX11_passes_92 : decode cX11_passes 92 = .ok (.iconst 0, 1) := by decide +kernel
theorem dX11_passes_93 : decode cX11_passes 93 = .ok (.iaload, 1) := by decide +kernel
theorem dX11_passes_94 : decode cX11_passes 94 = .ok (.putfield 195, 3) := by decide +kernel
theorem dX11_passes_97 : decode cX11_passes 97 = .ok (.goto 7, 3) := by decide +kernel
theorem dX11_passes_100 : decode cX11_passes 100 = .ok (.aload_n 0, 1) := by decide +kernel
theorem dX11_passes_101 : decode cX11_passes 101 = .ok (.invokevirtual 198, 3) := by decide +kernel
theorem dX11_passes_104 : decode cX11_passes 104 = .ok (.return_, 1) := by decide +kernel
theorem dX11_descend_0 : decode cX11_descend 0 = .ok (.aload_n 0, 1) := by decide +kernel
theorem dX11_descend_1 : decode cX11_descend 1 = .ok (.invokevirtual 201, 3) := by decide +kernel
theorem dX11_descend_4 : decode cX11_descend 4 = .ok (.lstore_n 1, 1) := by decide +kernel
theorem dX11_descend_5 : decode cX11_descend 5 = .ok (.aload_n 0, 1) := by decide +kernel
theorem dX11_descend_6 : decode cX11_descend 6 = .ok (.getfield 186, 3) := by decide +kernel
theorem dX11_descend_9 : decode cX11_descend 9 = .ok (.istore_n 3, 1) := by decide +kernel
theorem dX11_descend_10 : decode cX11_descend 10 = .ok (.lload_n 1, 1) := by decide +kernel
theorem dX11_descend_11 : decode cX11_descend 11 = .ok (.iload_n 3, 1) := by decide +kernel
theorem dX11_descend_12 : decode cX11_descend 12 = .ok (.invokestatic 143, 3) := by decide +kernel
theorem dX11_descend_15 : decode cX11_descend 15 = .ok (.land, 1) := by decide +kernel
theorem dX11_descend_16 : decode cX11_descend 16 = .ok (.lconst 0, 1) := by decide +kernel
theorem dX11_descend_17 : decode cX11_descend 17 = .ok (.lcmp, 1) := by decide +kernel
theorem dX11_descend_18 : decode cX11_descend 18 = .ok (.ifCond .ne 241, 3) := by decide +kernel
theorem dX11_descend_21 : decode cX11_descend 21 = .ok (.iconst (-1), 1) := by decide +kernel
theorem dX11_descend_22 : decode cX11_descend 22 = .ok (.istore 4, 2) := by decide +kernel
theorem dX11_descend_24 : decode cX11_descend 24 = .ok (.aload_n 0, 1) := by decide +kernel
theorem dX11_descend_25 : decode cX11_descend 25 = .ok (.getfield 120, 3) := by decide +kernel
theorem dX11_descend_28 : decode cX11_descend 28 = .ok (.iconst 1, 1) := by decide +kernel
theorem dX11_descend_29 : decode cX11_descend 29 = .ok (.isub, 1) := by decide +kernel
theorem dX11_descend_30 : decode cX11_descend 30 = .ok (.istore 5, 2) := by decide +kernel
theorem dX11_descend_32 : decode cX11_descend 32 = .ok (.iload 5, 2) := by decide +kernel
theorem dX11_descend_34 : decode cX11_descend 34 = .ok (.ifCond .lt 66, 3) := by decide +kernel
theorem dX11_descend_37 : decode cX11_descend 37 = .ok (.aload_n 0, 1) := by decide +kernel
theorem dX11_descend_38 : decode cX11_descend 38 = .ok (.aload_n 0, 1) := by decide +kernel
theorem dX11_descend_39 : decode cX11_descend 39 = .ok (.getfield 129, 3) := by decide +kernel
theorem dX11_descend_42 : decode cX11_descend 42 = .ok (.iload 5, 2) := by decide +kernel
theorem dX11_descend_44 : decode cX11_descend 44 = .ok (.iaload, 1) := by decide +kernel
theorem dX11_descend_45 : decode cX11_descend 45 = .ok (.iload_n 3, 1) := by decide +kernel
theorem dX11_descend_46 : decode cX11_descend 46 = .ok (.invokevirtual 147, 3) := by decide +kernel
theorem dX11_descend_49 : decode cX11_descend 49 = .ok (.ifCond .eq 45, 3) := by decide +kernel
theorem dX11_descend_52 : decode cX11_descend 52 = .ok (.aload_n 0, 1) := by decide +kernel
theorem dX11_descend_53 : decode cX11_descend 53 = .ok (.aload_n 0, 1) := by decide +kernel
theorem dX11_descend_54 : decode cX11_descend 54 = .ok (.getfield 129, 3) := by decide +kernel
theorem dX11_descend_57 : decode cX11_descend 57 = .ok (.iload 5, 2) := by decide +kernel
theorem dX11_descend_59 : decode cX11_descend 59 = .ok (.iaload, 1) := by decide +kernel
theorem dX11_descend_60 : decode cX11_descend 60 = .ok (.invokevirtual 85, 3) := by decide +kernel
theorem dX11_descend_63 : decode cX11_descend 63 = .ok (.ifCond .eq 31, 3) := by decide +kernel
theorem dX11_descend_66 : decode cX11_descend 66 = .ok (.aload_n 0, 1) := by decide +kernel
theorem dX11_descend_67 : decode cX11_descend 67 = .ok (.getfield 139, 3) := by decide +kernel
theorem dX11_descend_70 : decode cX11_descend 70 = .ok (.aload_n 0, 1) := by decide +kernel
theorem dX11_descend_71 : decode cX11_descend 71 = .ok (.getfield 129, 3) := by decide +kernel
theorem dX11_descend_74 : decode cX11_descend 74 = .ok (.iload 5, 2) := by decide +kernel
theorem dX11_descend_76 : decode cX11_descend 76 = .ok (.iaload, 1) := by decide +kernel
theorem dX11_descend_77 : decode cX11_descend 77 = .ok (.laload, 1) := by decide +kernel
theorem dX11_descend_78 : decode cX11_descend 78 = .ok (.lload_n 1, 1) := by decide +kernel
theorem dX11_descend_79 : decode cX11_descend 79 = .ok (.land, 1) := by decide +kernel
theorem dX11_descend_80 : decode cX11_descend 80 = .ok (.lconst 0, 1) := by decide +kernel
theorem dX11_descend_81 : decode cX11_descend 81 = .ok (.lcmp, 1) := by decide +kernel
theorem dX11_descend_82 : decode cX11_descend 82 = .ok (.ifCond .eq 12, 3) := by decide +kernel
theorem dX11_descend_85 : decode cX11_descend 85 = .ok (.aload_n 0, 1) := by decide +kernel
theorem dX11_descend_86 : decode cX11_descend 86 = .ok (.getfield 129, 3) := by decide +kernel
theorem dX11_descend_89 : decode cX11_descend 89 = .ok (.iload 5, 2) := by decide +kernel
theorem dX11_descend_91 : decode cX11_descend 91 = .ok (.iaload, 1) := by decide +kernel
theorem dX11_descend_92 : decode cX11_descend 92 = .ok (.istore 4, 2) := by decide +kernel
theorem dX11_descend_94 : decode cX11_descend 94 = .ok (.iinc 5 (-1), 3) := by decide +kernel
theorem dX11_descend_97 : decode cX11_descend 97 = .ok (.goto (-65), 3) := by decide +kernel
theorem dX11_descend_100 : decode cX11_descend 100 = .ok (.iload 4, 2) := by decide +kernel
theorem dX11_descend_102 : decode cX11_descend 102 = .ok (.ifCond .lt 9, 3) := by decide +kernel
theorem dX11_descend_105 : decode cX11_descend 105 = .ok (.iload 4, 2) := by decide +kernel
theorem dX11_descend_107 : decode cX11_descend 107 = .ok (.istore_n 3, 1) := by decide +kernel
theorem dX11_descend_108 : decode cX11_descend 108 = .ok (.goto (-98), 3) := by decide +kernel
theorem dX11_descend_111 : decode cX11_descend 111 = .ok (.lconst 0, 1) := by decide +kernel
theorem dX11_descend_112 : decode cX11_descend 112 = .ok (.lstore 5, 2) := by decide +kernel
theorem dX11_descend_114 : decode cX11_descend 114 = .ok (.aload_n 0, 1) := by decide +kernel
theorem dX11_descend_115 : decode cX11_descend 115 = .ok (.iconst 0, 1) := by decide +kernel
theorem dX11_descend_116 : decode cX11_descend 116 = .ok (.putfield 192, 3) := by decide +kernel
theorem dX11_descend_119 : decode cX11_descend 119 = .ok (.iconst (-1), 1) := by decide +kernel
theorem dX11_descend_120 : decode cX11_descend 120 = .ok (.istore 7, 2) := by decide +kernel
theorem dX11_descend_122 : decode cX11_descend 122 = .ok (.iconst 0, 1) := by decide +kernel
theorem dX11_descend_123 : decode cX11_descend 123 = .ok (.istore 8, 2) := by decide +kernel
theorem dX11_descend_125 : decode cX11_descend 125 = .ok (.iload 8, 2) := by decide +kernel
theorem dX11_descend_127 : decode cX11_descend 127 = .ok (.aload_n 0, 1) := by decide +kernel
theorem dX11_descend_128 : decode cX11_descend 128 = .ok (.getfield 120, 3) := by decide +kernel
theorem dX11_descend_131 : decode cX11_descend 131 = .ok (.if_icmp .ge 107, 3) := by decide +kernel
theorem dX11_descend_134 : decode cX11_descend 134 = .ok (.aload_n 0, 1) := by decide +kernel
theorem dX11_descend_135 : decode cX11_descend 135 = .ok (.getfield 129, 3) := by decide +kernel
theorem dX11_descend_138 : decode cX11_descend 138 = .ok (.iload 8, 2) := by decide +kernel
theorem dX11_descend_140 : decode cX11_descend 140 = .ok (.iaload, 1) := by decide +kernel
theorem dX11_descend_141 : decode cX11_descend 141 = .ok (.istore 9, 2) := by decide +kernel
theorem dX11_descend_143 : decode cX11_descend 143 = .ok (.aload_n 0, 1) := by decide +kernel
theorem dX11_descend_144 : decode cX11_descend 144 = .ok (.iload 9, 2) := by decide +kernel
theorem dX11_descend_146 : decode cX11_descend 146 = .ok (.iload_n 3, 1) := by decide +kernel
theorem dX11_descend_147 : decode cX11_descend 147 = .ok (.invokevirtual 147, 3) := by decide +kernel
theorem dX11_descend_150 : decode cX11_descend 150 = .ok (.ifCond .eq 82, 3) := by decide +kernel
theorem dX11_descend_153 : decode cX11_descend 153 = .ok (.aload_n 0, 1) := by decide +kernel
theorem dX11_descend_154 : decode cX11_descend 154 = .ok (.iload 9, 2) := by decide +kernel
theorem dX11_descend_156 : decode cX11_descend 156 = .ok (.invokevirtual 85, 3) := by decide +kernel
theorem dX11_descend_159 : decode cX11_descend 159 = .ok (.ifCond .eq 6, 3) := by decide +kernel
theorem dX11_descend_162 : decode cX11_descend 162 = .ok (.goto 70, 3) := by decide +kernel
theorem dX11_descend_165 : decode cX11_descend 165 = .ok (.aload_n 0, 1) := by decide +kernel
theorem dX11_descend_166 : decode cX11_descend 166 = .ok (.aload_n 0, 1) := by decide +kernel
theorem dX11_descend_167 : decode cX11_descend 167 = .ok (.getfield 139, 3) := by decide +kernel
theorem dX11_descend_170 : decode cX11_descend 170 = .ok (.iload 9, 2) := by decide +kernel
theorem dX11_descend_172 : decode cX11_descend 172 = .ok (.laload, 1) := by decide +kernel
theorem dX11_descend_173 : decode cX11_descend 173 = .ok (.lload_n 1, 1) := by decide +kernel
theorem dX11_descend_174 : decode cX11_descend 174 = .ok (.land, 1) := by decide +kernel
theorem dX11_descend_175 : decode cX11_descend 175 = .ok (.lload 5, 2) := by decide +kernel
theorem dX11_descend_177 : decode cX11_descend 177 = .ok (.ldc2_w 205, 3) := by decide +kernel
theorem dX11_descend_180 : decode cX11_descend 180 = .ok (.lxor, 1) := by decide +kernel
theorem dX11_descend_181 : decode cX11_descend 181 = .ok (.land, 1) := by decide +kernel
theorem dX11_descend_182 : decode cX11_descend 182 = .ok (.invokevirtual 207, 3) := by decide +kernel
theorem dX11_descend_185 : decode cX11_descend 185 = .ok (.istore 10, 2) := by decide +kernel
theorem dX11_descend_187 : decode cX11_descend 187 = .ok (.lload 5, 2) := by decide +kernel
theorem dX11_descend_189 : decode cX11_descend 189 = .ok (.aload_n 0, 1) := by decide +kernel
theorem dX11_descend_190 : decode cX11_descend 190 = .ok (.getfield 139, 3) := by decide +kernel
theorem dX11_descend_193 : decode cX11_descend 193 = .ok (.iload 9, 2) := by decide +kernel
theorem dX11_descend_195 : decode cX11_descend 195 = .ok (.laload, 1) := by decide +kernel
theorem dX11_descend_196 : decode cX11_descend 196 = .ok (.lor, 1) := by decide +kernel
theorem dX11_descend_197 : decode cX11_descend 197 = .ok (.lstore 5, 2) := by decide +kernel
theorem dX11_descend_199 : decode cX11_descend 199 = .ok (.iload 10, 2) := by decide +kernel
theorem dX11_descend_201 : decode cX11_descend 201 = .ok (.ifCond .ge 6, 3) := by decide +kernel
theorem dX11_descend_204 : decode cX11_descend 204 = .ok (.goto 28, 3) := by decide +kernel
theorem dX11_descend_207 : decode cX11_descend 207 = .ok (.iload 9, 2) := by decide +kernel
theorem dX11_descend_209 : decode cX11_descend 209 = .ok (.istore 7, 2) := by decide +kernel
theorem dX11_descend_211 : decode cX11_descend 211 = .ok (.aload_n 0, 1) := by decide +kernel
theorem dX11_descend_212 : decode cX11_descend 212 = .ok (.getfield 211, 3) := by decide +kernel
theorem dX11_descend_215 : decode cX11_descend 215 = .ok (.aload_n 0, 1) := by decide +kernel
theorem dX11_descend_216 : decode cX11_descend 216 = .ok (.getfield 192, 3) := by decide +kernel
theorem dX11_descend_219 : decode cX11_descend 219 = .ok (.iload 10, 2) := by decide +kernel
theorem dX11_descend_221 : decode cX11_descend 221 = .ok (.iastore, 1) := by decide +kernel
theorem dX11_descend_222 : decode cX11_descend 222 = .ok (.aload_n 0, 1) := by decide +kernel
theorem dX11_descend_223 : decode cX11_descend 223 = .ok (.dup, 1) := by decide +kernel
theorem dX11_descend_224 : decode cX11_descend 224 = .ok (.getfield 192, 3) := by decide +kernel
theorem dX11_descend_227 : decode cX11_descend 227 = .ok (.iconst 1, 1) := by decide +kernel
theorem dX11_descend_228 : decode cX11_descend 228 = .ok (.iadd, 1) := by decide +kernel
theorem dX11_descend_229 : decode cX11_descend 229 = .ok (.putfield 192, 3) := by decide +kernel
theorem dX11_descend_232 : decode cX11_descend 232 = .ok (.iinc 8 1, 3) := by decide +kernel
theorem dX11_descend_235 : decode cX11_descend 235 = .ok (.goto (-110), 3) := by decide +kernel
theorem dX11_descend_238 : decode cX11_descend 238 = .ok (.aload_n 0, 1) := by decide +kernel
theorem dX11_descend_239 : decode cX11_descend 239 = .ok (.getfield 192, 3) := by decide +kernel
theorem dX11_descend_242 : decode cX11_descend 242 = .ok (.iconst 1, 1) := by decide +kernel
theorem dX11_descend_243 : decode cX11_descend 243 = .ok (.if_icmp .le 10, 3) := by decide +kernel
theorem dX11_descend_246 : decode cX11_descend 246 = .ok (.aload_n 0, 1) := by decide +kernel
theorem dX11_descend_247 : decode cX11_descend 247 = .ok (.bipush (-2), 2) := by decide +kernel
theorem dX11_descend_249 : decode cX11_descend 249 = .ok (.putfield 195, 3) := by decide +kernel
theorem dX11_descend_252 : decode cX11_descend 252 = .ok (.return_, 1) := by decide +kernel
theorem dX11_descend_253 : decode cX11_descend 253 = .ok (.iload 7, 2) := by decide +kernel
theorem dX11_descend_255 : decode cX11_descend 255 = .ok (.istore_n 3, 1) := by decide +kernel
theorem dX11_descend_256 : decode cX11_descend 256 = .ok (.goto (-246), 3) := by decide +kernel
theorem dX11_descend_259 : decode cX11_descend 259 = .ok (.aload_n 0, 1) := by decide +kernel
theorem dX11_descend_260 : decode cX11_descend 260 = .ok (.iconst 0, 1) := by decide +kernel
theorem dX11_descend_261 : decode cX11_descend 261 = .ok (.putfield 192, 3) := by decide +kernel
theorem dX11_descend_264 : decode cX11_descend 264 = .ok (.aload_n 0, 1) := by decide +kernel
theorem dX11_descend_265 : decode cX11_descend 265 = .ok (.iload_n 3, 1) := by decide +kernel
theorem dX11_descend_266 : decode cX11_descend 266 = .ok (.putfield 195, 3) := by decide +kernel
theorem dX11_descend_269 : decode cX11_descend 269 = .ok (.return_, 1) := by decide +kernel
theorem dX11_isLost_0 : decode cX11_isLost 0 = .ok (.iconst (-1), 1) := by decide +kernel
theorem dX11_isLost_1 : decode cX11_isLost 1 = .ok (.istore_n 3, 1) := by decide +kernel
theorem dX11_isLost_2 : decode cX11_isLost 2 = .ok (.iconst 0, 1) := by decide +kernel
theorem dX11_isLost_3 : decode cX11_isLost 3 = .ok (.istore 4, 2) := by decide +kernel
theorem dX11_isLost_5 : decode cX11_isLost 5 = .ok (.iload 4, 2) := by decide +kernel
theorem dX11_isLost_7 : decode cX11_isLost 7 = .ok (.aload_n 0, 1) := by decide +kernel
theorem dX11_isLost_8 : decode cX11_isLost 8 = .ok (.getfield 40, 3) := by decide +kernel
theorem dX11_isLost_11 : decode cX11_isLost 11 = .ok (.if_icmp .ge 76, 3) := by decide +kernel
theorem dX11_isLost_14 : decode cX11_isLost 14 = .ok (.aload_n 0, 1) := by decide +kernel
theorem dX11_isLost_15 : decode cX11_isLost 15 = .ok (.getfield 14, 3) := by decide +kernel
theorem dX11_isLost_18 : decode cX11_isLost 18 = .ok (.iload 4, 2) := by decide +kernel
theorem dX11_isLost_20 : decode cX11_isLost 20 = .ok (.baload, 1) := by decide +kernel
theorem dX11_isLost_21 : decode cX11_isLost 21 = .ok (.ifCond .eq 60, 3) := by decide +kernel
theorem dX11_isLost_24 : decode cX11_isLost 24 = .ok (.aload_n 0, 1) := by decide +kernel
theorem dX11_isLost_25 : decode cX11_isLost 25 = .ok (.getfield 43, 3) := by decide +kernel
theorem dX11_isLost_28 : decode cX11_isLost 28 = .ok (.iload 4, 2) := by decide +kernel
theorem dX11_isLost_30 : decode cX11_isLost 30 = .ok (.iaload, 1) := by decide +kernel
theorem dX11_isLost_31 : decode cX11_isLost 31 = .ok (.bipush 7, 2) := by decide +kernel
theorem dX11_isLost_33 : decode cX11_isLost 33 = .ok (.if_icmp .lt 48, 3) := by decide +kernel
theorem dX11_isLost_36 : decode cX11_isLost 36 = .ok (.aload_n 0, 1) := by decide +kernel
theorem dX11_isLost_37 : decode cX11_isLost 37 = .ok (.getfield 34, 3) := by decide +kernel
theorem dX11_isLost_40 : decode cX11_isLost 40 = .ok (.iload 4, 2) := by decide +kernel
theorem dX11_isLost_42 : decode cX11_isLost 42 = .ok (.iaload, 1) := by decide +kernel
theorem dX11_isLost_43 : decode cX11_isLost 43 = .ok (.iload_n 1, 1) := by decide +kernel
theorem dX11_isLost_44 : decode cX11_isLost 44 = .ok (.if_icmp .ne 37, 3) := by decide +kernel
theorem dX11_isLost_47 : decode cX11_isLost 47 = .ok (.aload_n 0, 1) := by decide +kernel
theorem dX11_isLost_48 : decode cX11_isLost 48 = .ok (.getfield 31, 3) := by decide +kernel
theorem dX11_isLost_51 : decode cX11_isLost 51 = .ok (.iload 4, 2) := by decide +kernel
theorem dX11_isLost_53 : decode cX11_isLost 53 = .ok (.iaload, 1) := by decide +kernel
theorem dX11_isLost_54 : decode cX11_isLost 54 = .ok (.iload_n 2, 1) := by decide +kernel
theorem dX11_isLost_55 : decode cX11_isLost 55 = .ok (.if_icmp .gt 26, 3) := by decide +kernel
theorem dX11_isLost_58 : decode cX11_isLost 58 = .ok (.iload_n 3, 1) := by decide +kernel
theorem dX11_isLost_59 : decode cX11_isLost 59 = .ok (.ifCond .lt 19, 3) := by decide +kernel
theorem dX11_isLost_62 : decode cX11_isLost 62 = .ok (.aload_n 0, 1) := by decide +kernel
theorem dX11_isLost_63 : decode cX11_isLost 63 = .ok (.getfield 31, 3) := by decide +kernel
theorem dX11_isLost_66 : decode cX11_isLost 66 = .ok (.iload 4, 2) := by decide +kernel
theorem dX11_isLost_68 : decode cX11_isLost 68 = .ok (.iaload, 1) := by decide +kernel
theorem dX11_isLost_69 : decode cX11_isLost 69 = .ok (.aload_n 0, 1) := by decide +kernel
theorem dX11_isLost_70 : decode cX11_isLost 70 = .ok (.getfield 31, 3) := by decide +kernel
theorem dX11_isLost_73 : decode cX11_isLost 73 = .ok (.iload_n 3, 1) := by decide +kernel
theorem dX11_isLost_74 : decode cX11_isLost 74 = .ok (.iaload, 1) := by decide +kernel
theorem dX11_isLost_75 : decode cX11_isLost 75 = .ok (.if_icmp .le 6, 3) := by decide +kernel
theorem dX11_isLost_78 : decode cX11_isLost 78 = .ok (.iload 4, 2) := by decide +kernel
theorem dX11_isLost_80 : decode cX11_isLost 80 = .ok (.istore_n 3, 1) := by decide +kernel
theorem dX11_isLost_81 : decode cX11_isLost 81 = .ok (.iinc 4 1, 3) := by decide +kernel
theorem dX11_isLost_84 : decode cX11_isLost 84 = .ok (.goto (-79), 3) := by decide +kernel
theorem dX11_isLost_87 : decode cX11_isLost 87 = .ok (.iload_n 3, 1) := by decide +kernel
theorem dX11_isLost_88 : decode cX11_isLost 88 = .ok (.ifCond .lt 18, 3) := by decide +kernel
theorem dX11_isLost_91 : decode cX11_isLost 91 = .ok (.aload_n 0, 1) := by decide +kernel
theorem dX11_isLost_92 : decode cX11_isLost 92 = .ok (.getfield 43, 3) := by decide +kernel
theorem dX11_isLost_95 : decode cX11_isLost 95 = .ok (.iload_n 3, 1) := by decide +kernel
theorem dX11_isLost_96 : decode cX11_isLost 96 = .ok (.iaload, 1) := by decide +kernel
theorem dX11_isLost_97 : decode cX11_isLost 97 = .ok (.bipush 7, 2) := by decide +kernel
theorem dX11_isLost_99 : decode cX11_isLost 99 = .ok (.if_icmp .ne 7, 3) := by decide +kernel
theorem dX11_isLost_102 : decode cX11_isLost 102 = .ok (.iconst 1, 1) := by decide +kernel
theorem dX11_isLost_103 : decode cX11_isLost 103 = .ok (.goto 4, 3) := by decide +kernel
theorem dX11_isLost_106 : decode cX11_isLost 106 = .ok (.iconst 0, 1) := by decide +kernel
theorem dX11_isLost_107 : decode cX11_isLost 107 = .ok (.ireturn, 1) := by decide +kernel
theorem dX11_recordOn_0 : decode cX11_recordOn 0 = .ok (.iconst 0, 1) := by decide +kernel
theorem dX11_recordOn_1 : decode cX11_recordOn 1 = .ok (.istore 4, 2) := by decide +kernel
theorem dX11_recordOn_3 : decode cX11_recordOn 3 = .ok (.iload 4, 2) := by decide +kernel
theorem dX11_recordOn_5 : decode cX11_recordOn 5 = .ok (.aload_n 0, 1) := by decide +kernel
theorem dX11_recordOn_6 : decode cX11_recordOn 6 = .ok (.getfield 40, 3) := by decide +kernel
theorem dX11_recordOn_9 : decode cX11_recordOn 9 = .ok (.if_icmp .ge 55, 3) := by decide +kernel
theorem dX11_recordOn_12 : decode cX11_recordOn 12 = .ok (.aload_n 0, 1) := by decide +kernel
theorem dX11_recordOn_13 : decode cX11_recordOn 13 = .ok (.getfield 14, 3) := by decide +kernel
theorem dX11_recordOn_16 : decode cX11_recordOn 16 = .ok (.iload 4, 2) := by decide +kernel
theorem dX11_recordOn_18 : decode cX11_recordOn 18 = .ok (.baload, 1) := by decide +kernel
theorem dX11_recordOn_19 : decode cX11_recordOn 19 = .ok (.ifCond .eq 39, 3) := by decide +kernel
theorem dX11_recordOn_22 : decode cX11_recordOn 22 = .ok (.aload_n 0, 1) := by decide +kernel
theorem dX11_recordOn_23 : decode cX11_recordOn 23 = .ok (.getfield 43, 3) := by decide +kernel
theorem dX11_recordOn_26 : decode cX11_recordOn 26 = .ok (.iload 4, 2) := by decide +kernel
theorem dX11_recordOn_28 : decode cX11_recordOn 28 = .ok (.iaload, 1) := by decide +kernel
theorem dX11_recordOn_29 : decode cX11_recordOn 29 = .ok (.iload_n 3, 1) := by decide +kernel
theorem dX11_recordOn_30 : decode cX11_recordOn 30 = .ok (.if_icmp .ne 28, 3) := by decide +kernel
theorem dX11_recordOn_33 : decode cX11_recordOn 33 = .ok (.aload_n 0, 1) := by decide +kernel
theorem dX11_recordOn_34 : decode cX11_recordOn 34 = .ok (.getfield 34, 3) := by decide +kernel
theorem dX11_recordOn_37 : decode cX11_recordOn 37 = .ok (.iload 4, 2) := by decide +kernel
theorem dX11_recordOn_39 : decode cX11_recordOn 39 = .ok (.iaload, 1) := by decide +kernel
theorem dX11_recordOn_40 : decode cX11_recordOn 40 = .ok (.iload_n 1, 1) := by decide +kernel
theorem dX11_recordOn_41 : decode cX11_recordOn 41 = .ok (.if_icmp .ne 17, 3) := by decide +kernel
theorem dX11_recordOn_44 : decode cX11_recordOn 44 = .ok (.aload_n 0, 1) := by decide +kernel
theorem dX11_recordOn_45 : decode cX11_recordOn 45 = .ok (.getfield 31, 3) := by decide +kernel
theorem dX11_recordOn_48 : decode cX11_recordOn 48 = .ok (.iload 4, 2) := by decide +kernel
theorem dX11_recordOn_50 : decode cX11_recordOn 50 = .ok (.iaload, 1) := by decide +kernel
theorem dX11_recordOn_51 : decode cX11_recordOn 51 = .ok (.iload_n 2, 1) := by decide +kernel
theorem dX11_recordOn_52 : decode cX11_recordOn 52 = .ok (.if_icmp .ne 6, 3) := by decide +kernel
theorem dX11_recordOn_55 : decode cX11_recordOn 55 = .ok (.iload 4, 2) := by decide +kernel
theorem dX11_recordOn_57 : decode cX11_recordOn 57 = .ok (.ireturn, 1) := by decide +kernel
theorem dX11_recordOn_58 : decode cX11_recordOn 58 = .ok (.iinc 4 1, 3) := by decide +kernel
theorem dX11_recordOn_61 : decode cX11_recordOn 61 = .ok (.goto (-58), 3) := by decide +kernel
theorem dX11_recordOn_64 : decode cX11_recordOn 64 = .ok (.iconst (-1), 1) := by decide +kernel
theorem dX11_recordOn_65 : decode cX11_recordOn 65 = .ok (.ireturn, 1) := by decide +kernel
theorem dX11_bornAhead_0 : decode cX11_bornAhead 0 = .ok (.aload_n 0, 1) := by decide +kernel
theorem dX11_bornAhead_1 : decode cX11_bornAhead 1 = .ok (.iload_n 1, 1) := by decide +kernel
theorem dX11_bornAhead_2 : decode cX11_bornAhead 2 = .ok (.iload_n 2, 1) := by decide +kernel
theorem dX11_bornAhead_3 : decode cX11_bornAhead 3 = .ok (.aload_n 0, 1) := by decide +kernel
theorem dX11_bornAhead_4 : decode cX11_bornAhead 4 = .ok (.getfield 186, 3) := by decide +kernel
theorem dX11_bornAhead_7 : decode cX11_bornAhead 7 = .ok (.invokevirtual 189, 3) := by decide +kernel
theorem dX11_bornAhead_10 : decode cX11_bornAhead 10 = .ok (.aload_n 0, 1) := by decide +kernel
theorem dX11_bornAhead_11 : decode cX11_bornAhead 11 = .ok (.aload_n 0, 1) := by decide +kernel
theorem dX11_bornAhead_12 : decode cX11_bornAhead 12 = .ok (.getfield 195, 3) := by decide +kernel
theorem dX11_bornAhead_15 : decode cX11_bornAhead 15 = .ok (.invokevirtual 214, 3) := by decide +kernel
theorem dX11_bornAhead_18 : decode cX11_bornAhead 18 = .ok (.istore 4, 2) := by decide +kernel
theorem dX11_bornAhead_20 : decode cX11_bornAhead 20 = .ok (.iconst 0, 1) := by decide +kernel
theorem dX11_bornAhead_21 : decode cX11_bornAhead 21 = .ok (.istore 5, 2) := by decide +kernel
theorem dX11_bornAhead_23 : decode cX11_bornAhead 23 = .ok (.iload 5, 2) := by decide +kernel
theorem dX11_bornAhead_25 : decode cX11_bornAhead 25 = .ok (.iload 4, 2) := by decide +kernel
theorem dX11_bornAhead_27 : decode cX11_bornAhead 27 = .ok (.if_icmp .ge 74, 3) := by decide +kernel
theorem dX11_bornAhead_30 : decode cX11_bornAhead 30 = .ok (.aload_n 0, 1) := by decide +kernel
theorem dX11_bornAhead_31 : decode cX11_bornAhead 31 = .ok (.getfield 163, 3) := by decide +kernel
theorem dX11_bornAhead_34 : decode cX11_bornAhead 34 = .ok (.iload 5, 2) := by decide +kernel
theorem dX11_bornAhead_36 : decode cX11_bornAhead 36 = .ok (.iaload, 1) := by decide +kernel
theorem dX11_bornAhead_37 : decode cX11_bornAhead 37 = .ok (.istore 6, 2) := by decide +kernel
theorem dX11_bornAhead_39 : decode cX11_bornAhead 39 = .ok (.aload_n 0, 1) := by decide +kernel
theorem dX11_bornAhead_40 : decode cX11_bornAhead 40 = .ok (.iload 6, 2) := by decide +kernel
theorem dX11_bornAhead_42 : decode cX11_bornAhead 42 = .ok (.invokevirtual 53, 3) := by decide +kernel
theorem dX11_bornAhead_45 : decode cX11_bornAhead 45 = .ok (.iload_n 2, 1) := by decide +kernel
theorem dX11_bornAhead_46 : decode cX11_bornAhead 46 = .ok (.if_icmp .ne 49, 3) := by decide +kernel
theorem dX11_bornAhead_49 : decode cX11_bornAhead 49 = .ok (.aload_n 0, 1) := by decide +kernel
theorem dX11_bornAhead_50 : decode cX11_bornAhead 50 = .ok (.getfield 117, 3) := by decide +kernel
theorem dX11_bornAhead_53 : decode cX11_bornAhead 53 = .ok (.iload 6, 2) := by decide +kernel
theorem dX11_bornAhead_55 : decode cX11_bornAhead 55 = .ok (.baload, 1) := by decide +kernel
theorem dX11_bornAhead_56 : decode cX11_bornAhead 56 = .ok (.ifCond .ne 6, 3) := by decide +kernel
theorem dX11_bornAhead_59 : decode cX11_bornAhead 59 = .ok (.goto 36, 3) := by decide +kernel
theorem dX11_bornAhead_62 : decode cX11_bornAhead 62 = .ok (.aload_n 0, 1) := by decide +kernel
theorem dX11_bornAhead_63 : decode cX11_bornAhead 63 = .ok (.getfield 56, 3) := by decide +kernel
theorem dX11_bornAhead_66 : decode cX11_bornAhead 66 = .ok (.aload_n 0, 1) := by decide +kernel
theorem dX11_bornAhead_67 : decode cX11_bornAhead 67 = .ok (.iload 6, 2) := by decide +kernel
theorem dX11_bornAhead_69 : decode cX11_bornAhead 69 = .ok (.invokevirtual 76, 3) := by decide +kernel
theorem dX11_bornAhead_72 : decode cX11_bornAhead 72 = .ok (.iaload, 1) := by decide +kernel
theorem dX11_bornAhead_73 : decode cX11_bornAhead 73 = .ok (.istore 7, 2) := by decide +kernel
theorem dX11_bornAhead_75 : decode cX11_bornAhead 75 = .ok (.iload 7, 2) := by decide +kernel
theorem dX11_bornAhead_77 : decode cX11_bornAhead 77 = .ok (.ifCond .lt 18, 3) := by decide +kernel
theorem dX11_bornAhead_80 : decode cX11_bornAhead 80 = .ok (.iload 7, 2) := by decide +kernel
theorem dX11_bornAhead_82 : decode cX11_bornAhead 82 = .ok (.iload_n 2, 1) := by decide +kernel
theorem dX11_bornAhead_83 : decode cX11_bornAhead 83 = .ok (.if_icmp .ge 12, 3) := by decide +kernel
theorem dX11_bornAhead_86 : decode cX11_bornAhead 86 = .ok (.iload_n 3, 1) := by decide +kernel
theorem dX11_bornAhead_87 : decode cX11_bornAhead 87 = .ok (.iload 7, 2) := by decide +kernel
theorem dX11_bornAhead_89 : decode cX11_bornAhead 89 = .ok (.if_icmp .lt 6, 3) := by decide +kernel
theorem dX11_bornAhead_92 : decode cX11_bornAhead 92 = .ok (.iload 6, 2) := by decide +kernel
theorem dX11_bornAhead_94 : decode cX11_bornAhead 94 = .ok (.ireturn, 1) := by decide +kernel
theorem dX11_bornAhead_95 : decode cX11_bornAhead 95 = .ok (.iinc 5 1, 3) := by decide +kernel
theorem dX11_bornAhead_98 : decode cX11_bornAhead 98 = .ok (.goto (-75), 3) := by decide +kernel
theorem dX11_bornAhead_101 : decode cX11_bornAhead 101 = .ok (.iconst (-1), 1) := by decide +kernel
theorem dX11_bornAhead_102 : decode cX11_bornAhead 102 = .ok (.ireturn, 1) := by decide +kernel
theorem dX11_called_0 : decode cX11_called 0 = .ok (.aload_n 0, 1) := by decide +kernel
theorem dX11_called_1 : decode cX11_called 1 = .ok (.iload_n 1, 1) := by decide +kernel
theorem dX11_called_2 : decode cX11_called 2 = .ok (.iload_n 2, 1) := by decide +kernel
theorem dX11_called_3 : decode cX11_called 3 = .ok (.aload_n 0, 1) := by decide +kernel
theorem dX11_called_4 : decode cX11_called 4 = .ok (.getfield 186, 3) := by decide +kernel
theorem dX11_called_7 : decode cX11_called 7 = .ok (.invokevirtual 189, 3) := by decide +kernel
theorem dX11_called_10 : decode cX11_called 10 = .ok (.iconst 0, 1) := by decide +kernel
theorem dX11_called_11 : decode cX11_called 11 = .ok (.istore_n 3, 1) := by decide +kernel
theorem dX11_called_12 : decode cX11_called 12 = .ok (.iload_n 3, 1) := by decide +kernel
theorem dX11_called_13 : decode cX11_called 13 = .ok (.aload_n 0, 1) := by decide +kernel
theorem dX11_called_14 : decode cX11_called 14 = .ok (.getfield 40, 3) := by decide +kernel
theorem dX11_called_17 : decode cX11_called 17 = .ok (.if_icmp .ge 69, 3) := by decide +kernel
theorem dX11_called_20 : decode cX11_called 20 = .ok (.aload_n 0, 1) := by decide +kernel
theorem dX11_called_21 : decode cX11_called 21 = .ok (.getfield 14, 3) := by decide +kernel
theorem dX11_called_24 : decode cX11_called 24 = .ok (.iload_n 3, 1) := by decide +kernel
theorem dX11_called_25 : decode cX11_called 25 = .ok (.baload, 1) := by decide +kernel
theorem dX11_called_26 : decode cX11_called 26 = .ok (.ifCond .eq 54, 3) := by decide +kernel
theorem dX11_called_29 : decode cX11_called 29 = .ok (.aload_n 0, 1) := by decide +kernel
theorem dX11_called_30 : decode cX11_called 30 = .ok (.getfield 43, 3) := by decide +kernel
theorem dX11_called_33 : decode cX11_called 33 = .ok (.iload_n 3, 1) := by decide +kernel
theorem dX11_called_34 : decode cX11_called 34 = .ok (.iaload, 1) := by decide +kernel
theorem dX11_called_35 : decode cX11_called 35 = .ok (.bipush 6, 2) := by decide +kernel
theorem dX11_called_37 : decode cX11_called 37 = .ok (.if_icmp .ne 43, 3) := by decide +kernel
theorem dX11_called_40 : decode cX11_called 40 = .ok (.aload_n 0, 1) := by decide +kernel
theorem dX11_called_41 : decode cX11_called 41 = .ok (.getfield 34, 3) := by decide +kernel
theorem dX11_called_44 : decode cX11_called 44 = .ok (.iload_n 3, 1) := by decide +kernel
theorem dX11_called_45 : decode cX11_called 45 = .ok (.iaload, 1) := by decide +kernel
theorem dX11_called_46 : decode cX11_called 46 = .ok (.iload_n 1, 1) := by decide +kernel
theorem dX11_called_47 : decode cX11_called 47 = .ok (.if_icmp .ne 33, 3) := by decide +kernel
theorem dX11_called_50 : decode cX11_called 50 = .ok (.aload_n 0, 1) := by decide +kernel
theorem dX11_called_51 : decode cX11_called 51 = .ok (.getfield 31, 3) := by decide +kernel
theorem dX11_called_54 : decode cX11_called 54 = .ok (.iload_n 3, 1) := by decide +kernel
theorem dX11_called_55 : decode cX11_called 55 = .ok (.iaload, 1) := by decide +kernel
theorem dX11_called_56 : decode cX11_called 56 = .ok (.iload_n 2, 1) := by decide +kernel
theorem dX11_called_57 : decode cX11_called 57 = .ok (.if_icmp .ne 23, 3) := by decide +kernel
theorem dX11_called_60 : decode cX11_called 60 = .ok (.aload_n 0, 1) := by decide +kernel
theorem dX11_called_61 : decode cX11_called 61 = .ok (.aload_n 0, 1) := by decide +kernel
theorem dX11_called_62 : decode cX11_called 62 = .ok (.getfield 46, 3) := by decide +kernel
theorem dX11_called_65 : decode cX11_called 65 = .ok (.iload_n 3, 1) := by decide +kernel
theorem dX11_called_66 : decode cX11_called 66 = .ok (.iaload, 1) := by decide +kernel
theorem dX11_called_67 : decode cX11_called 67 = .ok (.invokevirtual 214, 3) := by decide +kernel
theorem dX11_called_70 : decode cX11_called 70 = .ok (.ifCond .lt 10, 3) := by decide +kernel
theorem dX11_called_73 : decode cX11_called 73 = .ok (.aload_n 0, 1) := by decide +kernel
theorem dX11_called_74 : decode cX11_called 74 = .ok (.getfield 46, 3) := by decide +kernel
theorem dX11_called_77 : decode cX11_called 77 = .ok (.iload_n 3, 1) := by decide +kernel
theorem dX11_called_78 : decode cX11_called 78 = .ok (.iaload, 1) := by decide +kernel
theorem dX11_called_79 : decode cX11_called 79 = .ok (.ireturn, 1) := by decide +kernel
theorem dX11_called_80 : decode cX11_called 80 = .ok (.iinc 3 1, 3) := by decide +kernel
theorem dX11_called_83 : decode cX11_called 83 = .ok (.goto (-71), 3) := by decide +kernel
theorem dX11_called_86 : decode cX11_called 86 = .ok (.iconst (-1), 1) := by decide +kernel
theorem dX11_called_87 : decode cX11_called 87 = .ok (.ireturn, 1) := by decide +kernel
theorem dX11_happens_0 : decode cX11_happens 0 = .ok (.aload_n 0, 1) := by decide +kernel
theorem dX11_happens_1 : decode cX11_happens 1 = .ok (.getfield 43, 3) := by decide +kernel
theorem dX11_happens_4 : decode cX11_happens 4 = .ok (.iload_n 1, 1) := by decide +kernel
theorem dX11_happens_5 : decode cX11_happens 5 = .ok (.iaload, 1) := by decide +kernel
theorem dX11_happens_6 : decode cX11_happens 6 = .ok (.istore_n 3, 1) := by decide +kernel
theorem dX11_happens_7 : decode cX11_happens 7 = .ok (.aload_n 0, 1) := by decide +kernel
theorem dX11_happens_8 : decode cX11_happens 8 = .ok (.getfield 14, 3) := by decide +kernel
theorem dX11_happens_11 : decode cX11_happens 11 = .ok (.iload_n 1, 1) := by decide +kernel
theorem dX11_happens_12 : decode cX11_happens 12 = .ok (.baload, 1) := by decide +kernel
theorem dX11_happens_13 : decode cX11_happens 13 = .ok (.ifCond .eq 41, 3) := by decide +kernel
theorem dX11_happens_16 : decode cX11_happens 16 = .ok (.iload_n 3, 1) := by decide +kernel
theorem dX11_happens_17 : decode cX11_happens 17 = .ok (.ifCond .eq 33, 3) := by decide +kernel
theorem dX11_happens_20 : decode cX11_happens 20 = .ok (.iload_n 3, 1) := by decide +kernel
theorem dX11_happens_21 : decode cX11_happens 21 = .ok (.iconst 3, 1) := by decide +kernel
theorem dX11_happens_22 : decode cX11_happens 22 = .ok (.if_icmp .eq 28, 3) := by decide +kernel
theorem dX11_happens_25 : decode cX11_happens 25 = .ok (.iload_n 1, 1) := by decide +kernel
theorem dX11_happens_26 : decode cX11_happens 26 = .ok (.aload_n 0, 1) := by decide +kernel
theorem dX11_happens_27 : decode cX11_happens 27 = .ok (.getfield 25, 3) := by decide +kernel
theorem dX11_happens_30 : decode cX11_happens 30 = .ok (.iload_n 2, 1) := by decide +kernel
theorem dX11_happens_31 : decode cX11_happens 31 = .ok (.iaload, 1) := by decide +kernel
theorem dX11_happens_32 : decode cX11_happens 32 = .ok (.if_icmp .eq 18, 3) := by decide +kernel
theorem dX11_happens_35 : decode cX11_happens 35 = .ok (.iload_n 3, 1) := by decide +kernel
theorem dX11_happens_36 : decode cX11_happens 36 = .ok (.iconst 5, 1) := by decide +kernel
theorem dX11_happens_37 : decode cX11_happens 37 = .ok (.if_icmp .lt 17, 3) := by decide +kernel
theorem dX11_happens_40 : decode cX11_happens 40 = .ok (.aload_n 0, 1) := by decide +kernel
theorem dX11_happens_41 : decode cX11_happens 41 = .ok (.getfield 34, 3) := by decide +kernel
theorem dX11_happens_44 : decode cX11_happens 44 = .ok (.iload_n 1, 1) := by decide +kernel
theorem dX11_happens_45 : decode cX11_happens 45 = .ok (.iaload, 1) := by decide +kernel
theorem dX11_happens_46 : decode cX11_happens 46 = .ok (.iload_n 2, 1) := by decide +kernel
theorem dX11_happens_47 : decode cX11_happens 47 = .ok (.if_icmp .ne 7, 3) := by decide +kernel
theorem dX11_happens_50 : decode cX11_happens 50 = .ok (.iconst 1, 1) := by decide +kernel
theorem dX11_happens_51 : decode cX11_happens 51 = .ok (.goto 4, 3) := by decide +kernel
theorem dX11_happens_54 : decode cX11_happens 54 = .ok (.iconst 0, 1) := by decide +kernel
theorem dX11_happens_55 : decode cX11_happens 55 = .ok (.ireturn, 1) := by decide +kernel
theorem dX11_dayBehind_0 : decode cX11_dayBehind 0 = .ok (.ldc 138, 2) := by decide +kernel
theorem dX11_dayBehind_2 : decode cX11_dayBehind 2 = .ok (.istore_n 3, 1) := by decide +kernel
theorem dX11_dayBehind_3 : decode cX11_dayBehind 3 = .ok (.iconst 0, 1) := by decide +kernel
theorem dX11_dayBehind_4 : decode cX11_dayBehind 4 = .ok (.istore 4, 2) := by decide +kernel
theorem dX11_dayBehind_6 : decode cX11_dayBehind 6 = .ok (.iload 4, 2) := by decide +kernel
theorem dX11_dayBehind_8 : decode cX11_dayBehind 8 = .ok (.aload_n 0, 1) := by decide +kernel
theorem dX11_dayBehind_9 : decode cX11_dayBehind 9 = .ok (.getfield 40, 3) := by decide +kernel
theorem dX11_dayBehind_12 : decode cX11_dayBehind 12 = .ok (.if_icmp .ge 42, 3) := by decide +kernel
theorem dX11_dayBehind_15 : decode cX11_dayBehind 15 = .ok (.aload_n 0, 1) := by decide +kernel
theorem dX11_dayBehind_16 : decode cX11_dayBehind 16 = .ok (.iload 4, 2) := by decide +kernel
theorem dX11_dayBehind_18 : decode cX11_dayBehind 18 = .ok (.iload_n 1, 1) := by decide +kernel
theorem dX11_dayBehind_19 : decode cX11_dayBehind 19 = .ok (.invokevirtual 217, 3) := by decide +kernel
theorem dX11_dayBehind_22 : decode cX11_dayBehind 22 = .ok (.ifCond .eq 26, 3) := by decide +kernel
theorem dX11_dayBehind_25 : decode cX11_dayBehind 25 = .ok (.aload_n 0, 1) := by decide +kernel
theorem dX11_dayBehind_26 : decode cX11_dayBehind 26 = .ok (.getfield 31, 3) := by decide +kernel
theorem dX11_dayBehind_29 : decode cX11_dayBehind 29 = .ok (.iload 4, 2) := by decide +kernel
theorem dX11_dayBehind_31 : decode cX11_dayBehind 31 = .ok (.iaload, 1) := by decide +kernel
theorem dX11_dayBehind_32 : decode cX11_dayBehind 32 = .ok (.iload_n 2, 1) := by decide +kernel
theorem dX11_dayBehind_33 : decode cX11_dayBehind 33 = .ok (.if_icmp .le 15, 3) := by decide +kernel
theorem dX11_dayBehind_36 : decode cX11_dayBehind 36 = .ok (.iload_n 3, 1) := by decide +kernel
theorem dX11_dayBehind_37 : decode cX11_dayBehind 37 = .ok (.aload_n 0, 1) := by decide +kernel
theorem dX11_dayBehind_38 : decode cX11_dayBehind 38 = .ok (.getfield 31, 3) := by decide +kernel
theorem dX11_dayBehind_41 : decode cX11_dayBehind 41 = .ok (.iload 4, 2) := by decide +kernel
theorem dX11_dayBehind_43 : decode cX11_dayBehind 43 = .ok (.iaload, 1) := by decide +kernel
theorem dX11_dayBehind_44 : decode cX11_dayBehind 44 = .ok (.invokestatic 63, 3) := by decide +kernel
theorem dX11_dayBehind_47 : decode cX11_dayBehind 47 = .ok (.istore_n 3, 1) := by decide +kernel
theorem dX11_dayBehind_48 : decode cX11_dayBehind 48 = .ok (.iinc 4 1, 3) := by decide +kernel
theorem dX11_dayBehind_51 : decode cX11_dayBehind 51 = .ok (.goto (-45), 3) := by decide +kernel
theorem dX11_dayBehind_54 : decode cX11_dayBehind 54 = .ok (.iload_n 3, 1) := by decide +kernel
theorem dX11_dayBehind_55 : decode cX11_dayBehind 55 = .ok (.ireturn, 1) := by decide +kernel
theorem dX11_goThrough_0 : decode cX11_goThrough 0 = .ok (.aload_n 0, 1) := by decide +kernel
theorem dX11_goThrough_1 : decode cX11_goThrough 1 = .ok (.getfield 114, 3) := by decide +kernel
theorem dX11_goThrough_4 : decode cX11_goThrough 4 = .ok (.iload_n 1, 1) := by decide +kernel
theorem dX11_goThrough_5 : decode cX11_goThrough 5 = .ok (.baload, 1) := by decide +kernel
theorem dX11_goThrough_6 : decode cX11_goThrough 6 = .ok (.ifCond .eq 4, 3) := by decide +kernel
theorem dX11_goThrough_9 : decode cX11_goThrough 9 = .ok (.return_, 1) := by decide +kernel
theorem dX11_goThrough_10 : decode cX11_goThrough 10 = .ok (.aload_n 0, 1) := by decide +kernel
theorem dX11_goThrough_11 : decode cX11_goThrough 11 = .ok (.getfield 114, 3) := by decide +kernel
theorem dX11_goThrough_14 : decode cX11_goThrough 14 = .ok (.iload_n 1, 1) := by decide +kernel
theorem dX11_goThrough_15 : decode cX11_goThrough 15 = .ok (.iconst 1, 1) := by decide +kernel
theorem dX11_goThrough_16 : decode cX11_goThrough 16 = .ok (.bastore, 1) := by decide +kernel
theorem dX11_goThrough_17 : decode cX11_goThrough 17 = .ok (.aload_n 0, 1) := by decide +kernel
theorem dX11_goThrough_18 : decode cX11_goThrough 18 = .ok (.invokevirtual 179, 3) := by decide +kernel
theorem dX11_goThrough_21 : decode cX11_goThrough 21 = .ok (.aload_n 0, 1) := by decide +kernel
theorem dX11_goThrough_22 : decode cX11_goThrough 22 = .ok (.getfield 31, 3) := by decide +kernel
theorem dX11_goThrough_25 : decode cX11_goThrough 25 = .ok (.aload_n 0, 1) := by decide +kernel
theorem dX11_goThrough_26 : decode cX11_goThrough 26 = .ok (.getfield 25, 3) := by decide +kernel
theorem dX11_goThrough_29 : decode cX11_goThrough 29 = .ok (.iload_n 1, 1) := by decide +kernel
theorem dX11_goThrough_30 : decode cX11_goThrough 30 = .ok (.iaload, 1) := by decide +kernel
theorem dX11_goThrough_31 : decode cX11_goThrough 31 = .ok (.iaload, 1) := by decide +kernel
theorem dX11_goThrough_32 : decode cX11_goThrough 32 = .ok (.istore_n 2, 1) := by decide +kernel
theorem dX11_goThrough_33 : decode cX11_goThrough 33 = .ok (.aload_n 0, 1) := by decide +kernel
theorem dX11_goThrough_34 : decode cX11_goThrough 34 = .ok (.aload_n 0, 1) := by decide +kernel
theorem dX11_goThrough_35 : decode cX11_goThrough 35 = .ok (.getfield 46, 3) := by decide +kernel
theorem dX11_goThrough_38 : decode cX11_goThrough 38 = .ok (.aload_n 0, 1) := by decide +kernel
theorem dX11_goThrough_39 : decode cX11_goThrough 39 = .ok (.getfield 25, 3) := by decide +kernel
theorem dX11_goThrough_42 : decode cX11_goThrough 42 = .ok (.iload_n 1, 1) := by decide +kernel
theorem dX11_goThrough_43 : decode cX11_goThrough 43 = .ok (.iaload, 1) := by decide +kernel
theorem dX11_goThrough_44 : decode cX11_goThrough 44 = .ok (.iaload, 1) := by decide +kernel
theorem dX11_goThrough_45 : decode cX11_goThrough 45 = .ok (.putfield 195, 3) := by decide +kernel
theorem dX11_goThrough_48 : decode cX11_goThrough 48 = .ok (.aload_n 0, 1) := by decide +kernel
theorem dX11_goThrough_49 : decode cX11_goThrough 49 = .ok (.aload_n 0, 1) := by decide +kernel
theorem dX11_goThrough_50 : decode cX11_goThrough 50 = .ok (.getfield 195, 3) := by decide +kernel
theorem dX11_goThrough_53 : decode cX11_goThrough 53 = .ok (.putfield 186, 3) := by decide +kernel
theorem dX11_goThrough_56 : decode cX11_goThrough 56 = .ok (.iload_n 2, 1) := by decide +kernel
theorem dX11_goThrough_57 : decode cX11_goThrough 57 = .ok (.istore_n 3, 1) := by decide +kernel
theorem dX11_goThrough_58 : decode cX11_goThrough 58 = .ok (.iconst 0, 1) := by decide +kernel
theorem dX11_goThrough_59 : decode cX11_goThrough 59 = .ok (.istore 4, 2) := by decide +kernel
theorem dX11_goThrough_61 : decode cX11_goThrough 61 = .ok (.iload_n 2, 1) := by decide +kernel
theorem dX11_goThrough_62 : decode cX11_goThrough 62 = .ok (.ldc 59, 2) := by decide +kernel
theorem dX11_goThrough_64 : decode cX11_goThrough 64 = .ok (.if_icmp .gt 97, 3) := by decide +kernel
theorem dX11_goThrough_67 : decode cX11_goThrough 67 = .ok (.aload_n 0, 1) := by decide +kernel
theorem dX11_goThrough_68 : decode cX11_goThrough 68 = .ok (.getfield 195, 3) := by decide +kernel
theorem dX11_goThrough_71 : decode cX11_goThrough 71 = .ok (.istore 5, 2) := by decide +kernel
theorem dX11_goThrough_73 : decode cX11_goThrough 73 = .ok (.aload_n 0, 1) := by decide +kernel
theorem dX11_goThrough_74 : decode cX11_goThrough 74 = .ok (.iload_n 1, 1) := by decide +kernel
theorem dX11_goThrough_75 : decode cX11_goThrough 75 = .ok (.iload_n 2, 1) := by decide +kernel
theorem dX11_goThrough_76 : decode cX11_goThrough 76 = .ok (.iload_n 3, 1) := by decide +kernel
theorem dX11_goThrough_77 : decode cX11_goThrough 77 = .ok (.invokevirtual 220, 3) := by decide +kernel
theorem dX11_goThrough_80 : decode cX11_goThrough 80 = .ok (.iload 4, 2) := by decide +kernel
theorem dX11_goThrough_82 : decode cX11_goThrough 82 = .ok (.ifCond .le 16, 3) := by decide +kernel
theorem dX11_goThrough_85 : decode cX11_goThrough 85 = .ok (.aload_n 0, 1) := by decide +kernel
theorem dX11_goThrough_86 : decode cX11_goThrough 86 = .ok (.getfield 195, 3) := by decide +kernel
theorem dX11_goThrough_89 : decode cX11_goThrough 89 = .ok (.iload 5, 2) := by decide +kernel
theorem dX11_goThrough_91 : decode cX11_goThrough 91 = .ok (.if_icmp .ne 7, 3) := by decide +kernel
theorem dX11_goThrough_94 : decode cX11_goThrough 94 = .ok (.iload_n 3, 1) := by decide +kernel
theorem dX11_goThrough_95 : decode cX11_goThrough 95 = .ok (.goto 4, 3) := by decide +kernel
theorem dX11_goThrough_98 : decode cX11_goThrough 98 = .ok (.iload_n 2, 1) := by decide +kernel
theorem dX11_goThrough_99 : decode cX11_goThrough 99 = .ok (.istore_n 3, 1) := by decide +kernel
theorem dX11_goThrough_100 : decode cX11_goThrough 100 = .ok (.sipush 200, 3) := by decide +kernel
theorem dX11_goThrough_103 : decode cX11_goThrough 103 = .ok (.iload_n 1, 1) := by decide +kernel
theorem dX11_goThrough_104 : decode cX11_goThrough 104 = .ok (.imul, 1) := by decide +kernel
theorem dX11_goThrough_105 : decode cX11_goThrough 105 = .ok (.iload 4, 2) := by decide +kernel
theorem dX11_goThrough_107 : decode cX11_goThrough 107 = .ok (.iadd, 1) := by decide +kernel
theorem dX11_goThrough_108 : decode cX11_goThrough 108 = .ok (.istore 6, 2) := by decide +kernel
theorem dX11_goThrough_110 : decode cX11_goThrough 110 = .ok (.aload_n 0, 1) := by decide +kernel
theorem dX11_goThrough_111 : decode cX11_goThrough 111 = .ok (.getfield 223, 3) := by decide +kernel
theorem dX11_goThrough_114 : decode cX11_goThrough 114 = .ok (.iload 6, 2) := by decide +kernel
theorem dX11_goThrough_116 : decode cX11_goThrough 116 = .ok (.iload_n 2, 1) := by decide +kernel
theorem dX11_goThrough_117 : decode cX11_goThrough 117 = .ok (.iastore, 1) := by decide +kernel
theorem dX11_goThrough_118 : decode cX11_goThrough 118 = .ok (.aload_n 0, 1) := by decide +kernel
theorem dX11_goThrough_119 : decode cX11_goThrough 119 = .ok (.getfield 226, 3) := by decide +kernel
theorem dX11_goThrough_122 : decode cX11_goThrough 122 = .ok (.iload 6, 2) := by decide +kernel
theorem dX11_goThrough_124 : decode cX11_goThrough 124 = .ok (.aload_n 0, 1) := by decide +kernel
theorem dX11_goThrough_125 : decode cX11_goThrough 125 = .ok (.getfield 195, 3) := by decide +kernel
theorem dX11_goThrough_128 : decode cX11_goThrough 128 = .ok (.iastore, 1) := by decide +kernel
theorem dX11_goThrough_129 : decode cX11_goThrough 129 = .ok (.aload_n 0, 1) := by decide +kernel
theorem dX11_goThrough_130 : decode cX11_goThrough 130 = .ok (.getfield 229, 3) := by decide +kernel
theorem dX11_goThrough_133 : decode cX11_goThrough 133 = .ok (.iload 6, 2) := by decide +kernel
theorem dX11_goThrough_135 : decode cX11_goThrough 135 = .ok (.aload_n 0, 1) := by decide +kernel
theorem dX11_goThrough_136 : decode cX11_goThrough 136 = .ok (.getfield 186, 3) := by decide +kernel
theorem dX11_goThrough_139 : decode cX11_goThrough 139 = .ok (.iastore, 1) := by decide +kernel
theorem dX11_goThrough_140 : decode cX11_goThrough 140 = .ok (.aload_n 0, 1) := by decide +kernel
theorem dX11_goThrough_141 : decode cX11_goThrough 141 = .ok (.getfield 232, 3) := by decide +kernel
theorem dX11_goThrough_144 : decode cX11_goThrough 144 = .ok (.iload 6, 2) := by decide +kernel
theorem dX11_goThrough_146 : decode cX11_goThrough 146 = .ok (.iload_n 3, 1) := by decide +kernel
theorem dX11_goThrough_147 : decode cX11_goThrough 147 = .ok (.iastore, 1) := by decide +kernel
theorem dX11_goThrough_148 : decode cX11_goThrough 148 = .ok (.iinc 4 1, 3) := by decide +kernel
theorem dX11_goThrough_151 : decode cX11_goThrough 151 = .ok (.aload_n 0, 1) := by decide +kernel
theorem dX11_goThrough_152 : decode cX11_goThrough 152 = .ok (.iload_n 1, 1) := by decide +kernel
theorem dX11_goThrough_153 : decode cX11_goThrough 153 = .ok (.iload_n 2, 1) := by decide +kernel
theorem dX11_goThrough_154 : decode cX11_goThrough 154 = .ok (.invokevirtual 235, 3) := by decide +kernel
theorem dX11_goThrough_157 : decode cX11_goThrough 157 = .ok (.istore_n 2, 1) := by decide +kernel
theorem dX11_goThrough_158 : decode cX11_goThrough 158 = .ok (.goto (-97), 3) := by decide +kernel
theorem dX11_goThrough_161 : decode cX11_goThrough 161 = .ok (.aload_n 0, 1) := by decide +kernel
theorem dX11_goThrough_162 : decode cX11_goThrough 162 = .ok (.getfield 238, 3) := by decide +kernel
theorem dX11_goThrough_165 : decode cX11_goThrough 165 = .ok (.iload_n 1, 1) := by decide +kernel
theorem dX11_goThrough_166 : decode cX11_goThrough 166 = .ok (.iload 4, 2) := by decide +kernel
theorem dX11_goThrough_168 : decode cX11_goThrough 168 = .ok (.iastore, 1) := by decide +kernel
theorem dX11_goThrough_169 : decode cX11_goThrough 169 = .ok (.return_, 1) := by decide +kernel
theorem dX11_oneDay_0 : decode cX11_oneDay 0 = .ok (.iload_n 3, 1) := by decide +kernel
theorem dX11_oneDay_1 : decode cX11_oneDay 1 = .ok (.istore 4, 2) := by decide +kernel
theorem dX11_oneDay_3 : decode cX11_oneDay 3 = .ok (.aload_n 0, 1) := by decide +kernel
theorem dX11_oneDay_4 : decode cX11_oneDay 4 = .ok (.iload_n 1, 1) := by decide +kernel
theorem dX11_oneDay_5 : decode cX11_oneDay 5 = .ok (.iload_n 2, 1) := by decide +kernel
theorem dX11_oneDay_6 : decode cX11_oneDay 6 = .ok (.invokevirtual 241, 3) := by decide +kernel
theorem dX11_oneDay_9 : decode cX11_oneDay 9 = .ok (.ifCond .eq 9, 3) := by decide +kernel
theorem dX11_oneDay_12 : decode cX11_oneDay 12 = .ok (.aload_n 0, 1) := by decide +kernel
theorem dX11_oneDay_13 : decode cX11_oneDay 13 = .ok (.bipush (-3), 2) := by decide +kernel
theorem dX11_oneDay_15 : decode cX11_oneDay 15 = .ok (.putfield 195, 3) := by decide +kernel
theorem dX11_oneDay_18 : decode cX11_oneDay 18 = .ok (.aload_n 0, 1) := by decide +kernel
theorem dX11_oneDay_19 : decode cX11_oneDay 19 = .ok (.iload_n 1, 1) := by decide +kernel
theorem dX11_oneDay_20 : decode cX11_oneDay 20 = .ok (.iload_n 2, 1) := by decide +kernel
theorem dX11_oneDay_21 : decode cX11_oneDay 21 = .ok (.bipush 8, 2) := by decide +kernel
theorem dX11_oneDay_23 : decode cX11_oneDay 23 = .ok (.invokevirtual 244, 3) := by decide +kernel
theorem dX11_oneDay_26 : decode cX11_oneDay 26 = .ok (.ifCond .lt 12, 3) := by decide +kernel
theorem dX11_oneDay_29 : decode cX11_oneDay 29 = .ok (.aload_n 0, 1) := by decide +kernel
theorem dX11_oneDay_30 : decode cX11_oneDay 30 = .ok (.iload_n 1, 1) := by decide +kernel
theorem dX11_oneDay_31 : decode cX11_oneDay 31 = .ok (.iload_n 2, 1) := by decide +kernel
theorem dX11_oneDay_32 : decode cX11_oneDay 32 = .ok (.invokevirtual 248, 3) := by decide +kernel
theorem dX11_oneDay_35 : decode cX11_oneDay 35 = .ok (.iload_n 2, 1) := by decide +kernel
theorem dX11_oneDay_36 : decode cX11_oneDay 36 = .ok (.istore 4, 2) := by decide +kernel
theorem dX11_oneDay_38 : decode cX11_oneDay 38 = .ok (.aload_n 0, 1) := by decide +kernel
theorem dX11_oneDay_39 : decode cX11_oneDay 39 = .ok (.getfield 195, 3) := by decide +kernel
theorem dX11_oneDay_42 : decode cX11_oneDay 42 = .ok (.bipush (-3), 2) := by decide +kernel
theorem dX11_oneDay_44 : decode cX11_oneDay 44 = .ok (.if_icmp .ne 4, 3) := by decide +kernel
theorem dX11_oneDay_47 : decode cX11_oneDay 47 = .ok (.return_, 1) := by decide +kernel
theorem dX11_oneDay_48 : decode cX11_oneDay 48 = .ok (.aload_n 0, 1) := by decide +kernel
theorem dX11_oneDay_49 : decode cX11_oneDay 49 = .ok (.getfield 195, 3) := by decide +kernel
theorem dX11_oneDay_52 : decode cX11_oneDay 52 = .ok (.ifCond .lt 28, 3) := by decide +kernel
theorem dX11_oneDay_55 : decode cX11_oneDay 55 = .ok (.aload_n 0, 1) := by decide +kernel
theorem dX11_oneDay_56 : decode cX11_oneDay 56 = .ok (.aload_n 0, 1) := by decide +kernel
theorem dX11_oneDay_57 : decode cX11_oneDay 57 = .ok (.getfield 195, 3) := by decide +kernel
theorem dX11_oneDay_60 : decode cX11_oneDay 60 = .ok (.iload_n 2, 1) := by decide +kernel
theorem dX11_oneDay_61 : decode cX11_oneDay 61 = .ok (.invokevirtual 150, 3) := by decide +kernel
theorem dX11_oneDay_64 : decode cX11_oneDay 64 = .ok (.ifCond .eq 16, 3) := by decide +kernel
theorem dX11_oneDay_67 : decode cX11_oneDay 67 = .ok (.aload_n 0, 1) := by decide +kernel
theorem dX11_oneDay_68 : decode cX11_oneDay 68 = .ok (.aload_n 0, 1) := by decide +kernel
theorem dX11_oneDay_69 : decode cX11_oneDay 69 = .ok (.getfield 195, 3) := by decide +kernel
theorem dX11_oneDay_72 : decode cX11_oneDay 72 = .ok (.iload_n 1, 1) := by decide +kernel
theorem dX11_oneDay_73 : decode cX11_oneDay 73 = .ok (.iload_n 2, 1) := by decide +kernel
theorem dX11_oneDay_74 : decode cX11_oneDay 74 = .ok (.invokevirtual 153, 3) := by decide +kernel
theorem dX11_oneDay_77 : decode cX11_oneDay 77 = .ok (.ifCond .eq 12, 3) := by decide +kernel
theorem dX11_oneDay_80 : decode cX11_oneDay 80 = .ok (.aload_n 0, 1) := by decide +kernel
theorem dX11_oneDay_81 : decode cX11_oneDay 81 = .ok (.iload_n 1, 1) := by decide +kernel
theorem dX11_oneDay_82 : decode cX11_oneDay 82 = .ok (.iload_n 2, 1) := by decide +kernel
theorem dX11_oneDay_83 : decode cX11_oneDay 83 = .ok (.invokevirtual 248, 3) := by decide +kernel
theorem dX11_oneDay_86 : decode cX11_oneDay 86 = .ok (.goto 31, 3) := by decide +kernel
theorem dX11_oneDay_89 : decode cX11_oneDay 89 = .ok (.aload_n 0, 1) := by decide +kernel
theorem dX11_oneDay_90 : decode cX11_oneDay 90 = .ok (.iload_n 1, 1) := by decide +kernel
theorem dX11_oneDay_91 : decode cX11_oneDay 91 = .ok (.iload_n 2, 1) := by decide +kernel
theorem dX11_oneDay_92 : decode cX11_oneDay 92 = .ok (.iload 4, 2) := by decide +kernel
theorem dX11_oneDay_94 : decode cX11_oneDay 94 = .ok (.invokevirtual 252, 3) := by decide +kernel
theorem dX11_oneDay_97 : decode cX11_oneDay 97 = .ok (.istore 5, 2) := by decide +kernel
theorem dX11_oneDay_99 : decode cX11_oneDay 99 = .ok (.aload_n 0, 1) := by decide +kernel
theorem dX11_oneDay_100 : decode cX11_oneDay 100 = .ok (.iload 5, 2) := by decide +kernel
theorem dX11_oneDay_102 : decode cX11_oneDay 102 = .ok (.ifCond .lt 8, 3) := by decide +kernel
theorem dX11_oneDay_105 : decode cX11_oneDay 105 = .ok (.iload 5, 2) := by decide +kernel
theorem dX11_oneDay_107 : decode cX11_oneDay 107 = .ok (.goto 7, 3) := by decide +kernel
theorem dX11_oneDay_110 : decode cX11_oneDay 110 = .ok (.aload_n 0, 1) := by decide +kernel
theorem dX11_oneDay_111 : decode cX11_oneDay 111 = .ok (.getfield 195, 3) := by decide +kernel
theorem dX11_oneDay_114 : decode cX11_oneDay 114 = .ok (.putfield 195, 3) := by decide +kernel
theorem dX11_oneDay_117 : decode cX11_oneDay 117 = .ok (.aload_n 0, 1) := by decide +kernel
theorem dX11_oneDay_118 : decode cX11_oneDay 118 = .ok (.getfield 195, 3) := by decide +kernel
theorem dX11_oneDay_121 : decode cX11_oneDay 121 = .ok (.bipush (-2), 2) := by decide +kernel
theorem dX11_oneDay_123 : decode cX11_oneDay 123 = .ok (.if_icmp .eq 4, 3) := by decide +kernel
theorem dX11_oneDay_126 : decode cX11_oneDay 126 = .ok (.return_, 1) := by decide +kernel
theorem dX11_oneDay_127 : decode cX11_oneDay 127 = .ok (.aload_n 0, 1) := by decide +kernel
theorem dX11_oneDay_128 : decode cX11_oneDay 128 = .ok (.iload_n 1, 1) := by decide +kernel
theorem dX11_oneDay_129 : decode cX11_oneDay 129 = .ok (.iload_n 2, 1) := by decide +kernel
theorem dX11_oneDay_130 : decode cX11_oneDay 130 = .ok (.invokevirtual 255, 3) := by decide +kernel
theorem dX11_oneDay_133 : decode cX11_oneDay 133 = .ok (.istore 5, 2) := by decide +kernel
theorem dX11_oneDay_135 : decode cX11_oneDay 135 = .ok (.iload 5, 2) := by decide +kernel
theorem dX11_oneDay_137 : decode cX11_oneDay 137 = .ok (.ifCond .ge 4, 3) := by decide +kernel
theorem dX11_oneDay_140 : decode cX11_oneDay 140 = .ok (.return_, 1) := by decide +kernel
theorem dX11_oneDay_141 : decode cX11_oneDay 141 = .ok (.aload_n 0, 1) := by decide +kernel
theorem dX11_oneDay_142 : decode cX11_oneDay 142 = .ok (.iload 5, 2) := by decide +kernel
theorem dX11_oneDay_144 : decode cX11_oneDay 144 = .ok (.putfield 195, 3) := by decide +kernel
theorem dX11_oneDay_147 : decode cX11_oneDay 147 = .ok (.aload_n 0, 1) := by decide +kernel
theorem dX11_oneDay_148 : decode cX11_oneDay 148 = .ok (.iload 5, 2) := by decide +kernel
theorem dX11_oneDay_150 : decode cX11_oneDay 150 = .ok (.putfield 186, 3) := by decide +kernel
theorem dX11_oneDay_153 : decode cX11_oneDay 153 = .ok (.return_, 1) := by decide +kernel
theorem dX11_eventOn_0 : decode cX11_eventOn 0 = .ok (.aload_n 0, 1) := by decide +kernel
theorem dX11_eventOn_1 : decode cX11_eventOn 1 = .ok (.iload_n 1, 1) := by decide +kernel
theorem dX11_eventOn_2 : decode cX11_eventOn 2 = .ok (.invokevirtual 258, 3) := by decide +kernel
theorem dX11_eventOn_5 : decode cX11_eventOn 5 = .ok (.iconst (-1), 1) := by decide +kernel
theorem dX11_eventOn_6 : decode cX11_eventOn 6 = .ok (.istore_n 3, 1) := by decide +kernel
theorem dX11_eventOn_7 : decode cX11_eventOn 7 = .ok (.iconst 0, 1) := by decide +kernel
theorem dX11_eventOn_8 : decode cX11_eventOn 8 = .ok (.istore 4, 2) := by decide +kernel
theorem dX11_eventOn_10 : decode cX11_eventOn 10 = .ok (.iload 4, 2) := by decide +kernel
theorem dX11_eventOn_12 : decode cX11_eventOn 12 = .ok (.aload_n 0, 1) := by decide +kernel
theorem dX11_eventOn_13 : decode cX11_eventOn 13 = .ok (.getfield 238, 3) := by decide +kernel
theorem dX11_eventOn_16 : decode cX11_eventOn 16 = .ok (.iload_n 1, 1) := by decide +kernel
theorem dX11_eventOn_17 : decode cX11_eventOn 17 = .ok (.iaload, 1) := by decide +kernel
theorem dX11_eventOn_18 : decode cX11_eventOn 18 = .ok (.if_icmp .ge 35, 3) := by decide +kernel
theorem dX11_eventOn_21 : decode cX11_eventOn 21 = .ok (.aload_n 0, 1) := by decide +kernel
theorem dX11_eventOn_22 : decode cX11_eventOn 22 = .ok (.getfield 223, 3) := by decide +kernel
theorem dX11_eventOn_25 : decode cX11_eventOn 25 = .ok (.sipush 200, 3) := by decide +kernel
theorem dX11_eventOn_28 : decode cX11_eventOn 28 = .ok (.iload_n 1, 1) := by decide +kernel
theorem dX11_eventOn_29 : decode cX11_eventOn 29 = .ok (.imul, 1) := by decide +kernel
theorem dX11_eventOn_30 : decode cX11_eventOn 30 = .ok (.iload 4, 2) := by decide +kernel
theorem dX11_eventOn_32 : decode cX11_eventOn 32 = .ok (.iadd, 1) := by decide +kernel
theorem dX11_eventOn_33 : decode cX11_eventOn 33 = .ok (.iaload, 1) := by decide +kernel
theorem dX11_eventOn_34 : decode cX11_eventOn 34 = .ok (.iload_n 2, 1) := by decide +kernel
theorem dX11_eventOn_35 : decode cX11_eventOn 35 = .ok (.if_icmp .gt 12, 3) := by decide +kernel
theorem dX11_eventOn_38 : decode cX11_eventOn 38 = .ok (.sipush 200, 3) := by decide +kernel
theorem dX11_eventOn_41 : decode cX11_eventOn 41 = .ok (.iload_n 1, 1) := by decide +kernel
theorem dX11_eventOn_42 : decode cX11_eventOn 42 = .ok (.imul, 1) := by decide +kernel
theorem dX11_eventOn_43 : decode cX11_eventOn 43 = .ok (.iload 4, 2) := by decide +kernel
theorem dX11_eventOn_45 : decode cX11_eventOn 45 = .ok (.iadd, 1) := by decide +kernel
theorem dX11_eventOn_46 : decode cX11_eventOn 46 = .ok (.istore_n 3, 1) := by decide +kernel
theorem dX11_eventOn_47 : decode cX11_eventOn 47 = .ok (.iinc 4 1, 3) := by decide +kernel
theorem dX11_eventOn_50 : decode cX11_eventOn 50 = .ok (.goto (-40), 3) := by decide +kernel
theorem dX11_eventOn_53 : decode cX11_eventOn 53 = .ok (.iload_n 3, 1) := by decide +kernel
theorem dX11_eventOn_54 : decode cX11_eventOn 54 = .ok (.ireturn, 1) := by decide +kernel
theorem dX11_stateOn_0 : decode cX11_stateOn 0 = .ok (.aload_n 0, 1) := by decide +kernel
theorem dX11_stateOn_1 : decode cX11_stateOn 1 = .ok (.iload_n 1, 1) := by decide +kernel
theorem dX11_stateOn_2 : decode cX11_stateOn 2 = .ok (.iload_n 2, 1) := by decide +kernel
theorem dX11_stateOn_3 : decode cX11_stateOn 3 = .ok (.invokevirtual 262, 3) := by decide +kernel
theorem dX11_stateOn_6 : decode cX11_stateOn 6 = .ok (.istore_n 3, 1) := by decide +kernel
theorem dX11_stateOn_7 : decode cX11_stateOn 7 = .ok (.iload_n 3, 1) := by decide +kernel
theorem dX11_stateOn_8 : decode cX11_stateOn 8 = .ok (.ifCond .ge 8, 3) := by decide +kernel
theorem dX11_stateOn_11 : decode cX11_stateOn 11 = .ok (.bipush (-4), 2) := by decide +kernel
theorem dX11_stateOn_13 : decode cX11_stateOn 13 = .ok (.goto 9, 3) := by decide +kernel
theorem dX11_stateOn_16 : decode cX11_stateOn 16 = .ok (.aload_n 0, 1) := by decide +kernel
theorem dX11_stateOn_17 : decode cX11_stateOn 17 = .ok (.getfield 226, 3) := by decide +kernel
theorem dX11_stateOn_20 : decode cX11_stateOn 20 = .ok (.iload_n 3, 1) := by decide +kernel
theorem dX11_stateOn_21 : decode cX11_stateOn 21 = .ok (.iaload, 1) := by decide +kernel
theorem dX11_stateOn_22 : decode cX11_stateOn 22 = .ok (.ireturn, 1) := by decide +kernel
theorem dX11_lineOn_0 : decode cX11_lineOn 0 = .ok (.aload_n 0, 1) := by decide +kernel
theorem dX11_lineOn_1 : decode cX11_lineOn 1 = .ok (.iload_n 1, 1) := by decide +kernel
theorem dX11_lineOn_2 : decode cX11_lineOn 2 = .ok (.iload_n 2, 1) := by decide +kernel
theorem dX11_lineOn_3 : decode cX11_lineOn 3 = .ok (.invokevirtual 262, 3) := by decide +kernel
theorem dX11_lineOn_6 : decode cX11_lineOn 6 = .ok (.istore_n 3, 1) := by decide +kernel
theorem dX11_lineOn_7 : decode cX11_lineOn 7 = .ok (.aload_n 0, 1) := by decide +kernel
theorem dX11_lineOn_8 : decode cX11_lineOn 8 = .ok (.iload_n 1, 1) := by decide +kernel
theorem dX11_lineOn_9 : decode cX11_lineOn 9 = .ok (.iload_n 2, 1) := by decide +kernel
theorem dX11_lineOn_10 : decode cX11_lineOn 10 = .ok (.iload_n 3, 1) := by decide +kernel
theorem dX11_lineOn_11 : decode cX11_lineOn 11 = .ok (.ifCond .ge 17, 3) := by decide +kernel
theorem dX11_lineOn_14 : decode cX11_lineOn 14 = .ok (.aload_n 0, 1) := by decide +kernel
theorem dX11_lineOn_15 : decode cX11_lineOn 15 = .ok (.getfield 46, 3) := by decide +kernel
theorem dX11_lineOn_18 : decode cX11_lineOn 18 = .ok (.aload_n 0, 1) := by decide +kernel
theorem dX11_lineOn_19 : decode cX11_lineOn 19 = .ok (.getfield 25, 3) := by decide +kernel
theorem dX11_lineOn_22 : decode cX11_lineOn 22 = .ok (.iload_n 1, 1) := by decide +kernel
theorem dX11_lineOn_23 : decode cX11_lineOn 23 = .ok (.iaload, 1) := by decide +kernel
theorem dX11_lineOn_24 : decode cX11_lineOn 24 = .ok (.iaload, 1) := by decide +kernel
theorem dX11_lineOn_25 : decode cX11_lineOn 25 = .ok (.goto 9, 3) := by decide +kernel
theorem dX11_lineOn_28 : decode cX11_lineOn 28 = .ok (.aload_n 0, 1) := by decide +kernel
theorem dX11_lineOn_29 : decode cX11_lineOn 29 = .ok (.getfield 229, 3) := by decide +kernel
theorem dX11_lineOn_32 : decode cX11_lineOn 32 = .ok (.iload_n 3, 1) := by decide +kernel
theorem dX11_lineOn_33 : decode cX11_lineOn 33 = .ok (.iaload, 1) := by decide +kernel
theorem dX11_lineOn_34 : decode cX11_lineOn 34 = .ok (.invokevirtual 189, 3) := by decide +kernel
theorem dX11_lineOn_37 : decode cX11_lineOn 37 = .ok (.return_, 1) := by decide +kernel
theorem dX11_next_0 : decode cX11_next 0 = .ok (.aload_n 0, 1) := by decide +kernel
theorem dX11_next_1 : decode cX11_next 1 = .ok (.getfield 265, 3) := by decide +kernel
theorem dX11_next_4 : decode cX11_next 4 = .ok (.aload_n 0, 1) := by decide +kernel
theorem dX11_next_5 : decode cX11_next 5 = .ok (.getfield 268, 3) := by decide +kernel
theorem dX11_next_8 : decode cX11_next 8 = .ok (.if_icmp .ge 30, 3) := by decide +kernel
theorem dX11_next_11 : decode cX11_next 11 = .ok (.aload_n 0, 1) := by decide +kernel
theorem dX11_next_12 : decode cX11_next 12 = .ok (.getfield 271, 3) := by decide +kernel
theorem dX11_next_15 : decode cX11_next 15 = .ok (.aload_n 0, 1) := by decide +kernel
theorem dX11_next_16 : decode cX11_next 16 = .ok (.getfield 265, 3) := by decide +kernel
theorem dX11_next_19 : decode cX11_next 19 = .ok (.iaload, 1) := by decide +kernel
theorem dX11_next_20 : decode cX11_next 20 = .ok (.bipush 32, 2) := by decide +kernel
theorem dX11_next_22 : decode cX11_next 22 = .ok (.if_icmp .ne 16, 3) := by decide +kernel
theorem dX11_next_25 : decode cX11_next 25 = .ok (.aload_n 0, 1) := by decide +kernel
theorem dX11_next_26 : decode cX11_next 26 = .ok (.dup, 1) := by decide +kernel
theorem dX11_next_27 : decode cX11_next 27 = .ok (.getfield 265, 3) := by decide +kernel
theorem dX11_next_30 : decode cX11_next 30 = .ok (.iconst 1, 1) := by decide +kernel
theorem dX11_next_31 : decode cX11_next 31 = .ok (.iadd, 1) := by decide +kernel
theorem dX11_next_32 : decode cX11_next 32 = .ok (.putfield 265, 3) := by decide +kernel
theorem dX11_next_35 : decode cX11_next 35 = .ok (.goto (-35), 3) := by decide +kernel
theorem dX11_next_38 : decode cX11_next 38 = .ok (.aload_n 0, 1) := by decide +kernel
theorem dX11_next_39 : decode cX11_next 39 = .ok (.aload_n 0, 1) := by decide +kernel
theorem dX11_next_40 : decode cX11_next 40 = .ok (.getfield 265, 3) := by decide +kernel
theorem dX11_next_43 : decode cX11_next 43 = .ok (.putfield 274, 3) := by decide +kernel
theorem dX11_next_46 : decode cX11_next 46 = .ok (.aload_n 0, 1) := by decide +kernel
theorem dX11_next_47 : decode cX11_next 47 = .ok (.iconst 0, 1) := by decide +kernel
theorem dX11_next_48 : decode cX11_next 48 = .ok (.putfield 277, 3) := by decide +kernel
theorem dX11_next_51 : decode cX11_next 51 = .ok (.aload_n 0, 1) := by decide +kernel
theorem dX11_next_52 : decode cX11_next 52 = .ok (.getfield 265, 3) := by decide +kernel
theorem dX11_next_55 : decode cX11_next 55 = .ok (.aload_n 0, 1) := by decide +kernel
theorem dX11_next_56 : decode cX11_next 56 = .ok (.getfield 268, 3) := by decide +kernel
theorem dX11_next_59 : decode cX11_next 59 = .ok (.if_icmp .ne 4, 3) := by decide +kernel
theorem dX11_next_62 : decode cX11_next 62 = .ok (.return_, 1) := by decide +kernel
theorem dX11_next_63 : decode cX11_next 63 = .ok (.aload_n 0, 1) := by decide +kernel
theorem dX11_next_64 : decode cX11_next 64 = .ok (.getfield 271, 3) := by decide +kernel
theorem dX11_next_67 : decode cX11_next 67 = .ok (.aload_n 0, 1) := by decide +kernel
theorem dX11_next_68 : decode cX11_next 68 = .ok (.getfield 265, 3) := by decide +kernel
theorem dX11_next_71 : decode cX11_next 71 = .ok (.iaload, 1) := by decide +kernel
theorem dX11_next_72 : decode cX11_next 72 = .ok (.istore_n 1, 1) := by decide +kernel
theorem dX11_next_73 : decode cX11_next 73 = .ok (.aload_n 0, 1) := by decide +kernel
theorem dX11_next_74 : decode cX11_next 74 = .ok (.iload_n 1, 1) := by decide +kernel
theorem dX11_next_75 : decode cX11_next 75 = .ok (.bipush 97, 2) := by decide +kernel
theorem dX11_next_77 : decode cX11_next 77 = .ok (.bipush 122, 2) := by decide +kernel
theorem dX11_next_79 : decode cX11_next 79 = .ok (.invokestatic 10, 3) := by decide +kernel
theorem dX11_next_82 : decode cX11_next 82 = .ok (.ifCond .eq 7, 3) := by decide +kernel
theorem dX11_next_85 : decode cX11_next 85 = .ok (.iconst 2, 1) := by decide +kernel
theorem dX11_next_86 : decode cX11_next 86 = .ok (.goto 19, 3) := by decide +kernel
theorem dX11_next_89 : decode cX11_next 89 = .ok (.iload_n 1, 1) := by decide +kernel
theorem dX11_next_90 : decode cX11_next 90 = .ok (.bipush 48, 2) := by decide +kernel
theorem dX11_next_92 : decode cX11_next 92 = .ok (.bipush 57, 2) := by decide +kernel
theorem dX11_next_94 : decode cX11_next 94 = .ok (.invokestatic 10, 3) := by decide +kernel
theorem dX11_next_97 : decode cX11_next 97 = .ok (.ifCond .eq 7, 3) := by decide +kernel
theorem dX11_next_100 : decode cX11_next 100 = .ok (.iconst 3, 1) := by decide +kernel
theorem dX11_next_101 : decode cX11_next 101 = .ok (.goto 4, 3) := by decide +kernel
theorem dX11_next_104 : decode cX11_next 104 = .ok (.iconst 1, 1) := by decide +kernel
theorem dX11_next_105 : decode cX11_next 105 = .ok (.putfield 277, 3) := by decide +kernel
theorem dX11_next_108 : decode cX11_next 108 = .ok (.aload_n 0, 1) := by decide +kernel
theorem dX11_next_109 : decode cX11_next 109 = .ok (.iconst 0, 1) := by decide +kernel
theorem dX11_next_110 : decode cX11_next 110 = .ok (.putfield 280, 3) := by decide +kernel
theorem dX11_next_113 : decode cX11_next 113 = .ok (.aload_n 0, 1) := by decide +kernel
theorem dX11_next_114 : decode cX11_next 114 = .ok (.getfield 277, 3) := by decide +kernel
theorem dX11_next_117 : decode cX11_next 117 = .ok (.iconst 2, 1) := by decide +kernel
theorem dX11_next_118 : decode cX11_next 118 = .ok (.if_icmp .ne 46, 3) := by decide +kernel
theorem dX11_next_121 : decode cX11_next 121 = .ok (.aload_n 0, 1) := by decide +kernel
theorem dX11_next_122 : decode cX11_next 122 = .ok (.getfield 265, 3) := by decide +kernel
theorem dX11_next_125 : decode cX11_next 125 = .ok (.aload_n 0, 1) := by decide +kernel
theorem dX11_next_126 : decode cX11_next 126 = .ok (.getfield 268, 3) := by decide +kernel
theorem dX11_next_129 : decode cX11_next 129 = .ok (.if_icmp .ge 35, 3) := by decide +kernel
theorem dX11_next_132 : decode cX11_next 132 = .ok (.aload_n 0, 1) := by decide +kernel
theorem dX11_next_133 : decode cX11_next 133 = .ok (.getfield 271, 3) := by decide +kernel
theorem dX11_next_136 : decode cX11_next 136 = .ok (.aload_n 0, 1) := by decide +kernel
theorem dX11_next_137 : decode cX11_next 137 = .ok (.getfield 265, 3) := by decide +kernel
theorem dX11_next_140 : decode cX11_next 140 = .ok (.iaload, 1) := by decide +kernel
theorem dX11_next_141 : decode cX11_next 141 = .ok (.bipush 97, 2) := by decide +kernel
theorem dX11_next_143 : decode cX11_next 143 = .ok (.bipush 122, 2) := by decide +kernel
theorem dX11_next_145 : decode cX11_next 145 = .ok (.invokestatic 10, 3) := by decide +kernel
theorem dX11_next_148 : decode cX11_next 148 = .ok (.ifCond .eq 16, 3) := by decide +kernel
theorem dX11_next_151 : decode cX11_next 151 = .ok (.aload_n 0, 1) := by decide +kernel
theorem dX11_next_152 : decode cX11_next 152 = .ok (.dup, 1) := by decide +kernel
theorem dX11_next_153 : decode cX11_next 153 = .ok (.getfield 265, 3) := by decide +kernel
theorem dX11_next_156 : decode cX11_next 156 = .ok (.iconst 1, 1) := by decide +kernel
theorem dX11_next_157 : decode cX11_next 157 = .ok (.iadd, 1) := by decide +kernel
theorem dX11_next_158 : decode cX11_next 158 = .ok (.putfield 265, 3) := by decide +kernel
theorem dX11_next_161 : decode cX11_next 161 = .ok (.goto (-40), 3) := by decide +kernel
theorem dX11_next_164 : decode cX11_next 164 = .ok (.aload_n 0, 1) := by decide +kernel
theorem dX11_next_165 : decode cX11_next 165 = .ok (.getfield 277, 3) := by decide +kernel
theorem dX11_next_168 : decode cX11_next 168 = .ok (.iconst 3, 1) := by decide +kernel
theorem dX11_next_169 : decode cX11_next 169 = .ok (.if_icmp .ne 112, 3) := by decide +kernel
theorem dX11_next_172 : decode cX11_next 172 = .ok (.aload_n 0, 1) := by decide +kernel
theorem dX11_next_173 : decode cX11_next 173 = .ok (.getfield 265, 3) := by decide +kernel
theorem dX11_next_176 : decode cX11_next 176 = .ok (.aload_n 0, 1) := by decide +kernel
theorem dX11_next_177 : decode cX11_next 177 = .ok (.getfield 268, 3) := by decide +kernel
theorem dX11_next_180 : decode cX11_next 180 = .ok (.if_icmp .ge 79, 3) := by decide +kernel
theorem dX11_next_183 : decode cX11_next 183 = .ok (.aload_n 0, 1) := by decide +kernel
theorem dX11_next_184 : decode cX11_next 184 = .ok (.getfield 271, 3) := by decide +kernel
theorem dX11_next_187 : decode cX11_next 187 = .ok (.aload_n 0, 1) := by decide +kernel
theorem dX11_next_188 : decode cX11_next 188 = .ok (.getfield 265, 3) := by decide +kernel
theorem dX11_next_191 : decode cX11_next 191 = .ok (.iaload, 1) := by decide +kernel
theorem dX11_next_192 : decode cX11_next 192 = .ok (.bipush 48, 2) := by decide +kernel
theorem dX11_next_194 : decode cX11_next 194 = .ok (.bipush 57, 2) := by decide +kernel
theorem dX11_next_196 : decode cX11_next 196 = .ok (.invokestatic 10, 3) := by decide +kernel
theorem dX11_next_199 : decode cX11_next 199 = .ok (.ifCond .eq 60, 3) := by decide +kernel
theorem dX11_next_202 : decode cX11_next 202 = .ok (.aload_n 0, 1) := by decide +kernel
theorem dX11_next_203 : decode cX11_next 203 = .ok (.aload_n 0, 1) := by decide +kernel
theorem dX11_next_204 : decode cX11_next 204 = .ok (.getfield 265, 3) := by decide +kernel
theorem dX11_next_207 : decode cX11_next 207 = .ok (.aload_n 0, 1) := by decide +kernel
theorem dX11_next_208 : decode cX11_next 208 = .ok (.getfield 274, 3) := by decide +kernel
theorem dX11_next_211 : decode cX11_next 211 = .ok (.isub, 1) := by decide +kernel
theorem dX11_next_212 : decode cX11_next 212 = .ok (.iconst 5, 1) := by decide +kernel
theorem dX11_next_213 : decode cX11_next 213 = .ok (.if_icmp .ge 26, 3) := by decide +kernel
theorem dX11_next_216 : decode cX11_next 216 = .ok (.bipush 10, 2) := by decide +kernel
theorem dX11_next_218 : decode cX11_next 218 = .ok (.aload_n 0, 1) := by decide +kernel
theorem dX11_next_219 : decode cX11_next 219 = .ok (.getfield 280, 3) := by decide +kernel
theorem dX11_next_222 : decode cX11_next 222 = .ok (.imul, 1) := by decide +kernel
theorem dX11_next_223 : decode cX11_next 223 = .ok (.aload_n 0, 1) := by decide +kernel
theorem dX11_next_224 : decode cX11_next 224 = .ok (.getfield 271, 3) := by decide +kernel
theorem dX11_next_227 : decode cX11_next 227 = .ok (.aload_n 0, 1) := by decide +kernel
theorem dX11_next_228 : decode cX11_next 228 = .ok (.getfield 265, 3) := by decide +kernel
theorem dX11_next_231 : decode cX11_next 231 = .ok (.iaload, 1) := by decide +kernel
theorem dX11_next_232 : decode cX11_next 232 = .ok (.iadd, 1) := by decide +kernel
theorem dX11_next_233 : decode cX11_next 233 = .ok (.bipush 48, 2) := by decide +kernel
theorem dX11_next_235 : decode cX11_next 235 = .ok (.isub, 1) := by decide +kernel
theorem dX11_next_236 : decode cX11_next 236 = .ok (.goto 7, 3) := by decide +kernel
theorem dX11_next_239 : decode cX11_next 239 = .ok (.aload_n 0, 1) := by decide +kernel
theorem dX11_next_240 : decode cX11_next 240 = .ok (.getfield 280, 3) := by decide +kernel
theorem dX11_next_243 : decode cX11_next 243 = .ok (.putfield 280, 3) := by decide +kernel
theorem dX11_next_246 : decode cX11_next 246 = .ok (.aload_n 0, 1) := by decide +kernel
theorem dX11_next_247 : decode cX11_next 247 = .ok (.dup, 1) := by decide +kernel
theorem dX11_next_248 : decode cX11_next 248 = .ok (.getfield 265, 3) := by decide +kernel
theorem dX11_next_251 : decode cX11_next 251 = .ok (.iconst 1, 1) := by decide +kernel
theorem dX11_next_252 : decode cX11_next 252 = .ok (.iadd, 1) := by decide +kernel
theorem dX11_next_253 : decode cX11_next 253 = .ok (.putfield 265, 3) := by decide +kernel
theorem dX11_next_256 : decode cX11_next 256 = .ok (.goto (-84), 3) := by decide +kernel
theorem dX11_next_259 : decode cX11_next 259 = .ok (.aload_n 0, 1) := by decide +kernel
theorem dX11_next_260 : decode cX11_next 260 = .ok (.aload_n 0, 1) := by decide +kernel
theorem dX11_next_261 : decode cX11_next 261 = .ok (.getfield 265, 3) := by decide +kernel
theorem dX11_next_264 : decode cX11_next 264 = .ok (.aload_n 0, 1) := by decide +kernel
theorem dX11_next_265 : decode cX11_next 265 = .ok (.getfield 274, 3) := by decide +kernel
theorem dX11_next_268 : decode cX11_next 268 = .ok (.isub, 1) := by decide +kernel
theorem dX11_next_269 : decode cX11_next 269 = .ok (.iconst 5, 1) := by decide +kernel
theorem dX11_next_270 : decode cX11_next 270 = .ok (.if_icmp .le 7, 3) := by decide +kernel
theorem dX11_next_273 : decode cX11_next 273 = .ok (.iconst 1, 1) := by decide +kernel
theorem dX11_next_274 : decode cX11_next 274 = .ok (.goto 4, 3) := by decide +kernel
theorem dX11_next_277 : decode cX11_next 277 = .ok (.iconst 3, 1) := by decide +kernel
theorem dX11_next_278 : decode cX11_next 278 = .ok (.putfield 277, 3) := by decide +kernel
theorem dX11_next_281 : decode cX11_next 281 = .ok (.aload_n 0, 1) := by decide +kernel
theorem dX11_next_282 : decode cX11_next 282 = .ok (.aload_n 0, 1) := by decide +kernel
theorem dX11_next_283 : decode cX11_next 283 = .ok (.getfield 265, 3) := by decide +kernel
theorem dX11_next_286 : decode cX11_next 286 = .ok (.putfield 283, 3) := by decide +kernel
theorem dX11_next_289 : decode cX11_next 289 = .ok (.return_, 1) := by decide +kernel
theorem dX11_is_0 : decode cX11_is 0 = .ok (.aload_n 0, 1) := by decide +kernel
theorem dX11_is_1 : decode cX11_is 1 = .ok (.aload_n 1, 1) := by decide +kernel
theorem dX11_is_2 : decode cX11_is 2 = .ok (.iconst 0, 1) := by decide +kernel
theorem dX11_is_3 : decode cX11_is 3 = .ok (.aload_n 1, 1) := by decide +kernel
theorem dX11_is_4 : decode cX11_is 4 = .ok (.invokevirtual 286, 3) := by decide +kernel
theorem dX11_is_7 : decode cX11_is 7 = .ok (.invokevirtual 292, 3) := by decide +kernel
theorem dX11_is_10 : decode cX11_is 10 = .ok (.ireturn, 1) := by decide +kernel
theorem dX11_isPart_0 : decode cX11_isPart 0 = .ok (.aload_n 0, 1) := by decide +kernel
theorem dX11_isPart_1 : decode cX11_isPart 1 = .ok (.getfield 277, 3) := by decide +kernel
theorem dX11_isPart_4 : decode cX11_isPart 4 = .ok (.iconst 2, 1) := by decide +kernel
theorem dX11_isPart_5 : decode cX11_isPart 5 = .ok (.if_icmp .ne 22, 3) := by decide +kernel
theorem dX11_isPart_8 : decode cX11_isPart 8 = .ok (.aload_n 0, 1) := by decide +kernel
theorem dX11_isPart_9 : decode cX11_isPart 9 = .ok (.getfield 283, 3) := by decide +kernel
theorem dX11_isPart_12 : decode cX11_isPart 12 = .ok (.aload_n 0, 1) := by decide +kernel
theorem dX11_isPart_13 : decode cX11_isPart 13 = .ok (.getfield 274, 3) := by decide +kernel
theorem dX11_isPart_16 : decode cX11_isPart 16 = .ok (.isub, 1) := by decide +kernel
theorem dX11_isPart_17 : decode cX11_isPart 17 = .ok (.iload_n 3, 1) := by decide +kernel
theorem dX11_isPart_18 : decode cX11_isPart 18 = .ok (.iload_n 2, 1) := by decide +kernel
theorem dX11_isPart_19 : decode cX11_isPart 19 = .ok (.isub, 1) := by decide +kernel
theorem dX11_isPart_20 : decode cX11_isPart 20 = .ok (.if_icmp .ne 7, 3) := by decide +kernel
theorem dX11_isPart_23 : decode cX11_isPart 23 = .ok (.iconst 1, 1) := by decide +kernel
theorem dX11_isPart_24 : decode cX11_isPart 24 = .ok (.goto 4, 3) := by decide +kernel
theorem dX11_isPart_27 : decode cX11_isPart 27 = .ok (.iconst 0, 1) := by decide +kernel
theorem dX11_isPart_28 : decode cX11_isPart 28 = .ok (.istore 4, 2) := by decide +kernel
theorem dX11_isPart_30 : decode cX11_isPart 30 = .ok (.iload_n 2, 1) := by decide +kernel
theorem dX11_isPart_31 : decode cX11_isPart 31 = .ok (.istore 5, 2) := by decide +kernel
theorem dX11_isPart_33 : decode cX11_isPart 33 = .ok (.iload 5, 2) := by decide +kernel
theorem dX11_isPart_35 : decode cX11_isPart 35 = .ok (.iload_n 3, 1) := by decide +kernel
theorem dX11_isPart_36 : decode cX11_isPart 36 = .ok (.if_icmp .ge 44, 3) := by decide +kernel
theorem dX11_isPart_39 : decode cX11_isPart 39 = .ok (.iload 4, 2) := by decide +kernel
theorem dX11_isPart_41 : decode cX11_isPart 41 = .ok (.ifCond .eq 39, 3) := by decide +kernel
theorem dX11_isPart_44 : decode cX11_isPart 44 = .ok (.aload_n 0, 1) := by decide +kernel
theorem dX11_isPart_45 : decode cX11_isPart 45 = .ok (.getfield 271, 3) := by decide +kernel
theorem dX11_isPart_48 : decode cX11_isPart 48 = .ok (.aload_n 0, 1) := by decide +kernel
theorem dX11_isPart_49 : decode cX11_isPart 49 = .ok (.getfield 274, 3) := by decide +kernel
theorem dX11_isPart_52 : decode cX11_isPart 52 = .ok (.iload 5, 2) := by decide +kernel
theorem dX11_isPart_54 : decode cX11_isPart 54 = .ok (.iadd, 1) := by decide +kernel
theorem dX11_isPart_55 : decode cX11_isPart 55 = .ok (.iload_n 2, 1) := by decide +kernel
theorem dX11_isPart_56 : decode cX11_isPart 56 = .ok (.isub, 1) := by decide +kernel
theorem dX11_isPart_57 : decode cX11_isPart 57 = .ok (.iaload, 1) := by decide +kernel
theorem dX11_isPart_58 : decode cX11_isPart 58 = .ok (.aload_n 1, 1) := by decide +kernel
theorem dX11_isPart_59 : decode cX11_isPart 59 = .ok (.iload 5, 2) := by decide +kernel
theorem dX11_isPart_61 : decode cX11_isPart 61 = .ok (.invokevirtual 296, 3) := by decide +kernel
theorem dX11_isPart_64 : decode cX11_isPart 64 = .ok (.if_icmp .ne 7, 3) := by decide +kernel
theorem dX11_isPart_67 : decode cX11_isPart 67 = .ok (.iconst 1, 1) := by decide +kernel
theorem dX11_isPart_68 : decode cX11_isPart 68 = .ok (.goto 4, 3) := by decide +kernel
theorem dX11_isPart_71 : decode cX11_isPart 71 = .ok (.iconst 0, 1) := by decide +kernel
theorem dX11_isPart_72 : decode cX11_isPart 72 = .ok (.istore 4, 2) := by decide +kernel
theorem dX11_isPart_74 : decode cX11_isPart 74 = .ok (.iinc 5 1, 3) := by decide +kernel
theorem dX11_isPart_77 : decode cX11_isPart 77 = .ok (.goto (-44), 3) := by decide +kernel
theorem dX11_isPart_80 : decode cX11_isPart 80 = .ok (.iload 4, 2) := by decide +kernel
theorem dX11_isPart_82 : decode cX11_isPart 82 = .ok (.ireturn, 1) := by decide +kernel
theorem dX11_number_0 : decode cX11_number 0 = .ok (.aload_n 0, 1) := by decide +kernel
theorem dX11_number_1 : decode cX11_number 1 = .ok (.getfield 300, 3) := by decide +kernel
theorem dX11_number_4 : decode cX11_number 4 = .ok (.ifCond .eq 16, 3) := by decide +kernel
theorem dX11_number_7 : decode cX11_number 7 = .ok (.aload_n 0, 1) := by decide +kernel
theorem dX11_number_8 : decode cX11_number 8 = .ok (.getfield 277, 3) := by decide +kernel
theorem dX11_number_11 : decode cX11_number 11 = .ok (.iconst 3, 1) := by decide +kernel
theorem dX11_number_12 : decode cX11_number 12 = .ok (.if_icmp .eq 8, 3) := by decide +kernel
theorem dX11_number_15 : decode cX11_number 15 = .ok (.aload_n 0, 1) := by decide +kernel
theorem dX11_number_16 : decode cX11_number 16 = .ok (.iconst 0, 1) := by decide +kernel
theorem dX11_number_17 : decode cX11_number 17 = .ok (.putfield 300, 3) := by decide +kernel
theorem dX11_number_20 : decode cX11_number 20 = .ok (.aload_n 0, 1) := by decide +kernel
theorem dX11_number_21 : decode cX11_number 21 = .ok (.getfield 300, 3) := by decide +kernel
theorem dX11_number_24 : decode cX11_number 24 = .ok (.ifCond .ne 5, 3) := by decide +kernel
theorem dX11_number_27 : decode cX11_number 27 = .ok (.iconst 0, 1) := by decide +kernel
theorem dX11_number_28 : decode cX11_number 28 = .ok (.ireturn, 1) := by decide +kernel
theorem dX11_number_29 : decode cX11_number 29 = .ok (.aload_n 0, 1) := by decide +kernel
theorem dX11_number_30 : decode cX11_number 30 = .ok (.getfield 280, 3) := by decide +kernel
theorem dX11_number_33 : decode cX11_number 33 = .ok (.istore_n 1, 1) := by decide +kernel
theorem dX11_number_34 : decode cX11_number 34 = .ok (.aload_n 0, 1) := by decide +kernel
theorem dX11_number_35 : decode cX11_number 35 = .ok (.invokevirtual 303, 3) := by decide +kernel
theorem dX11_number_38 : decode cX11_number 38 = .ok (.iload_n 1, 1) := by decide +kernel
theorem dX11_number_39 : decode cX11_number 39 = .ok (.ireturn, 1) := by decide +kernel
theorem dX11_must_0 : decode cX11_must 0 = .ok (.aload_n 0, 1) := by decide +kernel
theorem dX11_must_1 : decode cX11_must 1 = .ok (.getfield 300, 3) := by decide +kernel
theorem dX11_must_4 : decode cX11_must 4 = .ok (.ifCond .eq 16, 3) := by decide +kernel
theorem dX11_must_7 : decode cX11_must 7 = .ok (.aload_n 0, 1) := by decide +kernel
theorem dX11_must_8 : decode cX11_must 8 = .ok (.aload_n 1, 1) := by decide +kernel
theorem dX11_must_9 : decode cX11_must 9 = .ok (.invokevirtual 306, 3) := by decide +kernel
theorem dX11_must_12 : decode cX11_must 12 = .ok (.ifCond .ne 8, 3) := by decide +kernel
theorem dX11_must_15 : decode cX11_must 15 = .ok (.aload_n 0, 1) := by decide +kernel
theorem dX11_must_16 : decode cX11_must 16 = .ok (.iconst 0, 1) := by decide +kernel
theorem dX11_must_17 : decode cX11_must 17 = .ok (.putfield 300, 3) := by decide +kernel
theorem dX11_must_20 : decode cX11_must 20 = .ok (.aload_n 0, 1) := by decide +kernel
theorem dX11_must_21 : decode cX11_must 21 = .ok (.getfield 300, 3) := by decide +kernel
theorem dX11_must_24 : decode cX11_must 24 = .ok (.ifCond .eq 7, 3) := by decide +kernel
theorem dX11_must_27 : decode cX11_must 27 = .ok (.aload_n 0, 1) := by decide +kernel
theorem dX11_must_28 : decode cX11_must 28 = .ok (.invokevirtual 303, 3) := by decide +kernel
theorem dX11_must_31 : decode cX11_must 31 = .ok (.return_, 1) := by decide +kernel
theorem dX11_oneOf_0 : decode cX11_oneOf 0 = .ok (.iconst 0, 1) := by decide +kernel
theorem dX11_oneOf_1 : decode cX11_oneOf 1 = .ok (.istore_n 2, 1) := by decide +kernel
theorem dX11_oneOf_2 : decode cX11_oneOf 2 = .ok (.iconst 0, 1) := by decide +kernel
theorem dX11_oneOf_3 : decode cX11_oneOf 3 = .ok (.istore_n 3, 1) := by decide +kernel
theorem dX11_oneOf_4 : decode cX11_oneOf 4 = .ok (.aload_n 0, 1) := by decide +kernel
theorem dX11_oneOf_5 : decode cX11_oneOf 5 = .ok (.getfield 300, 3) := by decide +kernel
theorem dX11_oneOf_8 : decode cX11_oneOf 8 = .ok (.ifCond .eq 68, 3) := by decide +kernel
theorem dX11_oneOf_11 : decode cX11_oneOf 11 = .ok (.iload_n 3, 1) := by decide +kernel
theorem dX11_oneOf_12 : decode cX11_oneOf 12 = .ok (.aload_n 1, 1) := by decide +kernel
theorem dX11_oneOf_13 : decode cX11_oneOf 13 = .ok (.invokevirtual 286, 3) := by decide +kernel
theorem dX11_oneOf_16 : decode cX11_oneOf 16 = .ok (.if_icmp .ge 60, 3) := by decide +kernel
theorem dX11_oneOf_19 : decode cX11_oneOf 19 = .ok (.iload_n 3, 1) := by decide +kernel
theorem dX11_oneOf_20 : decode cX11_oneOf 20 = .ok (.istore 4, 2) := by decide +kernel
theorem dX11_oneOf_22 : decode cX11_oneOf 22 = .ok (.iload 4, 2) := by decide +kernel
theorem dX11_oneOf_24 : decode cX11_oneOf 24 = .ok (.aload_n 1, 1) := by decide +kernel
theorem dX11_oneOf_25 : decode cX11_oneOf 25 = .ok (.invokevirtual 286, 3) := by decide +kernel
theorem dX11_oneOf_28 : decode cX11_oneOf 28 = .ok (.if_icmp .ge 20, 3) := by decide +kernel
theorem dX11_oneOf_31 : decode cX11_oneOf 31 = .ok (.aload_n 1, 1) := by decide +kernel
theorem dX11_oneOf_32 : decode cX11_oneOf 32 = .ok (.iload 4, 2) := by decide +kernel
theorem dX11_oneOf_34 : decode cX11_oneOf 34 = .ok (.invokevirtual 296, 3) := by decide +kernel
theorem dX11_oneOf_37 : decode cX11_oneOf 37 = .ok (.bipush 32, 2) := by decide +kernel
theorem dX11_oneOf_39 : decode cX11_oneOf 39 = .ok (.if_icmp .eq 9, 3) := by decide +kernel
theorem dX11_oneOf_42 : decode cX11_oneOf 42 = .ok (.iinc 4 1, 3) := by decide +kernel
theorem dX11_oneOf_45 : decode cX11_oneOf 45 = .ok (.goto (-23), 3) := by decide +kernel
theorem dX11_oneOf_48 : decode cX11_oneOf 48 = .ok (.aload_n 0, 1) := by decide +kernel
theorem dX11_oneOf_49 : decode cX11_oneOf 49 = .ok (.aload_n 1, 1) := by decide +kernel
theorem dX11_oneOf_50 : decode cX11_oneOf 50 = .ok (.iload_n 3, 1) := by decide +kernel
theorem dX11_oneOf_51 : decode cX11_oneOf 51 = .ok (.iload 4, 2) := by decide +kernel
theorem dX11_oneOf_53 : decode cX11_oneOf 53 = .ok (.invokevirtual 292, 3) := by decide +kernel
theorem dX11_oneOf_56 : decode cX11_oneOf 56 = .ok (.ifCond .eq 9, 3) := by decide +kernel
theorem dX11_oneOf_59 : decode cX11_oneOf 59 = .ok (.aload_n 0, 1) := by decide +kernel
theorem dX11_oneOf_60 : decode cX11_oneOf 60 = .ok (.invokevirtual 303, 3) := by decide +kernel
theorem dX11_oneOf_63 : decode cX11_oneOf 63 = .ok (.iload_n 2, 1) := by decide +kernel
theorem dX11_oneOf_64 : decode cX11_oneOf 64 = .ok (.ireturn, 1) := by decide +kernel
theorem dX11_oneOf_65 : decode cX11_oneOf 65 = .ok (.iload 4, 2) := by decide +kernel
theorem dX11_oneOf_67 : decode cX11_oneOf 67 = .ok (.iconst 1, 1) := by decide +kernel
theorem dX11_oneOf_68 : decode cX11_oneOf 68 = .ok (.iadd, 1) := by decide +kernel
theorem dX11_oneOf_69 : decode cX11_oneOf 69 = .ok (.istore_n 3, 1) := by decide +kernel
theorem dX11_oneOf_70 : decode cX11_oneOf 70 = .ok (.iinc 2 1, 3) := by decide +kernel
theorem dX11_oneOf_73 : decode cX11_oneOf 73 = .ok (.goto (-69), 3) := by decide +kernel
theorem dX11_oneOf_76 : decode cX11_oneOf 76 = .ok (.aload_n 0, 1) := by decide +kernel
theorem dX11_oneOf_77 : decode cX11_oneOf 77 = .ok (.iconst 0, 1) := by decide +kernel
theorem dX11_oneOf_78 : decode cX11_oneOf 78 = .ok (.putfield 300, 3) := by decide +kernel
theorem dX11_oneOf_81 : decode cX11_oneOf 81 = .ok (.iconst 0, 1) := by decide +kernel
theorem dX11_oneOf_82 : decode cX11_oneOf 82 = .ok (.ireturn, 1) := by decide +kernel
theorem dX11_parent_0 : decode cX11_parent 0 = .ok (.aload_n 0, 1) := by decide +kernel
theorem dX11_parent_1 : decode cX11_parent 1 = .ok (.getfield 300, 3) := by decide +kernel
theorem dX11_parent_4 : decode cX11_parent 4 = .ok (.ifCond .eq 13, 3) := by decide +kernel
theorem dX11_parent_7 : decode cX11_parent 7 = .ok (.aload_n 0, 1) := by decide +kernel
theorem dX11_parent_8 : decode cX11_parent 8 = .ok (.ldc_w 310, 3) := by decide +kernel
theorem dX11_parent_11 : decode cX11_parent 11 = .ok (.invokevirtual 306, 3) := by decide +kernel
theorem dX11_parent_14 : decode cX11_parent 14 = .ok (.ifCond .ne 8, 3) := by decide +kernel
theorem dX11_parent_17 : decode cX11_parent 17 = .ok (.aload_n 0, 1) := by decide +kernel
theorem dX11_parent_18 : decode cX11_parent 18 = .ok (.invokevirtual 312, 3) := by decide +kernel
theorem dX11_parent_21 : decode cX11_parent 21 = .ok (.ireturn, 1) := by decide +kernel
theorem dX11_parent_22 : decode cX11_parent 22 = .ok (.aload_n 0, 1) := by decide +kernel
theorem dX11_parent_23 : decode cX11_parent 23 = .ok (.invokevirtual 303, 3) := by decide +kernel
theorem dX11_parent_26 : decode cX11_parent 26 = .ok (.iconst (-1), 1) := by decide +kernel
theorem dX11_parent_27 : decode cX11_parent 27 = .ok (.ireturn, 1) := by decide +kernel
theorem dX11_read_0 : decode cX11_read 0 = .ok (.aload_n 0, 1) := by decide +kernel
theorem dX11_read_1 : decode cX11_read 1 = .ok (.iconst 0, 1) := by decide +kernel
theorem dX11_read_2 : decode cX11_read 2 = .ok (.putfield 265, 3) := by decide +kernel
theorem dX11_read_5 : decode cX11_read 5 = .ok (.aload_n 0, 1) := by decide +kernel
theorem dX11_read_6 : decode cX11_read 6 = .ok (.iconst 1, 1) := by decide +kernel
theorem dX11_read_7 : decode cX11_read 7 = .ok (.putfield 300, 3) := by decide +kernel
theorem dX11_read_10 : decode cX11_read 10 = .ok (.aload_n 0, 1) := by decide +kernel
theorem dX11_read_11 : decode cX11_read 11 = .ok (.iconst (-1), 1) := by decide +kernel
theorem dX11_read_12 : decode cX11_read 12 = .ok (.putfield 315, 3) := by decide +kernel
theorem dX11_read_15 : decode cX11_read 15 = .ok (.aload_n 0, 1) := by decide +kernel
theorem dX11_read_16 : decode cX11_read 16 = .ok (.iconst (-1), 1) := by decide +kernel
theorem dX11_read_17 : decode cX11_read 17 = .ok (.putfield 318, 3) := by decide +kernel
theorem dX11_read_20 : decode cX11_read 20 = .ok (.aload_n 0, 1) := by decide +kernel
theorem dX11_read_21 : decode cX11_read 21 = .ok (.iconst (-1), 1) := by decide +kernel
theorem dX11_read_22 : decode cX11_read 22 = .ok (.putfield 321, 3) := by decide +kernel
theorem dX11_read_25 : decode cX11_read 25 = .ok (.aload_n 0, 1) := by decide +kernel
theorem dX11_read_26 : decode cX11_read 26 = .ok (.iconst 0, 1) := by decide +kernel
theorem dX11_read_27 : decode cX11_read 27 = .ok (.putfield 324, 3) := by decide +kernel
theorem dX11_read_30 : decode cX11_read 30 = .ok (.aload_n 0, 1) := by decide +kernel
theorem dX11_read_31 : decode cX11_read 31 = .ok (.invokevirtual 303, 3) := by decide +kernel
theorem dX11_read_34 : decode cX11_read 34 = .ok (.aload_n 0, 1) := by decide +kernel
theorem dX11_read_35 : decode cX11_read 35 = .ok (.aload_n 0, 1) := by decide +kernel
theorem dX11_read_36 : decode cX11_read 36 = .ok (.ldc_w 327, 3) := by decide +kernel
theorem dX11_read_39 : decode cX11_read 39 = .ok (.invokevirtual 329, 3) := by decide +kernel
theorem dX11_read_42 : decode cX11_read 42 = .ok (.putfield 333, 3) := by decide +kernel
theorem dX11_read_45 : decode cX11_read 45 = .ok (.aload_n 0, 1) := by decide +kernel
theorem dX11_read_46 : decode cX11_read 46 = .ok (.aload_n 0, 1) := by decide +kernel
theorem dX11_read_47 : decode cX11_read 47 = .ok (.invokevirtual 312, 3) := by decide +kernel
theorem dX11_read_50 : decode cX11_read 50 = .ok (.putfield 336, 3) := by decide +kernel
theorem dX11_read_53 : decode cX11_read 53 = .ok (.aload_n 0, 1) := by decide +kernel
theorem dX11_read_54 : decode cX11_read 54 = .ok (.getfield 333, 3) := by decide +kernel
theorem dX11_read_57 : decode cX11_read 57 = .ok (.tableswitch 141 0 8 #[51, 141, 141, 97, 119, 141, 141, 108, 108], 51) := by decide +kernel
theorem dX11_read_108 : decode cX11_read 108 = .ok (.aload_n 0, 1) := by decide +kernel
theorem dX11_read_109 : decode cX11_read 109 = .ok (.iconst 1, 1) := by decide +kernel
theorem dX11_read_110 : decode cX11_read 110 = .ok (.aload_n 0, 1) := by decide +kernel
theorem dX11_read_111 : decode cX11_read 111 = .ok (.ldc_w 339, 3) := by decide +kernel
theorem dX11_read_114 : decode cX11_read 114 = .ok (.invokevirtual 329, 3) := by decide +kernel
theorem dX11_read_117 : decode cX11_read 117 = .ok (.isub, 1) := by decide +kernel
theorem dX11_read_118 : decode cX11_read 118 = .ok (.putfield 324, 3) := by decide +kernel
theorem dX11_read_121 : decode cX11_read 121 = .ok (.aload_n 0, 1) := by decide +kernel
theorem dX11_read_122 : decode cX11_read 122 = .ok (.ldc_w 341, 3) := by decide +kernel
theorem dX11_read_125 : decode cX11_read 125 = .ok (.invokevirtual 343, 3) := by decide +kernel
theorem dX11_read_128 : decode cX11_read 128 = .ok (.aload_n 0, 1) := by decide +kernel
theorem dX11_read_129 : decode cX11_read 129 = .ok (.aload_n 0, 1) := by decide +kernel
theorem dX11_read_130 : decode cX11_read 130 = .ok (.invokevirtual 347, 3) := by decide +kernel
theorem dX11_read_133 : decode cX11_read 133 = .ok (.putfield 318, 3) := by decide +kernel
theorem dX11_read_136 : decode cX11_read 136 = .ok (.aload_n 0, 1) := by decide +kernel
theorem dX11_read_137 : decode cX11_read 137 = .ok (.ldc_w 350, 3) := by decide +kernel
theorem dX11_read_140 : decode cX11_read 140 = .ok (.invokevirtual 343, 3) := by decide +kernel
theorem dX11_read_143 : decode cX11_read 143 = .ok (.aload_n 0, 1) := by decide +kernel
theorem dX11_read_144 : decode cX11_read 144 = .ok (.aload_n 0, 1) := by decide +kernel
theorem dX11_read_145 : decode cX11_read 145 = .ok (.invokevirtual 347, 3) := by decide +kernel
theorem dX11_read_148 : decode cX11_read 148 = .ok (.putfield 321, 3) := by decide +kernel
theorem dX11_read_151 : decode cX11_read 151 = .ok (.goto 63, 3) := by decide +kernel
theorem dX11_read_154 : decode cX11_read 154 = .ok (.aload_n 0, 1) := by decide +kernel
theorem dX11_read_155 : decode cX11_read 155 = .ok (.aload_n 0, 1) := by decide +kernel
theorem dX11_read_156 : decode cX11_read 156 = .ok (.invokevirtual 312, 3) := by decide +kernel
theorem dX11_read_159 : decode cX11_read 159 = .ok (.putfield 315, 3) := by decide +kernel
theorem dX11_read_162 : decode cX11_read 162 = .ok (.goto 52, 3) := by decide +kernel
theorem dX11_read_165 : decode cX11_read 165 = .ok (.aload_n 0, 1) := by decide +kernel
theorem dX11_read_166 : decode cX11_read 166 = .ok (.aload_n 0, 1) := by decide +kernel
theorem dX11_read_167 : decode cX11_read 167 = .ok (.invokevirtual 312, 3) := by decide +kernel
theorem dX11_read_170 : decode cX11_read 170 = .ok (.putfield 318, 3) := by decide +kernel
theorem dX11_read_173 : decode cX11_read 173 = .ok (.goto 41, 3) := by decide +kernel
theorem dX11_read_176 : decode cX11_read 176 = .ok (.aload_n 0, 1) := by decide +kernel
theorem dX11_read_177 : decode cX11_read 177 = .ok (.aload_n 0, 1) := by decide +kernel
theorem dX11_read_178 : decode cX11_read 178 = .ok (.invokevirtual 312, 3) := by decide +kernel
theorem dX11_read_181 : decode cX11_read 181 = .ok (.putfield 315, 3) := by decide +kernel
theorem dX11_read_184 : decode cX11_read 184 = .ok (.aload_n 0, 1) := by decide +kernel
theorem dX11_read_185 : decode cX11_read 185 = .ok (.aload_n 0, 1) := by decide +kernel
theorem dX11_read_186 : decode cX11_read 186 = .ok (.ldc_w 352, 3) := by decide +kernel
theorem dX11_read_189 : decode cX11_read 189 = .ok (.invokevirtual 329, 3) := by decide +kernel
theorem dX11_read_192 : decode cX11_read 192 = .ok (.putfield 324, 3) := by decide +kernel
theorem dX11_read_195 : decode cX11_read 195 = .ok (.goto 19, 3) := by decide +kernel
theorem dX11_read_198 : decode cX11_read 198 = .ok (.aload_n 0, 1) := by decide +kernel
theorem dX11_read_199 : decode cX11_read 199 = .ok (.aload_n 0, 1) := by decide +kernel
theorem dX11_read_200 : decode cX11_read 200 = .ok (.invokevirtual 312, 3) := by decide +kernel
theorem dX11_read_203 : decode cX11_read 203 = .ok (.putfield 315, 3) := by decide +kernel
theorem dX11_read_206 : decode cX11_read 206 = .ok (.aload_n 0, 1) := by decide +kernel
theorem dX11_read_207 : decode cX11_read 207 = .ok (.aload_n 0, 1) := by decide +kernel
theorem dX11_read_208 : decode cX11_read 208 = .ok (.invokevirtual 312, 3) := by decide +kernel
theorem dX11_read_211 : decode cX11_read 211 = .ok (.putfield 318, 3) := by decide +kernel
theorem dX11_read_214 : decode cX11_read 214 = .ok (.aload_n 0, 1) := by decide +kernel
theorem dX11_read_215 : decode cX11_read 215 = .ok (.getfield 300, 3) := by decide +kernel
theorem dX11_read_218 : decode cX11_read 218 = .ok (.ifCond .eq 15, 3) := by decide +kernel
theorem dX11_read_221 : decode cX11_read 221 = .ok (.aload_n 0, 1) := by decide +kernel
theorem dX11_read_222 : decode cX11_read 222 = .ok (.getfield 277, 3) := by decide +kernel
theorem dX11_read_225 : decode cX11_read 225 = .ok (.ifCond .eq 8, 3) := by decide +kernel
theorem dX11_read_228 : decode cX11_read 228 = .ok (.aload_n 0, 1) := by decide +kernel
theorem dX11_read_229 : decode cX11_read 229 = .ok (.iconst 0, 1) := by decide +kernel
theorem dX11_read_230 : decode cX11_read 230 = .ok (.putfield 300, 3) := by decide +kernel
theorem dX11_read_233 : decode cX11_read 233 = .ok (.return_, 1) := by decide +kernel
theorem dX11_namesThoseThere_0 : decode cX11_namesThoseThere 0 = .ok (.aload_n 0, 1) := by decide +kernel
theorem dX11_namesThoseThere_1 : decode cX11_namesThoseThere 1 = .ok (.getfield 333, 3) := by decide +kernel
theorem dX11_namesThoseThere_4 : decode cX11_namesThoseThere 4 = .ok (.ifCond .ne 45, 3) := by decide +kernel
theorem dX11_namesThoseThere_7 : decode cX11_namesThoseThere 7 = .ok (.aload_n 0, 1) := by decide +kernel
theorem dX11_namesThoseThere_8 : decode cX11_namesThoseThere 8 = .ok (.getfield 318, 3) := by decide +kernel
theorem dX11_namesThoseThere_11 : decode cX11_namesThoseThere 11 = .ok (.ifCond .lt 14, 3) := by decide +kernel
theorem dX11_namesThoseThere_14 : decode cX11_namesThoseThere 14 = .ok (.aload_n 0, 1) := by decide +kernel
theorem dX11_namesThoseThere_15 : decode cX11_namesThoseThere 15 = .ok (.aload_n 0, 1) := by decide +kernel
theorem dX11_namesThoseThere_16 : decode cX11_namesThoseThere 16 = .ok (.getfield 318, 3) := by decide +kernel
theorem dX11_namesThoseThere_19 : decode cX11_namesThoseThere 19 = .ok (.invokevirtual 123, 3) := by decide +kernel
theorem dX11_namesThoseThere_22 : decode cX11_namesThoseThere 22 = .ok (.ifCond .eq 25, 3) := by decide +kernel
theorem dX11_namesThoseThere_25 : decode cX11_namesThoseThere 25 = .ok (.aload_n 0, 1) := by decide +kernel
theorem dX11_namesThoseThere_26 : decode cX11_namesThoseThere 26 = .ok (.getfield 321, 3) := by decide +kernel
theorem dX11_namesThoseThere_29 : decode cX11_namesThoseThere 29 = .ok (.ifCond .lt 14, 3) := by decide +kernel
theorem dX11_namesThoseThere_32 : decode cX11_namesThoseThere 32 = .ok (.aload_n 0, 1) := by decide +kernel
theorem dX11_namesThoseThere_33 : decode cX11_namesThoseThere 33 = .ok (.aload_n 0, 1) := by decide +kernel
theorem dX11_namesThoseThere_34 : decode cX11_namesThoseThere 34 = .ok (.getfield 321, 3) := by decide +kernel
theorem dX11_namesThoseThere_37 : decode cX11_namesThoseThere 37 = .ok (.invokevirtual 123, 3) := by decide +kernel
theorem dX11_namesThoseThere_40 : decode cX11_namesThoseThere 40 = .ok (.ifCond .eq 7, 3) := by decide +kernel
theorem dX11_namesThoseThere_43 : decode cX11_namesThoseThere 43 = .ok (.iconst 1, 1) := by decide +kernel
theorem dX11_namesThoseThere_44 : decode cX11_namesThoseThere 44 = .ok (.goto 4, 3) := by decide +kernel
theorem dX11_namesThoseThere_47 : decode cX11_namesThoseThere 47 = .ok (.iconst 0, 1) := by decide +kernel
theorem dX11_namesThoseThere_48 : decode cX11_namesThoseThere 48 = .ok (.ireturn, 1) := by decide +kernel
theorem dX11_namesThoseThere_49 : decode cX11_namesThoseThere 49 = .ok (.aload_n 0, 1) := by decide +kernel
theorem dX11_namesThoseThere_50 : decode cX11_namesThoseThere 50 = .ok (.getfield 333, 3) := by decide +kernel
theorem dX11_namesThoseThere_53 : decode cX11_namesThoseThere 53 = .ok (.iconst 1, 1) := by decide +kernel
theorem dX11_namesThoseThere_54 : decode cX11_namesThoseThere 54 = .ok (.if_icmp .eq 11, 3) := by decide +kernel
theorem dX11_namesThoseThere_57 : decode cX11_namesThoseThere 57 = .ok (.aload_n 0, 1) := by decide +kernel
theorem dX11_namesThoseThere_58 : decode cX11_namesThoseThere 58 = .ok (.getfield 333, 3) := by decide +kernel
theorem dX11_namesThoseThere_61 : decode cX11_namesThoseThere 61 = .ok (.iconst 2, 1) := by decide +kernel
theorem dX11_namesThoseThere_62 : decode cX11_namesThoseThere 62 = .ok (.if_icmp .ne 7, 3) := by decide +kernel
theorem dX11_namesThoseThere_65 : decode cX11_namesThoseThere 65 = .ok (.iconst 1, 1) := by decide +kernel
theorem dX11_namesThoseThere_66 : decode cX11_namesThoseThere 66 = .ok (.goto 4, 3) := by decide +kernel
theorem dX11_namesThoseThere_69 : decode cX11_namesThoseThere 69 = .ok (.iconst 0, 1) := by decide +kernel
theorem dX11_namesThoseThere_70 : decode cX11_namesThoseThere 70 = .ok (.istore_n 1, 1) := by decide +kernel
theorem dX11_namesThoseThere_71 : decode cX11_namesThoseThere 71 = .ok (.aload_n 0, 1) := by decide +kernel
theorem dX11_namesThoseThere_72 : decode cX11_namesThoseThere 72 = .ok (.getfield 315, 3) := by decide +kernel
theorem dX11_namesThoseThere_75 : decode cX11_namesThoseThere 75 = .ok (.ifCond .lt 14, 3) := by decide +kernel
theorem dX11_namesThoseThere_78 : decode cX11_namesThoseThere 78 = .ok (.aload_n 0, 1) := by decide +kernel
theorem dX11_namesThoseThere_79 : decode cX11_namesThoseThere 79 = .ok (.aload_n 0, 1) := by decide +kernel
theorem dX11_namesThoseThere_80 : decode cX11_namesThoseThere 80 = .ok (.getfield 315, 3) := by decide +kernel
theorem dX11_namesThoseThere_83 : decode cX11_namesThoseThere 83 = .ok (.invokevirtual 123, 3) := by decide +kernel
theorem dX11_namesThoseThere_86 : decode cX11_namesThoseThere 86 = .ok (.ifCond .eq 43, 3) := by decide +kernel
theorem dX11_namesThoseThere_89 : decode cX11_namesThoseThere 89 = .ok (.aload_n 0, 1) := by decide +kernel
theorem dX11_namesThoseThere_90 : decode cX11_namesThoseThere 90 = .ok (.getfield 318, 3) := by decide +kernel
theorem dX11_namesThoseThere_93 : decode cX11_namesThoseThere 93 = .ok (.ifCond .lt 32, 3) := by decide +kernel
theorem dX11_namesThoseThere_96 : decode cX11_namesThoseThere 96 = .ok (.iload_n 1, 1) := by decide +kernel
theorem dX11_namesThoseThere_97 : decode cX11_namesThoseThere 97 = .ok (.ifCond .eq 17, 3) := by decide +kernel
theorem dX11_namesThoseThere_100 : decode cX11_namesThoseThere 100 = .ok (.aload_n 0, 1) := by decide +kernel
theorem dX11_namesThoseThere_101 : decode cX11_namesThoseThere 101 = .ok (.aload_n 0, 1) := by decide +kernel
theorem dX11_namesThoseThere_102 : decode cX11_namesThoseThere 102 = .ok (.getfield 318, 3) := by decide +kernel
theorem dX11_namesThoseThere_105 : decode cX11_namesThoseThere 105 = .ok (.invokevirtual 123, 3) := by decide +kernel
theorem dX11_namesThoseThere_108 : decode cX11_namesThoseThere 108 = .ok (.ifCond .eq 21, 3) := by decide +kernel
theorem dX11_namesThoseThere_111 : decode cX11_namesThoseThere 111 = .ok (.goto 14, 3) := by decide +kernel
theorem dX11_namesThoseThere_114 : decode cX11_namesThoseThere 114 = .ok (.aload_n 0, 1) := by decide +kernel
theorem dX11_namesThoseThere_115 : decode cX11_namesThoseThere 115 = .ok (.aload_n 0, 1) := by decide +kernel
theorem dX11_namesThoseThere_116 : decode cX11_namesThoseThere 116 = .ok (.getfield 318, 3) := by decide +kernel
theorem dX11_namesThoseThere_119 : decode cX11_namesThoseThere 119 = .ok (.invokevirtual 354, 3) := by decide +kernel
theorem dX11_namesThoseThere_122 : decode cX11_namesThoseThere 122 = .ok (.ifCond .eq 7, 3) := by decide +kernel
theorem dX11_namesThoseThere_125 : decode cX11_namesThoseThere 125 = .ok (.iconst 1, 1) := by decide +kernel
theorem dX11_namesThoseThere_126 : decode cX11_namesThoseThere 126 = .ok (.goto 4, 3) := by decide +kernel
theorem dX11_namesThoseThere_129 : decode cX11_namesThoseThere 129 = .ok (.iconst 0, 1) := by decide +kernel
theorem dX11_namesThoseThere_130 : decode cX11_namesThoseThere 130 = .ok (.ireturn, 1) := by decide +kernel
theorem dX11_init_0 : decode cX11_init 0 = .ok (.aload_n 0, 1) := by decide +kernel
theorem dX11_init_1 : decode cX11_init 1 = .ok (.invokespecial 357, 3) := by decide +kernel
theorem dX11_init_4 : decode cX11_init 4 = .ok (.aload_n 0, 1) := by decide +kernel
theorem dX11_init_5 : decode cX11_init 5 = .ok (.bipush 80, 2) := by decide +kernel
theorem dX11_init_7 : decode cX11_init 7 = .ok (.newarray .int, 2) := by decide +kernel
theorem dX11_init_9 : decode cX11_init 9 = .ok (.putfield 271, 3) := by decide +kernel
theorem dX11_init_12 : decode cX11_init 12 = .ok (.aload_n 0, 1) := by decide +kernel
theorem dX11_init_13 : decode cX11_init 13 = .ok (.bipush (-9), 2) := by decide +kernel
theorem dX11_init_15 : decode cX11_init 15 = .ok (.putfield 362, 3) := by decide +kernel
theorem dX11_init_18 : decode cX11_init 18 = .ok (.aload_n 0, 1) := by decide +kernel
theorem dX11_init_19 : decode cX11_init 19 = .ok (.sipush 200, 3) := by decide +kernel
theorem dX11_init_22 : decode cX11_init 22 = .ok (.newarray .int, 2) := by decide +kernel
theorem dX11_init_24 : decode cX11_init 24 = .ok (.putfield 43, 3) := by decide +kernel
theorem dX11_init_27 : decode cX11_init 27 = .ok (.aload_n 0, 1) := by decide +kernel
theorem dX11_init_28 : decode cX11_init 28 = .ok (.sipush 200, 3) := by decide +kernel
theorem dX11_init_31 : decode cX11_init 31 = .ok (.newarray .int, 2) := by decide +kernel
theorem dX11_init_33 : decode cX11_init 33 = .ok (.putfield 31, 3) := by decide +kernel
theorem dX11_init_36 : decode cX11_init 36 = .ok (.aload_n 0, 1) := by decide +kernel
theorem dX11_init_37 : decode cX11_init 37 = .ok (.sipush 200, 3) := by decide +kernel
theorem dX11_init_40 : decode cX11_init 40 = .ok (.newarray .int, 2) := by decide +kernel
theorem dX11_init_42 : decode cX11_init 42 = .ok (.putfield 46, 3) := by decide +kernel
theorem dX11_init_45 : decode cX11_init 45 = .ok (.aload_n 0, 1) := by decide +kernel
theorem dX11_init_46 : decode cX11_init 46 = .ok (.sipush 200, 3) := by decide +kernel
theorem dX11_init_49 : decode cX11_init 49 = .ok (.newarray .int, 2) := by decide +kernel
theorem dX11_init_51 : decode cX11_init 51 = .ok (.putfield 34, 3) := by decide +kernel
theorem dX11_init_54 : decode cX11_init 54 = .ok (.aload_n 0, 1) := by decide +kernel
theorem dX11_init_55 : decode cX11_init 55 = .ok (.sipush 200, 3) := by decide +kernel
theorem dX11_init_58 : decode cX11_init 58 = .ok (.newarray .int, 2) := by decide +kernel
theorem dX11_init_60 : decode cX11_init 60 = .ok (.putfield 37, 3) := by decide +kernel
theorem dX11_init_63 : decode cX11_init 63 = .ok (.aload_n 0, 1) := by decide +kernel
theorem dX11_init_64 : decode cX11_init 64 = .ok (.sipush 200, 3) := by decide +kernel
theorem dX11_init_67 : decode cX11_init 67 = .ok (.newarray .int, 2) := by decide +kernel
theorem dX11_init_69 : decode cX11_init 69 = .ok (.putfield 28, 3) := by decide +kernel
theorem dX11_init_72 : decode cX11_init 72 = .ok (.aload_n 0, 1) := by decide +kernel
theorem dX11_init_73 : decode cX11_init 73 = .ok (.sipush 200, 3) := by decide +kernel
theorem dX11_init_76 : decode cX11_init 76 = .ok (.newarray .boolean, 2) := by decide +kernel
theorem dX11_init_78 : decode cX11_init 78 = .ok (.putfield 14, 3) := by decide +kernel
theorem dX11_init_81 : decode cX11_init 81 = .ok (.aload_n 0, 1) := by decide +kernel
theorem dX11_init_82 : decode cX11_init 82 = .ok (.bipush 64, 2) := by decide +kernel
theorem dX11_init_84 : decode cX11_init 84 = .ok (.newarray .int, 2) := by decide +kernel
theorem dX11_init_86 : decode cX11_init 86 = .ok (.putfield 18, 3) := by decide +kernel
theorem dX11_init_89 : decode cX11_init 89 = .ok (.aload_n 0, 1) := by decide +kernel
theorem dX11_init_90 : decode cX11_init 90 = .ok (.bipush 8, 2) := by decide +kernel
theorem dX11_init_92 : decode cX11_init 92 = .ok (.newarray .int, 2) := by decide +kernel
theorem dX11_init_94 : decode cX11_init 94 = .ok (.putfield 25, 3) := by decide +kernel
theorem dX11_init_97 : decode cX11_init 97 = .ok (.aload_n 0, 1) := by decide +kernel
theorem dX11_init_98 : decode cX11_init 98 = .ok (.bipush 8, 2) := by decide +kernel
theorem dX11_init_100 : decode cX11_init 100 = .ok (.newarray .boolean, 2) := by decide +kernel
theorem dX11_init_102 : decode cX11_init 102 = .ok (.putfield 114, 3) := by decide +kernel
theorem dX11_init_105 : decode cX11_init 105 = .ok (.aload_n 0, 1) := by decide +kernel
theorem dX11_init_106 : decode cX11_init 106 = .ok (.bipush 64, 2) := by decide +kernel
theorem dX11_init_108 : decode cX11_init 108 = .ok (.newarray .boolean, 2) := by decide +kernel
theorem dX11_init_110 : decode cX11_init 110 = .ok (.putfield 117, 3) := by decide +kernel
theorem dX11_init_113 : decode cX11_init 113 = .ok (.aload_n 0, 1) := by decide +kernel
theorem dX11_init_114 : decode cX11_init 114 = .ok (.bipush 64, 2) := by decide +kernel
theorem dX11_init_116 : decode cX11_init 116 = .ok (.newarray .int, 2) := by decide +kernel
theorem dX11_init_118 : decode cX11_init 118 = .ok (.putfield 129, 3) := by decide +kernel
theorem dX11_init_121 : decode cX11_init 121 = .ok (.aload_n 0, 1) := by decide +kernel
theorem dX11_init_122 : decode cX11_init 122 = .ok (.bipush 64, 2) := by decide +kernel
theorem dX11_init_124 : decode cX11_init 124 = .ok (.newarray .long, 2) := by decide +kernel
theorem dX11_init_126 : decode cX11_init 126 = .ok (.putfield 139, 3) := by decide +kernel
theorem dX11_init_129 : decode cX11_init 129 = .ok (.aload_n 0, 1) := by decide +kernel
theorem dX11_init_130 : decode cX11_init 130 = .ok (.bipush 64, 2) := by decide +kernel
theorem dX11_init_132 : decode cX11_init 132 = .ok (.newarray .int, 2) := by decide +kernel
theorem dX11_init_134 : decode cX11_init 134 = .ok (.putfield 56, 3) := by decide +kernel
theorem dX11_init_137 : decode cX11_init 137 = .ok (.aload_n 0, 1) := by decide +kernel
theorem dX11_init_138 : decode cX11_init 138 = .ok (.sipush 512, 3) := by decide +kernel
theorem dX11_init_141 : decode cX11_init 141 = .ok (.newarray .int, 2) := by decide +kernel
theorem dX11_init_143 : decode cX11_init 143 = .ok (.putfield 135, 3) := by decide +kernel
theorem dX11_init_146 : decode cX11_init 146 = .ok (.aload_n 0, 1) := by decide +kernel
theorem dX11_init_147 : decode cX11_init 147 = .ok (.bipush 64, 2) := by decide +kernel
theorem dX11_init_149 : decode cX11_init 149 = .ok (.newarray .int, 2) := by decide +kernel
theorem dX11_init_151 : decode cX11_init 151 = .ok (.putfield 163, 3) := by decide +kernel
theorem dX11_init_154 : decode cX11_init 154 = .ok (.aload_n 0, 1) := by decide +kernel
theorem dX11_init_155 : decode cX11_init 155 = .ok (.bipush 64, 2) := by decide +kernel
theorem dX11_init_157 : decode cX11_init 157 = .ok (.newarray .int, 2) := by decide +kernel
theorem dX11_init_159 : decode cX11_init 159 = .ok (.putfield 173, 3) := by decide +kernel
theorem dX11_init_162 : decode cX11_init 162 = .ok (.aload_n 0, 1) := by decide +kernel
theorem dX11_init_163 : decode cX11_init 163 = .ok (.bipush 64, 2) := by decide +kernel
theorem dX11_init_165 : decode cX11_init 165 = .ok (.newarray .int, 2) := by decide +kernel
theorem dX11_init_167 : decode cX11_init 167 = .ok (.putfield 211, 3) := by decide +kernel
theorem dX11_init_170 : decode cX11_init 170 = .ok (.aload_n 0, 1) := by decide +kernel
theorem dX11_init_171 : decode cX11_init 171 = .ok (.bipush 8, 2) := by decide +kernel
theorem dX11_init_173 : decode cX11_init 173 = .ok (.newarray .int, 2) := by decide +kernel
theorem dX11_init_175 : decode cX11_init 175 = .ok (.putfield 238, 3) := by decide +kernel
theorem dX11_init_178 : decode cX11_init 178 = .ok (.aload_n 0, 1) := by decide +kernel
theorem dX11_init_179 : decode cX11_init 179 = .ok (.sipush 1600, 3) := by decide +kernel
theorem dX11_init_182 : decode cX11_init 182 = .ok (.newarray .int, 2) := by decide +kernel
theorem dX11_init_184 : decode cX11_init 184 = .ok (.putfield 223, 3) := by decide +kernel
theorem dX11_init_187 : decode cX11_init 187 = .ok (.aload_n 0, 1) := by decide +kernel
theorem dX11_init_188 : decode cX11_init 188 = .ok (.sipush 1600, 3) := by decide +kernel
theorem dX11_init_191 : decode cX11_init 191 = .ok (.newarray .int, 2) := by decide +kernel
theorem dX11_init_193 : decode cX11_init 193 = .ok (.putfield 226, 3) := by decide +kernel
theorem dX11_init_196 : decode cX11_init 196 = .ok (.aload_n 0, 1) := by decide +kernel
theorem dX11_init_197 : decode cX11_init 197 = .ok (.sipush 1600, 3) := by decide +kernel
theorem dX11_init_200 : decode cX11_init 200 = .ok (.newarray .int, 2) := by decide +kernel
theorem dX11_init_202 : decode cX11_init 202 = .ok (.putfield 229, 3) := by decide +kernel
theorem dX11_init_205 : decode cX11_init 205 = .ok (.aload_n 0, 1) := by decide +kernel
theorem dX11_init_206 : decode cX11_init 206 = .ok (.sipush 1600, 3) := by decide +kernel
theorem dX11_init_209 : decode cX11_init 209 = .ok (.newarray .int, 2) := by decide +kernel
theorem dX11_init_211 : decode cX11_init 211 = .ok (.putfield 232, 3) := by decide +kernel
theorem dX11_init_214 : decode cX11_init 214 = .ok (.aload_n 0, 1) := by decide +kernel
theorem dX11_init_215 : decode cX11_init 215 = .ok (.bipush 64, 2) := by decide +kernel
theorem dX11_init_217 : decode cX11_init 217 = .ok (.newarray .int, 2) := by decide +kernel
theorem dX11_init_219 : decode cX11_init 219 = .ok (.putfield 365, 3) := by decide +kernel
theorem dX11_init_222 : decode cX11_init 222 = .ok (.aload_n 0, 1) := by decide +kernel
theorem dX11_init_223 : decode cX11_init 223 = .ok (.bipush 64, 2) := by decide +kernel
theorem dX11_init_225 : decode cX11_init 225 = .ok (.newarray .int, 2) := by decide +kernel
theorem dX11_init_227 : decode cX11_init 227 = .ok (.putfield 368, 3) := by decide +kernel
theorem dX11_init_230 : decode cX11_init 230 = .ok (.return_, 1) := by decide +kernel
theorem dX11_feed_0 : decode cX11_feed 0 = .ok (.aload_n 0, 1) := by decide +kernel
theorem dX11_feed_1 : decode cX11_feed 1 = .ok (.getfield 268, 3) := by decide +kernel
theorem dX11_feed_4 : decode cX11_feed 4 = .ok (.bipush 20, 2) := by decide +kernel
theorem dX11_feed_6 : decode cX11_feed 6 = .ok (.iadd, 1) := by decide +kernel
theorem dX11_feed_7 : decode cX11_feed 7 = .ok (.bipush 80, 2) := by decide +kernel
theorem dX11_feed_9 : decode cX11_feed 9 = .ok (.if_icmp .le 10, 3) := by decide +kernel
theorem dX11_feed_12 : decode cX11_feed 12 = .ok (.aload_n 0, 1) := by decide +kernel
theorem dX11_feed_13 : decode cX11_feed 13 = .ok (.bipush 9, 2) := by decide +kernel
theorem dX11_feed_15 : decode cX11_feed 15 = .ok (.invokevirtual 371, 3) := by decide +kernel
theorem dX11_feed_18 : decode cX11_feed 18 = .ok (.ireturn, 1) := by decide +kernel
theorem dX11_feed_19 : decode cX11_feed 19 = .ok (.iconst 0, 1) := by decide +kernel
theorem dX11_feed_20 : decode cX11_feed 20 = .ok (.istore 6, 2) := by decide +kernel
theorem dX11_feed_22 : decode cX11_feed 22 = .ok (.iload 6, 2) := by decide +kernel
theorem dX11_feed_24 : decode cX11_feed 24 = .ok (.bipush 20, 2) := by decide +kernel
theorem dX11_feed_26 : decode cX11_feed 26 = .ok (.if_icmp .ge 93, 3) := by decide +kernel
theorem dX11_feed_29 : decode cX11_feed 29 = .ok (.iload 6, 2) := by decide +kernel
theorem dX11_feed_31 : decode cX11_feed 31 = .ok (.iconst 4, 1) := by decide +kernel
theorem dX11_feed_32 : decode cX11_feed 32 = .ok (.if_icmp .ge 7, 3) := by decide +kernel
theorem dX11_feed_35 : decode cX11_feed 35 = .ok (.iload_n 1, 1) := by decide +kernel
theorem dX11_feed_36 : decode cX11_feed 36 = .ok (.goto 39, 3) := by decide +kernel
theorem dX11_feed_39 : decode cX11_feed 39 = .ok (.iload 6, 2) := by decide +kernel
theorem dX11_feed_41 : decode cX11_feed 41 = .ok (.bipush 8, 2) := by decide +kernel
theorem dX11_feed_43 : decode cX11_feed 43 = .ok (.if_icmp .ge 7, 3) := by decide +kernel
theorem dX11_feed_46 : decode cX11_feed 46 = .ok (.iload_n 2, 1) := by decide +kernel
theorem dX11_feed_47 : decode cX11_feed 47 = .ok (.goto 28, 3) := by decide +kernel
theorem dX11_feed_50 : decode cX11_feed 50 = .ok (.iload 6, 2) := by decide +kernel
theorem dX11_feed_52 : decode cX11_feed 52 = .ok (.bipush 12, 2) := by decide +kernel
theorem dX11_feed_54 : decode cX11_feed 54 = .ok (.if_icmp .ge 7, 3) := by decide +kernel
theorem dX11_feed_57 : decode cX11_feed 57 = .ok (.iload_n 3, 1) := by decide +kernel
theorem dX11_feed_58 : decode cX11_feed 58 = .ok (.goto 17, 3) := by decide +kernel
theorem dX11_feed_61 : decode cX11_feed 61 = .ok (.iload 6, 2) := by decide +kernel
theorem dX11_feed_63 : decode cX11_feed 63 = .ok (.bipush 16, 2) := by decide +kernel
theorem dX11_feed_65 : decode cX11_feed 65 = .ok (.if_icmp .ge 8, 3) := by decide +kernel
theorem dX11_feed_68 : decode cX11_feed 68 = .ok (.iload 4, 2) := by decide +kernel
theorem dX11_feed_70 : decode cX11_feed 70 = .ok (.goto 5, 3) := by decide +kernel
theorem dX11_feed_73 : decode cX11_feed 73 = .ok (.iload 5, 2) := by decide +kernel
theorem dX11_feed_75 : decode cX11_feed 75 = .ok (.istore 7, 2) := by decide +kernel
theorem dX11_feed_77 : decode cX11_feed 77 = .ok (.aload_n 0, 1) := by decide +kernel
theorem dX11_feed_78 : decode cX11_feed 78 = .ok (.getfield 271, 3) := by decide +kernel
theorem dX11_feed_81 : decode cX11_feed 81 = .ok (.aload_n 0, 1) := by decide +kernel
theorem dX11_feed_82 : decode cX11_feed 82 = .ok (.getfield 268, 3) := by decide +kernel
theorem dX11_feed_85 : decode cX11_feed 85 = .ok (.iload 7, 2) := by decide +kernel
theorem dX11_feed_87 : decode cX11_feed 87 = .ok (.bipush 24, 2) := by decide +kernel
theorem dX11_feed_89 : decode cX11_feed 89 = .ok (.bipush 8, 2) := by decide +kernel
theorem dX11_feed_91 : decode cX11_feed 91 = .ok (.iload 6, 2) := by decide +kernel
theorem dX11_feed_93 : decode cX11_feed 93 = .ok (.iconst 4, 1) := by decide +kernel
theorem dX11_feed_94 : decode cX11_feed 94 = .ok (.irem, 1) := by decide +kernel
theorem dX11_feed_95 : decode cX11_feed 95 = .ok (.imul, 1) := by decide +kernel
theorem dX11_feed_96 : decode cX11_feed 96 = .ok (.isub, 1) := by decide +kernel
theorem dX11_feed_97 : decode cX11_feed 97 = .ok (.ishr, 1) := by decide +kernel
theorem dX11_feed_98 : decode cX11_feed 98 = .ok (.sipush 255, 3) := by decide +kernel
theorem dX11_feed_101 : decode cX11_feed 101 = .ok (.iand, 1) := by decide +kernel
theorem dX11_feed_102 : decode cX11_feed 102 = .ok (.iastore, 1) := by decide +kernel
theorem dX11_feed_103 : decode cX11_feed 103 = .ok (.aload_n 0, 1) := by decide +kernel
theorem dX11_feed_104 : decode cX11_feed 104 = .ok (.dup, 1) := by decide +kernel
theorem dX11_feed_105 : decode cX11_feed 105 = .ok (.getfield 268, 3) := by decide +kernel
theorem dX11_feed_108 : decode cX11_feed 108 = .ok (.iconst 1, 1) := by decide +kernel
theorem dX11_feed_109 : decode cX11_feed 109 = .ok (.iadd, 1) := by decide +kernel
theorem dX11_feed_110 : decode cX11_feed 110 = .ok (.putfield 268, 3) := by decide +kernel
theorem dX11_feed_113 : decode cX11_feed 113 = .ok (.iinc 6 1, 3) := by decide +kernel
theorem dX11_feed_116 : decode cX11_feed 116 = .ok (.goto (-94), 3) := by decide +kernel
theorem dX11_feed_119 : decode cX11_feed 119 = .ok (.aload_n 0, 1) := by decide +kernel
theorem dX11_feed_120 : decode cX11_feed 120 = .ok (.aload_n 0, 1) := by decide +kernel
theorem dX11_feed_121 : decode cX11_feed 121 = .ok (.getfield 268, 3) := by decide +kernel
theorem dX11_feed_124 : decode cX11_feed 124 = .ok (.invokevirtual 374, 3) := by decide +kernel
theorem dX11_feed_127 : decode cX11_feed 127 = .ok (.ireturn, 1) := by decide +kernel
theorem dX11_end_0 : decode cX11_end 0 = .ok (.iload_n 1, 1) := by decide +kernel
theorem dX11_end_1 : decode cX11_end 1 = .ok (.iconst 0, 1) := by decide +kernel
theorem dX11_end_2 : decode cX11_end 2 = .ok (.aload_n 0, 1) := by decide +kernel
theorem dX11_end_3 : decode cX11_end 3 = .ok (.getfield 268, 3) := by decide +kernel
theorem dX11_end_6 : decode cX11_end 6 = .ok (.invokestatic 10, 3) := by decide +kernel
theorem dX11_end_9 : decode cX11_end 9 = .ok (.ifCond .ne 9, 3) := by decide +kernel
theorem dX11_end_12 : decode cX11_end 12 = .ok (.aload_n 0, 1) := by decide +kernel
theorem dX11_end_13 : decode cX11_end 13 = .ok (.iconst 3, 1) := by decide +kernel
theorem dX11_end_14 : decode cX11_end 14 = .ok (.invokevirtual 371, 3) := by decide +kernel
theorem dX11_end_17 : decode cX11_end 17 = .ok (.ireturn, 1) := by decide +kernel
theorem dX11_end_18 : decode cX11_end 18 = .ok (.aload_n 0, 1) := by decide +kernel
theorem dX11_end_19 : decode cX11_end 19 = .ok (.iload_n 1, 1) := by decide +kernel
theorem dX11_end_20 : decode cX11_end 20 = .ok (.putfield 268, 3) := by decide +kernel
theorem dX11_end_23 : decode cX11_end 23 = .ok (.aload_n 0, 1) := by decide +kernel
theorem dX11_end_24 : decode cX11_end 24 = .ok (.iload_n 1, 1) := by decide +kernel
theorem dX11_end_25 : decode cX11_end 25 = .ok (.invokevirtual 374, 3) := by decide +kernel
theorem dX11_end_28 : decode cX11_end 28 = .ok (.ireturn, 1) := by decide +kernel
theorem dX11_record_0 : decode cX11_record 0 = .ok (.aload_n 0, 1) := by decide +kernel
theorem dX11_record_1 : decode cX11_record 1 = .ok (.iconst 0, 1) := by decide +kernel
theorem dX11_record_2 : decode cX11_record 2 = .ok (.putfield 377, 3) := by decide +kernel
theorem dX11_record_5 : decode cX11_record 5 = .ok (.aload_n 0, 1) := by decide +kernel
theorem dX11_record_6 : decode cX11_record 6 = .ok (.bipush (-9), 2) := by decide +kernel
theorem dX11_record_8 : decode cX11_record 8 = .ok (.putfield 362, 3) := by decide +kernel
theorem dX11_record_11 : decode cX11_record 11 = .ok (.aload_n 0, 1) := by decide +kernel
theorem dX11_record_12 : decode cX11_record 12 = .ok (.invokevirtual 380, 3) := by decide +kernel
theorem dX11_record_15 : decode cX11_record 15 = .ok (.aload_n 0, 1) := by decide +kernel
theorem dX11_record_16 : decode cX11_record 16 = .ok (.getfield 300, 3) := by decide +kernel
theorem dX11_record_19 : decode cX11_record 19 = .ok (.ifCond .ne 11, 3) := by decide +kernel
theorem dX11_record_22 : decode cX11_record 22 = .ok (.aload_n 0, 1) := by decide +kernel
theorem dX11_record_23 : decode cX11_record 23 = .ok (.aload_n 0, 1) := by decide +kernel
theorem dX11_record_24 : decode cX11_record 24 = .ok (.getfield 274, 3) := by decide +kernel
theorem dX11_record_27 : decode cX11_record 27 = .ok (.putfield 362, 3) := by decide +kernel
theorem dX11_record_30 : decode cX11_record 30 = .ok (.aload_n 0, 1) := by decide +kernel
theorem dX11_record_31 : decode cX11_record 31 = .ok (.iconst 0, 1) := by decide +kernel
theorem dX11_record_32 : decode cX11_record 32 = .ok (.putfield 268, 3) := by decide +kernel
theorem dX11_record_35 : decode cX11_record 35 = .ok (.aload_n 0, 1) := by decide +kernel
theorem dX11_record_36 : decode cX11_record 36 = .ok (.getfield 300, 3) := by decide +kernel
theorem dX11_record_39 : decode cX11_record 39 = .ok (.ifCond .ne 9, 3) := by decide +kernel
theorem dX11_record_42 : decode cX11_record 42 = .ok (.aload_n 0, 1) := by decide +kernel
theorem dX11_record_43 : decode cX11_record 43 = .ok (.iconst 2, 1) := by decide +kernel
theorem dX11_record_44 : decode cX11_record 44 = .ok (.invokevirtual 371, 3) := by decide +kernel
theorem dX11_record_47 : decode cX11_record 47 = .ok (.ireturn, 1) := by decide +kernel
theorem dX11_record_48 : decode cX11_record 48 = .ok (.aload_n 0, 1) := by decide +kernel
theorem dX11_record_49 : decode cX11_record 49 = .ok (.invokevirtual 383, 3) := by decide +kernel
theorem dX11_record_52 : decode cX11_record 52 = .ok (.ifCond .ne 9, 3) := by decide +kernel
theorem dX11_record_55 : decode cX11_record 55 = .ok (.aload_n 0, 1) := by decide +kernel
theorem dX11_record_56 : decode cX11_record 56 = .ok (.iconst 1, 1) := by decide +kernel
theorem dX11_record_57 : decode cX11_record 57 = .ok (.invokevirtual 371, 3) := by decide +kernel
theorem dX11_record_60 : decode cX11_record 60 = .ok (.ireturn, 1) := by decide +kernel
theorem dX11_record_61 : decode cX11_record 61 = .ok (.aload_n 0, 1) := by decide +kernel
theorem dX11_record_62 : decode cX11_record 62 = .ok (.getfield 40, 3) := by decide +kernel
theorem dX11_record_65 : decode cX11_record 65 = .ok (.sipush 200, 3) := by decide +kernel
theorem dX11_record_68 : decode cX11_record 68 = .ok (.if_icmp .eq 36, 3) := by decide +kernel
theorem dX11_record_71 : decode cX11_record 71 = .ok (.aload_n 0, 1) := by decide +kernel
theorem dX11_record_72 : decode cX11_record 72 = .ok (.getfield 333, 3) := by decide +kernel
theorem dX11_record_75 : decode cX11_record 75 = .ok (.ifCond .ne 12, 3) := by decide +kernel
theorem dX11_record_78 : decode cX11_record 78 = .ok (.aload_n 0, 1) := by decide +kernel
theorem dX11_record_79 : decode cX11_record 79 = .ok (.getfield 7, 3) := by decide +kernel
theorem dX11_record_82 : decode cX11_record 82 = .ok (.bipush 64, 2) := by decide +kernel
theorem dX11_record_84 : decode cX11_record 84 = .ok (.if_icmp .eq 20, 3) := by decide +kernel
theorem dX11_record_87 : decode cX11_record 87 = .ok (.aload_n 0, 1) := by decide +kernel
theorem dX11_record_88 : decode cX11_record 88 = .ok (.getfield 333, 3) := by decide +kernel
theorem dX11_record_91 : decode cX11_record 91 = .ok (.iconst 4, 1) := by decide +kernel
theorem dX11_record_92 : decode cX11_record 92 = .ok (.if_icmp .ne 19, 3) := by decide +kernel
theorem dX11_record_95 : decode cX11_record 95 = .ok (.aload_n 0, 1) := by decide +kernel
theorem dX11_record_96 : decode cX11_record 96 = .ok (.getfield 22, 3) := by decide +kernel
theorem dX11_record_99 : decode cX11_record 99 = .ok (.bipush 8, 2) := by decide +kernel
theorem dX11_record_101 : decode cX11_record 101 = .ok (.if_icmp .ne 10, 3) := by decide +kernel
theorem dX11_record_104 : decode cX11_record 104 = .ok (.aload_n 0, 1) := by decide +kernel
theorem dX11_record_105 : decode cX11_record 105 = .ok (.bipush 9, 2) := by decide +kernel
theorem dX11_record_107 : decode cX11_record 107 = .ok (.invokevirtual 371, 3) := by decide +kernel
theorem dX11_record_110 : decode cX11_record 110 = .ok (.ireturn, 1) := by decide +kernel
theorem dX11_record_111 : decode cX11_record 111 = .ok (.aload_n 0, 1) := by decide +kernel
theorem dX11_record_112 : decode cX11_record 112 = .ok (.getfield 40, 3) := by decide +kernel
theorem dX11_record_115 : decode cX11_record 115 = .ok (.istore_n 1, 1) := by decide +kernel
theorem dX11_record_116 : decode cX11_record 116 = .ok (.aload_n 0, 1) := by decide +kernel
theorem dX11_record_117 : decode cX11_record 117 = .ok (.getfield 43, 3) := by decide +kernel
theorem dX11_record_120 : decode cX11_record 120 = .ok (.iload_n 1, 1) := by decide +kernel
theorem dX11_record_121 : decode cX11_record 121 = .ok (.aload_n 0, 1) := by decide +kernel
theorem dX11_record_122 : decode cX11_record 122 = .ok (.getfield 333, 3) := by decide +kernel
theorem dX11_record_125 : decode cX11_record 125 = .ok (.iastore, 1) := by decide +kernel
theorem dX11_record_126 : decode cX11_record 126 = .ok (.aload_n 0, 1) := by decide +kernel
theorem dX11_record_127 : decode cX11_record 127 = .ok (.getfield 31, 3) := by decide +kernel
theorem dX11_record_130 : decode cX11_record 130 = .ok (.iload_n 1, 1) := by decide +kernel
theorem dX11_record_131 : decode cX11_record 131 = .ok (.aload_n 0, 1) := by decide +kernel
theorem dX11_record_132 : decode cX11_record 132 = .ok (.getfield 336, 3) := by decide +kernel
theorem dX11_record_135 : decode cX11_record 135 = .ok (.iastore, 1) := by decide +kernel
theorem dX11_record_136 : decode cX11_record 136 = .ok (.aload_n 0, 1) := by decide +kernel
theorem dX11_record_137 : decode cX11_record 137 = .ok (.getfield 46, 3) := by decide +kernel
theorem dX11_record_140 : decode cX11_record 140 = .ok (.iload_n 1, 1) := by decide +kernel
theorem dX11_record_141 : decode cX11_record 141 = .ok (.aload_n 0, 1) := by decide +kernel
theorem dX11_record_142 : decode cX11_record 142 = .ok (.getfield 333, 3) := by decide +kernel
theorem dX11_record_145 : decode cX11_record 145 = .ok (.ifCond .ne 10, 3) := by decide +kernel
theorem dX11_record_148 : decode cX11_record 148 = .ok (.aload_n 0, 1) := by decide +kernel
theorem dX11_record_149 : decode cX11_record 149 = .ok (.getfield 7, 3) := by decide +kernel
theorem dX11_record_152 : decode cX11_record 152 = .ok (.goto 7, 3) := by decide +kernel
theorem dX11_record_155 : decode cX11_record 155 = .ok (.aload_n 0, 1) := by decide +kernel
theorem dX11_record_156 : decode cX11_record 156 = .ok (.getfield 315, 3) := by decide +kernel
theorem dX11_record_159 : decode cX11_record 159 = .ok (.iastore, 1) := by decide +kernel
theorem dX11_record_160 : decode cX11_record 160 = .ok (.aload_n 0, 1) := by decide +kernel
theorem dX11_record_161 : decode cX11_record 161 = .ok (.getfield 34, 3) := by decide +kernel
theorem dX11_record_164 : decode cX11_record 164 = .ok (.iload_n 1, 1) := by decide +kernel
theorem dX11_record_165 : decode cX11_record 165 = .ok (.aload_n 0, 1) := by decide +kernel
theorem dX11_record_166 : decode cX11_record 166 = .ok (.getfield 333, 3) := by decide +kernel
theorem dX11_record_169 : decode cX11_record 169 = .ok (.iconst 4, 1) := by decide +kernel
theorem dX11_record_170 : decode cX11_record 170 = .ok (.if_icmp .ne 10, 3) := by decide +kernel
theorem dX11_record_173 : decode cX11_record 173 = .ok (.aload_n 0, 1) := by decide +kernel
theorem dX11_record_174 : decode cX11_record 174 = .ok (.getfield 22, 3) := by decide +kernel
theorem dX11_record_177 : decode cX11_record 177 = .ok (.goto 7, 3) := by decide +kernel
theorem dX11_record_180 : decode cX11_record 180 = .ok (.aload_n 0, 1) := by decide +kernel
theorem dX11_record_181 : decode cX11_record 181 = .ok (.getfield 318, 3) := by decide +kernel
theorem dX11_record_184 : decode cX11_record 184 = .ok (.iastore, 1) := by decide +kernel
theorem dX11_record_185 : decode cX11_record 185 = .ok (.aload_n 0, 1) := by decide +kernel
theorem dX11_record_186 : decode cX11_record 186 = .ok (.getfield 37, 3) := by decide +kernel
theorem dX11_record_189 : decode cX11_record 189 = .ok (.iload_n 1, 1) := by decide +kernel
theorem dX11_record_190 : decode cX11_record 190 = .ok (.aload_n 0, 1) := by decide +kernel
theorem dX11_record_191 : decode cX11_record 191 = .ok (.getfield 321, 3) := by decide +kernel
theorem dX11_record_194 : decode cX11_record 194 = .ok (.iastore, 1) := by decide +kernel
theorem dX11_record_195 : decode cX11_record 195 = .ok (.aload_n 0, 1) := by decide +kernel
theorem dX11_record_196 : decode cX11_record 196 = .ok (.getfield 28, 3) := by decide +kernel
theorem dX11_record_199 : decode cX11_record 199 = .ok (.iload_n 1, 1) := by decide +kernel
theorem dX11_record_200 : decode cX11_record 200 = .ok (.aload_n 0, 1) := by decide +kernel
theorem dX11_record_201 : decode cX11_record 201 = .ok (.getfield 324, 3) := by decide +kernel
theorem dX11_record_204 : decode cX11_record 204 = .ok (.iastore, 1) := by decide +kernel
theorem dX11_record_205 : decode cX11_record 205 = .ok (.aload_n 0, 1) := by decide +kernel
theorem dX11_record_206 : decode cX11_record 206 = .ok (.getfield 14, 3) := by decide +kernel
theorem dX11_record_209 : decode cX11_record 209 = .ok (.iload_n 1, 1) := by decide +kernel
theorem dX11_record_210 : decode cX11_record 210 = .ok (.iconst 1, 1) := by decide +kernel
theorem dX11_record_211 : decode cX11_record 211 = .ok (.bastore, 1) := by decide +kernel
theorem dX11_record_212 : decode cX11_record 212 = .ok (.aload_n 0, 1) := by decide +kernel
theorem dX11_record_213 : decode cX11_record 213 = .ok (.getfield 333, 3) := by decide +kernel
theorem dX11_record_216 : decode cX11_record 216 = .ok (.ifCond .ne 20, 3) := by decide +kernel
theorem dX11_record_219 : decode cX11_record 219 = .ok (.aload_n 0, 1) := by decide +kernel
theorem dX11_record_220 : decode cX11_record 220 = .ok (.getfield 18, 3) := by decide +kernel
theorem dX11_record_223 : decode cX11_record 223 = .ok (.aload_n 0, 1) := by decide +kernel
theorem dX11_record_224 : decode cX11_record 224 = .ok (.dup, 1) := by decide +kernel
theorem dX11_record_225 : decode cX11_record 225 = .ok (.getfield 7, 3) := by decide +kernel
theorem dX11_record_228 : decode cX11_record 228 = .ok (.dup_x1, 1) := by decide +kernel
theorem dX11_record_229 : decode cX11_record 229 = .ok (.iconst 1, 1) := by decide +kernel
theorem dX11_record_230 : decode cX11_record 230 = .ok (.iadd, 1) := by decide +kernel
theorem dX11_record_231 : decode cX11_record 231 = .ok (.putfield 7, 3) := by decide +kernel
theorem dX11_record_234 : decode cX11_record 234 = .ok (.iload_n 1, 1) := by decide +kernel
theorem dX11_record_235 : decode cX11_record 235 = .ok (.iastore, 1) := by decide +kernel
theorem dX11_record_236 : decode cX11_record 236 = .ok (.aload_n 0, 1) := by decide +kernel
theorem dX11_record_237 : decode cX11_record 237 = .ok (.getfield 333, 3) := by decide +kernel
theorem dX11_record_240 : decode cX11_record 240 = .ok (.iconst 4, 1) := by decide +kernel
theorem dX11_record_241 : decode cX11_record 241 = .ok (.if_icmp .ne 20, 3) := by decide +kernel
theorem dX11_record_244 : decode cX11_record 244 = .ok (.aload_n 0, 1) := by decide +kernel
theorem dX11_record_245 : decode cX11_record 245 = .ok (.getfield 25, 3) := by decide +kernel
theorem dX11_record_248 : decode cX11_record 248 = .ok (.aload_n 0, 1) := by decide +kernel
theorem dX11_record_249 : decode cX11_record 249 = .ok (.dup, 1) := by decide +kernel
theorem dX11_record_250 : decode cX11_record 250 = .ok (.getfield 22, 3) := by decide +kernel
theorem dX11_record_253 : decode cX11_record 253 = .ok (.dup_x1, 1) := by decide +kernel
theorem dX11_record_254 : decode cX11_record 254 = .ok (.iconst 1, 1) := by decide +kernel
theorem dX11_record_255 : decode cX11_record 255 = .ok (.iadd, 1) := by decide +kernel
theorem dX11_record_256 : decode cX11_record 256 = .ok (.putfield 22, 3) := by decide +kernel
theorem dX11_record_259 : decode cX11_record 259 = .ok (.iload_n 1, 1) := by decide +kernel
theorem dX11_record_260 : decode cX11_record 260 = .ok (.iastore, 1) := by decide +kernel
theorem dX11_record_261 : decode cX11_record 261 = .ok (.aload_n 0, 1) := by decide +kernel
theorem dX11_record_262 : decode cX11_record 262 = .ok (.dup, 1) := by decide +kernel
theorem dX11_record_263 : decode cX11_record 263 = .ok (.getfield 40, 3) := by decide +kernel
theorem dX11_record_266 : decode cX11_record 266 = .ok (.iconst 1, 1) := by decide +kernel
theorem dX11_record_267 : decode cX11_record 267 = .ok (.iadd, 1) := by decide +kernel
theorem dX11_record_268 : decode cX11_record 268 = .ok (.putfield 40, 3) := by decide +kernel
theorem dX11_record_271 : decode cX11_record 271 = .ok (.aload_n 0, 1) := by decide +kernel
theorem dX11_record_272 : decode cX11_record 272 = .ok (.invokevirtual 387, 3) := by decide +kernel
theorem dX11_record_275 : decode cX11_record 275 = .ok (.istore_n 2, 1) := by decide +kernel
theorem dX11_record_276 : decode cX11_record 276 = .ok (.iload_n 2, 1) := by decide +kernel
theorem dX11_record_277 : decode cX11_record 277 = .ok (.ifCond .ne 23, 3) := by decide +kernel
theorem dX11_record_280 : decode cX11_record 280 = .ok (.aload_n 0, 1) := by decide +kernel
theorem dX11_record_281 : decode cX11_record 281 = .ok (.dup, 1) := by decide +kernel
theorem dX11_record_282 : decode cX11_record 282 = .ok (.getfield 390, 3) := by decide +kernel
theorem dX11_record_285 : decode cX11_record 285 = .ok (.iconst 1, 1) := by decide +kernel
theorem dX11_record_286 : decode cX11_record 286 = .ok (.iadd, 1) := by decide +kernel
theorem dX11_record_287 : decode cX11_record 287 = .ok (.putfield 390, 3) := by decide +kernel
theorem dX11_record_290 : decode cX11_record 290 = .ok (.aload_n 0, 1) := by decide +kernel
theorem dX11_record_291 : decode cX11_record 291 = .ok (.invokevirtual 393, 3) := by decide +kernel
theorem dX11_record_294 : decode cX11_record 294 = .ok (.aload_n 0, 1) := by decide +kernel
theorem dX11_record_295 : decode cX11_record 295 = .ok (.iload_n 1, 1) := by decide +kernel
theorem dX11_record_296 : decode cX11_record 296 = .ok (.invokevirtual 374, 3) := by decide +kernel
theorem dX11_record_299 : decode cX11_record 299 = .ok (.ireturn, 1) := by decide +kernel
theorem dX11_record_300 : decode cX11_record 300 = .ok (.aload_n 0, 1) := by decide +kernel
theorem dX11_record_301 : decode cX11_record 301 = .ok (.dup, 1) := by decide +kernel
theorem dX11_record_302 : decode cX11_record 302 = .ok (.getfield 40, 3) := by decide +kernel
theorem dX11_record_305 : decode cX11_record 305 = .ok (.iconst 1, 1) := by decide +kernel
theorem dX11_record_306 : decode cX11_record 306 = .ok (.isub, 1) := by decide +kernel
theorem dX11_record_307 : decode cX11_record 307 = .ok (.putfield 40, 3) := by decide +kernel
theorem dX11_record_310 : decode cX11_record 310 = .ok (.aload_n 0, 1) := by decide +kernel
theorem dX11_record_311 : decode cX11_record 311 = .ok (.getfield 14, 3) := by decide +kernel
theorem dX11_record_314 : decode cX11_record 314 = .ok (.iload_n 1, 1) := by decide +kernel
theorem dX11_record_315 : decode cX11_record 315 = .ok (.iconst 0, 1) := by decide +kernel
theorem dX11_record_316 : decode cX11_record 316 = .ok (.bastore, 1) := by decide +kernel
theorem dX11_record_317 : decode cX11_record 317 = .ok (.aload_n 0, 1) := by decide +kernel
theorem dX11_record_318 : decode cX11_record 318 = .ok (.dup, 1) := by decide +kernel
theorem dX11_record_319 : decode cX11_record 319 = .ok (.getfield 7, 3) := by decide +kernel
theorem dX11_record_322 : decode cX11_record 322 = .ok (.aload_n 0, 1) := by decide +kernel
theorem dX11_record_323 : decode cX11_record 323 = .ok (.getfield 333, 3) := by decide +kernel
theorem dX11_record_326 : decode cX11_record 326 = .ok (.ifCond .ne 7, 3) := by decide +kernel
theorem dX11_record_329 : decode cX11_record 329 = .ok (.iconst 1, 1) := by decide +kernel
theorem dX11_record_330 : decode cX11_record 330 = .ok (.goto 4, 3) := by decide +kernel
theorem dX11_record_333 : decode cX11_record 333 = .ok (.iconst 0, 1) := by decide +kernel
theorem dX11_record_334 : decode cX11_record 334 = .ok (.isub, 1) := by decide +kernel
theorem dX11_record_335 : decode cX11_record 335 = .ok (.putfield 7, 3) := by decide +kernel
theorem dX11_record_338 : decode cX11_record 338 = .ok (.aload_n 0, 1) := by decide +kernel
theorem dX11_record_339 : decode cX11_record 339 = .ok (.dup, 1) := by decide +kernel
theorem dX11_record_340 : decode cX11_record 340 = .ok (.getfield 22, 3) := by decide +kernel
theorem dX11_record_343 : decode cX11_record 343 = .ok (.aload_n 0, 1) := by decide +kernel
theorem dX11_record_344 : decode cX11_record 344 = .ok (.getfield 333, 3) := by decide +kernel
theorem dX11_record_347 : decode cX11_record 347 = .ok (.iconst 4, 1) := by decide +kernel
theorem dX11_record_348 : decode cX11_record 348 = .ok (.if_icmp .ne 7, 3) := by decide +kernel
theorem dX11_record_351 : decode cX11_record 351 = .ok (.iconst 1, 1) := by decide +kernel
theorem dX11_record_352 : decode cX11_record 352 = .ok (.goto 4, 3) := by decide +kernel
theorem dX11_record_355 : decode cX11_record 355 = .ok (.iconst 0, 1) := by decide +kernel
theorem dX11_record_356 : decode cX11_record 356 = .ok (.isub, 1) := by decide +kernel
theorem dX11_record_357 : decode cX11_record 357 = .ok (.putfield 22, 3) := by decide +kernel
theorem dX11_record_360 : decode cX11_record 360 = .ok (.aload_n 0, 1) := by decide +kernel
theorem dX11_record_361 : decode cX11_record 361 = .ok (.iload_n 2, 1) := by decide +kernel
theorem dX11_record_362 : decode cX11_record 362 = .ok (.putfield 377, 3) := by decide +kernel
theorem dX11_record_365 : decode cX11_record 365 = .ok (.aload_n 0, 1) := by decide +kernel
theorem dX11_record_366 : decode cX11_record 366 = .ok (.iconst 5, 1) := by decide +kernel
theorem dX11_record_367 : decode cX11_record 367 = .ok (.invokevirtual 371, 3) := by decide +kernel
theorem dX11_record_370 : decode cX11_record 370 = .ok (.ireturn, 1) := by decide +kernel
theorem dX11_place_0 : decode cX11_place 0 = .ok (.aload_n 0, 1) := by decide +kernel
theorem dX11_place_1 : decode cX11_place 1 = .ok (.getfield 362, 3) := by decide +kernel
theorem dX11_place_4 : decode cX11_place 4 = .ok (.ireturn, 1) := by decide +kernel
theorem dX11_bond_0 : decode cX11_bond 0 = .ok (.aload_n 0, 1) := by decide +kernel
theorem dX11_bond_1 : decode cX11_bond 1 = .ok (.getfield 377, 3) := by decide +kernel
theorem dX11_bond_4 : decode cX11_bond 4 = .ok (.ireturn, 1) := by decide +kernel
theorem dX11_isNamed_0 : decode cX11_isNamed 0 = .ok (.iconst 0, 1) := by decide +kernel
theorem dX11_isNamed_1 : decode cX11_isNamed 1 = .ok (.istore_n 2, 1) := by decide +kernel
theorem dX11_isNamed_2 : decode cX11_isNamed 2 = .ok (.iconst 0, 1) := by decide +kernel
theorem dX11_isNamed_3 : decode cX11_isNamed 3 = .ok (.istore_n 3, 1) := by decide +kernel
theorem dX11_isNamed_4 : decode cX11_isNamed 4 = .ok (.iload_n 3, 1) := by decide +kernel
theorem dX11_isNamed_5 : decode cX11_isNamed 5 = .ok (.aload_n 0, 1) := by decide +kernel
theorem dX11_isNamed_6 : decode cX11_isNamed 6 = .ok (.getfield 40, 3) := by decide +kernel
theorem dX11_isNamed_9 : decode cX11_isNamed 9 = .ok (.if_icmp .ge 178, 3) := by decide +kernel
theorem dX11_isNamed_12 : decode cX11_isNamed 12 = .ok (.iload_n 3, 1) := by decide +kernel
theorem dX11_isNamed_13 : decode cX11_isNamed 13 = .ok (.iload_n 1, 1) := by decide +kernel
theorem dX11_isNamed_14 : decode cX11_isNamed 14 = .ok (.if_icmp .eq 167, 3) := by decide +kernel
theorem dX11_isNamed_17 : decode cX11_isNamed 17 = .ok (.aload_n 0, 1) := by decide +kernel
theorem dX11_isNamed_18 : decode cX11_isNamed 18 = .ok (.getfield 14, 3) := by decide +kernel
theorem dX11_isNamed_21 : decode cX11_isNamed 21 = .ok (.iload_n 3, 1) := by decide +kernel
theorem dX11_isNamed_22 : decode cX11_isNamed 22 = .ok (.baload, 1) := by decide +kernel
theorem dX11_isNamed_23 : decode cX11_isNamed 23 = .ok (.ifCond .ne 6, 3) := by decide +kernel
theorem dX11_isNamed_26 : decode cX11_isNamed 26 = .ok (.goto 155, 3) := by decide +kernel
theorem dX11_isNamed_29 : decode cX11_isNamed 29 = .ok (.aload_n 0, 1) := by decide +kernel
theorem dX11_isNamed_30 : decode cX11_isNamed 30 = .ok (.getfield 43, 3) := by decide +kernel
theorem dX11_isNamed_33 : decode cX11_isNamed 33 = .ok (.iload_n 3, 1) := by decide +kernel
theorem dX11_isNamed_34 : decode cX11_isNamed 34 = .ok (.iaload, 1) := by decide +kernel
theorem dX11_isNamed_35 : decode cX11_isNamed 35 = .ok (.istore 4, 2) := by decide +kernel
theorem dX11_isNamed_37 : decode cX11_isNamed 37 = .ok (.iload 4, 2) := by decide +kernel
theorem dX11_isNamed_39 : decode cX11_isNamed 39 = .ok (.ifCond .eq 15, 3) := by decide +kernel
theorem dX11_isNamed_42 : decode cX11_isNamed 42 = .ok (.iload 4, 2) := by decide +kernel
theorem dX11_isNamed_44 : decode cX11_isNamed 44 = .ok (.iconst 1, 1) := by decide +kernel
theorem dX11_isNamed_45 : decode cX11_isNamed 45 = .ok (.if_icmp .eq 9, 3) := by decide +kernel
theorem dX11_isNamed_48 : decode cX11_isNamed 48 = .ok (.iload 4, 2) := by decide +kernel
theorem dX11_isNamed_50 : decode cX11_isNamed 50 = .ok (.iconst 2, 1) := by decide +kernel
theorem dX11_isNamed_51 : decode cX11_isNamed 51 = .ok (.if_icmp .ne 7, 3) := by decide +kernel
theorem dX11_isNamed_54 : decode cX11_isNamed 54 = .ok (.iconst 1, 1) := by decide +kernel
theorem dX11_isNamed_55 : decode cX11_isNamed 55 = .ok (.goto 4, 3) := by decide +kernel
theorem dX11_isNamed_58 : decode cX11_isNamed 58 = .ok (.iconst 0, 1) := by decide +kernel
theorem dX11_isNamed_59 : decode cX11_isNamed 59 = .ok (.istore 5, 2) := by decide +kernel
theorem dX11_isNamed_61 : decode cX11_isNamed 61 = .ok (.aload_n 0, 1) := by decide +kernel
theorem dX11_isNamed_62 : decode cX11_isNamed 62 = .ok (.getfield 43, 3) := by decide +kernel
theorem dX11_isNamed_65 : decode cX11_isNamed 65 = .ok (.iload_n 1, 1) := by decide +kernel
theorem dX11_isNamed_66 : decode cX11_isNamed 66 = .ok (.iaload, 1) := by decide +kernel
theorem dX11_isNamed_67 : decode cX11_isNamed 67 = .ok (.ifCond .ne 73, 3) := by decide +kernel
theorem dX11_isNamed_70 : decode cX11_isNamed 70 = .ok (.iload_n 2, 1) := by decide +kernel
theorem dX11_isNamed_71 : decode cX11_isNamed 71 = .ok (.ifCond .ne 63, 3) := by decide +kernel
theorem dX11_isNamed_74 : decode cX11_isNamed 74 = .ok (.iload 4, 2) := by decide +kernel
theorem dX11_isNamed_76 : decode cX11_isNamed 76 = .ok (.ifCond .eq 18, 3) := by decide +kernel
theorem dX11_isNamed_79 : decode cX11_isNamed 79 = .ok (.aload_n 0, 1) := by decide +kernel
theorem dX11_isNamed_80 : decode cX11_isNamed 80 = .ok (.getfield 46, 3) := by decide +kernel
theorem dX11_isNamed_83 : decode cX11_isNamed 83 = .ok (.iload_n 3, 1) := by decide +kernel
theorem dX11_isNamed_84 : decode cX11_isNamed 84 = .ok (.iaload, 1) := by decide +kernel
theorem dX11_isNamed_85 : decode cX11_isNamed 85 = .ok (.aload_n 0, 1) := by decide +kernel
theorem dX11_isNamed_86 : decode cX11_isNamed 86 = .ok (.getfield 46, 3) := by decide +kernel
theorem dX11_isNamed_89 : decode cX11_isNamed 89 = .ok (.iload_n 1, 1) := by decide +kernel
theorem dX11_isNamed_90 : decode cX11_isNamed 90 = .ok (.iaload, 1) := by decide +kernel
theorem dX11_isNamed_91 : decode cX11_isNamed 91 = .ok (.if_icmp .eq 43, 3) := by decide +kernel
theorem dX11_isNamed_94 : decode cX11_isNamed 94 = .ok (.iload 5, 2) := by decide +kernel
theorem dX11_isNamed_96 : decode cX11_isNamed 96 = .ok (.ifCond .eq 18, 3) := by decide +kernel
theorem dX11_isNamed_99 : decode cX11_isNamed 99 = .ok (.aload_n 0, 1) := by decide +kernel
theorem dX11_isNamed_100 : decode cX11_isNamed 100 = .ok (.getfield 34, 3) := by decide +kernel
theorem dX11_isNamed_103 : decode cX11_isNamed 103 = .ok (.iload_n 3, 1) := by decide +kernel
theorem dX11_isNamed_104 : decode cX11_isNamed 104 = .ok (.iaload, 1) := by decide +kernel
theorem dX11_isNamed_105 : decode cX11_isNamed 105 = .ok (.aload_n 0, 1) := by decide +kernel
theorem dX11_isNamed_106 : decode cX11_isNamed 106 = .ok (.getfield 46, 3) := by decide +kernel
theorem dX11_isNamed_109 : decode cX11_isNamed 109 = .ok (.iload_n 1, 1) := by decide +kernel
theorem dX11_isNamed_110 : decode cX11_isNamed 110 = .ok (.iaload, 1) := by decide +kernel
theorem dX11_isNamed_111 : decode cX11_isNamed 111 = .ok (.if_icmp .eq 23, 3) := by decide +kernel
theorem dX11_isNamed_114 : decode cX11_isNamed 114 = .ok (.iload 4, 2) := by decide +kernel
theorem dX11_isNamed_116 : decode cX11_isNamed 116 = .ok (.ifCond .ne 22, 3) := by decide +kernel
theorem dX11_isNamed_119 : decode cX11_isNamed 119 = .ok (.aload_n 0, 1) := by decide +kernel
theorem dX11_isNamed_120 : decode cX11_isNamed 120 = .ok (.getfield 37, 3) := by decide +kernel
theorem dX11_isNamed_123 : decode cX11_isNamed 123 = .ok (.iload_n 3, 1) := by decide +kernel
theorem dX11_isNamed_124 : decode cX11_isNamed 124 = .ok (.iaload, 1) := by decide +kernel
theorem dX11_isNamed_125 : decode cX11_isNamed 125 = .ok (.aload_n 0, 1) := by decide +kernel
theorem dX11_isNamed_126 : decode cX11_isNamed 126 = .ok (.getfield 46, 3) := by decide +kernel
theorem dX11_isNamed_129 : decode cX11_isNamed 129 = .ok (.iload_n 1, 1) := by decide +kernel
theorem dX11_isNamed_130 : decode cX11_isNamed 130 = .ok (.iaload, 1) := by decide +kernel
theorem dX11_isNamed_131 : decode cX11_isNamed 131 = .ok (.if_icmp .ne 7, 3) := by decide +kernel
theorem dX11_isNamed_134 : decode cX11_isNamed 134 = .ok (.iconst 1, 1) := by decide +kernel
theorem dX11_isNamed_135 : decode cX11_isNamed 135 = .ok (.goto 4, 3) := by decide +kernel
theorem dX11_isNamed_138 : decode cX11_isNamed 138 = .ok (.iconst 0, 1) := by decide +kernel
theorem dX11_isNamed_139 : decode cX11_isNamed 139 = .ok (.istore_n 2, 1) := by decide +kernel
theorem dX11_isNamed_140 : decode cX11_isNamed 140 = .ok (.aload_n 0, 1) := by decide +kernel
theorem dX11_isNamed_141 : decode cX11_isNamed 141 = .ok (.getfield 43, 3) := by decide +kernel
theorem dX11_isNamed_144 : decode cX11_isNamed 144 = .ok (.iload_n 1, 1) := by decide +kernel
theorem dX11_isNamed_145 : decode cX11_isNamed 145 = .ok (.iaload, 1) := by decide +kernel
theorem dX11_isNamed_146 : decode cX11_isNamed 146 = .ok (.iconst 4, 1) := by decide +kernel
theorem dX11_isNamed_147 : decode cX11_isNamed 147 = .ok (.if_icmp .ne 34, 3) := by decide +kernel
theorem dX11_isNamed_150 : decode cX11_isNamed 150 = .ok (.iload_n 2, 1) := by decide +kernel
theorem dX11_isNamed_151 : decode cX11_isNamed 151 = .ok (.ifCond .ne 24, 3) := by decide +kernel
theorem dX11_isNamed_154 : decode cX11_isNamed 154 = .ok (.iload 4, 2) := by decide +kernel
theorem dX11_isNamed_156 : decode cX11_isNamed 156 = .ok (.iconst 5, 1) := by decide +kernel
theorem dX11_isNamed_157 : decode cX11_isNamed 157 = .ok (.if_icmp .lt 22, 3) := by decide +kernel
theorem dX11_isNamed_160 : decode cX11_isNamed 160 = .ok (.aload_n 0, 1) := by decide +kernel
theorem dX11_isNamed_161 : decode cX11_isNamed 161 = .ok (.getfield 34, 3) := by decide +kernel
theorem dX11_isNamed_164 : decode cX11_isNamed 164 = .ok (.iload_n 3, 1) := by decide +kernel
theorem dX11_isNamed_165 : decode cX11_isNamed 165 = .ok (.iaload, 1) := by decide +kernel
theorem dX11_isNamed_166 : decode cX11_isNamed 166 = .ok (.aload_n 0, 1) := by decide +kernel
theorem dX11_isNamed_167 : decode cX11_isNamed 167 = .ok (.getfield 34, 3) := by decide +kernel
theorem dX11_isNamed_170 : decode cX11_isNamed 170 = .ok (.iload_n 1, 1) := by decide +kernel
theorem dX11_isNamed_171 : decode cX11_isNamed 171 = .ok (.iaload, 1) := by decide +kernel
theorem dX11_isNamed_172 : decode cX11_isNamed 172 = .ok (.if_icmp .ne 7, 3) := by decide +kernel
theorem dX11_isNamed_175 : decode cX11_isNamed 175 = .ok (.iconst 1, 1) := by decide +kernel
theorem dX11_isNamed_176 : decode cX11_isNamed 176 = .ok (.goto 4, 3) := by decide +kernel
theorem dX11_isNamed_179 : decode cX11_isNamed 179 = .ok (.iconst 0, 1) := by decide +kernel
theorem dX11_isNamed_180 : decode cX11_isNamed 180 = .ok (.istore_n 2, 1) := by decide +kernel
theorem dX11_isNamed_181 : decode cX11_isNamed 181 = .ok (.iinc 3 1, 3) := by decide +kernel
theorem dX11_isNamed_184 : decode cX11_isNamed 184 = .ok (.goto (-180), 3) := by decide +kernel
theorem dX11_isNamed_187 : decode cX11_isNamed 187 = .ok (.iload_n 2, 1) := by decide +kernel
theorem dX11_isNamed_188 : decode cX11_isNamed 188 = .ok (.ireturn, 1) := by decide +kernel
theorem dX11_strike_0 : decode cX11_strike 0 = .ok (.aload_n 0, 1) := by decide +kernel
theorem dX11_strike_1 : decode cX11_strike 1 = .ok (.iconst 0, 1) := by decide +kernel
theorem dX11_strike_2 : decode cX11_strike 2 = .ok (.putfield 377, 3) := by decide +kernel
theorem dX11_strike_5 : decode cX11_strike 5 = .ok (.iload_n 1, 1) := by decide +kernel
theorem dX11_strike_6 : decode cX11_strike 6 = .ok (.iconst 0, 1) := by decide +kernel
theorem dX11_strike_7 : decode cX11_strike 7 = .ok (.aload_n 0, 1) := by decide +kernel
theorem dX11_strike_8 : decode cX11_strike 8 = .ok (.getfield 40, 3) := by decide +kernel
theorem dX11_strike_11 : decode cX11_strike 11 = .ok (.iconst 1, 1) := by decide +kernel
theorem dX11_strike_12 : decode cX11_strike 12 = .ok (.isub, 1) := by decide +kernel
theorem dX11_strike_13 : decode cX11_strike 13 = .ok (.invokestatic 10, 3) := by decide +kernel
theorem dX11_strike_16 : decode cX11_strike 16 = .ok (.ifCond .ne 9, 3) := by decide +kernel
theorem dX11_strike_19 : decode cX11_strike 19 = .ok (.aload_n 0, 1) := by decide +kernel
theorem dX11_strike_20 : decode cX11_strike 20 = .ok (.iconst 1, 1) := by decide +kernel
theorem dX11_strike_21 : decode cX11_strike 21 = .ok (.invokevirtual 371, 3) := by decide +kernel
theorem dX11_strike_24 : decode cX11_strike 24 = .ok (.ireturn, 1) := by decide +kernel
theorem dX11_strike_25 : decode cX11_strike 25 = .ok (.aload_n 0, 1) := by decide +kernel
theorem dX11_strike_26 : decode cX11_strike 26 = .ok (.getfield 14, 3) := by decide +kernel
theorem dX11_strike_29 : decode cX11_strike 29 = .ok (.iload_n 1, 1) := by decide +kernel
theorem dX11_strike_30 : decode cX11_strike 30 = .ok (.baload, 1) := by decide +kernel
theorem dX11_strike_31 : decode cX11_strike 31 = .ok (.ifCond .ne 10, 3) := by decide +kernel
theorem dX11_strike_34 : decode cX11_strike 34 = .ok (.aload_n 0, 1) := by decide +kernel
theorem dX11_strike_35 : decode cX11_strike 35 = .ok (.bipush 8, 2) := by decide +kernel
theorem dX11_strike_37 : decode cX11_strike 37 = .ok (.invokevirtual 371, 3) := by decide +kernel
theorem dX11_strike_40 : decode cX11_strike 40 = .ok (.ireturn, 1) := by decide +kernel
theorem dX11_strike_41 : decode cX11_strike 41 = .ok (.aload_n 0, 1) := by decide +kernel
theorem dX11_strike_42 : decode cX11_strike 42 = .ok (.iload_n 1, 1) := by decide +kernel
theorem dX11_strike_43 : decode cX11_strike 43 = .ok (.invokevirtual 396, 3) := by decide +kernel
theorem dX11_strike_46 : decode cX11_strike 46 = .ok (.ifCond .eq 10, 3) := by decide +kernel
theorem dX11_strike_49 : decode cX11_strike 49 = .ok (.aload_n 0, 1) := by decide +kernel
theorem dX11_strike_50 : decode cX11_strike 50 = .ok (.bipush 6, 2) := by decide +kernel
theorem dX11_strike_52 : decode cX11_strike 52 = .ok (.invokevirtual 371, 3) := by decide +kernel
theorem dX11_strike_55 : decode cX11_strike 55 = .ok (.ireturn, 1) := by decide +kernel
theorem dX11_strike_56 : decode cX11_strike 56 = .ok (.aload_n 0, 1) := by decide +kernel
theorem dX11_strike_57 : decode cX11_strike 57 = .ok (.getfield 14, 3) := by decide +kernel
theorem dX11_strike_60 : decode cX11_strike 60 = .ok (.iload_n 1, 1) := by decide +kernel
theorem dX11_strike_61 : decode cX11_strike 61 = .ok (.iconst 0, 1) := by decide +kernel
theorem dX11_strike_62 : decode cX11_strike 62 = .ok (.bastore, 1) := by decide +kernel
theorem dX11_strike_63 : decode cX11_strike 63 = .ok (.aload_n 0, 1) := by decide +kernel
theorem dX11_strike_64 : decode cX11_strike 64 = .ok (.aload_n 0, 1) := by decide +kernel
theorem dX11_strike_65 : decode cX11_strike 65 = .ok (.invokevirtual 387, 3) := by decide +kernel
theorem dX11_strike_68 : decode cX11_strike 68 = .ok (.putfield 377, 3) := by decide +kernel
theorem dX11_strike_71 : decode cX11_strike 71 = .ok (.aload_n 0, 1) := by decide +kernel
theorem dX11_strike_72 : decode cX11_strike 72 = .ok (.getfield 377, 3) := by decide +kernel
theorem dX11_strike_75 : decode cX11_strike 75 = .ok (.ifCond .le 16, 3) := by decide +kernel
theorem dX11_strike_78 : decode cX11_strike 78 = .ok (.aload_n 0, 1) := by decide +kernel
theorem dX11_strike_79 : decode cX11_strike 79 = .ok (.getfield 14, 3) := by decide +kernel
theorem dX11_strike_82 : decode cX11_strike 82 = .ok (.iload_n 1, 1) := by decide +kernel
theorem dX11_strike_83 : decode cX11_strike 83 = .ok (.iconst 1, 1) := by decide +kernel
theorem dX11_strike_84 : decode cX11_strike 84 = .ok (.bastore, 1) := by decide +kernel
theorem dX11_strike_85 : decode cX11_strike 85 = .ok (.aload_n 0, 1) := by decide +kernel
theorem dX11_strike_86 : decode cX11_strike 86 = .ok (.iconst 5, 1) := by decide +kernel
theorem dX11_strike_87 : decode cX11_strike 87 = .ok (.invokevirtual 371, 3) := by decide +kernel
theorem dX11_strike_90 : decode cX11_strike 90 = .ok (.ireturn, 1) := by decide +kernel
theorem dX11_strike_91 : decode cX11_strike 91 = .ok (.aload_n 0, 1) := by decide +kernel
theorem dX11_strike_92 : decode cX11_strike 92 = .ok (.dup, 1) := by decide +kernel
theorem dX11_strike_93 : decode cX11_strike 93 = .ok (.getfield 390, 3) := by decide +kernel
theorem dX11_strike_96 : decode cX11_strike 96 = .ok (.iconst 1, 1) := by decide +kernel
theorem dX11_strike_97 : decode cX11_strike 97 = .ok (.isub, 1) := by decide +kernel
theorem dX11_strike_98 : decode cX11_strike 98 = .ok (.putfield 390, 3) := by decide +kernel
theorem dX11_strike_101 : decode cX11_strike 101 = .ok (.aload_n 0, 1) := by decide +kernel
theorem dX11_strike_102 : decode cX11_strike 102 = .ok (.invokevirtual 393, 3) := by decide +kernel
theorem dX11_strike_105 : decode cX11_strike 105 = .ok (.aload_n 0, 1) := by decide +kernel
theorem dX11_strike_106 : decode cX11_strike 106 = .ok (.aload_n 0, 1) := by decide +kernel
theorem dX11_strike_107 : decode cX11_strike 107 = .ok (.getfield 390, 3) := by decide +kernel
theorem dX11_strike_110 : decode cX11_strike 110 = .ok (.invokevirtual 374, 3) := by decide +kernel
theorem dX11_strike_113 : decode cX11_strike 113 = .ok (.ireturn, 1) := by decide +kernel
theorem dX11_count_0 : decode cX11_count 0 = .ok (.iload_n 1, 1) := by decide +kernel
theorem dX11_count_1 : decode cX11_count 1 = .ok (.tableswitch 80 0 4 #[35, 44, 53, 62, 71], 35) := by decide +kernel
theorem dX11_count_36 : decode cX11_count 36 = .ok (.aload_n 0, 1) := by decide +kernel
theorem dX11_count_37 : decode cX11_count 37 = .ok (.aload_n 0, 1) := by decide +kernel
theorem dX11_count_38 : decode cX11_count 38 = .ok (.getfield 40, 3) := by decide +kernel
theorem dX11_count_41 : decode cX11_count 41 = .ok (.invokevirtual 374, 3) := by decide +kernel
theorem dX11_count_44 : decode cX11_count 44 = .ok (.ireturn, 1) := by decide +kernel
theorem dX11_count_45 : decode cX11_count 45 = .ok (.aload_n 0, 1) := by decide +kernel
theorem dX11_count_46 : decode cX11_count 46 = .ok (.aload_n 0, 1) := by decide +kernel
theorem dX11_count_47 : decode cX11_count 47 = .ok (.getfield 390, 3) := by decide +kernel
theorem dX11_count_50 : decode cX11_count 50 = .ok (.invokevirtual 374, 3) := by decide +kernel
theorem dX11_count_53 : decode cX11_count 53 = .ok (.ireturn, 1) := by decide +kernel
theorem dX11_count_54 : decode cX11_count 54 = .ok (.aload_n 0, 1) := by decide +kernel
theorem dX11_count_55 : decode cX11_count 55 = .ok (.aload_n 0, 1) := by decide +kernel
theorem dX11_count_56 : decode cX11_count 56 = .ok (.getfield 7, 3) := by decide +kernel
theorem dX11_count_59 : decode cX11_count 59 = .ok (.invokevirtual 374, 3) := by decide +kernel
theorem dX11_count_62 : decode cX11_count 62 = .ok (.ireturn, 1) := by decide +kernel
theorem dX11_count_63 : decode cX11_count 63 = .ok (.aload_n 0, 1) := by decide +kernel
theorem dX11_count_64 : decode cX11_count 64 = .ok (.aload_n 0, 1) := by decide +kernel
theorem dX11_count_65 : decode cX11_count 65 = .ok (.getfield 22, 3) := by decide +kernel
theorem dX11_count_68 : decode cX11_count 68 = .ok (.invokevirtual 374, 3) := by decide +kernel
theorem dX11_count_71 : decode cX11_count 71 = .ok (.ireturn, 1) := by decide +kernel
theorem dX11_count_72 : decode cX11_count 72 = .ok (.aload_n 0, 1) := by decide +kernel
theorem dX11_count_73 : decode cX11_count 73 = .ok (.aload_n 0, 1) := by decide +kernel
theorem dX11_count_74 : decode cX11_count 74 = .ok (.getfield 268, 3) := by decide +kernel
theorem dX11_count_77 : decode cX11_count 77 = .ok (.invokevirtual 374, 3) := by decide +kernel
theorem dX11_count_80 : decode cX11_count 80 = .ok (.ireturn, 1) := by decide +kernel
theorem dX11_count_81 : decode cX11_count 81 = .ok (.aload_n 0, 1) := by decide +kernel
theorem dX11_count_82 : decode cX11_count 82 = .ok (.iconst 3, 1) := by decide +kernel
theorem dX11_count_83 : decode cX11_count 83 = .ok (.invokevirtual 371, 3) := by decide +kernel
theorem dX11_count_86 : decode cX11_count 86 = .ok (.ireturn, 1) := by decide +kernel
theorem dX11_fact_0 : decode cX11_fact 0 = .ok (.iload_n 1, 1) := by decide +kernel
theorem dX11_fact_1 : decode cX11_fact 1 = .ok (.iconst 0, 1) := by decide +kernel
theorem dX11_fact_2 : decode cX11_fact 2 = .ok (.aload_n 0, 1) := by decide +kernel
theorem dX11_fact_3 : decode cX11_fact 3 = .ok (.getfield 40, 3) := by decide +kernel
theorem dX11_fact_6 : decode cX11_fact 6 = .ok (.iconst 1, 1) := by decide +kernel
theorem dX11_fact_7 : decode cX11_fact 7 = .ok (.isub, 1) := by decide +kernel
theorem dX11_fact_8 : decode cX11_fact 8 = .ok (.invokestatic 10, 3) := by decide +kernel
theorem dX11_fact_11 : decode cX11_fact 11 = .ok (.ifCond .ne 9, 3) := by decide +kernel
theorem dX11_fact_14 : decode cX11_fact 14 = .ok (.aload_n 0, 1) := by decide +kernel
theorem dX11_fact_15 : decode cX11_fact 15 = .ok (.iconst 1, 1) := by decide +kernel
theorem dX11_fact_16 : decode cX11_fact 16 = .ok (.invokevirtual 371, 3) := by decide +kernel
theorem dX11_fact_19 : decode cX11_fact 19 = .ok (.ireturn, 1) := by decide +kernel
theorem dX11_fact_20 : decode cX11_fact 20 = .ok (.aload_n 0, 1) := by decide +kernel
theorem dX11_fact_21 : decode cX11_fact 21 = .ok (.getfield 43, 3) := by decide +kernel
theorem dX11_fact_24 : decode cX11_fact 24 = .ok (.iload_n 1, 1) := by decide +kernel
theorem dX11_fact_25 : decode cX11_fact 25 = .ok (.iaload, 1) := by decide +kernel
theorem dX11_fact_26 : decode cX11_fact 26 = .ok (.istore_n 3, 1) := by decide +kernel
theorem dX11_fact_27 : decode cX11_fact 27 = .ok (.iload_n 2, 1) := by decide +kernel
theorem dX11_fact_28 : decode cX11_fact 28 = .ok (.tableswitch 107 0 4 #[36, 42, 53, 72, 83], 36) := by decide +kernel
theorem dX11_fact_64 : decode cX11_fact 64 = .ok (.aload_n 0, 1) := by decide +kernel
theorem dX11_fact_65 : decode cX11_fact 65 = .ok (.iload_n 3, 1) := by decide +kernel
theorem dX11_fact_66 : decode cX11_fact 66 = .ok (.invokevirtual 374, 3) := by decide +kernel
theorem dX11_fact_69 : decode cX11_fact 69 = .ok (.ireturn, 1) := by decide +kernel
theorem dX11_fact_70 : decode cX11_fact 70 = .ok (.aload_n 0, 1) := by decide +kernel
theorem dX11_fact_71 : decode cX11_fact 71 = .ok (.aload_n 0, 1) := by decide +kernel
theorem dX11_fact_72 : decode cX11_fact 72 = .ok (.getfield 31, 3) := by decide +kernel
theorem dX11_fact_75 : decode cX11_fact 75 = .ok (.iload_n 1, 1) := by decide +kernel
theorem dX11_fact_76 : decode cX11_fact 76 = .ok (.iaload, 1) := by decide +kernel
theorem dX11_fact_77 : decode cX11_fact 77 = .ok (.invokevirtual 374, 3) := by decide +kernel
theorem dX11_fact_80 : decode cX11_fact 80 = .ok (.ireturn, 1) := by decide +kernel
theorem dX11_fact_81 : decode cX11_fact 81 = .ok (.aload_n 0, 1) := by decide +kernel
theorem dX11_fact_82 : decode cX11_fact 82 = .ok (.aload_n 0, 1) := by decide +kernel
theorem dX11_fact_83 : decode cX11_fact 83 = .ok (.getfield 14, 3) := by decide +kernel
theorem dX11_fact_86 : decode cX11_fact 86 = .ok (.iload_n 1, 1) := by decide +kernel
theorem dX11_fact_87 : decode cX11_fact 87 = .ok (.baload, 1) := by decide +kernel
theorem dX11_fact_88 : decode cX11_fact 88 = .ok (.ifCond .eq 7, 3) := by decide +kernel
theorem dX11_fact_91 : decode cX11_fact 91 = .ok (.iconst 1, 1) := by decide +kernel
theorem dX11_fact_92 : decode cX11_fact 92 = .ok (.goto 4, 3) := by decide +kernel
theorem dX11_fact_95 : decode cX11_fact 95 = .ok (.iconst 0, 1) := by decide +kernel
theorem dX11_fact_96 : decode cX11_fact 96 = .ok (.invokevirtual 374, 3) := by decide +kernel
theorem dX11_fact_99 : decode cX11_fact 99 = .ok (.ireturn, 1) := by decide +kernel
theorem dX11_fact_100 : decode cX11_fact 100 = .ok (.aload_n 0, 1) := by decide +kernel
theorem dX11_fact_101 : decode cX11_fact 101 = .ok (.aload_n 0, 1) := by decide +kernel
theorem dX11_fact_102 : decode cX11_fact 102 = .ok (.getfield 46, 3) := by decide +kernel
theorem dX11_fact_105 : decode cX11_fact 105 = .ok (.iload_n 1, 1) := by decide +kernel
theorem dX11_fact_106 : decode cX11_fact 106 = .ok (.iaload, 1) := by decide +kernel
theorem dX11_fact_107 : decode cX11_fact 107 = .ok (.invokevirtual 374, 3) := by decide +kernel
theorem dX11_fact_110 : decode cX11_fact 110 = .ok (.ireturn, 1) := by decide +kernel
theorem dX11_fact_111 : decode cX11_fact 111 = .ok (.aload_n 0, 1) := by decide +kernel
theorem dX11_fact_112 : decode cX11_fact 112 = .ok (.iload_n 3, 1) := by decide +kernel
theorem dX11_fact_113 : decode cX11_fact 113 = .ok (.ifCond .eq 8, 3) := by decide +kernel
theorem dX11_fact_116 : decode cX11_fact 116 = .ok (.iload_n 3, 1) := by decide +kernel
theorem dX11_fact_117 : decode cX11_fact 117 = .ok (.iconst 3, 1) := by decide +kernel
theorem dX11_fact_118 : decode cX11_fact 118 = .ok (.if_icmp .ne 7, 3) := by decide +kernel
theorem dX11_fact_121 : decode cX11_fact 121 = .ok (.iconst (-1), 1) := by decide +kernel
theorem dX11_fact_122 : decode cX11_fact 122 = .ok (.goto 9, 3) := by decide +kernel
theorem dX11_fact_125 : decode cX11_fact 125 = .ok (.aload_n 0, 1) := by decide +kernel
theorem dX11_fact_126 : decode cX11_fact 126 = .ok (.getfield 34, 3) := by decide +kernel
theorem dX11_fact_129 : decode cX11_fact 129 = .ok (.iload_n 1, 1) := by decide +kernel
theorem dX11_fact_130 : decode cX11_fact 130 = .ok (.iaload, 1) := by decide +kernel
theorem dX11_fact_131 : decode cX11_fact 131 = .ok (.invokevirtual 374, 3) := by decide +kernel
theorem dX11_fact_134 : decode cX11_fact 134 = .ok (.ireturn, 1) := by decide +kernel
theorem dX11_fact_135 : decode cX11_fact 135 = .ok (.aload_n 0, 1) := by decide +kernel
theorem dX11_fact_136 : decode cX11_fact 136 = .ok (.iconst 3, 1) := by decide +kernel
theorem dX11_fact_137 : decode cX11_fact 137 = .ok (.invokevirtual 371, 3) := by decide +kernel
theorem dX11_fact_140 : decode cX11_fact 140 = .ok (.ireturn, 1) := by decide +kernel
theorem dX11_person_0 : decode cX11_person 0 = .ok (.aload_n 0, 1) := by decide +kernel
theorem dX11_person_1 : decode cX11_person 1 = .ok (.iload_n 1, 1) := by decide +kernel
theorem dX11_person_2 : decode cX11_person 2 = .ok (.invokevirtual 123, 3) := by decide +kernel
theorem dX11_person_5 : decode cX11_person 5 = .ok (.ifCond .ne 9, 3) := by decide +kernel
theorem dX11_person_8 : decode cX11_person 8 = .ok (.aload_n 0, 1) := by decide +kernel
theorem dX11_person_9 : decode cX11_person 9 = .ok (.iconst 1, 1) := by decide +kernel
theorem dX11_person_10 : decode cX11_person 10 = .ok (.invokevirtual 371, 3) := by decide +kernel
theorem dX11_person_13 : decode cX11_person 13 = .ok (.ireturn, 1) := by decide +kernel
theorem dX11_person_14 : decode cX11_person 14 = .ok (.aload_n 0, 1) := by decide +kernel
theorem dX11_person_15 : decode cX11_person 15 = .ok (.invokevirtual 179, 3) := by decide +kernel
theorem dX11_person_18 : decode cX11_person 18 = .ok (.iload_n 2, 1) := by decide +kernel
theorem dX11_person_19 : decode cX11_person 19 = .ok (.tableswitch 115 0 5 #[37, 55, 65, 75, 85, 96], 37) := by decide +kernel
theorem dX11_person_56 : decode cX11_person 56 = .ok (.aload_n 0, 1) := by decide +kernel
theorem dX11_person_57 : decode cX11_person 57 = .ok (.aload_n 0, 1) := by decide +kernel
theorem dX11_person_58 : decode cX11_person 58 = .ok (.iload_n 1, 1) := by decide +kernel
theorem dX11_person_59 : decode cX11_person 59 = .ok (.invokevirtual 85, 3) := by decide +kernel
theorem dX11_person_62 : decode cX11_person 62 = .ok (.ifCond .eq 7, 3) := by decide +kernel
theorem dX11_person_65 : decode cX11_person 65 = .ok (.iconst 1, 1) := by decide +kernel
theorem dX11_person_66 : decode cX11_person 66 = .ok (.goto 4, 3) := by decide +kernel
theorem dX11_person_69 : decode cX11_person 69 = .ok (.iconst 0, 1) := by decide +kernel
theorem dX11_person_70 : decode cX11_person 70 = .ok (.invokevirtual 374, 3) := by decide +kernel
theorem dX11_person_73 : decode cX11_person 73 = .ok (.ireturn, 1) := by decide +kernel
theorem dX11_person_74 : decode cX11_person 74 = .ok (.aload_n 0, 1) := by decide +kernel
theorem dX11_person_75 : decode cX11_person 75 = .ok (.aload_n 0, 1) := by decide +kernel
theorem dX11_person_76 : decode cX11_person 76 = .ok (.iload_n 1, 1) := by decide +kernel
theorem dX11_person_77 : decode cX11_person 77 = .ok (.invokevirtual 53, 3) := by decide +kernel
theorem dX11_person_80 : decode cX11_person 80 = .ok (.invokevirtual 374, 3) := by decide +kernel
theorem dX11_person_83 : decode cX11_person 83 = .ok (.ireturn, 1) := by decide +kernel
theorem dX11_person_84 : decode cX11_person 84 = .ok (.aload_n 0, 1) := by decide +kernel
theorem dX11_person_85 : decode cX11_person 85 = .ok (.aload_n 0, 1) := by decide +kernel
theorem dX11_person_86 : decode cX11_person 86 = .ok (.iload_n 1, 1) := by decide +kernel
theorem dX11_person_87 : decode cX11_person 87 = .ok (.invokevirtual 76, 3) := by decide +kernel
theorem dX11_person_90 : decode cX11_person 90 = .ok (.invokevirtual 374, 3) := by decide +kernel
theorem dX11_person_93 : decode cX11_person 93 = .ok (.ireturn, 1) := by decide +kernel
theorem dX11_person_94 : decode cX11_person 94 = .ok (.aload_n 0, 1) := by decide +kernel
theorem dX11_person_95 : decode cX11_person 95 = .ok (.aload_n 0, 1) := by decide +kernel
theorem dX11_person_96 : decode cX11_person 96 = .ok (.iload_n 1, 1) := by decide +kernel
theorem dX11_person_97 : decode cX11_person 97 = .ok (.invokevirtual 79, 3) := by decide +kernel
theorem dX11_person_100 : decode cX11_person 100 = .ok (.invokevirtual 374, 3) := by decide +kernel
theorem dX11_person_103 : decode cX11_person 103 = .ok (.ireturn, 1) := by decide +kernel
theorem dX11_person_104 : decode cX11_person 104 = .ok (.aload_n 0, 1) := by decide +kernel
theorem dX11_person_105 : decode cX11_person 105 = .ok (.aload_n 0, 1) := by decide +kernel
theorem dX11_person_106 : decode cX11_person 106 = .ok (.getfield 56, 3) := by decide +kernel
theorem dX11_person_109 : decode cX11_person 109 = .ok (.iload_n 1, 1) := by decide +kernel
theorem dX11_person_110 : decode cX11_person 110 = .ok (.iaload, 1) := by decide +kernel
theorem dX11_person_111 : decode cX11_person 111 = .ok (.invokevirtual 374, 3) := by decide +kernel
theorem dX11_person_114 : decode cX11_person 114 = .ok (.ireturn, 1) := by decide +kernel
theorem dX11_person_115 : decode cX11_person 115 = .ok (.aload_n 0, 1) := by decide +kernel
theorem dX11_person_116 : decode cX11_person 116 = .ok (.aload_n 0, 1) := by decide +kernel
theorem dX11_person_117 : decode cX11_person 117 = .ok (.getfield 117, 3) := by decide +kernel
theorem dX11_person_120 : decode cX11_person 120 = .ok (.iload_n 1, 1) := by decide +kernel
theorem dX11_person_121 : decode cX11_person 121 = .ok (.baload, 1) := by decide +kernel
theorem dX11_person_122 : decode cX11_person 122 = .ok (.ifCond .eq 7, 3) := by decide +kernel
theorem dX11_person_125 : decode cX11_person 125 = .ok (.iconst 1, 1) := by decide +kernel
theorem dX11_person_126 : decode cX11_person 126 = .ok (.goto 4, 3) := by decide +kernel
theorem dX11_person_129 : decode cX11_person 129 = .ok (.iconst 0, 1) := by decide +kernel
theorem dX11_person_130 : decode cX11_person 130 = .ok (.invokevirtual 374, 3) := by decide +kernel
theorem dX11_person_133 : decode cX11_person 133 = .ok (.ireturn, 1) := by decide +kernel
theorem dX11_person_134 : decode cX11_person 134 = .ok (.aload_n 0, 1) := by decide +kernel
theorem dX11_person_135 : decode cX11_person 135 = .ok (.iconst 3, 1) := by decide +kernel
theorem dX11_person_136 : decode cX11_person 136 = .ok (.invokevirtual 371, 3) := by decide +kernel
theorem dX11_person_139 : decode cX11_person 139 = .ok (.ireturn, 1) := by decide +kernel
theorem dX11_partner_0 : decode cX11_partner 0 = .ok (.aload_n 0, 1) := by decide +kernel
theorem dX11_partner_1 : decode cX11_partner 1 = .ok (.iload_n 1, 1) := by decide +kernel
theorem dX11_partner_2 : decode cX11_partner 2 = .ok (.invokevirtual 123, 3) := by decide +kernel
theorem dX11_partner_5 : decode cX11_partner 5 = .ok (.ifCond .ne 9, 3) := by decide +kernel
theorem dX11_partner_8 : decode cX11_partner 8 = .ok (.aload_n 0, 1) := by decide +kernel
theorem dX11_partner_9 : decode cX11_partner 9 = .ok (.iconst 1, 1) := by decide +kernel
theorem dX11_partner_10 : decode cX11_partner 10 = .ok (.invokevirtual 371, 3) := by decide +kernel
theorem dX11_partner_13 : decode cX11_partner 13 = .ok (.ireturn, 1) := by decide +kernel
theorem dX11_partner_14 : decode cX11_partner 14 = .ok (.iload_n 2, 1) := by decide +kernel
theorem dX11_partner_15 : decode cX11_partner 15 = .ok (.iconst 0, 1) := by decide +kernel
theorem dX11_partner_16 : decode cX11_partner 16 = .ok (.ldc 59, 2) := by decide +kernel
theorem dX11_partner_18 : decode cX11_partner 18 = .ok (.invokestatic 10, 3) := by decide +kernel
theorem dX11_partner_21 : decode cX11_partner 21 = .ok (.ifCond .ne 9, 3) := by decide +kernel
theorem dX11_partner_24 : decode cX11_partner 24 = .ok (.aload_n 0, 1) := by decide +kernel
theorem dX11_partner_25 : decode cX11_partner 25 = .ok (.iconst 3, 1) := by decide +kernel
theorem dX11_partner_26 : decode cX11_partner 26 = .ok (.invokevirtual 371, 3) := by decide +kernel
theorem dX11_partner_29 : decode cX11_partner 29 = .ok (.ireturn, 1) := by decide +kernel
theorem dX11_partner_30 : decode cX11_partner 30 = .ok (.iconst 0, 1) := by decide +kernel
theorem dX11_partner_31 : decode cX11_partner 31 = .ok (.istore_n 3, 1) := by decide +kernel
theorem dX11_partner_32 : decode cX11_partner 32 = .ok (.iload_n 3, 1) := by decide +kernel
theorem dX11_partner_33 : decode cX11_partner 33 = .ok (.aload_n 0, 1) := by decide +kernel
theorem dX11_partner_34 : decode cX11_partner 34 = .ok (.getfield 40, 3) := by decide +kernel
theorem dX11_partner_37 : decode cX11_partner 37 = .ok (.if_icmp .ge 87, 3) := by decide +kernel
theorem dX11_partner_40 : decode cX11_partner 40 = .ok (.aload_n 0, 1) := by decide +kernel
theorem dX11_partner_41 : decode cX11_partner 41 = .ok (.getfield 14, 3) := by decide +kernel
theorem dX11_partner_44 : decode cX11_partner 44 = .ok (.iload_n 3, 1) := by decide +kernel
theorem dX11_partner_45 : decode cX11_partner 45 = .ok (.baload, 1) := by decide +kernel
theorem dX11_partner_46 : decode cX11_partner 46 = .ok (.ifCond .eq 72, 3) := by decide +kernel
theorem dX11_partner_49 : decode cX11_partner 49 = .ok (.aload_n 0, 1) := by decide +kernel
theorem dX11_partner_50 : decode cX11_partner 50 = .ok (.getfield 43, 3) := by decide +kernel
theorem dX11_partner_53 : decode cX11_partner 53 = .ok (.iload_n 3, 1) := by decide +kernel
theorem dX11_partner_54 : decode cX11_partner 54 = .ok (.iaload, 1) := by decide +kernel
theorem dX11_partner_55 : decode cX11_partner 55 = .ok (.iconst 1, 1) := by decide +kernel
theorem dX11_partner_56 : decode cX11_partner 56 = .ok (.if_icmp .ne 62, 3) := by decide +kernel
theorem dX11_partner_59 : decode cX11_partner 59 = .ok (.aload_n 0, 1) := by decide +kernel
theorem dX11_partner_60 : decode cX11_partner 60 = .ok (.getfield 46, 3) := by decide +kernel
theorem dX11_partner_63 : decode cX11_partner 63 = .ok (.iload_n 3, 1) := by decide +kernel
theorem dX11_partner_64 : decode cX11_partner 64 = .ok (.iaload, 1) := by decide +kernel
theorem dX11_partner_65 : decode cX11_partner 65 = .ok (.iload_n 1, 1) := by decide +kernel
theorem dX11_partner_66 : decode cX11_partner 66 = .ok (.if_icmp .eq 13, 3) := by decide +kernel
theorem dX11_partner_69 : decode cX11_partner 69 = .ok (.aload_n 0, 1) := by decide +kernel
theorem dX11_partner_70 : decode cX11_partner 70 = .ok (.getfield 34, 3) := by decide +kernel
theorem dX11_partner_73 : decode cX11_partner 73 = .ok (.iload_n 3, 1) := by decide +kernel
theorem dX11_partner_74 : decode cX11_partner 74 = .ok (.iaload, 1) := by decide +kernel
theorem dX11_partner_75 : decode cX11_partner 75 = .ok (.iload_n 1, 1) := by decide +kernel
theorem dX11_partner_76 : decode cX11_partner 76 = .ok (.if_icmp .ne 42, 3) := by decide +kernel
theorem dX11_partner_79 : decode cX11_partner 79 = .ok (.aload_n 0, 1) := by decide +kernel
theorem dX11_partner_80 : decode cX11_partner 80 = .ok (.iload_n 3, 1) := by decide +kernel
theorem dX11_partner_81 : decode cX11_partner 81 = .ok (.iload_n 2, 1) := by decide +kernel
theorem dX11_partner_82 : decode cX11_partner 82 = .ok (.invokevirtual 72, 3) := by decide +kernel
theorem dX11_partner_85 : decode cX11_partner 85 = .ok (.ifCond .eq 33, 3) := by decide +kernel
theorem dX11_partner_88 : decode cX11_partner 88 = .ok (.aload_n 0, 1) := by decide +kernel
theorem dX11_partner_89 : decode cX11_partner 89 = .ok (.aload_n 0, 1) := by decide +kernel
theorem dX11_partner_90 : decode cX11_partner 90 = .ok (.getfield 46, 3) := by decide +kernel
theorem dX11_partner_93 : decode cX11_partner 93 = .ok (.iload_n 3, 1) := by decide +kernel
theorem dX11_partner_94 : decode cX11_partner 94 = .ok (.iaload, 1) := by decide +kernel
theorem dX11_partner_95 : decode cX11_partner 95 = .ok (.iload_n 1, 1) := by decide +kernel
theorem dX11_partner_96 : decode cX11_partner 96 = .ok (.if_icmp .ne 12, 3) := by decide +kernel
theorem dX11_partner_99 : decode cX11_partner 99 = .ok (.aload_n 0, 1) := by decide +kernel
theorem dX11_partner_100 : decode cX11_partner 100 = .ok (.getfield 34, 3) := by decide +kernel
theorem dX11_partner_103 : decode cX11_partner 103 = .ok (.iload_n 3, 1) := by decide +kernel
theorem dX11_partner_104 : decode cX11_partner 104 = .ok (.iaload, 1) := by decide +kernel
theorem dX11_partner_105 : decode cX11_partner 105 = .ok (.goto 9, 3) := by decide +kernel
theorem dX11_partner_108 : decode cX11_partner 108 = .ok (.aload_n 0, 1) := by decide +kernel
theorem dX11_partner_109 : decode cX11_partner 109 = .ok (.getfield 46, 3) := by decide +kernel
theorem dX11_partner_112 : decode cX11_partner 112 = .ok (.iload_n 3, 1) := by decide +kernel
theorem dX11_partner_113 : decode cX11_partner 113 = .ok (.iaload, 1) := by decide +kernel
theorem dX11_partner_114 : decode cX11_partner 114 = .ok (.invokevirtual 374, 3) := by decide +kernel
theorem dX11_partner_117 : decode cX11_partner 117 = .ok (.ireturn, 1) := by decide +kernel
theorem dX11_partner_118 : decode cX11_partner 118 = .ok (.iinc 3 1, 3) := by decide +kernel
theorem dX11_partner_121 : decode cX11_partner 121 = .ok (.goto (-89), 3) := by decide +kernel
theorem dX11_partner_124 : decode cX11_partner 124 = .ok (.aload_n 0, 1) := by decide +kernel
theorem dX11_partner_125 : decode cX11_partner 125 = .ok (.iconst (-1), 1) := by decide +kernel
theorem dX11_partner_126 : decode cX11_partner 126 = .ok (.invokevirtual 374, 3) := by decide +kernel
theorem dX11_partner_129 : decode cX11_partner 129 = .ok (.ireturn, 1) := by decide +kernel
theorem dX11_climb_0 : decode cX11_climb 0 = .ok (.iconst 0, 1) := by decide +kernel
theorem dX11_climb_1 : decode cX11_climb 1 = .ok (.istore_n 3, 1) := by decide +kernel
theorem dX11_climb_2 : decode cX11_climb 2 = .ok (.iload_n 3, 1) := by decide +kernel
theorem dX11_climb_3 : decode cX11_climb 3 = .ok (.bipush 64, 2) := by decide +kernel
theorem dX11_climb_5 : decode cX11_climb 5 = .ok (.if_icmp .ge 13, 3) := by decide +kernel
theorem dX11_climb_8 : decode cX11_climb 8 = .ok (.aload_n 2, 1) := by decide +kernel
theorem dX11_climb_9 : decode cX11_climb 9 = .ok (.iload_n 3, 1) := by decide +kernel
theorem dX11_climb_10 : decode cX11_climb 10 = .ok (.iconst (-1), 1) := by decide +kernel
theorem dX11_climb_11 : decode cX11_climb 11 = .ok (.iastore, 1) := by decide +kernel
theorem dX11_climb_12 : decode cX11_climb 12 = .ok (.iinc 3 1, 3) := by decide +kernel
theorem dX11_climb_15 : decode cX11_climb 15 = .ok (.goto (-13), 3) := by decide +kernel
theorem dX11_climb_18 : decode cX11_climb 18 = .ok (.aload_n 2, 1) := by decide +kernel
theorem dX11_climb_19 : decode cX11_climb 19 = .ok (.iload_n 1, 1) := by decide +kernel
theorem dX11_climb_20 : decode cX11_climb 20 = .ok (.iconst 0, 1) := by decide +kernel
theorem dX11_climb_21 : decode cX11_climb 21 = .ok (.iastore, 1) := by decide +kernel
theorem dX11_climb_22 : decode cX11_climb 22 = .ok (.aload_n 0, 1) := by decide +kernel
theorem dX11_climb_23 : decode cX11_climb 23 = .ok (.getfield 120, 3) := by decide +kernel
theorem dX11_climb_26 : decode cX11_climb 26 = .ok (.iconst 1, 1) := by decide +kernel
theorem dX11_climb_27 : decode cX11_climb 27 = .ok (.isub, 1) := by decide +kernel
theorem dX11_climb_28 : decode cX11_climb 28 = .ok (.istore_n 3, 1) := by decide +kernel
theorem dX11_climb_29 : decode cX11_climb 29 = .ok (.iload_n 3, 1) := by decide +kernel
theorem dX11_climb_30 : decode cX11_climb 30 = .ok (.ifCond .lt 59, 3) := by decide +kernel
theorem dX11_climb_33 : decode cX11_climb 33 = .ok (.aload_n 0, 1) := by decide +kernel
theorem dX11_climb_34 : decode cX11_climb 34 = .ok (.getfield 129, 3) := by decide +kernel
theorem dX11_climb_37 : decode cX11_climb 37 = .ok (.iload_n 3, 1) := by decide +kernel
theorem dX11_climb_38 : decode cX11_climb 38 = .ok (.iaload, 1) := by decide +kernel
theorem dX11_climb_39 : decode cX11_climb 39 = .ok (.istore 4, 2) := by decide +kernel
theorem dX11_climb_41 : decode cX11_climb 41 = .ok (.aload_n 2, 1) := by decide +kernel
theorem dX11_climb_42 : decode cX11_climb 42 = .ok (.iload 4, 2) := by decide +kernel
theorem dX11_climb_44 : decode cX11_climb 44 = .ok (.iaload, 1) := by decide +kernel
theorem dX11_climb_45 : decode cX11_climb 45 = .ok (.ifCond .ge 6, 3) := by decide +kernel
theorem dX11_climb_48 : decode cX11_climb 48 = .ok (.goto 35, 3) := by decide +kernel
theorem dX11_climb_51 : decode cX11_climb 51 = .ok (.aload_n 2, 1) := by decide +kernel
theorem dX11_climb_52 : decode cX11_climb 52 = .ok (.aload_n 0, 1) := by decide +kernel
theorem dX11_climb_53 : decode cX11_climb 53 = .ok (.iload 4, 2) := by decide +kernel
theorem dX11_climb_55 : decode cX11_climb 55 = .ok (.invokevirtual 76, 3) := by decide +kernel
theorem dX11_climb_58 : decode cX11_climb 58 = .ok (.aload_n 2, 1) := by decide +kernel
theorem dX11_climb_59 : decode cX11_climb 59 = .ok (.iload 4, 2) := by decide +kernel
theorem dX11_climb_61 : decode cX11_climb 61 = .ok (.iaload, 1) := by decide +kernel
theorem dX11_climb_62 : decode cX11_climb 62 = .ok (.iconst 1, 1) := by decide +kernel
theorem dX11_climb_63 : decode cX11_climb 63 = .ok (.iadd, 1) := by decide +kernel
theorem dX11_climb_64 : decode cX11_climb 64 = .ok (.invokestatic 399, 3) := by decide +kernel
theorem dX11_climb_67 : decode cX11_climb 67 = .ok (.aload_n 2, 1) := by decide +kernel
theorem dX11_climb_68 : decode cX11_climb 68 = .ok (.aload_n 0, 1) := by decide +kernel
theorem dX11_climb_69 : decode cX11_climb 69 = .ok (.iload 4, 2) := by decide +kernel
theorem dX11_climb_71 : decode cX11_climb 71 = .ok (.invokevirtual 79, 3) := by decide +kernel
theorem dX11_climb_74 : decode cX11_climb 74 = .ok (.aload_n 2, 1) := by decide +kernel
theorem dX11_climb_75 : decode cX11_climb 75 = .ok (.iload 4, 2) := by decide +kernel
theorem dX11_climb_77 : decode cX11_climb 77 = .ok (.iaload, 1) := by decide +kernel
theorem dX11_climb_78 : decode cX11_climb 78 = .ok (.iconst 1, 1) := by decide +kernel
theorem dX11_climb_79 : decode cX11_climb 79 = .ok (.iadd, 1) := by decide +kernel
theorem dX11_climb_80 : decode cX11_climb 80 = .ok (.invokestatic 399, 3) := by decide +kernel
theorem dX11_climb_83 : decode cX11_climb 83 = .ok (.iinc 3 (-1), 3) := by decide +kernel
theorem dX11_climb_86 : decode cX11_climb 86 = .ok (.goto (-57), 3) := by decide +kernel
theorem dX11_climb_89 : decode cX11_climb 89 = .ok (.return_, 1) := by decide +kernel
theorem dX11_closer_0 : decode cX11_closer 0 = .ok (.iload_n 1, 1) := by decide +kernel
theorem dX11_closer_1 : decode cX11_closer 1 = .ok (.ifCond .lt 20, 3) := by decide +kernel
theorem dX11_closer_4 : decode cX11_closer 4 = .ok (.aload_n 0, 1) := by decide +kernel
theorem dX11_closer_5 : decode cX11_closer 5 = .ok (.iload_n 1, 1) := by decide +kernel
theorem dX11_closer_6 : decode cX11_closer 6 = .ok (.iaload, 1) := by decide +kernel
theorem dX11_closer_7 : decode cX11_closer 7 = .ok (.ifCond .lt 10, 3) := by decide +kernel
theorem dX11_closer_10 : decode cX11_closer 10 = .ok (.iload_n 2, 1) := by decide +kernel
theorem dX11_closer_11 : decode cX11_closer 11 = .ok (.aload_n 0, 1) := by decide +kernel
theorem dX11_closer_12 : decode cX11_closer 12 = .ok (.iload_n 1, 1) := by decide +kernel
theorem dX11_closer_13 : decode cX11_closer 13 = .ok (.iaload, 1) := by decide +kernel
theorem dX11_closer_14 : decode cX11_closer 14 = .ok (.if_icmp .ge 7, 3) := by decide +kernel
theorem dX11_closer_17 : decode cX11_closer 17 = .ok (.aload_n 0, 1) := by decide +kernel
theorem dX11_closer_18 : decode cX11_closer 18 = .ok (.iload_n 1, 1) := by decide +kernel
theorem dX11_closer_19 : decode cX11_closer 19 = .ok (.iload_n 2, 1) := by decide +kernel
theorem dX11_closer_20 : decode cX11_closer 20 = .ok (.iastore, 1) := by decide +kernel
theorem dX11_closer_21 : decode cX11_closer 21 = .ok (.return_, 1) := by decide +kernel
theorem dX11_kin_0 : decode cX11_kin 0 = .ok (.aload_n 0, 1) := by decide +kernel
theorem dX11_kin_1 : decode cX11_kin 1 = .ok (.iload_n 1, 1) := by decide +kernel
theorem dX11_kin_2 : decode cX11_kin 2 = .ok (.invokevirtual 123, 3) := by decide +kernel
theorem dX11_kin_5 : decode cX11_kin 5 = .ok (.ifCond .eq 11, 3) := by decide +kernel
theorem dX11_kin_8 : decode cX11_kin 8 = .ok (.aload_n 0, 1) := by decide +kernel
theorem dX11_kin_9 : decode cX11_kin 9 = .ok (.iload_n 2, 1) := by decide +kernel
theorem dX11_kin_10 : decode cX11_kin 10 = .ok (.invokevirtual 123, 3) := by decide +kernel
theorem dX11_kin_13 : decode cX11_kin 13 = .ok (.ifCond .ne 9, 3) := by decide +kernel
theorem dX11_kin_16 : decode cX11_kin 16 = .ok (.aload_n 0, 1) := by decide +kernel
theorem dX11_kin_17 : decode cX11_kin 17 = .ok (.iconst 1, 1) := by decide +kernel
theorem dX11_kin_18 : decode cX11_kin 18 = .ok (.invokevirtual 371, 3) := by decide +kernel
theorem dX11_kin_21 : decode cX11_kin 21 = .ok (.ireturn, 1) := by decide +kernel
theorem dX11_kin_22 : decode cX11_kin 22 = .ok (.aload_n 0, 1) := by decide +kernel
theorem dX11_kin_23 : decode cX11_kin 23 = .ok (.invokevirtual 179, 3) := by decide +kernel
theorem dX11_kin_26 : decode cX11_kin 26 = .ok (.aload_n 0, 1) := by decide +kernel
theorem dX11_kin_27 : decode cX11_kin 27 = .ok (.iload_n 1, 1) := by decide +kernel
theorem dX11_kin_28 : decode cX11_kin 28 = .ok (.aload_n 0, 1) := by decide +kernel
theorem dX11_kin_29 : decode cX11_kin 29 = .ok (.getfield 365, 3) := by decide +kernel
theorem dX11_kin_32 : decode cX11_kin 32 = .ok (.invokevirtual 403, 3) := by decide +kernel
theorem dX11_kin_35 : decode cX11_kin 35 = .ok (.aload_n 0, 1) := by decide +kernel
theorem dX11_kin_36 : decode cX11_kin 36 = .ok (.iload_n 2, 1) := by decide +kernel
theorem dX11_kin_37 : decode cX11_kin 37 = .ok (.aload_n 0, 1) := by decide +kernel
theorem dX11_kin_38 : decode cX11_kin 38 = .ok (.getfield 368, 3) := by decide +kernel
theorem dX11_kin_41 : decode cX11_kin 41 = .ok (.invokevirtual 403, 3) := by decide +kernel
theorem dX11_kin_44 : decode cX11_kin 44 = .ok (.iconst (-1), 1) := by decide +kernel
theorem dX11_kin_45 : decode cX11_kin 45 = .ok (.istore_n 3, 1) := by decide +kernel
theorem dX11_kin_46 : decode cX11_kin 46 = .ok (.iconst 0, 1) := by decide +kernel
theorem dX11_kin_47 : decode cX11_kin 47 = .ok (.istore 4, 2) := by decide +kernel
theorem dX11_kin_49 : decode cX11_kin 49 = .ok (.iload 4, 2) := by decide +kernel
theorem dX11_kin_51 : decode cX11_kin 51 = .ok (.bipush 64, 2) := by decide +kernel
theorem dX11_kin_53 : decode cX11_kin 53 = .ok (.if_icmp .ge 68, 3) := by decide +kernel
theorem dX11_kin_56 : decode cX11_kin 56 = .ok (.aload_n 0, 1) := by decide +kernel
theorem dX11_kin_57 : decode cX11_kin 57 = .ok (.getfield 365, 3) := by decide +kernel
theorem dX11_kin_60 : decode cX11_kin 60 = .ok (.iload 4, 2) := by decide +kernel
theorem dX11_kin_62 : decode cX11_kin 62 = .ok (.iaload, 1) := by decide +kernel
theorem dX11_kin_63 : decode cX11_kin 63 = .ok (.ifCond .lt 52, 3) := by decide +kernel
theorem dX11_kin_66 : decode cX11_kin 66 = .ok (.aload_n 0, 1) := by decide +kernel
theorem dX11_kin_67 : decode cX11_kin 67 = .ok (.getfield 368, 3) := by decide +kernel
theorem dX11_kin_70 : decode cX11_kin 70 = .ok (.iload 4, 2) := by decide +kernel
theorem dX11_kin_72 : decode cX11_kin 72 = .ok (.iaload, 1) := by decide +kernel
theorem dX11_kin_73 : decode cX11_kin 73 = .ok (.ifCond .lt 42, 3) := by decide +kernel
theorem dX11_kin_76 : decode cX11_kin 76 = .ok (.iload_n 3, 1) := by decide +kernel
theorem dX11_kin_77 : decode cX11_kin 77 = .ok (.ifCond .lt 22, 3) := by decide +kernel
theorem dX11_kin_80 : decode cX11_kin 80 = .ok (.aload_n 0, 1) := by decide +kernel
theorem dX11_kin_81 : decode cX11_kin 81 = .ok (.getfield 365, 3) := by decide +kernel
theorem dX11_kin_84 : decode cX11_kin 84 = .ok (.iload 4, 2) := by decide +kernel
theorem dX11_kin_86 : decode cX11_kin 86 = .ok (.iaload, 1) := by decide +kernel
theorem dX11_kin_87 : decode cX11_kin 87 = .ok (.aload_n 0, 1) := by decide +kernel
theorem dX11_kin_88 : decode cX11_kin 88 = .ok (.getfield 368, 3) := by decide +kernel
theorem dX11_kin_91 : decode cX11_kin 91 = .ok (.iload 4, 2) := by decide +kernel
theorem dX11_kin_93 : decode cX11_kin 93 = .ok (.iaload, 1) := by decide +kernel
theorem dX11_kin_94 : decode cX11_kin 94 = .ok (.iadd, 1) := by decide +kernel
theorem dX11_kin_95 : decode cX11_kin 95 = .ok (.iload_n 3, 1) := by decide +kernel
theorem dX11_kin_96 : decode cX11_kin 96 = .ok (.if_icmp .ge 19, 3) := by decide +kernel
theorem dX11_kin_99 : decode cX11_kin 99 = .ok (.aload_n 0, 1) := by decide +kernel
theorem dX11_kin_100 : decode cX11_kin 100 = .ok (.getfield 365, 3) := by decide +kernel
theorem dX11_kin_103 : decode cX11_kin 103 = .ok (.iload 4, 2) := by decide +kernel
theorem dX11_kin_105 : decode cX11_kin 105 = .ok (.iaload, 1) := by decide +kernel
theorem dX11_kin_106 : decode cX11_kin 106 = .ok (.aload_n 0, 1) := by decide +kernel
theorem dX11_kin_107 : decode cX11_kin 107 = .ok (.getfield 368, 3) := by decide +kernel
theorem dX11_kin_110 : decode cX11_kin 110 = .ok (.iload 4, 2) := by decide +kernel
theorem dX11_kin_112 : decode cX11_kin 112 = .ok (.iaload, 1) := by decide +kernel
theorem dX11_kin_113 : decode cX11_kin 113 = .ok (.iadd, 1) := by decide +kernel
theorem dX11_kin_114 : decode cX11_kin 114 = .ok (.istore_n 3, 1) := by decide +kernel
theorem dX11_kin_115 : decode cX11_kin 115 = .ok (.iinc 4 1, 3) := by decide +kernel
theorem dX11_kin_118 : decode cX11_kin 118 = .ok (.goto (-69), 3) := by decide +kernel
theorem dX11_kin_121 : decode cX11_kin 121 = .ok (.aload_n 0, 1) := by decide +kernel
theorem dX11_kin_122 : decode cX11_kin 122 = .ok (.iload_n 3, 1) := by decide +kernel
theorem dX11_kin_123 : decode cX11_kin 123 = .ok (.invokevirtual 374, 3) := by decide +kernel
theorem dX11_kin_126 : decode cX11_kin 126 = .ok (.ireturn, 1) := by decide +kernel
theorem dX11_titleWhy_0 : decode cX11_titleWhy 0 = .ok (.aload_n 0, 1) := by decide +kernel
theorem dX11_titleWhy_1 : decode cX11_titleWhy 1 = .ok (.iload_n 1, 1) := by decide +kernel
theorem dX11_titleWhy_2 : decode cX11_titleWhy 2 = .ok (.invokevirtual 354, 3) := by decide +kernel
theorem dX11_titleWhy_5 : decode cX11_titleWhy 5 = .ok (.ifCond .ne 7, 3) := by decide +kernel
theorem dX11_titleWhy_8 : decode cX11_titleWhy 8 = .ok (.iconst 1, 1) := by decide +kernel
theorem dX11_titleWhy_9 : decode cX11_titleWhy 9 = .ok (.goto 18, 3) := by decide +kernel
theorem dX11_titleWhy_12 : decode cX11_titleWhy 12 = .ok (.iload_n 2, 1) := by decide +kernel
theorem dX11_titleWhy_13 : decode cX11_titleWhy 13 = .ok (.iconst 0, 1) := by decide +kernel
theorem dX11_titleWhy_14 : decode cX11_titleWhy 14 = .ok (.ldc 59, 2) := by decide +kernel
theorem dX11_titleWhy_16 : decode cX11_titleWhy 16 = .ok (.invokestatic 10, 3) := by decide +kernel
theorem dX11_titleWhy_19 : decode cX11_titleWhy 19 = .ok (.ifCond .eq 7, 3) := by decide +kernel
theorem dX11_titleWhy_22 : decode cX11_titleWhy 22 = .ok (.iconst 0, 1) := by decide +kernel
theorem dX11_titleWhy_23 : decode cX11_titleWhy 23 = .ok (.goto 4, 3) := by decide +kernel
theorem dX11_titleWhy_26 : decode cX11_titleWhy 26 = .ok (.iconst 3, 1) := by decide +kernel
theorem dX11_titleWhy_27 : decode cX11_titleWhy 27 = .ok (.ireturn, 1) := by decide +kernel
theorem dX11_holder_0 : decode cX11_holder 0 = .ok (.aload_n 0, 1) := by decide +kernel
theorem dX11_holder_1 : decode cX11_holder 1 = .ok (.iload_n 1, 1) := by decide +kernel
theorem dX11_holder_2 : decode cX11_holder 2 = .ok (.iload_n 2, 1) := by decide +kernel
theorem dX11_holder_3 : decode cX11_holder 3 = .ok (.invokevirtual 407, 3) := by decide +kernel
theorem dX11_holder_6 : decode cX11_holder 6 = .ok (.istore_n 3, 1) := by decide +kernel
theorem dX11_holder_7 : decode cX11_holder 7 = .ok (.iload_n 3, 1) := by decide +kernel
theorem dX11_holder_8 : decode cX11_holder 8 = .ok (.ifCond .le 11, 3) := by decide +kernel
theorem dX11_holder_11 : decode cX11_holder 11 = .ok (.aload_n 0, 1) := by decide +kernel
theorem dX11_holder_12 : decode cX11_holder 12 = .ok (.iload_n 3, 1) := by decide +kernel
theorem dX11_holder_13 : decode cX11_holder 13 = .ok (.invokevirtual 371, 3) := by decide +kernel
theorem dX11_holder_16 : decode cX11_holder 16 = .ok (.goto 13, 3) := by decide +kernel
theorem dX11_holder_19 : decode cX11_holder 19 = .ok (.aload_n 0, 1) := by decide +kernel
theorem dX11_holder_20 : decode cX11_holder 20 = .ok (.aload_n 0, 1) := by decide +kernel
theorem dX11_holder_21 : decode cX11_holder 21 = .ok (.iload_n 1, 1) := by decide +kernel
theorem dX11_holder_22 : decode cX11_holder 22 = .ok (.iload_n 2, 1) := by decide +kernel
theorem dX11_holder_23 : decode cX11_holder 23 = .ok (.invokevirtual 410, 3) := by decide +kernel
theorem dX11_holder_26 : decode cX11_holder 26 = .ok (.invokevirtual 374, 3) := by decide +kernel
theorem dX11_holder_29 : decode cX11_holder 29 = .ok (.ireturn, 1) := by decide +kernel
theorem dX11_since_0 : decode cX11_since 0 = .ok (.aload_n 0, 1) := by decide +kernel
theorem dX11_since_1 : decode cX11_since 1 = .ok (.iload_n 1, 1) := by decide +kernel
theorem dX11_since_2 : decode cX11_since 2 = .ok (.iload_n 2, 1) := by decide +kernel
theorem dX11_since_3 : decode cX11_since 3 = .ok (.invokevirtual 407, 3) := by decide +kernel
theorem dX11_since_6 : decode cX11_since 6 = .ok (.istore_n 3, 1) := by decide +kernel
theorem dX11_since_7 : decode cX11_since 7 = .ok (.iload_n 3, 1) := by decide +kernel
theorem dX11_since_8 : decode cX11_since 8 = .ok (.ifCond .le 9, 3) := by decide +kernel
theorem dX11_since_11 : decode cX11_since 11 = .ok (.aload_n 0, 1) := by decide +kernel
theorem dX11_since_12 : decode cX11_since 12 = .ok (.iload_n 3, 1) := by decide +kernel
theorem dX11_since_13 : decode cX11_since 13 = .ok (.invokevirtual 371, 3) := by decide +kernel
theorem dX11_since_16 : decode cX11_since 16 = .ok (.ireturn, 1) := by decide +kernel
theorem dX11_since_17 : decode cX11_since 17 = .ok (.aload_n 0, 1) := by decide +kernel
theorem dX11_since_18 : decode cX11_since 18 = .ok (.iload_n 1, 1) := by decide +kernel
theorem dX11_since_19 : decode cX11_since 19 = .ok (.iload_n 2, 1) := by decide +kernel
theorem dX11_since_20 : decode cX11_since 20 = .ok (.invokevirtual 262, 3) := by decide +kernel
theorem dX11_since_23 : decode cX11_since 23 = .ok (.istore 4, 2) := by decide +kernel
theorem dX11_since_25 : decode cX11_since 25 = .ok (.aload_n 0, 1) := by decide +kernel
theorem dX11_since_26 : decode cX11_since 26 = .ok (.iload 4, 2) := by decide +kernel
theorem dX11_since_28 : decode cX11_since 28 = .ok (.ifCond .ge 7, 3) := by decide +kernel
theorem dX11_since_31 : decode cX11_since 31 = .ok (.iconst (-1), 1) := by decide +kernel
theorem dX11_since_32 : decode cX11_since 32 = .ok (.goto 10, 3) := by decide +kernel
theorem dX11_since_35 : decode cX11_since 35 = .ok (.aload_n 0, 1) := by decide +kernel
theorem dX11_since_36 : decode cX11_since 36 = .ok (.getfield 232, 3) := by decide +kernel
theorem dX11_since_39 : decode cX11_since 39 = .ok (.iload 4, 2) := by decide +kernel
theorem dX11_since_41 : decode cX11_since 41 = .ok (.iaload, 1) := by decide +kernel
theorem dX11_since_42 : decode cX11_since 42 = .ok (.invokevirtual 374, 3) := by decide +kernel
theorem dX11_since_45 : decode cX11_since 45 = .ok (.ireturn, 1) := by decide +kernel
theorem dX11_line_0 : decode cX11_line 0 = .ok (.aload_n 0, 1) := by decide +kernel
theorem dX11_line_1 : decode cX11_line 1 = .ok (.iload_n 1, 1) := by decide +kernel
theorem dX11_line_2 : decode cX11_line 2 = .ok (.iload_n 2, 1) := by decide +kernel
theorem dX11_line_3 : decode cX11_line 3 = .ok (.invokevirtual 407, 3) := by decide +kernel
theorem dX11_line_6 : decode cX11_line 6 = .ok (.istore 4, 2) := by decide +kernel
theorem dX11_line_8 : decode cX11_line 8 = .ok (.iload 4, 2) := by decide +kernel
theorem dX11_line_10 : decode cX11_line 10 = .ok (.ifCond .le 10, 3) := by decide +kernel
theorem dX11_line_13 : decode cX11_line 13 = .ok (.aload_n 0, 1) := by decide +kernel
theorem dX11_line_14 : decode cX11_line 14 = .ok (.iload 4, 2) := by decide +kernel
theorem dX11_line_16 : decode cX11_line 16 = .ok (.invokevirtual 371, 3) := by decide +kernel
theorem dX11_line_19 : decode cX11_line 19 = .ok (.ireturn, 1) := by decide +kernel
theorem dX11_line_20 : decode cX11_line 20 = .ok (.aload_n 0, 1) := by decide +kernel
theorem dX11_line_21 : decode cX11_line 21 = .ok (.iload_n 1, 1) := by decide +kernel
theorem dX11_line_22 : decode cX11_line 22 = .ok (.iload_n 2, 1) := by decide +kernel
theorem dX11_line_23 : decode cX11_line 23 = .ok (.invokevirtual 413, 3) := by decide +kernel
theorem dX11_line_26 : decode cX11_line 26 = .ok (.iload_n 3, 1) := by decide +kernel
theorem dX11_line_27 : decode cX11_line 27 = .ok (.iconst 0, 1) := by decide +kernel
theorem dX11_line_28 : decode cX11_line 28 = .ok (.aload_n 0, 1) := by decide +kernel
theorem dX11_line_29 : decode cX11_line 29 = .ok (.getfield 166, 3) := by decide +kernel
theorem dX11_line_32 : decode cX11_line 32 = .ok (.iconst 1, 1) := by decide +kernel
theorem dX11_line_33 : decode cX11_line 33 = .ok (.isub, 1) := by decide +kernel
theorem dX11_line_34 : decode cX11_line 34 = .ok (.invokestatic 10, 3) := by decide +kernel
theorem dX11_line_37 : decode cX11_line 37 = .ok (.ifCond .eq 16, 3) := by decide +kernel
theorem dX11_line_40 : decode cX11_line 40 = .ok (.aload_n 0, 1) := by decide +kernel
theorem dX11_line_41 : decode cX11_line 41 = .ok (.aload_n 0, 1) := by decide +kernel
theorem dX11_line_42 : decode cX11_line 42 = .ok (.getfield 163, 3) := by decide +kernel
theorem dX11_line_45 : decode cX11_line 45 = .ok (.iload_n 3, 1) := by decide +kernel
theorem dX11_line_46 : decode cX11_line 46 = .ok (.iaload, 1) := by decide +kernel
theorem dX11_line_47 : decode cX11_line 47 = .ok (.invokevirtual 374, 3) := by decide +kernel
theorem dX11_line_50 : decode cX11_line 50 = .ok (.goto 8, 3) := by decide +kernel
theorem dX11_line_53 : decode cX11_line 53 = .ok (.aload_n 0, 1) := by decide +kernel
theorem dX11_line_54 : decode cX11_line 54 = .ok (.iconst 1, 1) := by decide +kernel
theorem dX11_line_55 : decode cX11_line 55 = .ok (.invokevirtual 371, 3) := by decide +kernel
theorem dX11_line_58 : decode cX11_line 58 = .ok (.ireturn, 1) := by decide +kernel
theorem dX11_rank_0 : decode cX11_rank 0 = .ok (.aload_n 0, 1) := by decide +kernel
theorem dX11_rank_1 : decode cX11_rank 1 = .ok (.iload_n 1, 1) := by decide +kernel
theorem dX11_rank_2 : decode cX11_rank 2 = .ok (.invokevirtual 354, 3) := by decide +kernel
theorem dX11_rank_5 : decode cX11_rank 5 = .ok (.ifCond .eq 11, 3) := by decide +kernel
theorem dX11_rank_8 : decode cX11_rank 8 = .ok (.aload_n 0, 1) := by decide +kernel
theorem dX11_rank_9 : decode cX11_rank 9 = .ok (.iload_n 2, 1) := by decide +kernel
theorem dX11_rank_10 : decode cX11_rank 10 = .ok (.invokevirtual 123, 3) := by decide +kernel
theorem dX11_rank_13 : decode cX11_rank 13 = .ok (.ifCond .ne 9, 3) := by decide +kernel
theorem dX11_rank_16 : decode cX11_rank 16 = .ok (.aload_n 0, 1) := by decide +kernel
theorem dX11_rank_17 : decode cX11_rank 17 = .ok (.iconst 1, 1) := by decide +kernel
theorem dX11_rank_18 : decode cX11_rank 18 = .ok (.invokevirtual 371, 3) := by decide +kernel
theorem dX11_rank_21 : decode cX11_rank 21 = .ok (.ireturn, 1) := by decide +kernel
theorem dX11_rank_22 : decode cX11_rank 22 = .ok (.iload_n 3, 1) := by decide +kernel
theorem dX11_rank_23 : decode cX11_rank 23 = .ok (.iconst 0, 1) := by decide +kernel
theorem dX11_rank_24 : decode cX11_rank 24 = .ok (.ldc 59, 2) := by decide +kernel
theorem dX11_rank_26 : decode cX11_rank 26 = .ok (.invokestatic 10, 3) := by decide +kernel
theorem dX11_rank_29 : decode cX11_rank 29 = .ok (.ifCond .ne 9, 3) := by decide +kernel
theorem dX11_rank_32 : decode cX11_rank 32 = .ok (.aload_n 0, 1) := by decide +kernel
theorem dX11_rank_33 : decode cX11_rank 33 = .ok (.iconst 3, 1) := by decide +kernel
theorem dX11_rank_34 : decode cX11_rank 34 = .ok (.invokevirtual 371, 3) := by decide +kernel
theorem dX11_rank_37 : decode cX11_rank 37 = .ok (.ireturn, 1) := by decide +kernel
theorem dX11_rank_38 : decode cX11_rank 38 = .ok (.aload_n 0, 1) := by decide +kernel
theorem dX11_rank_39 : decode cX11_rank 39 = .ok (.iload_n 1, 1) := by decide +kernel
theorem dX11_rank_40 : decode cX11_rank 40 = .ok (.iload_n 3, 1) := by decide +kernel
theorem dX11_rank_41 : decode cX11_rank 41 = .ok (.invokevirtual 413, 3) := by decide +kernel
theorem dX11_rank_44 : decode cX11_rank 44 = .ok (.aload_n 0, 1) := by decide +kernel
theorem dX11_rank_45 : decode cX11_rank 45 = .ok (.aload_n 0, 1) := by decide +kernel
theorem dX11_rank_46 : decode cX11_rank 46 = .ok (.iload_n 2, 1) := by decide +kernel
theorem dX11_rank_47 : decode cX11_rank 47 = .ok (.invokevirtual 214, 3) := by decide +kernel
theorem dX11_rank_50 : decode cX11_rank 50 = .ok (.invokevirtual 374, 3) := by decide +kernel
theorem dX11_rank_53 : decode cX11_rank 53 = .ok (.ireturn, 1) := by decide +kernel
theorem dX11_coheir_0 : decode cX11_coheir 0 = .ok (.aload_n 0, 1) := by decide +kernel
theorem dX11_coheir_1 : decode cX11_coheir 1 = .ok (.iload_n 1, 1) := by decide +kernel
theorem dX11_coheir_2 : decode cX11_coheir 2 = .ok (.iload_n 2, 1) := by decide +kernel
theorem dX11_coheir_3 : decode cX11_coheir 3 = .ok (.invokevirtual 407, 3) := by decide +kernel
theorem dX11_coheir_6 : decode cX11_coheir 6 = .ok (.istore 4, 2) := by decide +kernel
theorem dX11_coheir_8 : decode cX11_coheir 8 = .ok (.iload 4, 2) := by decide +kernel
theorem dX11_coheir_10 : decode cX11_coheir 10 = .ok (.ifCond .le 10, 3) := by decide +kernel
theorem dX11_coheir_13 : decode cX11_coheir 13 = .ok (.aload_n 0, 1) := by decide +kernel
theorem dX11_coheir_14 : decode cX11_coheir 14 = .ok (.iload 4, 2) := by decide +kernel
theorem dX11_coheir_16 : decode cX11_coheir 16 = .ok (.invokevirtual 371, 3) := by decide +kernel
theorem dX11_coheir_19 : decode cX11_coheir 19 = .ok (.ireturn, 1) := by decide +kernel
theorem dX11_coheir_20 : decode cX11_coheir 20 = .ok (.aload_n 0, 1) := by decide +kernel
theorem dX11_coheir_21 : decode cX11_coheir 21 = .ok (.iload_n 1, 1) := by decide +kernel
theorem dX11_coheir_22 : decode cX11_coheir 22 = .ok (.iload_n 2, 1) := by decide +kernel
theorem dX11_coheir_23 : decode cX11_coheir 23 = .ok (.invokevirtual 262, 3) := by decide +kernel
theorem dX11_coheir_26 : decode cX11_coheir 26 = .ok (.istore 5, 2) := by decide +kernel
theorem dX11_coheir_28 : decode cX11_coheir 28 = .ok (.iload 5, 2) := by decide +kernel
theorem dX11_coheir_30 : decode cX11_coheir 30 = .ok (.ifCond .lt 15, 3) := by decide +kernel
theorem dX11_coheir_33 : decode cX11_coheir 33 = .ok (.aload_n 0, 1) := by decide +kernel
theorem dX11_coheir_34 : decode cX11_coheir 34 = .ok (.getfield 226, 3) := by decide +kernel
theorem dX11_coheir_37 : decode cX11_coheir 37 = .ok (.iload 5, 2) := by decide +kernel
theorem dX11_coheir_39 : decode cX11_coheir 39 = .ok (.iaload, 1) := by decide +kernel
theorem dX11_coheir_40 : decode cX11_coheir 40 = .ok (.bipush (-2), 2) := by decide +kernel
theorem dX11_coheir_42 : decode cX11_coheir 42 = .ok (.if_icmp .eq 9, 3) := by decide +kernel
theorem dX11_coheir_45 : decode cX11_coheir 45 = .ok (.aload_n 0, 1) := by decide +kernel
theorem dX11_coheir_46 : decode cX11_coheir 46 = .ok (.iconst 1, 1) := by decide +kernel
theorem dX11_coheir_47 : decode cX11_coheir 47 = .ok (.invokevirtual 371, 3) := by decide +kernel
theorem dX11_coheir_50 : decode cX11_coheir 50 = .ok (.ireturn, 1) := by decide +kernel
theorem dX11_coheir_51 : decode cX11_coheir 51 = .ok (.aload_n 0, 1) := by decide +kernel
theorem dX11_coheir_52 : decode cX11_coheir 52 = .ok (.aload_n 0, 1) := by decide +kernel
theorem dX11_coheir_53 : decode cX11_coheir 53 = .ok (.getfield 229, 3) := by decide +kernel
theorem dX11_coheir_56 : decode cX11_coheir 56 = .ok (.iload 5, 2) := by decide +kernel
theorem dX11_coheir_58 : decode cX11_coheir 58 = .ok (.iaload, 1) := by decide +kernel
theorem dX11_coheir_59 : decode cX11_coheir 59 = .ok (.putfield 186, 3) := by decide +kernel
theorem dX11_coheir_62 : decode cX11_coheir 62 = .ok (.aload_n 0, 1) := by decide +kernel
theorem dX11_coheir_63 : decode cX11_coheir 63 = .ok (.iload_n 1, 1) := by decide +kernel
theorem dX11_coheir_64 : decode cX11_coheir 64 = .ok (.iload_n 2, 1) := by decide +kernel
theorem dX11_coheir_65 : decode cX11_coheir 65 = .ok (.invokevirtual 248, 3) := by decide +kernel
theorem dX11_coheir_68 : decode cX11_coheir 68 = .ok (.iload_n 3, 1) := by decide +kernel
theorem dX11_coheir_69 : decode cX11_coheir 69 = .ok (.iconst 0, 1) := by decide +kernel
theorem dX11_coheir_70 : decode cX11_coheir 70 = .ok (.aload_n 0, 1) := by decide +kernel
theorem dX11_coheir_71 : decode cX11_coheir 71 = .ok (.getfield 192, 3) := by decide +kernel
theorem dX11_coheir_74 : decode cX11_coheir 74 = .ok (.iconst 1, 1) := by decide +kernel
theorem dX11_coheir_75 : decode cX11_coheir 75 = .ok (.isub, 1) := by decide +kernel
theorem dX11_coheir_76 : decode cX11_coheir 76 = .ok (.invokestatic 10, 3) := by decide +kernel
theorem dX11_coheir_79 : decode cX11_coheir 79 = .ok (.ifCond .eq 16, 3) := by decide +kernel
theorem dX11_coheir_82 : decode cX11_coheir 82 = .ok (.aload_n 0, 1) := by decide +kernel
theorem dX11_coheir_83 : decode cX11_coheir 83 = .ok (.aload_n 0, 1) := by decide +kernel
theorem dX11_coheir_84 : decode cX11_coheir 84 = .ok (.getfield 211, 3) := by decide +kernel
theorem dX11_coheir_87 : decode cX11_coheir 87 = .ok (.iload_n 3, 1) := by decide +kernel
theorem dX11_coheir_88 : decode cX11_coheir 88 = .ok (.iaload, 1) := by decide +kernel
theorem dX11_coheir_89 : decode cX11_coheir 89 = .ok (.invokevirtual 374, 3) := by decide +kernel
theorem dX11_coheir_92 : decode cX11_coheir 92 = .ok (.goto 8, 3) := by decide +kernel
theorem dX11_coheir_95 : decode cX11_coheir 95 = .ok (.aload_n 0, 1) := by decide +kernel
theorem dX11_coheir_96 : decode cX11_coheir 96 = .ok (.iconst 1, 1) := by decide +kernel
theorem dX11_coheir_97 : decode cX11_coheir 97 = .ok (.invokevirtual 371, 3) := by decide +kernel
theorem dX11_coheir_100 : decode cX11_coheir 100 = .ok (.ireturn, 1) := by decide +kernel
theorem dX11_begins_0 : decode cX11_begins 0 = .ok (.iload_n 2, 1) := by decide +kernel
theorem dX11_begins_1 : decode cX11_begins 1 = .ok (.ifCond .eq 32, 3) := by decide +kernel
theorem dX11_begins_4 : decode cX11_begins 4 = .ok (.aload_n 0, 1) := by decide +kernel
theorem dX11_begins_5 : decode cX11_begins 5 = .ok (.getfield 232, 3) := by decide +kernel
theorem dX11_begins_8 : decode cX11_begins 8 = .ok (.sipush 200, 3) := by decide +kernel
theorem dX11_begins_11 : decode cX11_begins 11 = .ok (.iload_n 1, 1) := by decide +kernel
theorem dX11_begins_12 : decode cX11_begins 12 = .ok (.imul, 1) := by decide +kernel
theorem dX11_begins_13 : decode cX11_begins 13 = .ok (.iload_n 2, 1) := by decide +kernel
theorem dX11_begins_14 : decode cX11_begins 14 = .ok (.iadd, 1) := by decide +kernel
theorem dX11_begins_15 : decode cX11_begins 15 = .ok (.iaload, 1) := by decide +kernel
theorem dX11_begins_16 : decode cX11_begins 16 = .ok (.aload_n 0, 1) := by decide +kernel
theorem dX11_begins_17 : decode cX11_begins 17 = .ok (.getfield 232, 3) := by decide +kernel
theorem dX11_begins_20 : decode cX11_begins 20 = .ok (.sipush 200, 3) := by decide +kernel
theorem dX11_begins_23 : decode cX11_begins 23 = .ok (.iload_n 1, 1) := by decide +kernel
theorem dX11_begins_24 : decode cX11_begins 24 = .ok (.imul, 1) := by decide +kernel
theorem dX11_begins_25 : decode cX11_begins 25 = .ok (.iload_n 2, 1) := by decide +kernel
theorem dX11_begins_26 : decode cX11_begins 26 = .ok (.iadd, 1) := by decide +kernel
theorem dX11_begins_27 : decode cX11_begins 27 = .ok (.iconst 1, 1) := by decide +kernel
theorem dX11_begins_28 : decode cX11_begins 28 = .ok (.isub, 1) := by decide +kernel
theorem dX11_begins_29 : decode cX11_begins 29 = .ok (.iaload, 1) := by decide +kernel
theorem dX11_begins_30 : decode cX11_begins 30 = .ok (.if_icmp .eq 7, 3) := by decide +kernel
theorem dX11_begins_33 : decode cX11_begins 33 = .ok (.iconst 1, 1) := by decide +kernel
theorem dX11_begins_34 : decode cX11_begins 34 = .ok (.goto 4, 3) := by decide +kernel
theorem dX11_begins_37 : decode cX11_begins 37 = .ok (.iconst 0, 1) := by decide +kernel
theorem dX11_begins_38 : decode cX11_begins 38 = .ok (.ireturn, 1) := by decide +kernel
theorem dX11_tenures_0 : decode cX11_tenures 0 = .ok (.aload_n 0, 1) := by decide +kernel
theorem dX11_tenures_1 : decode cX11_tenures 1 = .ok (.iload_n 1, 1) := by decide +kernel
theorem dX11_tenures_2 : decode cX11_tenures 2 = .ok (.invokevirtual 354, 3) := by decide +kernel
theorem dX11_tenures_5 : decode cX11_tenures 5 = .ok (.ifCond .ne 9, 3) := by decide +kernel
theorem dX11_tenures_8 : decode cX11_tenures 8 = .ok (.aload_n 0, 1) := by decide +kernel
theorem dX11_tenures_9 : decode cX11_tenures 9 = .ok (.iconst 1, 1) := by decide +kernel
theorem dX11_tenures_10 : decode cX11_tenures 10 = .ok (.invokevirtual 371, 3) := by decide +kernel
theorem dX11_tenures_13 : decode cX11_tenures 13 = .ok (.ireturn, 1) := by decide +kernel
theorem dX11_tenures_14 : decode cX11_tenures 14 = .ok (.aload_n 0, 1) := by decide +kernel
theorem dX11_tenures_15 : decode cX11_tenures 15 = .ok (.iload_n 1, 1) := by decide +kernel
theorem dX11_tenures_16 : decode cX11_tenures 16 = .ok (.invokevirtual 258, 3) := by decide +kernel
theorem dX11_tenures_19 : decode cX11_tenures 19 = .ok (.iconst 0, 1) := by decide +kernel
theorem dX11_tenures_20 : decode cX11_tenures 20 = .ok (.istore_n 2, 1) := by decide +kernel
theorem dX11_tenures_21 : decode cX11_tenures 21 = .ok (.iconst 0, 1) := by decide +kernel
theorem dX11_tenures_22 : decode cX11_tenures 22 = .ok (.istore_n 3, 1) := by decide +kernel
theorem dX11_tenures_23 : decode cX11_tenures 23 = .ok (.iload_n 3, 1) := by decide +kernel
theorem dX11_tenures_24 : decode cX11_tenures 24 = .ok (.aload_n 0, 1) := by decide +kernel
theorem dX11_tenures_25 : decode cX11_tenures 25 = .ok (.getfield 238, 3) := by decide +kernel
theorem dX11_tenures_28 : decode cX11_tenures 28 = .ok (.iload_n 1, 1) := by decide +kernel
theorem dX11_tenures_29 : decode cX11_tenures 29 = .ok (.iaload, 1) := by decide +kernel
theorem dX11_tenures_30 : decode cX11_tenures 30 = .ok (.if_icmp .ge 26, 3) := by decide +kernel
theorem dX11_tenures_33 : decode cX11_tenures 33 = .ok (.iload_n 2, 1) := by decide +kernel
theorem dX11_tenures_34 : decode cX11_tenures 34 = .ok (.aload_n 0, 1) := by decide +kernel
theorem dX11_tenures_35 : decode cX11_tenures 35 = .ok (.iload_n 1, 1) := by decide +kernel
theorem dX11_tenures_36 : decode cX11_tenures 36 = .ok (.iload_n 3, 1) := by decide +kernel
theorem dX11_tenures_37 : decode cX11_tenures 37 = .ok (.invokevirtual 416, 3) := by decide +kernel
theorem dX11_tenures_40 : decode cX11_tenures 40 = .ok (.ifCond .eq 7, 3) := by decide +kernel
theorem dX11_tenures_43 : decode cX11_tenures 43 = .ok (.iconst 1, 1) := by decide +kernel
theorem dX11_tenures_44 : decode cX11_tenures 44 = .ok (.goto 4, 3) := by decide +kernel
theorem dX11_tenures_47 : decode cX11_tenures 47 = .ok (.iconst 0, 1) := by decide +kernel
theorem dX11_tenures_48 : decode cX11_tenures 48 = .ok (.iadd, 1) := by decide +kernel
theorem dX11_tenures_49 : decode cX11_tenures 49 = .ok (.istore_n 2, 1) := by decide +kernel
theorem dX11_tenures_50 : decode cX11_tenures 50 = .ok (.iinc 3 1, 3) := by decide +kernel
theorem dX11_tenures_53 : decode cX11_tenures 53 = .ok (.goto (-30), 3) := by decide +kernel
theorem dX11_tenures_56 : decode cX11_tenures 56 = .ok (.aload_n 0, 1) := by decide +kernel
theorem dX11_tenures_57 : decode cX11_tenures 57 = .ok (.iload_n 2, 1) := by decide +kernel
theorem dX11_tenures_58 : decode cX11_tenures 58 = .ok (.invokevirtual 374, 3) := by decide +kernel
theorem dX11_tenures_61 : decode cX11_tenures 61 = .ok (.ireturn, 1) := by decide +kernel
theorem dX11_tenure_0 : decode cX11_tenure 0 = .ok (.aload_n 0, 1) := by decide +kernel
theorem dX11_tenure_1 : decode cX11_tenure 1 = .ok (.iload_n 1, 1) := by decide +kernel
theorem dX11_tenure_2 : decode cX11_tenure 2 = .ok (.invokevirtual 354, 3) := by decide +kernel
theorem dX11_tenure_5 : decode cX11_tenure 5 = .ok (.ifCond .ne 9, 3) := by decide +kernel
theorem dX11_tenure_8 : decode cX11_tenure 8 = .ok (.aload_n 0, 1) := by decide +kernel
theorem dX11_tenure_9 : decode cX11_tenure 9 = .ok (.iconst 1, 1) := by decide +kernel
theorem dX11_tenure_10 : decode cX11_tenure 10 = .ok (.invokevirtual 371, 3) := by decide +kernel
theorem dX11_tenure_13 : decode cX11_tenure 13 = .ok (.ireturn, 1) := by decide +kernel
theorem dX11_tenure_14 : decode cX11_tenure 14 = .ok (.aload_n 0, 1) := by decide +kernel
theorem dX11_tenure_15 : decode cX11_tenure 15 = .ok (.iload_n 1, 1) := by decide +kernel
theorem dX11_tenure_16 : decode cX11_tenure 16 = .ok (.invokevirtual 258, 3) := by decide +kernel
theorem dX11_tenure_19 : decode cX11_tenure 19 = .ok (.iconst (-1), 1) := by decide +kernel
theorem dX11_tenure_20 : decode cX11_tenure 20 = .ok (.istore 4, 2) := by decide +kernel
theorem dX11_tenure_22 : decode cX11_tenure 22 = .ok (.iconst (-1), 1) := by decide +kernel
theorem dX11_tenure_23 : decode cX11_tenure 23 = .ok (.istore 5, 2) := by decide +kernel
theorem dX11_tenure_25 : decode cX11_tenure 25 = .ok (.iconst 0, 1) := by decide +kernel
theorem dX11_tenure_26 : decode cX11_tenure 26 = .ok (.istore 6, 2) := by decide +kernel
theorem dX11_tenure_28 : decode cX11_tenure 28 = .ok (.iload 6, 2) := by decide +kernel
theorem dX11_tenure_30 : decode cX11_tenure 30 = .ok (.aload_n 0, 1) := by decide +kernel
theorem dX11_tenure_31 : decode cX11_tenure 31 = .ok (.getfield 238, 3) := by decide +kernel
theorem dX11_tenure_34 : decode cX11_tenure 34 = .ok (.iload_n 1, 1) := by decide +kernel
theorem dX11_tenure_35 : decode cX11_tenure 35 = .ok (.iaload, 1) := by decide +kernel
theorem dX11_tenure_36 : decode cX11_tenure 36 = .ok (.if_icmp .ge 55, 3) := by decide +kernel
theorem dX11_tenure_39 : decode cX11_tenure 39 = .ok (.iload 4, 2) := by decide +kernel
theorem dX11_tenure_41 : decode cX11_tenure 41 = .ok (.aload_n 0, 1) := by decide +kernel
theorem dX11_tenure_42 : decode cX11_tenure 42 = .ok (.iload_n 1, 1) := by decide +kernel
theorem dX11_tenure_43 : decode cX11_tenure 43 = .ok (.iload 6, 2) := by decide +kernel
theorem dX11_tenure_45 : decode cX11_tenure 45 = .ok (.invokevirtual 416, 3) := by decide +kernel
theorem dX11_tenure_48 : decode cX11_tenure 48 = .ok (.ifCond .eq 7, 3) := by decide +kernel
theorem dX11_tenure_51 : decode cX11_tenure 51 = .ok (.iconst 1, 1) := by decide +kernel
theorem dX11_tenure_52 : decode cX11_tenure 52 = .ok (.goto 4, 3) := by decide +kernel
theorem dX11_tenure_55 : decode cX11_tenure 55 = .ok (.iconst 0, 1) := by decide +kernel
theorem dX11_tenure_56 : decode cX11_tenure 56 = .ok (.iadd, 1) := by decide +kernel
theorem dX11_tenure_57 : decode cX11_tenure 57 = .ok (.istore 4, 2) := by decide +kernel
theorem dX11_tenure_59 : decode cX11_tenure 59 = .ok (.iload 4, 2) := by decide +kernel
theorem dX11_tenure_61 : decode cX11_tenure 61 = .ok (.iload_n 2, 1) := by decide +kernel
theorem dX11_tenure_62 : decode cX11_tenure 62 = .ok (.if_icmp .ne 19, 3) := by decide +kernel
theorem dX11_tenure_65 : decode cX11_tenure 65 = .ok (.iload 5, 2) := by decide +kernel
theorem dX11_tenure_67 : decode cX11_tenure 67 = .ok (.ifCond .ge 14, 3) := by decide +kernel
theorem dX11_tenure_70 : decode cX11_tenure 70 = .ok (.sipush 200, 3) := by decide +kernel
theorem dX11_tenure_73 : decode cX11_tenure 73 = .ok (.iload_n 1, 1) := by decide +kernel
theorem dX11_tenure_74 : decode cX11_tenure 74 = .ok (.imul, 1) := by decide +kernel
theorem dX11_tenure_75 : decode cX11_tenure 75 = .ok (.iload 6, 2) := by decide +kernel
theorem dX11_tenure_77 : decode cX11_tenure 77 = .ok (.iadd, 1) := by decide +kernel
theorem dX11_tenure_78 : decode cX11_tenure 78 = .ok (.goto 5, 3) := by decide +kernel
theorem dX11_tenure_81 : decode cX11_tenure 81 = .ok (.iload 5, 2) := by decide +kernel
theorem dX11_tenure_83 : decode cX11_tenure 83 = .ok (.istore 5, 2) := by decide +kernel
theorem dX11_tenure_85 : decode cX11_tenure 85 = .ok (.iinc 6 1, 3) := by decide +kernel
theorem dX11_tenure_88 : decode cX11_tenure 88 = .ok (.goto (-60), 3) := by decide +kernel
theorem dX11_tenure_91 : decode cX11_tenure 91 = .ok (.iload_n 3, 1) := by decide +kernel
theorem dX11_tenure_92 : decode cX11_tenure 92 = .ok (.ifCond .eq 18, 3) := by decide +kernel
theorem dX11_tenure_95 : decode cX11_tenure 95 = .ok (.iload_n 3, 1) := by decide +kernel
theorem dX11_tenure_96 : decode cX11_tenure 96 = .ok (.iconst 1, 1) := by decide +kernel
theorem dX11_tenure_97 : decode cX11_tenure 97 = .ok (.if_icmp .eq 13, 3) := by decide +kernel
theorem dX11_tenure_100 : decode cX11_tenure 100 = .ok (.aload_n 0, 1) := by decide +kernel
theorem dX11_tenure_101 : decode cX11_tenure 101 = .ok (.iload 5, 2) := by decide +kernel
theorem dX11_tenure_103 : decode cX11_tenure 103 = .ok (.invokestatic 419, 3) := by decide +kernel
theorem dX11_tenure_106 : decode cX11_tenure 106 = .ok (.invokevirtual 371, 3) := by decide +kernel
theorem dX11_tenure_109 : decode cX11_tenure 109 = .ok (.ireturn, 1) := by decide +kernel
theorem dX11_tenure_110 : decode cX11_tenure 110 = .ok (.iload 5, 2) := by decide +kernel
theorem dX11_tenure_112 : decode cX11_tenure 112 = .ok (.ifCond .ge 11, 3) := by decide +kernel
theorem dX11_tenure_115 : decode cX11_tenure 115 = .ok (.aload_n 0, 1) := by decide +kernel
theorem dX11_tenure_116 : decode cX11_tenure 116 = .ok (.iconst 1, 1) := by decide +kernel
theorem dX11_tenure_117 : decode cX11_tenure 117 = .ok (.invokevirtual 371, 3) := by decide +kernel
theorem dX11_tenure_120 : decode cX11_tenure 120 = .ok (.goto 28, 3) := by decide +kernel
theorem dX11_tenure_123 : decode cX11_tenure 123 = .ok (.aload_n 0, 1) := by decide +kernel
theorem dX11_tenure_124 : decode cX11_tenure 124 = .ok (.iload_n 3, 1) := by decide +kernel
theorem dX11_tenure_125 : decode cX11_tenure 125 = .ok (.ifCond .ne 13, 3) := by decide +kernel
theorem dX11_tenure_128 : decode cX11_tenure 128 = .ok (.aload_n 0, 1) := by decide +kernel
theorem dX11_tenure_129 : decode cX11_tenure 129 = .ok (.getfield 226, 3) := by decide +kernel
theorem dX11_tenure_132 : decode cX11_tenure 132 = .ok (.iload 5, 2) := by decide +kernel
theorem dX11_tenure_134 : decode cX11_tenure 134 = .ok (.iaload, 1) := by decide +kernel
theorem dX11_tenure_135 : decode cX11_tenure 135 = .ok (.goto 10, 3) := by decide +kernel
theorem dX11_tenure_138 : decode cX11_tenure 138 = .ok (.aload_n 0, 1) := by decide +kernel
theorem dX11_tenure_139 : decode cX11_tenure 139 = .ok (.getfield 232, 3) := by decide +kernel
theorem dX11_tenure_142 : decode cX11_tenure 142 = .ok (.iload 5, 2) := by decide +kernel
theorem dX11_tenure_144 : decode cX11_tenure 144 = .ok (.iaload, 1) := by decide +kernel
theorem dX11_tenure_145 : decode cX11_tenure 145 = .ok (.invokevirtual 374, 3) := by decide +kernel
theorem dX11_tenure_148 : decode cX11_tenure 148 = .ok (.ireturn, 1) := by decide +kernel
theorem dX11_tenureWhy_0 : decode cX11_tenureWhy 0 = .ok (.iload_n 0, 1) := by decide +kernel
theorem dX11_tenureWhy_1 : decode cX11_tenureWhy 1 = .ok (.ifCond .ge 7, 3) := by decide +kernel
theorem dX11_tenureWhy_4 : decode cX11_tenureWhy 4 = .ok (.iconst 1, 1) := by decide +kernel
theorem dX11_tenureWhy_5 : decode cX11_tenureWhy 5 = .ok (.goto 4, 3) := by decide +kernel
theorem dX11_tenureWhy_8 : decode cX11_tenureWhy 8 = .ok (.iconst 3, 1) := by decide +kernel
theorem dX11_tenureWhy_9 : decode cX11_tenureWhy 9 = .ok (.ireturn, 1) := by decide +kernel
theorem dX11_holds_0 : decode cX11_holds 0 = .ok (.aload_n 0, 1) := by decide +kernel
theorem dX11_holds_1 : decode cX11_holds 1 = .ok (.iload_n 1, 1) := by decide +kernel
theorem dX11_holds_2 : decode cX11_holds 2 = .ok (.invokevirtual 123, 3) := by decide +kernel
theorem dX11_holds_5 : decode cX11_holds 5 = .ok (.ifCond .ne 9, 3) := by decide +kernel
theorem dX11_holds_8 : decode cX11_holds 8 = .ok (.aload_n 0, 1) := by decide +kernel
theorem dX11_holds_9 : decode cX11_holds 9 = .ok (.iconst 1, 1) := by decide +kernel
theorem dX11_holds_10 : decode cX11_holds 10 = .ok (.invokevirtual 371, 3) := by decide +kernel
theorem dX11_holds_13 : decode cX11_holds 13 = .ok (.ireturn, 1) := by decide +kernel
theorem dX11_holds_14 : decode cX11_holds 14 = .ok (.iload_n 2, 1) := by decide +kernel
theorem dX11_holds_15 : decode cX11_holds 15 = .ok (.iconst 0, 1) := by decide +kernel
theorem dX11_holds_16 : decode cX11_holds 16 = .ok (.ldc 59, 2) := by decide +kernel
theorem dX11_holds_18 : decode cX11_holds 18 = .ok (.invokestatic 10, 3) := by decide +kernel
theorem dX11_holds_21 : decode cX11_holds 21 = .ok (.ifCond .ne 9, 3) := by decide +kernel
theorem dX11_holds_24 : decode cX11_holds 24 = .ok (.aload_n 0, 1) := by decide +kernel
theorem dX11_holds_25 : decode cX11_holds 25 = .ok (.iconst 3, 1) := by decide +kernel
theorem dX11_holds_26 : decode cX11_holds 26 = .ok (.invokevirtual 371, 3) := by decide +kernel
theorem dX11_holds_29 : decode cX11_holds 29 = .ok (.ireturn, 1) := by decide +kernel
theorem dX11_holds_30 : decode cX11_holds 30 = .ok (.iconst 0, 1) := by decide +kernel
theorem dX11_holds_31 : decode cX11_holds 31 = .ok (.istore 4, 2) := by decide +kernel
theorem dX11_holds_33 : decode cX11_holds 33 = .ok (.iconst 0, 1) := by decide +kernel
theorem dX11_holds_34 : decode cX11_holds 34 = .ok (.istore 5, 2) := by decide +kernel
theorem dX11_holds_36 : decode cX11_holds 36 = .ok (.iload 5, 2) := by decide +kernel
theorem dX11_holds_38 : decode cX11_holds 38 = .ok (.aload_n 0, 1) := by decide +kernel
theorem dX11_holds_39 : decode cX11_holds 39 = .ok (.getfield 22, 3) := by decide +kernel
theorem dX11_holds_42 : decode cX11_holds 42 = .ok (.if_icmp .ge 48, 3) := by decide +kernel
theorem dX11_holds_45 : decode cX11_holds 45 = .ok (.aload_n 0, 1) := by decide +kernel
theorem dX11_holds_46 : decode cX11_holds 46 = .ok (.iload 5, 2) := by decide +kernel
theorem dX11_holds_48 : decode cX11_holds 48 = .ok (.invokevirtual 354, 3) := by decide +kernel
theorem dX11_holds_51 : decode cX11_holds 51 = .ok (.ifCond .eq 33, 3) := by decide +kernel
theorem dX11_holds_54 : decode cX11_holds 54 = .ok (.aload_n 0, 1) := by decide +kernel
theorem dX11_holds_55 : decode cX11_holds 55 = .ok (.iload 5, 2) := by decide +kernel
theorem dX11_holds_57 : decode cX11_holds 57 = .ok (.iload_n 2, 1) := by decide +kernel
theorem dX11_holds_58 : decode cX11_holds 58 = .ok (.invokevirtual 410, 3) := by decide +kernel
theorem dX11_holds_61 : decode cX11_holds 61 = .ok (.iload_n 1, 1) := by decide +kernel
theorem dX11_holds_62 : decode cX11_holds 62 = .ok (.if_icmp .eq 6, 3) := by decide +kernel
theorem dX11_holds_65 : decode cX11_holds 65 = .ok (.goto 19, 3) := by decide +kernel
theorem dX11_holds_68 : decode cX11_holds 68 = .ok (.iload 4, 2) := by decide +kernel
theorem dX11_holds_70 : decode cX11_holds 70 = .ok (.iload_n 3, 1) := by decide +kernel
theorem dX11_holds_71 : decode cX11_holds 71 = .ok (.if_icmp .ne 10, 3) := by decide +kernel
theorem dX11_holds_74 : decode cX11_holds 74 = .ok (.aload_n 0, 1) := by decide +kernel
theorem dX11_holds_75 : decode cX11_holds 75 = .ok (.iload 5, 2) := by decide +kernel
theorem dX11_holds_77 : decode cX11_holds 77 = .ok (.invokevirtual 374, 3) := by decide +kernel
theorem dX11_holds_80 : decode cX11_holds 80 = .ok (.ireturn, 1) := by decide +kernel
theorem dX11_holds_81 : decode cX11_holds 81 = .ok (.iinc 4 1, 3) := by decide +kernel
theorem dX11_holds_84 : decode cX11_holds 84 = .ok (.iinc 5 1, 3) := by decide +kernel
theorem dX11_holds_87 : decode cX11_holds 87 = .ok (.goto (-51), 3) := by decide +kernel
theorem dX11_holds_90 : decode cX11_holds 90 = .ok (.aload_n 0, 1) := by decide +kernel
theorem dX11_holds_91 : decode cX11_holds 91 = .ok (.iconst 1, 1) := by decide +kernel
theorem dX11_holds_92 : decode cX11_holds 92 = .ok (.invokevirtual 371, 3) := by decide +kernel
theorem dX11_holds_95 : decode cX11_holds 95 = .ok (.ireturn, 1) := by decide +kernel
theorem dX11_status_0 : decode cX11_status 0 = .ok (.aload_n 0, 1) := by decide +kernel
theorem dX11_status_1 : decode cX11_status 1 = .ok (.getfield 1, 3) := by decide +kernel
theorem dX11_status_4 : decode cX11_status 4 = .ok (.ireturn, 1) := by decide +kernel
